section
def f_L1_canEncode (G : gH) (a0 : Int32) : gR :=
  if (nI 255) < a0 then rZ (nI 0) G
  else rZ (nI 1) G
theorem k_L1_canEncode {l : Launch} {D : va_G} {B : Nat} {O : State → Heap → Prop} (hV : zG l D B O) (G : gH) (a0 : Int32) : gMet (zVm l D B O) m_L1_canEncode 2 [.int a0] G (f_L1_canEncode G a0) := by
  have hdd : lSa m_L1_canEncode 0 [(.iload_n 0, 0), (.sipush 255, nI 255)] = true ∧ lIa m_L1_canEncode 4 (.if_icmp .gt 7) 3 = true ∧ lSa m_L1_canEncode 11 [(.iconst 0, nI 0)] = true ∧ lIa m_L1_canEncode 12 (.ireturn) 1 = true ∧ lSa m_L1_canEncode 7 [(.iconst 1, nI 1)] = true ∧ lIa m_L1_canEncode 8 (.goto 4) 3 = true := by decide +kernel
  obtain ⟨dd0, dd1, dd2, dd3, dd4, dd5⟩ := hdd
  refine gMet.of (by decide +kernel) (Nat.le_of_ble_eq_true rfl) [some (.int a0)] (fun ls h => zEn_ok (n := 1) h) ?_
  intro o Gf h
  unfold f_L1_canEncode at h
  refine Y.blk (pc' := 4) (L' := [some (.int a0)]) (st' := [.int (nI 255), .int a0]) (sg := [(.iload_n 0, 0), (.sipush 255, nI 255)]) (lSa_ok dd0) rfl ?_
  refine Y.ic_gt (off := 7) (tgt := 11) (lIa_ok dd1) (by decide) h (fun c1 h => ?_) (fun c1 h => ?_)
  · refine Y.blk (pc' := 12) (L' := [some (.int a0)]) (st' := [.int (nI 0)]) (sg := [(.iconst 0, nI 0)]) (lSa_ok dd2) rfl ?_
    exact Y.zret rfl (lIa_ok dd3) h
  · refine Y.blk (pc' := 8) (L' := [some (.int a0)]) (st' := [.int (nI 1)]) (sg := [(.iconst 1, nI 1)]) (lSa_ok dd4) rfl ?_
    refine Y.goto (off := 4) (tgt := 12) (lIa_ok dd5) (by decide) ?_
    exact Y.zret rfl (lIa_ok dd3) h

def f_AB_append1 (w : Nat → Nat) (G : gH) (a0 : Nat) (a1 : Int32) : gR :=
  gFI G a0 10 3 fun v1 => gOb G a0 10 fun o3 => bV (f_AB_ensureCapacityInternal G a0 (v1 + (nI 1))) fun G5 => gOb G5 a0 10 fun o7 => bI (f_AB_isLatin1 w G5 a0) fun v10 G9 => if v10 = 0 then (gOb G9 a0 10 fun o12 => bI (f_AB_isLatin1 w G9 a0) fun v15 G14 => if v15 = 0 then gFA G14 a0 10 0 fun v16 => gFI G14 a0 10 3 fun v17 => gPut G14 a0 10 3 (.int (v17 + (nI 1))) fun G18 => none
    else none)
  else bI (f_L1_canEncode G9 a1) fun v22 G21 => if v22 = 0 then (gOb G21 a0 10 fun o24 => bI (f_AB_isLatin1 w G21 a0) fun v27 G26 => if v27 = 0 then gFA G26 a0 10 0 fun v28 => gFI G26 a0 10 3 fun v29 => gPut G26 a0 10 3 (.int (v29 + (nI 1))) fun G30 => none
      else none)
    else gFA G21 a0 10 0 fun v32 => gFI G21 a0 10 3 fun v33 => gPut G21 a0 10 3 (.int (v33 + (nI 1))) fun G34 => gSt G34 v32 101 v33 (vp_nar .byte a1.toInt8.toInt32) fun G35 => rA a0 G35
theorem k_AB_append1 {l : Launch} {D : va_G} {B : Nat} {O : State → Heap → Prop} {w : Nat → Nat} (hV : zGw l D B O w) (G : gH) (a0 : Nat) (a1 : Int32) : gMet (zVm l D B O) m_AB_append1 5 [.ref a0, .int a1] G (f_AB_append1 w G a0 a1) := by
  have hdd : lSa m_AB_append1 0 [(.aload_n 0, 0), (.aload_n 0, 0)] = true ∧ lIa m_AB_append1 2 (.getfield 79) 3 = true ∧ lSa m_AB_append1 5 [(.iconst 1, nI 1), (.iadd, 0)] = true ∧ lIa m_AB_append1 7 (.invokevirtual 100) 3 = true ∧ lSa m_AB_append1 10 [(.aload_n 0, 0)] = true ∧ lIa m_AB_append1 11 (.invokevirtual 83) 3 = true ∧ lIa m_AB_append1 14 (.ifCond .eq 31) 3 = true ∧ lSa m_AB_append1 45 [(.aload_n 0, 0)] = true ∧ lIa m_AB_append1 46 (.invokevirtual 83) 3 = true ∧ lIa m_AB_append1 49 (.ifCond .eq 7) 3 = true ∧ lSa m_AB_append1 56 [(.aload_n 0, 0)] = true ∧ lIa m_AB_append1 57 (.getfield 15) 3 = true ∧ lSa m_AB_append1 60 [(.aload_n 0, 0), (.dup, 0)] = true ∧ lIa m_AB_append1 62 (.getfield 79) 3 = true ∧ lSa m_AB_append1 65 [(.dup_x1, 0), (.iconst 1, nI 1), (.iadd, 0)] = true ∧ lIa m_AB_append1 68 (.putfield 79) 3 = true ∧ lSa m_AB_append1 71 [(.iload_n 1, 0)] = true ∧ lSa m_AB_append1 52 [(.aload_n 0, 0)] = true ∧ lSa m_AB_append1 17 [(.iload_n 1, 0)] = true ∧ lIa m_AB_append1 18 (.invokestatic 191) 3 = true ∧ lIa m_AB_append1 21 (.ifCond .eq 24) 3 = true ∧ lSa m_AB_append1 24 [(.aload_n 0, 0)] = true ∧ lIa m_AB_append1 25 (.getfield 15) 3 = true ∧ lSa m_AB_append1 28 [(.aload_n 0, 0), (.dup, 0)] = true ∧ lIa m_AB_append1 30 (.getfield 79) 3 = true ∧ lSa m_AB_append1 33 [(.dup_x1, 0), (.iconst 1, nI 1), (.iadd, 0)] = true ∧ lIa m_AB_append1 36 (.putfield 79) 3 = true ∧ lSa m_AB_append1 39 [(.iload_n 1, 0), (.i2b, 0)] = true ∧ lIa m_AB_append1 41 (.bastore) 1 = true ∧ lIa m_AB_append1 42 (.goto 33) 3 = true ∧ lSa m_AB_append1 75 [(.aload_n 0, 0)] = true ∧ lIa m_AB_append1 76 (.areturn) 1 = true := by decide +kernel
  refine lA8 hdd (fun dd0 dd1 dd2 dd3 dd4 dd5 dd6 dd7 hdd => ?_)
  refine lA8 hdd (fun dd8 dd9 dd10 dd11 dd12 dd13 dd14 dd15 hdd => ?_)
  refine lA8 hdd (fun dd16 dd17 dd18 dd19 dd20 dd21 dd22 dd23 hdd => ?_)
  obtain ⟨dd24, dd25, dd26, dd27, dd28, dd29, dd30, dd31⟩ := hdd
  refine gMet.of (by decide +kernel) (Nat.le_of_ble_eq_true rfl) [some (.ref a0), some (.int a1)] (fun ls h => zEn_ok (n := 2) h) ?_
  intro o Gf h
  unfold f_AB_append1 at h
  refine Y.blk (pc' := 2) (L' := [some (.ref a0), some (.int a1)]) (st' := [.ref a0, .ref a0]) (sg := [(.aload_n 0, 0), (.aload_n 0, 0)]) (lSa_ok dd0) rfl ?_
  refine Y.getI fl_AB_79 (lIa_ok dd1) h (fun v1 h => ?_)
  refine Y.blk (pc' := 7) (L' := [some (.ref a0), some (.int a1)]) (st' := [.int (v1 + (nI 1)), .ref a0]) (sg := [(.iconst 1, nI 1), (.iadd, 0)]) (lSa_ok dd2) rfl ?_
  obtain ⟨_, o3, e2, m4, h⟩ := gOb_inv h
  refine Y.callN (yC.Vi (b := a0) (As := [.int (v1 + (nI 1))]) (st := []) (r := ("java/lang/StringBuilder", T_SB, 4)) hV.1.1 cb_AB_ensureCapacityInternal lk_AB_100 in_AB_ensureCapacityInternal rfl seSB_AB_ensureCapacityInternal (lIa_ok dd3) rfl rfl (Nat.le_of_ble_eq_true rfl) (by decide) e2 m4) (k_AB_ensureCapacityInternal hV.1 G a0 (v1 + (nI 1))) h (fun G5 _ h => ?_)
  refine Y.blk (pc' := 11) (L' := [some (.ref a0), some (.int a1)]) (st' := [.ref a0]) (sg := [(.aload_n 0, 0)]) (lSa_ok dd4) rfl ?_
  obtain ⟨_, o7, e6, m8, h⟩ := gOb_inv h
  refine Y.callI (yC.Vi (b := a0) (As := []) (st := []) (r := ("java/lang/StringBuilder", T_SB, 4)) hV.1.1 cb_AB_isLatin1 lk_AB_83 in_AB_isLatin1 rfl seSB_AB_isLatin1 (lIa_ok dd5) rfl rfl (Nat.le_of_ble_eq_true rfl) (by decide) e6 m8) (k_AB_isLatin1 hV G5 a0) h (fun v10 G9 _ h => ?_)
  refine Y.if_eq (off := 31) (tgt := 45) (lIa_ok dd6) (by decide) h (fun c37 h => ?_) (fun c37 h => ?_)
  · refine Y.blk (pc' := 46) (L' := [some (.ref a0), some (.int a1)]) (st' := [.ref a0]) (sg := [(.aload_n 0, 0)]) (lSa_ok dd7) rfl ?_
    obtain ⟨_, o12, e11, m13, h⟩ := gOb_inv h
    refine Y.callI (yC.Vi (b := a0) (As := []) (st := []) (r := ("java/lang/StringBuilder", T_SB, 4)) hV.1.1 cb_AB_isLatin1 lk_AB_83 in_AB_isLatin1 rfl seSB_AB_isLatin1 (lIa_ok dd8) rfl rfl (Nat.le_of_ble_eq_true rfl) (by decide) e11 m13) (k_AB_isLatin1 hV G9 a0) h (fun v15 G14 _ h => ?_)
    refine Y.if_eq (off := 7) (tgt := 56) (lIa_ok dd9) (by decide) h (fun c19 h => ?_) (fun c19 h => ?_)
    · refine Y.blk (pc' := 57) (L' := [some (.ref a0), some (.int a1)]) (st' := [.ref a0]) (sg := [(.aload_n 0, 0)]) (lSa_ok dd10) rfl ?_
      refine Y.getA fl_AB_15 (lIa_ok dd11) h (fun v16 h => ?_)
      refine Y.blk (pc' := 62) (L' := [some (.ref a0), some (.int a1)]) (st' := [.ref a0, .ref a0, .ref v16]) (sg := [(.aload_n 0, 0), (.dup, 0)]) (lSa_ok dd12) rfl ?_
      refine Y.getI fl_AB_79 (lIa_ok dd13) h (fun v17 h => ?_)
      refine Y.blk (pc' := 68) (L' := [some (.ref a0), some (.int a1)]) (st' := [.int (v17 + (nI 1)), .ref a0, .int v17, .ref v16]) (sg := [(.dup_x1, 0), (.iconst 1, nI 1), (.iadd, 0)]) (lSa_ok dd14) rfl ?_
      refine Y.putf fl_AB_79 (by decide) rfl rfl (lIa_ok dd15) h (fun G18 _ _ h => ?_)
      refine Y.blk (pc' := 72) (L' := [some (.ref a0), some (.int a1)]) (st' := [.int a1, .int v17, .ref v16]) (sg := [(.iload_n 1, 0)]) (lSa_ok dd16) rfl ?_
      cases h
    · refine Y.blk (pc' := 53) (L' := [some (.ref a0), some (.int a1)]) (st' := [.ref a0]) (sg := [(.aload_n 0, 0)]) (lSa_ok dd17) rfl ?_
      cases h
  · refine Y.blk (pc' := 18) (L' := [some (.ref a0), some (.int a1)]) (st' := [.int a1]) (sg := [(.iload_n 1, 0)]) (lSa_ok dd18) rfl ?_
    refine Y.callI (yC.S (As := [.int a1]) (st := []) hV.1.1 cb_L1_canEncode lk_AB_191 st_L1_canEncode (lIa_ok dd19) rfl rfl (Nat.le_of_ble_eq_true rfl) (by decide)) (k_L1_canEncode hV.1 G9 a1) h (fun v22 G21 _ h => ?_)
    refine Y.if_eq (off := 24) (tgt := 45) (lIa_ok dd20) (by decide) h (fun c36 h => ?_) (fun c36 h => ?_)
    · refine Y.blk (pc' := 46) (L' := [some (.ref a0), some (.int a1)]) (st' := [.ref a0]) (sg := [(.aload_n 0, 0)]) (lSa_ok dd7) rfl ?_
      obtain ⟨_, o24, e23, m25, h⟩ := gOb_inv h
      refine Y.callI (yC.Vi (b := a0) (As := []) (st := []) (r := ("java/lang/StringBuilder", T_SB, 4)) hV.1.1 cb_AB_isLatin1 lk_AB_83 in_AB_isLatin1 rfl seSB_AB_isLatin1 (lIa_ok dd8) rfl rfl (Nat.le_of_ble_eq_true rfl) (by decide) e23 m25) (k_AB_isLatin1 hV G21 a0) h (fun v27 G26 _ h => ?_)
      refine Y.if_eq (off := 7) (tgt := 56) (lIa_ok dd9) (by decide) h (fun c31 h => ?_) (fun c31 h => ?_)
      · refine Y.blk (pc' := 57) (L' := [some (.ref a0), some (.int a1)]) (st' := [.ref a0]) (sg := [(.aload_n 0, 0)]) (lSa_ok dd10) rfl ?_
        refine Y.getA fl_AB_15 (lIa_ok dd11) h (fun v28 h => ?_)
        refine Y.blk (pc' := 62) (L' := [some (.ref a0), some (.int a1)]) (st' := [.ref a0, .ref a0, .ref v28]) (sg := [(.aload_n 0, 0), (.dup, 0)]) (lSa_ok dd12) rfl ?_
        refine Y.getI fl_AB_79 (lIa_ok dd13) h (fun v29 h => ?_)
        refine Y.blk (pc' := 68) (L' := [some (.ref a0), some (.int a1)]) (st' := [.int (v29 + (nI 1)), .ref a0, .int v29, .ref v28]) (sg := [(.dup_x1, 0), (.iconst 1, nI 1), (.iadd, 0)]) (lSa_ok dd14) rfl ?_
        refine Y.putf fl_AB_79 (by decide) rfl rfl (lIa_ok dd15) h (fun G30 _ _ h => ?_)
        refine Y.blk (pc' := 72) (L' := [some (.ref a0), some (.int a1)]) (st' := [.int a1, .int v29, .ref v28]) (sg := [(.iload_n 1, 0)]) (lSa_ok dd16) rfl ?_
        cases h
      · refine Y.blk (pc' := 53) (L' := [some (.ref a0), some (.int a1)]) (st' := [.ref a0]) (sg := [(.aload_n 0, 0)]) (lSa_ok dd17) rfl ?_
        cases h
    · refine Y.blk (pc' := 25) (L' := [some (.ref a0), some (.int a1)]) (st' := [.ref a0]) (sg := [(.aload_n 0, 0)]) (lSa_ok dd21) rfl ?_
      refine Y.getA fl_AB_15 (lIa_ok dd22) h (fun v32 h => ?_)
      refine Y.blk (pc' := 30) (L' := [some (.ref a0), some (.int a1)]) (st' := [.ref a0, .ref a0, .ref v32]) (sg := [(.aload_n 0, 0), (.dup, 0)]) (lSa_ok dd23) rfl ?_
      refine Y.getI fl_AB_79 (lIa_ok dd24) h (fun v33 h => ?_)
      refine Y.blk (pc' := 36) (L' := [some (.ref a0), some (.int a1)]) (st' := [.int (v33 + (nI 1)), .ref a0, .int v33, .ref v32]) (sg := [(.dup_x1, 0), (.iconst 1, nI 1), (.iadd, 0)]) (lSa_ok dd25) rfl ?_
      refine Y.putf fl_AB_79 (by decide) rfl rfl (lIa_ok dd26) h (fun G34 _ _ h => ?_)
      refine Y.blk (pc' := 41) (L' := [some (.ref a0), some (.int a1)]) (st' := [.int a1.toInt8.toInt32, .int v33, .ref v32]) (sg := [(.iload_n 1, 0), (.i2b, 0)]) (lSa_ok dd27) rfl ?_
      refine Y.bast (t0 := 1) (lIa_ok dd28) rfl (by decide) h (fun G35 _ _ h => ?_)
      refine Y.goto (off := 33) (tgt := 75) (lIa_ok dd29) (by decide) ?_
      refine Y.blk (pc' := 76) (L' := [some (.ref a0), some (.int a1)]) (st' := [.ref a0]) (sg := [(.aload_n 0, 0)]) (lSa_ok dd30) rfl ?_
      exact Y.aret rfl (by first | exact Or.inl ⟨_, rfl⟩ | exact Or.inr ⟨_, rfl⟩) (lIa_ok dd31) h

def f_SB_append1 (w : Nat → Nat) (G : gH) (a0 : Nat) (a1 : Int32) : gR :=
  gOb G a0 10 fun o2 => bA (f_AB_append1 w G a0 a1) fun v5 G4 => rA a0 G4
theorem k_SB_append1 {l : Launch} {D : va_G} {B : Nat} {O : State → Heap → Prop} {w : Nat → Nat} (hV : zGw l D B O w) (G : gH) (a0 : Nat) (a1 : Int32) : gMet (zVm l D B O) m_SB_append1 6 [.ref a0, .int a1] G (f_SB_append1 w G a0 a1) := by
  have hdd : lSa m_SB_append1 0 [(.aload_n 0, 0), (.iload_n 1, 0)] = true ∧ lIa m_SB_append1 2 (.invokespecial 50) 3 = true ∧ lSa m_SB_append1 5 [(.pop, 0), (.aload_n 0, 0)] = true ∧ lIa m_SB_append1 7 (.areturn) 1 = true := by decide +kernel
  obtain ⟨dd0, dd1, dd2, dd3⟩ := hdd
  refine gMet.of (by decide +kernel) (Nat.le_of_ble_eq_true rfl) [some (.ref a0), some (.int a1)] (fun ls h => zEn_ok (n := 2) h) ?_
  intro o Gf h
  unfold f_SB_append1 at h
  refine Y.blk (pc' := 2) (L' := [some (.ref a0), some (.int a1)]) (st' := [.int a1, .ref a0]) (sg := [(.aload_n 0, 0), (.iload_n 1, 0)]) (lSa_ok dd0) rfl ?_
  obtain ⟨_, o2, e1, m3, h⟩ := gOb_inv h
  refine Y.callA (yC.SU (b := a0) (As := [.int a1]) (st := []) (r := ("java/lang/StringBuilder", T_SB, 4)) hV.1.1 cb_AB_append1 lk_SB_50 sm_AB_append1 su_SB_AB in_AB_append1 (by decide) rfl (lIa_ok dd1) rfl rfl (Nat.le_of_ble_eq_true rfl) (by decide) e1 m3) (k_AB_append1 hV G a0 a1) h (fun v5 G4 _ h => ?_)
  refine Y.blk (pc' := 7) (L' := [some (.ref a0), some (.int a1)]) (st' := [.ref a0]) (sg := [(.pop, 0), (.aload_n 0, 0)]) (lSa_ok dd2) rfl ?_
  exact Y.aret rfl (by first | exact Or.inl ⟨_, rfl⟩ | exact Or.inr ⟨_, rfl⟩) (lIa_ok dd3) h

def f_IN_getChars_L22 (w : Nat → Nat) (K72 : gH → Int32 → Nat → Int32 → Int32 → gR) : Nat → gH → Int32 → Nat → Int32 → Int32 → gR
  | 0, _, _, _, _, _ => none
  | n + 1, G, x0, x2, x5, x6 =>
    if (-100) < x0 then K72 G x0 x2 x5 x6
    else gDiv x0 (nI 100) fun v1 => gLd G (w 1) 101 ((v1 * (nI 100)) - x0) fun v2 => gSt G x2 101 (x5 + (-1)) (vp_nar .byte v2) fun G3 => gLd G3 (w 2) 101 ((v1 * (nI 100)) - x0) fun v4 => gSt G3 x2 101 ((x5 + (-1)) + (-1)) (vp_nar .byte v4) fun G5 => f_IN_getChars_L22 w K72 n G5 v1 x2 ((x5 + (-1)) + (-1)) x6
def f_IN_getChars (w : Nat → Nat) (G : gH) (a0 : Int32) (a1 : Int32) (a2 : Nat) : gR :=
  if 0 ≤ a0 then (if (nI 0) = 0 then (f_IN_getChars_L22 w (fun G11 x7 x8 x9 x10 => gLd G11 (w 1) 101 (-x7) fun v12 => gSt G11 x8 101 (x9 + (-1)) (vp_nar .byte v12) fun G13 => if (-9) ≤ x7 then (if x10 = 0 then rI (x9 + (-1)) G13
          else gSt G13 x8 101 ((x9 + (-1)) + (-1)) (vp_nar .byte (nI 45)) fun G14 => rI ((x9 + (-1)) + (-1)) G14)
        else gLd G13 (w 2) 101 (-x7) fun v16 => gSt G13 x8 101 ((x9 + (-1)) + (-1)) (vp_nar .byte v16) fun G17 => if x10 = 0 then rI ((x9 + (-1)) + (-1)) G17
          else gSt G17 x8 101 (((x9 + (-1)) + (-1)) + (-1)) (vp_nar .byte (nI 45)) fun G18 => rI (((x9 + (-1)) + (-1)) + (-1)) G18) zFu G (-a0) a2 a1 (nI 0))
    else f_IN_getChars_L22 w (fun G25 x21 x22 x23 x24 => gLd G25 (w 1) 101 (-x21) fun v26 => gSt G25 x22 101 (x23 + (-1)) (vp_nar .byte v26) fun G27 => if (-9) ≤ x21 then (if x24 = 0 then rI (x23 + (-1)) G27
          else gSt G27 x22 101 ((x23 + (-1)) + (-1)) (vp_nar .byte (nI 45)) fun G28 => rI ((x23 + (-1)) + (-1)) G28)
        else gLd G27 (w 2) 101 (-x21) fun v30 => gSt G27 x22 101 ((x23 + (-1)) + (-1)) (vp_nar .byte v30) fun G31 => if x24 = 0 then rI ((x23 + (-1)) + (-1)) G31
          else gSt G31 x22 101 (((x23 + (-1)) + (-1)) + (-1)) (vp_nar .byte (nI 45)) fun G32 => rI (((x23 + (-1)) + (-1)) + (-1)) G32) zFu G a0 a2 a1 (nI 0))
  else if (nI 1) = 0 then (f_IN_getChars_L22 w (fun G40 x36 x37 x38 x39 => gLd G40 (w 1) 101 (-x36) fun v41 => gSt G40 x37 101 (x38 + (-1)) (vp_nar .byte v41) fun G42 => if (-9) ≤ x36 then (if x39 = 0 then rI (x38 + (-1)) G42
          else gSt G42 x37 101 ((x38 + (-1)) + (-1)) (vp_nar .byte (nI 45)) fun G43 => rI ((x38 + (-1)) + (-1)) G43)
        else gLd G42 (w 2) 101 (-x36) fun v45 => gSt G42 x37 101 ((x38 + (-1)) + (-1)) (vp_nar .byte v45) fun G46 => if x39 = 0 then rI ((x38 + (-1)) + (-1)) G46
          else gSt G46 x37 101 (((x38 + (-1)) + (-1)) + (-1)) (vp_nar .byte (nI 45)) fun G47 => rI (((x38 + (-1)) + (-1)) + (-1)) G47) zFu G (-a0) a2 a1 (nI 1))
    else f_IN_getChars_L22 w (fun G54 x50 x51 x52 x53 => gLd G54 (w 1) 101 (-x50) fun v55 => gSt G54 x51 101 (x52 + (-1)) (vp_nar .byte v55) fun G56 => if (-9) ≤ x50 then (if x53 = 0 then rI (x52 + (-1)) G56
          else gSt G56 x51 101 ((x52 + (-1)) + (-1)) (vp_nar .byte (nI 45)) fun G57 => rI ((x52 + (-1)) + (-1)) G57)
        else gLd G56 (w 2) 101 (-x50) fun v59 => gSt G56 x51 101 ((x52 + (-1)) + (-1)) (vp_nar .byte v59) fun G60 => if x53 = 0 then rI ((x52 + (-1)) + (-1)) G60
          else gSt G60 x51 101 (((x52 + (-1)) + (-1)) + (-1)) (vp_nar .byte (nI 45)) fun G61 => rI (((x52 + (-1)) + (-1)) + (-1)) G61) zFu G a0 a2 a1 (nI 1)
theorem k_IN_getChars_L22 {l : Launch} {D : va_G} {B : Nat} {O : State → Heap → Prop} {w : Nat → Nat} (hV : zGw l D B O w) {o : gO} {Gf : gH} (K72 : gH → Int32 → Nat → Int32 → Int32 → gR) (hK72 : ∀ (G : gH) (x0 : Int32) (x2 : Nat) (x5 : Int32) (x6 : Int32), K72 G x0 x2 x5 x6 = some (o, Gf) → Y (zVm l D B O) m_IN_getChars 2 o Gf 72 [some (.int x0), none, some (.ref x2), none, none, some (.int x5), some (.int x6)] [] G) : ∀ (n : Nat) (G : gH) (x0 : Int32) (x2 : Nat) (x5 : Int32) (x6 : Int32), f_IN_getChars_L22 w K72 n G x0 x2 x5 x6 = some (o, Gf) → Y (zVm l D B O) m_IN_getChars 2 o Gf 22 [some (.int x0), none, some (.ref x2), none, none, some (.int x5), some (.int x6)] [] G := by
  have hdd : lSa m_IN_getChars 22 [(.iload_n 0, 0), (.bipush (-100), -100)] = true ∧ lIa m_IN_getChars 25 (.if_icmp .gt 47) 3 = true ∧ lSa m_IN_getChars 28 [(.iload_n 0, 0), (.bipush 100, nI 100)] = true ∧ lIa m_IN_getChars 31 (.idiv) 1 = true ∧ lSa m_IN_getChars 32 [(.istore_n 3, 0), (.iload_n 3, 0), (.bipush 100, nI 100), (.imul, 0), (.iload_n 0, 0), (.isub, 0), (.istore 4, 0), (.iload_n 3, 0), (.istore_n 0, 0), (.aload_n 2, 0), (.iinc 5 (-1), -1), (.iload 5, 0)] = true ∧ lIa m_IN_getChars 49 (.getstatic 83) 3 = true ∧ lSa m_IN_getChars 52 [(.iload 4, 0)] = true ∧ lIa m_IN_getChars 54 (.baload) 1 = true ∧ lIa m_IN_getChars 55 (.bastore) 1 = true ∧ lSa m_IN_getChars 56 [(.aload_n 2, 0), (.iinc 5 (-1), -1), (.iload 5, 0)] = true ∧ lIa m_IN_getChars 62 (.getstatic 87) 3 = true ∧ lSa m_IN_getChars 65 [(.iload 4, 0)] = true ∧ lIa m_IN_getChars 67 (.baload) 1 = true ∧ lIa m_IN_getChars 68 (.bastore) 1 = true ∧ lIa m_IN_getChars 69 (.goto (-47)) 3 = true := by decide +kernel
  refine lA8 hdd (fun dd0 dd1 dd2 dd3 dd4 dd5 dd6 dd7 hdd => ?_)
  obtain ⟨dd8, dd9, dd10, dd11, dd12, dd13, dd14⟩ := hdd
  intro n
  induction n with
  | zero => intro G x0 x2 x5 x6 h; cases h
  | succ n ih =>
    intro G x0 x2 x5 x6 h
    unfold f_IN_getChars_L22 at h
    refine Y.blk (pc' := 25) (L' := [some (.int x0), none, some (.ref x2), none, none, some (.int x5), some (.int x6)]) (st' := [.int (-100), .int x0]) (sg := [(.iload_n 0, 0), (.bipush (-100), -100)]) (lSa_ok dd0) rfl ?_
    refine Y.ic_gt (off := 47) (tgt := 72) (lIa_ok dd1) (by decide) h (fun c6 h => ?_) (fun c6 h => ?_)
    · exact hK72 G x0 x2 x5 x6 h
    · refine Y.blk (pc' := 31) (L' := [some (.int x0), none, some (.ref x2), none, none, some (.int x5), some (.int x6)]) (st' := [.int (nI 100), .int x0]) (sg := [(.iload_n 0, 0), (.bipush 100, nI 100)]) (lSa_ok dd2) rfl ?_
      refine Y.idiv (lIa_ok dd3) h (fun v1 h => ?_)
      refine Y.blk (pc' := 49) (L' := [some (.int v1), none, some (.ref x2), some (.int v1), some (.int ((v1 * (nI 100)) - x0)), some (.int (x5 + (-1))), some (.int x6)]) (st' := [.int (x5 + (-1)), .ref x2]) (sg := [(.istore_n 3, 0), (.iload_n 3, 0), (.bipush 100, nI 100), (.imul, 0), (.iload_n 0, 0), (.isub, 0), (.istore 4, 0), (.iload_n 3, 0), (.istore_n 0, 0), (.aload_n 2, 0), (.iinc 5 (-1), -1), (.iload 5, 0)]) (lSa_ok dd4) rfl ?_
      refine Y.gets (v := .ref (w 1)) (fun U H h => (hV.2 U H h).2.1) sf_IN_83 (lIa_ok dd5) ?_
      refine Y.blk (pc' := 54) (L' := [some (.int v1), none, some (.ref x2), some (.int v1), some (.int ((v1 * (nI 100)) - x0)), some (.int (x5 + (-1))), some (.int x6)]) (st' := [.int ((v1 * (nI 100)) - x0), .ref (w 1), .int (x5 + (-1)), .ref x2]) (sg := [(.iload 4, 0)]) (lSa_ok dd6) rfl ?_
      refine Y.bald (t0 := 1) (lIa_ok dd7) rfl h (fun v2 h => ?_)
      refine Y.bast (t0 := 1) (lIa_ok dd8) rfl (by decide) h (fun G3 _ _ h => ?_)
      refine Y.blk (pc' := 62) (L' := [some (.int v1), none, some (.ref x2), some (.int v1), some (.int ((v1 * (nI 100)) - x0)), some (.int ((x5 + (-1)) + (-1))), some (.int x6)]) (st' := [.int ((x5 + (-1)) + (-1)), .ref x2]) (sg := [(.aload_n 2, 0), (.iinc 5 (-1), -1), (.iload 5, 0)]) (lSa_ok dd9) rfl ?_
      refine Y.gets (v := .ref (w 2)) (fun U H h => (hV.2 U H h).2.2.1) sf_IN_87 (lIa_ok dd10) ?_
      refine Y.blk (pc' := 67) (L' := [some (.int v1), none, some (.ref x2), some (.int v1), some (.int ((v1 * (nI 100)) - x0)), some (.int ((x5 + (-1)) + (-1))), some (.int x6)]) (st' := [.int ((v1 * (nI 100)) - x0), .ref (w 2), .int ((x5 + (-1)) + (-1)), .ref x2]) (sg := [(.iload 4, 0)]) (lSa_ok dd11) rfl ?_
      refine Y.bald (t0 := 1) (lIa_ok dd12) rfl h (fun v4 h => ?_)
      refine Y.bast (t0 := 1) (lIa_ok dd13) rfl (by decide) h (fun G5 _ _ h => ?_)
      refine Y.goto (off := -47) (tgt := 22) (lIa_ok dd14) (by decide) ?_
      refine Y.less (L' := [some (.int v1), none, some (.ref x2), none, none, some (.int ((x5 + (-1)) + (-1))), some (.int x6)]) (zLe_some (zLe_some (zLe_some (zLe_none (zLe_none (zLe_some (zLe_some (zLe_nil)))))))) ?_
      exact ih G5 v1 x2 ((x5 + (-1)) + (-1)) x6 h
theorem k_IN_getChars {l : Launch} {D : va_G} {B : Nat} {O : State → Heap → Prop} {w : Nat → Nat} (hV : zGw l D B O w) (G : gH) (a0 : Int32) (a1 : Int32) (a2 : Nat) : gMet (zVm l D B O) m_IN_getChars 2 [.int a0, .int a1, .ref a2] G (f_IN_getChars w G a0 a1 a2) := by
  have hdd : lSa m_IN_getChars 0 [(.iload_n 1, 0), (.istore 5, 0), (.iload_n 0, 0)] = true ∧ lIa m_IN_getChars 4 (.ifCond .ge 7) 3 = true ∧ lSa m_IN_getChars 11 [(.iconst 0, nI 0), (.istore 6, 0), (.iload 6, 0)] = true ∧ lIa m_IN_getChars 16 (.ifCond .ne 6) 3 = true ∧ lSa m_IN_getChars 19 [(.iload_n 0, 0), (.ineg, 0), (.istore_n 0, 0)] = true ∧ lSa m_IN_getChars 72 [(.aload_n 2, 0), (.iinc 5 (-1), -1), (.iload 5, 0)] = true ∧ lIa m_IN_getChars 78 (.getstatic 83) 3 = true ∧ lSa m_IN_getChars 81 [(.iload_n 0, 0), (.ineg, 0)] = true ∧ lIa m_IN_getChars 83 (.baload) 1 = true ∧ lIa m_IN_getChars 84 (.bastore) 1 = true ∧ lSa m_IN_getChars 85 [(.iload_n 0, 0), (.bipush (-9), -9)] = true ∧ lIa m_IN_getChars 88 (.if_icmp .ge 16) 3 = true ∧ lSa m_IN_getChars 104 [(.iload 6, 0)] = true ∧ lIa m_IN_getChars 106 (.ifCond .eq 12) 3 = true ∧ lSa m_IN_getChars 118 [(.iload 5, 0)] = true ∧ lIa m_IN_getChars 120 (.ireturn) 1 = true ∧ lSa m_IN_getChars 109 [(.aload_n 2, 0), (.iinc 5 (-1), -1), (.iload 5, 0), (.bipush 45, nI 45)] = true ∧ lIa m_IN_getChars 117 (.bastore) 1 = true ∧ lSa m_IN_getChars 91 [(.aload_n 2, 0), (.iinc 5 (-1), -1), (.iload 5, 0)] = true ∧ lIa m_IN_getChars 97 (.getstatic 87) 3 = true ∧ lSa m_IN_getChars 100 [(.iload_n 0, 0), (.ineg, 0)] = true ∧ lIa m_IN_getChars 102 (.baload) 1 = true ∧ lIa m_IN_getChars 103 (.bastore) 1 = true ∧ lSa m_IN_getChars 7 [(.iconst 1, nI 1)] = true ∧ lIa m_IN_getChars 8 (.goto 4) 3 = true ∧ lSa m_IN_getChars 12 [(.istore 6, 0), (.iload 6, 0)] = true := by decide +kernel
  refine lA8 hdd (fun dd0 dd1 dd2 dd3 dd4 dd5 dd6 dd7 hdd => ?_)
  refine lA8 hdd (fun dd8 dd9 dd10 dd11 dd12 dd13 dd14 dd15 hdd => ?_)
  refine lA8 hdd (fun dd16 dd17 dd18 dd19 dd20 dd21 dd22 dd23 hdd => ?_)
  obtain ⟨dd24, dd25⟩ := hdd
  refine gMet.of (by decide +kernel) (Nat.le_of_ble_eq_true rfl) [some (.int a0), some (.int a1), some (.ref a2), none, none, none, none] (fun ls h => zEn_ok (n := 7) h) ?_
  intro o Gf h
  unfold f_IN_getChars at h
  refine Y.blk (pc' := 4) (L' := [some (.int a0), some (.int a1), some (.ref a2), none, none, some (.int a1), none]) (st' := [.int a0]) (sg := [(.iload_n 1, 0), (.istore 5, 0), (.iload_n 0, 0)]) (lSa_ok dd0) rfl ?_
  refine Y.if_ge (off := 7) (tgt := 11) (lIa_ok dd1) (by decide) h (fun c65 h => ?_) (fun c65 h => ?_)
  · refine Y.blk (pc' := 16) (L' := [some (.int a0), some (.int a1), some (.ref a2), none, none, some (.int a1), some (.int (nI 0))]) (st' := [.int (nI 0)]) (sg := [(.iconst 0, nI 0), (.istore 6, 0), (.iload 6, 0)]) (lSa_ok dd2) rfl ?_
    refine Y.if_ne (off := 6) (tgt := 22) (lIa_ok dd3) (by decide) h (fun c35 h => ?_) (fun c35 h => ?_)
    · refine Y.blk (pc' := 22) (L' := [some (.int (-a0)), some (.int a1), some (.ref a2), none, none, some (.int a1), some (.int (nI 0))]) (st' := []) (sg := [(.iload_n 0, 0), (.ineg, 0), (.istore_n 0, 0)]) (lSa_ok dd4) rfl ?_
      refine Y.less (L' := [some (.int (-a0)), none, some (.ref a2), none, none, some (.int a1), some (.int (nI 0))]) (zLe_some (zLe_none (zLe_some (zLe_some (zLe_some (zLe_some (zLe_some (zLe_nil)))))))) ?_
      refine k_IN_getChars_L22 hV _ ?_  zFu G (-a0) a2 a1 (nI 0) h
      · intro G11 x7 x8 x9 x10 h
        refine Y.blk (pc' := 78) (L' := [some (.int x7), none, some (.ref x8), none, none, some (.int (x9 + (-1))), some (.int x10)]) (st' := [.int (x9 + (-1)), .ref x8]) (sg := [(.aload_n 2, 0), (.iinc 5 (-1), -1), (.iload 5, 0)]) (lSa_ok dd5) rfl ?_
        refine Y.gets (v := .ref (w 1)) (fun U H h => (hV.2 U H h).2.1) sf_IN_83 (lIa_ok dd6) ?_
        refine Y.blk (pc' := 83) (L' := [some (.int x7), none, some (.ref x8), none, none, some (.int (x9 + (-1))), some (.int x10)]) (st' := [.int (-x7), .ref (w 1), .int (x9 + (-1)), .ref x8]) (sg := [(.iload_n 0, 0), (.ineg, 0)]) (lSa_ok dd7) rfl ?_
        refine Y.bald (t0 := 1) (lIa_ok dd8) rfl h (fun v12 h => ?_)
        refine Y.bast (t0 := 1) (lIa_ok dd9) rfl (by decide) h (fun G13 _ _ h => ?_)
        refine Y.blk (pc' := 88) (L' := [some (.int x7), none, some (.ref x8), none, none, some (.int (x9 + (-1))), some (.int x10)]) (st' := [.int (-9), .int x7]) (sg := [(.iload_n 0, 0), (.bipush (-9), -9)]) (lSa_ok dd10) rfl ?_
        refine Y.ic_ge (off := 16) (tgt := 104) (lIa_ok dd11) (by decide) h (fun c20 h => ?_) (fun c20 h => ?_)
        · refine Y.blk (pc' := 106) (L' := [some (.int x7), none, some (.ref x8), none, none, some (.int (x9 + (-1))), some (.int x10)]) (st' := [.int x10]) (sg := [(.iload 6, 0)]) (lSa_ok dd12) rfl ?_
          refine Y.if_eq (off := 12) (tgt := 118) (lIa_ok dd13) (by decide) h (fun c15 h => ?_) (fun c15 h => ?_)
          · refine Y.blk (pc' := 120) (L' := [some (.int x7), none, some (.ref x8), none, none, some (.int (x9 + (-1))), some (.int x10)]) (st' := [.int (x9 + (-1))]) (sg := [(.iload 5, 0)]) (lSa_ok dd14) rfl ?_
            exact Y.iret rfl (lIa_ok dd15) h
          · refine Y.blk (pc' := 117) (L' := [some (.int x7), none, some (.ref x8), none, none, some (.int ((x9 + (-1)) + (-1))), some (.int x10)]) (st' := [.int (nI 45), .int ((x9 + (-1)) + (-1)), .ref x8]) (sg := [(.aload_n 2, 0), (.iinc 5 (-1), -1), (.iload 5, 0), (.bipush 45, nI 45)]) (lSa_ok dd16) rfl ?_
            refine Y.bast (t0 := 1) (lIa_ok dd17) rfl (by decide) h (fun G14 _ _ h => ?_)
            refine Y.blk (pc' := 120) (L' := [some (.int x7), none, some (.ref x8), none, none, some (.int ((x9 + (-1)) + (-1))), some (.int x10)]) (st' := [.int ((x9 + (-1)) + (-1))]) (sg := [(.iload 5, 0)]) (lSa_ok dd14) rfl ?_
            exact Y.iret rfl (lIa_ok dd15) h
        · refine Y.blk (pc' := 97) (L' := [some (.int x7), none, some (.ref x8), none, none, some (.int ((x9 + (-1)) + (-1))), some (.int x10)]) (st' := [.int ((x9 + (-1)) + (-1)), .ref x8]) (sg := [(.aload_n 2, 0), (.iinc 5 (-1), -1), (.iload 5, 0)]) (lSa_ok dd18) rfl ?_
          refine Y.gets (v := .ref (w 2)) (fun U H h => (hV.2 U H h).2.2.1) sf_IN_87 (lIa_ok dd19) ?_
          refine Y.blk (pc' := 102) (L' := [some (.int x7), none, some (.ref x8), none, none, some (.int ((x9 + (-1)) + (-1))), some (.int x10)]) (st' := [.int (-x7), .ref (w 2), .int ((x9 + (-1)) + (-1)), .ref x8]) (sg := [(.iload_n 0, 0), (.ineg, 0)]) (lSa_ok dd20) rfl ?_
          refine Y.bald (t0 := 1) (lIa_ok dd21) rfl h (fun v16 h => ?_)
          refine Y.bast (t0 := 1) (lIa_ok dd22) rfl (by decide) h (fun G17 _ _ h => ?_)
          refine Y.blk (pc' := 106) (L' := [some (.int x7), none, some (.ref x8), none, none, some (.int ((x9 + (-1)) + (-1))), some (.int x10)]) (st' := [.int x10]) (sg := [(.iload 6, 0)]) (lSa_ok dd12) rfl ?_
          refine Y.if_eq (off := 12) (tgt := 118) (lIa_ok dd13) (by decide) h (fun c19 h => ?_) (fun c19 h => ?_)
          · refine Y.blk (pc' := 120) (L' := [some (.int x7), none, some (.ref x8), none, none, some (.int ((x9 + (-1)) + (-1))), some (.int x10)]) (st' := [.int ((x9 + (-1)) + (-1))]) (sg := [(.iload 5, 0)]) (lSa_ok dd14) rfl ?_
            exact Y.iret rfl (lIa_ok dd15) h
          · refine Y.blk (pc' := 117) (L' := [some (.int x7), none, some (.ref x8), none, none, some (.int (((x9 + (-1)) + (-1)) + (-1))), some (.int x10)]) (st' := [.int (nI 45), .int (((x9 + (-1)) + (-1)) + (-1)), .ref x8]) (sg := [(.aload_n 2, 0), (.iinc 5 (-1), -1), (.iload 5, 0), (.bipush 45, nI 45)]) (lSa_ok dd16) rfl ?_
            refine Y.bast (t0 := 1) (lIa_ok dd17) rfl (by decide) h (fun G18 _ _ h => ?_)
            refine Y.blk (pc' := 120) (L' := [some (.int x7), none, some (.ref x8), none, none, some (.int (((x9 + (-1)) + (-1)) + (-1))), some (.int x10)]) (st' := [.int (((x9 + (-1)) + (-1)) + (-1))]) (sg := [(.iload 5, 0)]) (lSa_ok dd14) rfl ?_
            exact Y.iret rfl (lIa_ok dd15) h
    · refine Y.less (L' := [some (.int a0), none, some (.ref a2), none, none, some (.int a1), some (.int (nI 0))]) (zLe_some (zLe_none (zLe_some (zLe_some (zLe_some (zLe_some (zLe_some (zLe_nil)))))))) ?_
      refine k_IN_getChars_L22 hV _ ?_  zFu G a0 a2 a1 (nI 0) h
      · intro G25 x21 x22 x23 x24 h
        refine Y.blk (pc' := 78) (L' := [some (.int x21), none, some (.ref x22), none, none, some (.int (x23 + (-1))), some (.int x24)]) (st' := [.int (x23 + (-1)), .ref x22]) (sg := [(.aload_n 2, 0), (.iinc 5 (-1), -1), (.iload 5, 0)]) (lSa_ok dd5) rfl ?_
        refine Y.gets (v := .ref (w 1)) (fun U H h => (hV.2 U H h).2.1) sf_IN_83 (lIa_ok dd6) ?_
        refine Y.blk (pc' := 83) (L' := [some (.int x21), none, some (.ref x22), none, none, some (.int (x23 + (-1))), some (.int x24)]) (st' := [.int (-x21), .ref (w 1), .int (x23 + (-1)), .ref x22]) (sg := [(.iload_n 0, 0), (.ineg, 0)]) (lSa_ok dd7) rfl ?_
        refine Y.bald (t0 := 1) (lIa_ok dd8) rfl h (fun v26 h => ?_)
        refine Y.bast (t0 := 1) (lIa_ok dd9) rfl (by decide) h (fun G27 _ _ h => ?_)
        refine Y.blk (pc' := 88) (L' := [some (.int x21), none, some (.ref x22), none, none, some (.int (x23 + (-1))), some (.int x24)]) (st' := [.int (-9), .int x21]) (sg := [(.iload_n 0, 0), (.bipush (-9), -9)]) (lSa_ok dd10) rfl ?_
        refine Y.ic_ge (off := 16) (tgt := 104) (lIa_ok dd11) (by decide) h (fun c34 h => ?_) (fun c34 h => ?_)
        · refine Y.blk (pc' := 106) (L' := [some (.int x21), none, some (.ref x22), none, none, some (.int (x23 + (-1))), some (.int x24)]) (st' := [.int x24]) (sg := [(.iload 6, 0)]) (lSa_ok dd12) rfl ?_
          refine Y.if_eq (off := 12) (tgt := 118) (lIa_ok dd13) (by decide) h (fun c29 h => ?_) (fun c29 h => ?_)
          · refine Y.blk (pc' := 120) (L' := [some (.int x21), none, some (.ref x22), none, none, some (.int (x23 + (-1))), some (.int x24)]) (st' := [.int (x23 + (-1))]) (sg := [(.iload 5, 0)]) (lSa_ok dd14) rfl ?_
            exact Y.iret rfl (lIa_ok dd15) h
          · refine Y.blk (pc' := 117) (L' := [some (.int x21), none, some (.ref x22), none, none, some (.int ((x23 + (-1)) + (-1))), some (.int x24)]) (st' := [.int (nI 45), .int ((x23 + (-1)) + (-1)), .ref x22]) (sg := [(.aload_n 2, 0), (.iinc 5 (-1), -1), (.iload 5, 0), (.bipush 45, nI 45)]) (lSa_ok dd16) rfl ?_
            refine Y.bast (t0 := 1) (lIa_ok dd17) rfl (by decide) h (fun G28 _ _ h => ?_)
            refine Y.blk (pc' := 120) (L' := [some (.int x21), none, some (.ref x22), none, none, some (.int ((x23 + (-1)) + (-1))), some (.int x24)]) (st' := [.int ((x23 + (-1)) + (-1))]) (sg := [(.iload 5, 0)]) (lSa_ok dd14) rfl ?_
            exact Y.iret rfl (lIa_ok dd15) h
        · refine Y.blk (pc' := 97) (L' := [some (.int x21), none, some (.ref x22), none, none, some (.int ((x23 + (-1)) + (-1))), some (.int x24)]) (st' := [.int ((x23 + (-1)) + (-1)), .ref x22]) (sg := [(.aload_n 2, 0), (.iinc 5 (-1), -1), (.iload 5, 0)]) (lSa_ok dd18) rfl ?_
          refine Y.gets (v := .ref (w 2)) (fun U H h => (hV.2 U H h).2.2.1) sf_IN_87 (lIa_ok dd19) ?_
          refine Y.blk (pc' := 102) (L' := [some (.int x21), none, some (.ref x22), none, none, some (.int ((x23 + (-1)) + (-1))), some (.int x24)]) (st' := [.int (-x21), .ref (w 2), .int ((x23 + (-1)) + (-1)), .ref x22]) (sg := [(.iload_n 0, 0), (.ineg, 0)]) (lSa_ok dd20) rfl ?_
          refine Y.bald (t0 := 1) (lIa_ok dd21) rfl h (fun v30 h => ?_)
          refine Y.bast (t0 := 1) (lIa_ok dd22) rfl (by decide) h (fun G31 _ _ h => ?_)
          refine Y.blk (pc' := 106) (L' := [some (.int x21), none, some (.ref x22), none, none, some (.int ((x23 + (-1)) + (-1))), some (.int x24)]) (st' := [.int x24]) (sg := [(.iload 6, 0)]) (lSa_ok dd12) rfl ?_
          refine Y.if_eq (off := 12) (tgt := 118) (lIa_ok dd13) (by decide) h (fun c33 h => ?_) (fun c33 h => ?_)
          · refine Y.blk (pc' := 120) (L' := [some (.int x21), none, some (.ref x22), none, none, some (.int ((x23 + (-1)) + (-1))), some (.int x24)]) (st' := [.int ((x23 + (-1)) + (-1))]) (sg := [(.iload 5, 0)]) (lSa_ok dd14) rfl ?_
            exact Y.iret rfl (lIa_ok dd15) h
          · refine Y.blk (pc' := 117) (L' := [some (.int x21), none, some (.ref x22), none, none, some (.int (((x23 + (-1)) + (-1)) + (-1))), some (.int x24)]) (st' := [.int (nI 45), .int (((x23 + (-1)) + (-1)) + (-1)), .ref x22]) (sg := [(.aload_n 2, 0), (.iinc 5 (-1), -1), (.iload 5, 0), (.bipush 45, nI 45)]) (lSa_ok dd16) rfl ?_
            refine Y.bast (t0 := 1) (lIa_ok dd17) rfl (by decide) h (fun G32 _ _ h => ?_)
            refine Y.blk (pc' := 120) (L' := [some (.int x21), none, some (.ref x22), none, none, some (.int (((x23 + (-1)) + (-1)) + (-1))), some (.int x24)]) (st' := [.int (((x23 + (-1)) + (-1)) + (-1))]) (sg := [(.iload 5, 0)]) (lSa_ok dd14) rfl ?_
            exact Y.iret rfl (lIa_ok dd15) h
  · refine Y.blk (pc' := 8) (L' := [some (.int a0), some (.int a1), some (.ref a2), none, none, some (.int a1), none]) (st' := [.int (nI 1)]) (sg := [(.iconst 1, nI 1)]) (lSa_ok dd23) rfl ?_
    refine Y.goto (off := 4) (tgt := 12) (lIa_ok dd24) (by decide) ?_
    refine Y.blk (pc' := 16) (L' := [some (.int a0), some (.int a1), some (.ref a2), none, none, some (.int a1), some (.int (nI 1))]) (st' := [.int (nI 1)]) (sg := [(.istore 6, 0), (.iload 6, 0)]) (lSa_ok dd25) rfl ?_
    refine Y.if_ne (off := 6) (tgt := 22) (lIa_ok dd3) (by decide) h (fun c64 h => ?_) (fun c64 h => ?_)
    · refine Y.blk (pc' := 22) (L' := [some (.int (-a0)), some (.int a1), some (.ref a2), none, none, some (.int a1), some (.int (nI 1))]) (st' := []) (sg := [(.iload_n 0, 0), (.ineg, 0), (.istore_n 0, 0)]) (lSa_ok dd4) rfl ?_
      refine Y.less (L' := [some (.int (-a0)), none, some (.ref a2), none, none, some (.int a1), some (.int (nI 1))]) (zLe_some (zLe_none (zLe_some (zLe_some (zLe_some (zLe_some (zLe_some (zLe_nil)))))))) ?_
      refine k_IN_getChars_L22 hV _ ?_  zFu G (-a0) a2 a1 (nI 1) h
      · intro G40 x36 x37 x38 x39 h
        refine Y.blk (pc' := 78) (L' := [some (.int x36), none, some (.ref x37), none, none, some (.int (x38 + (-1))), some (.int x39)]) (st' := [.int (x38 + (-1)), .ref x37]) (sg := [(.aload_n 2, 0), (.iinc 5 (-1), -1), (.iload 5, 0)]) (lSa_ok dd5) rfl ?_
        refine Y.gets (v := .ref (w 1)) (fun U H h => (hV.2 U H h).2.1) sf_IN_83 (lIa_ok dd6) ?_
        refine Y.blk (pc' := 83) (L' := [some (.int x36), none, some (.ref x37), none, none, some (.int (x38 + (-1))), some (.int x39)]) (st' := [.int (-x36), .ref (w 1), .int (x38 + (-1)), .ref x37]) (sg := [(.iload_n 0, 0), (.ineg, 0)]) (lSa_ok dd7) rfl ?_
        refine Y.bald (t0 := 1) (lIa_ok dd8) rfl h (fun v41 h => ?_)
        refine Y.bast (t0 := 1) (lIa_ok dd9) rfl (by decide) h (fun G42 _ _ h => ?_)
        refine Y.blk (pc' := 88) (L' := [some (.int x36), none, some (.ref x37), none, none, some (.int (x38 + (-1))), some (.int x39)]) (st' := [.int (-9), .int x36]) (sg := [(.iload_n 0, 0), (.bipush (-9), -9)]) (lSa_ok dd10) rfl ?_
        refine Y.ic_ge (off := 16) (tgt := 104) (lIa_ok dd11) (by decide) h (fun c49 h => ?_) (fun c49 h => ?_)
        · refine Y.blk (pc' := 106) (L' := [some (.int x36), none, some (.ref x37), none, none, some (.int (x38 + (-1))), some (.int x39)]) (st' := [.int x39]) (sg := [(.iload 6, 0)]) (lSa_ok dd12) rfl ?_
          refine Y.if_eq (off := 12) (tgt := 118) (lIa_ok dd13) (by decide) h (fun c44 h => ?_) (fun c44 h => ?_)
          · refine Y.blk (pc' := 120) (L' := [some (.int x36), none, some (.ref x37), none, none, some (.int (x38 + (-1))), some (.int x39)]) (st' := [.int (x38 + (-1))]) (sg := [(.iload 5, 0)]) (lSa_ok dd14) rfl ?_
            exact Y.iret rfl (lIa_ok dd15) h
          · refine Y.blk (pc' := 117) (L' := [some (.int x36), none, some (.ref x37), none, none, some (.int ((x38 + (-1)) + (-1))), some (.int x39)]) (st' := [.int (nI 45), .int ((x38 + (-1)) + (-1)), .ref x37]) (sg := [(.aload_n 2, 0), (.iinc 5 (-1), -1), (.iload 5, 0), (.bipush 45, nI 45)]) (lSa_ok dd16) rfl ?_
            refine Y.bast (t0 := 1) (lIa_ok dd17) rfl (by decide) h (fun G43 _ _ h => ?_)
            refine Y.blk (pc' := 120) (L' := [some (.int x36), none, some (.ref x37), none, none, some (.int ((x38 + (-1)) + (-1))), some (.int x39)]) (st' := [.int ((x38 + (-1)) + (-1))]) (sg := [(.iload 5, 0)]) (lSa_ok dd14) rfl ?_
            exact Y.iret rfl (lIa_ok dd15) h
        · refine Y.blk (pc' := 97) (L' := [some (.int x36), none, some (.ref x37), none, none, some (.int ((x38 + (-1)) + (-1))), some (.int x39)]) (st' := [.int ((x38 + (-1)) + (-1)), .ref x37]) (sg := [(.aload_n 2, 0), (.iinc 5 (-1), -1), (.iload 5, 0)]) (lSa_ok dd18) rfl ?_
          refine Y.gets (v := .ref (w 2)) (fun U H h => (hV.2 U H h).2.2.1) sf_IN_87 (lIa_ok dd19) ?_
          refine Y.blk (pc' := 102) (L' := [some (.int x36), none, some (.ref x37), none, none, some (.int ((x38 + (-1)) + (-1))), some (.int x39)]) (st' := [.int (-x36), .ref (w 2), .int ((x38 + (-1)) + (-1)), .ref x37]) (sg := [(.iload_n 0, 0), (.ineg, 0)]) (lSa_ok dd20) rfl ?_
          refine Y.bald (t0 := 1) (lIa_ok dd21) rfl h (fun v45 h => ?_)
          refine Y.bast (t0 := 1) (lIa_ok dd22) rfl (by decide) h (fun G46 _ _ h => ?_)
          refine Y.blk (pc' := 106) (L' := [some (.int x36), none, some (.ref x37), none, none, some (.int ((x38 + (-1)) + (-1))), some (.int x39)]) (st' := [.int x39]) (sg := [(.iload 6, 0)]) (lSa_ok dd12) rfl ?_
          refine Y.if_eq (off := 12) (tgt := 118) (lIa_ok dd13) (by decide) h (fun c48 h => ?_) (fun c48 h => ?_)
          · refine Y.blk (pc' := 120) (L' := [some (.int x36), none, some (.ref x37), none, none, some (.int ((x38 + (-1)) + (-1))), some (.int x39)]) (st' := [.int ((x38 + (-1)) + (-1))]) (sg := [(.iload 5, 0)]) (lSa_ok dd14) rfl ?_
            exact Y.iret rfl (lIa_ok dd15) h
          · refine Y.blk (pc' := 117) (L' := [some (.int x36), none, some (.ref x37), none, none, some (.int (((x38 + (-1)) + (-1)) + (-1))), some (.int x39)]) (st' := [.int (nI 45), .int (((x38 + (-1)) + (-1)) + (-1)), .ref x37]) (sg := [(.aload_n 2, 0), (.iinc 5 (-1), -1), (.iload 5, 0), (.bipush 45, nI 45)]) (lSa_ok dd16) rfl ?_
            refine Y.bast (t0 := 1) (lIa_ok dd17) rfl (by decide) h (fun G47 _ _ h => ?_)
            refine Y.blk (pc' := 120) (L' := [some (.int x36), none, some (.ref x37), none, none, some (.int (((x38 + (-1)) + (-1)) + (-1))), some (.int x39)]) (st' := [.int (((x38 + (-1)) + (-1)) + (-1))]) (sg := [(.iload 5, 0)]) (lSa_ok dd14) rfl ?_
            exact Y.iret rfl (lIa_ok dd15) h
    · refine Y.less (L' := [some (.int a0), none, some (.ref a2), none, none, some (.int a1), some (.int (nI 1))]) (zLe_some (zLe_none (zLe_some (zLe_some (zLe_some (zLe_some (zLe_some (zLe_nil)))))))) ?_
      refine k_IN_getChars_L22 hV _ ?_  zFu G a0 a2 a1 (nI 1) h
      · intro G54 x50 x51 x52 x53 h
        refine Y.blk (pc' := 78) (L' := [some (.int x50), none, some (.ref x51), none, none, some (.int (x52 + (-1))), some (.int x53)]) (st' := [.int (x52 + (-1)), .ref x51]) (sg := [(.aload_n 2, 0), (.iinc 5 (-1), -1), (.iload 5, 0)]) (lSa_ok dd5) rfl ?_
        refine Y.gets (v := .ref (w 1)) (fun U H h => (hV.2 U H h).2.1) sf_IN_83 (lIa_ok dd6) ?_
        refine Y.blk (pc' := 83) (L' := [some (.int x50), none, some (.ref x51), none, none, some (.int (x52 + (-1))), some (.int x53)]) (st' := [.int (-x50), .ref (w 1), .int (x52 + (-1)), .ref x51]) (sg := [(.iload_n 0, 0), (.ineg, 0)]) (lSa_ok dd7) rfl ?_
        refine Y.bald (t0 := 1) (lIa_ok dd8) rfl h (fun v55 h => ?_)
        refine Y.bast (t0 := 1) (lIa_ok dd9) rfl (by decide) h (fun G56 _ _ h => ?_)
        refine Y.blk (pc' := 88) (L' := [some (.int x50), none, some (.ref x51), none, none, some (.int (x52 + (-1))), some (.int x53)]) (st' := [.int (-9), .int x50]) (sg := [(.iload_n 0, 0), (.bipush (-9), -9)]) (lSa_ok dd10) rfl ?_
        refine Y.ic_ge (off := 16) (tgt := 104) (lIa_ok dd11) (by decide) h (fun c63 h => ?_) (fun c63 h => ?_)
        · refine Y.blk (pc' := 106) (L' := [some (.int x50), none, some (.ref x51), none, none, some (.int (x52 + (-1))), some (.int x53)]) (st' := [.int x53]) (sg := [(.iload 6, 0)]) (lSa_ok dd12) rfl ?_
          refine Y.if_eq (off := 12) (tgt := 118) (lIa_ok dd13) (by decide) h (fun c58 h => ?_) (fun c58 h => ?_)
          · refine Y.blk (pc' := 120) (L' := [some (.int x50), none, some (.ref x51), none, none, some (.int (x52 + (-1))), some (.int x53)]) (st' := [.int (x52 + (-1))]) (sg := [(.iload 5, 0)]) (lSa_ok dd14) rfl ?_
            exact Y.iret rfl (lIa_ok dd15) h
          · refine Y.blk (pc' := 117) (L' := [some (.int x50), none, some (.ref x51), none, none, some (.int ((x52 + (-1)) + (-1))), some (.int x53)]) (st' := [.int (nI 45), .int ((x52 + (-1)) + (-1)), .ref x51]) (sg := [(.aload_n 2, 0), (.iinc 5 (-1), -1), (.iload 5, 0), (.bipush 45, nI 45)]) (lSa_ok dd16) rfl ?_
            refine Y.bast (t0 := 1) (lIa_ok dd17) rfl (by decide) h (fun G57 _ _ h => ?_)
            refine Y.blk (pc' := 120) (L' := [some (.int x50), none, some (.ref x51), none, none, some (.int ((x52 + (-1)) + (-1))), some (.int x53)]) (st' := [.int ((x52 + (-1)) + (-1))]) (sg := [(.iload 5, 0)]) (lSa_ok dd14) rfl ?_
            exact Y.iret rfl (lIa_ok dd15) h
        · refine Y.blk (pc' := 97) (L' := [some (.int x50), none, some (.ref x51), none, none, some (.int ((x52 + (-1)) + (-1))), some (.int x53)]) (st' := [.int ((x52 + (-1)) + (-1)), .ref x51]) (sg := [(.aload_n 2, 0), (.iinc 5 (-1), -1), (.iload 5, 0)]) (lSa_ok dd18) rfl ?_
          refine Y.gets (v := .ref (w 2)) (fun U H h => (hV.2 U H h).2.2.1) sf_IN_87 (lIa_ok dd19) ?_
          refine Y.blk (pc' := 102) (L' := [some (.int x50), none, some (.ref x51), none, none, some (.int ((x52 + (-1)) + (-1))), some (.int x53)]) (st' := [.int (-x50), .ref (w 2), .int ((x52 + (-1)) + (-1)), .ref x51]) (sg := [(.iload_n 0, 0), (.ineg, 0)]) (lSa_ok dd20) rfl ?_
          refine Y.bald (t0 := 1) (lIa_ok dd21) rfl h (fun v59 h => ?_)
          refine Y.bast (t0 := 1) (lIa_ok dd22) rfl (by decide) h (fun G60 _ _ h => ?_)
          refine Y.blk (pc' := 106) (L' := [some (.int x50), none, some (.ref x51), none, none, some (.int ((x52 + (-1)) + (-1))), some (.int x53)]) (st' := [.int x53]) (sg := [(.iload 6, 0)]) (lSa_ok dd12) rfl ?_
          refine Y.if_eq (off := 12) (tgt := 118) (lIa_ok dd13) (by decide) h (fun c62 h => ?_) (fun c62 h => ?_)
          · refine Y.blk (pc' := 120) (L' := [some (.int x50), none, some (.ref x51), none, none, some (.int ((x52 + (-1)) + (-1))), some (.int x53)]) (st' := [.int ((x52 + (-1)) + (-1))]) (sg := [(.iload 5, 0)]) (lSa_ok dd14) rfl ?_
            exact Y.iret rfl (lIa_ok dd15) h
          · refine Y.blk (pc' := 117) (L' := [some (.int x50), none, some (.ref x51), none, none, some (.int (((x52 + (-1)) + (-1)) + (-1))), some (.int x53)]) (st' := [.int (nI 45), .int (((x52 + (-1)) + (-1)) + (-1)), .ref x51]) (sg := [(.aload_n 2, 0), (.iinc 5 (-1), -1), (.iload 5, 0), (.bipush 45, nI 45)]) (lSa_ok dd16) rfl ?_
            refine Y.bast (t0 := 1) (lIa_ok dd17) rfl (by decide) h (fun G61 _ _ h => ?_)
            refine Y.blk (pc' := 120) (L' := [some (.int x50), none, some (.ref x51), none, none, some (.int (((x52 + (-1)) + (-1)) + (-1))), some (.int x53)]) (st' := [.int (((x52 + (-1)) + (-1)) + (-1))]) (sg := [(.iload 5, 0)]) (lSa_ok dd14) rfl ?_
            exact Y.iret rfl (lIa_ok dd15) h

def f_IN_stringSize_L16 (K27 : gH → Int32 → Int32 → gR) (K42 : gH → Int32 → gR) : Nat → gH → Int32 → Int32 → Int32 → Int32 → gR
  | 0, _, _, _, _, _ => none
  | n + 1, G, x0, x1, x2, x3 =>
    if (nI 10) ≤ x3 then K42 G x1
    else if x0 ≤ x2 then f_IN_stringSize_L16 K27 K42 n G x0 x1 ((nI 10) * x2) (x3 + (nI 1))
      else K27 G x1 x3
def f_IN_stringSize (G : gH) (a0 : Int32) : gR :=
  if a0 < 0 then f_IN_stringSize_L16 (fun G5 x3 x4 => rI (x4 + x3) G5) (fun G7 x6 => rI ((nI 10) + x6) G7) zFu G a0 (nI 1) (-10) (nI 1)
  else f_IN_stringSize_L16 (fun G10 x8 x9 => rI (x9 + x8) G10) (fun G12 x11 => rI ((nI 10) + x11) G12) zFu G (-a0) (nI 0) (-10) (nI 1)
theorem k_IN_stringSize_L16 {l : Launch} {D : va_G} {B : Nat} {O : State → Heap → Prop} (hV : zG l D B O) {o : gO} {Gf : gH} (K27 : gH → Int32 → Int32 → gR) (K42 : gH → Int32 → gR) (hK27 : ∀ (G : gH) (x1 : Int32) (x3 : Int32), K27 G x1 x3 = some (o, Gf) → Y (zVm l D B O) m_IN_stringSize 2 o Gf 27 [none, some (.int x1), none, some (.int x3)] [] G) (hK42 : ∀ (G : gH) (x1 : Int32), K42 G x1 = some (o, Gf) → Y (zVm l D B O) m_IN_stringSize 2 o Gf 42 [none, some (.int x1), none, none] [] G) : ∀ (n : Nat) (G : gH) (x0 : Int32) (x1 : Int32) (x2 : Int32) (x3 : Int32), f_IN_stringSize_L16 K27 K42 n G x0 x1 x2 x3 = some (o, Gf) → Y (zVm l D B O) m_IN_stringSize 2 o Gf 16 [some (.int x0), some (.int x1), some (.int x2), some (.int x3)] [] G := by
  have hdd : lSa m_IN_stringSize 16 [(.iload_n 3, 0), (.bipush 10, nI 10)] = true ∧ lIa m_IN_stringSize 19 (.if_icmp .ge 23) 3 = true ∧ lSa m_IN_stringSize 22 [(.iload_n 0, 0), (.iload_n 2, 0)] = true ∧ lIa m_IN_stringSize 24 (.if_icmp .le 7) 3 = true ∧ lSa m_IN_stringSize 31 [(.bipush 10, nI 10), (.iload_n 2, 0), (.imul, 0), (.istore_n 2, 0), (.iinc 3 1, nI 1)] = true ∧ lIa m_IN_stringSize 39 (.goto (-23)) 3 = true := by decide +kernel
  obtain ⟨dd0, dd1, dd2, dd3, dd4, dd5⟩ := hdd
  intro n
  induction n with
  | zero => intro G x0 x1 x2 x3 h; cases h
  | succ n ih =>
    intro G x0 x1 x2 x3 h
    unfold f_IN_stringSize_L16 at h
    refine Y.blk (pc' := 19) (L' := [some (.int x0), some (.int x1), some (.int x2), some (.int x3)]) (st' := [.int (nI 10), .int x3]) (sg := [(.iload_n 3, 0), (.bipush 10, nI 10)]) (lSa_ok dd0) rfl ?_
    refine Y.ic_ge (off := 23) (tgt := 42) (lIa_ok dd1) (by decide) h (fun c2 h => ?_) (fun c2 h => ?_)
    · refine Y.less (L' := [none, some (.int x1), none, none]) (zLe_none (zLe_some (zLe_none (zLe_none (zLe_nil))))) ?_
      exact hK42 G x1 h
    · refine Y.blk (pc' := 24) (L' := [some (.int x0), some (.int x1), some (.int x2), some (.int x3)]) (st' := [.int x2, .int x0]) (sg := [(.iload_n 0, 0), (.iload_n 2, 0)]) (lSa_ok dd2) rfl ?_
      refine Y.ic_le (off := 7) (tgt := 31) (lIa_ok dd3) (by decide) h (fun c1 h => ?_) (fun c1 h => ?_)
      · refine Y.blk (pc' := 39) (L' := [some (.int x0), some (.int x1), some (.int ((nI 10) * x2)), some (.int (x3 + (nI 1)))]) (st' := []) (sg := [(.bipush 10, nI 10), (.iload_n 2, 0), (.imul, 0), (.istore_n 2, 0), (.iinc 3 1, nI 1)]) (lSa_ok dd4) rfl ?_
        refine Y.goto (off := -23) (tgt := 16) (lIa_ok dd5) (by decide) ?_
        exact ih G x0 x1 ((nI 10) * x2) (x3 + (nI 1)) h
      · refine Y.less (L' := [none, some (.int x1), none, some (.int x3)]) (zLe_none (zLe_some (zLe_none (zLe_some (zLe_nil))))) ?_
        exact hK27 G x1 x3 h
theorem k_IN_stringSize {l : Launch} {D : va_G} {B : Nat} {O : State → Heap → Prop} (hV : zG l D B O) (G : gH) (a0 : Int32) : gMet (zVm l D B O) m_IN_stringSize 2 [.int a0] G (f_IN_stringSize G a0) := by
  have hdd : lSa m_IN_stringSize 0 [(.iconst 1, nI 1), (.istore_n 1, 0), (.iload_n 0, 0)] = true ∧ lIa m_IN_stringSize 3 (.ifCond .lt 8) 3 = true ∧ lSa m_IN_stringSize 11 [(.bipush (-10), -10), (.istore_n 2, 0), (.iconst 1, nI 1), (.istore_n 3, 0)] = true ∧ lSa m_IN_stringSize 27 [(.iload_n 3, 0), (.iload_n 1, 0), (.iadd, 0)] = true ∧ lIa m_IN_stringSize 30 (.ireturn) 1 = true ∧ lSa m_IN_stringSize 42 [(.bipush 10, nI 10), (.iload_n 1, 0), (.iadd, 0)] = true ∧ lIa m_IN_stringSize 46 (.ireturn) 1 = true ∧ lSa m_IN_stringSize 6 [(.iconst 0, nI 0), (.istore_n 1, 0), (.iload_n 0, 0), (.ineg, 0), (.istore_n 0, 0), (.bipush (-10), -10), (.istore_n 2, 0), (.iconst 1, nI 1), (.istore_n 3, 0)] = true := by decide +kernel
  obtain ⟨dd0, dd1, dd2, dd3, dd4, dd5, dd6, dd7⟩ := hdd
  refine gMet.of (by decide +kernel) (Nat.le_of_ble_eq_true rfl) [some (.int a0), none, none, none] (fun ls h => zEn_ok (n := 4) h) ?_
  intro o Gf h
  unfold f_IN_stringSize at h
  refine Y.blk (pc' := 3) (L' := [some (.int a0), some (.int (nI 1)), none, none]) (st' := [.int a0]) (sg := [(.iconst 1, nI 1), (.istore_n 1, 0), (.iload_n 0, 0)]) (lSa_ok dd0) rfl ?_
  refine Y.if_lt (off := 8) (tgt := 11) (lIa_ok dd1) (by decide) h (fun c13 h => ?_) (fun c13 h => ?_)
  · refine Y.blk (pc' := 16) (L' := [some (.int a0), some (.int (nI 1)), some (.int (-10)), some (.int (nI 1))]) (st' := []) (sg := [(.bipush (-10), -10), (.istore_n 2, 0), (.iconst 1, nI 1), (.istore_n 3, 0)]) (lSa_ok dd2) rfl ?_
    refine k_IN_stringSize_L16 hV _ _ ?_ ?_  zFu G a0 (nI 1) (-10) (nI 1) h
    · intro G5 x3 x4 h
      refine Y.blk (pc' := 30) (L' := [none, some (.int x3), none, some (.int x4)]) (st' := [.int (x4 + x3)]) (sg := [(.iload_n 3, 0), (.iload_n 1, 0), (.iadd, 0)]) (lSa_ok dd3) rfl ?_
      exact Y.iret rfl (lIa_ok dd4) h
    · intro G7 x6 h
      refine Y.blk (pc' := 46) (L' := [none, some (.int x6), none, none]) (st' := [.int ((nI 10) + x6)]) (sg := [(.bipush 10, nI 10), (.iload_n 1, 0), (.iadd, 0)]) (lSa_ok dd5) rfl ?_
      exact Y.iret rfl (lIa_ok dd6) h
  · refine Y.blk (pc' := 16) (L' := [some (.int (-a0)), some (.int (nI 0)), some (.int (-10)), some (.int (nI 1))]) (st' := []) (sg := [(.iconst 0, nI 0), (.istore_n 1, 0), (.iload_n 0, 0), (.ineg, 0), (.istore_n 0, 0), (.bipush (-10), -10), (.istore_n 2, 0), (.iconst 1, nI 1), (.istore_n 3, 0)]) (lSa_ok dd7) rfl ?_
    refine k_IN_stringSize_L16 hV _ _ ?_ ?_  zFu G (-a0) (nI 0) (-10) (nI 1) h
    · intro G10 x8 x9 h
      refine Y.blk (pc' := 30) (L' := [none, some (.int x8), none, some (.int x9)]) (st' := [.int (x9 + x8)]) (sg := [(.iload_n 3, 0), (.iload_n 1, 0), (.iadd, 0)]) (lSa_ok dd3) rfl ?_
      exact Y.iret rfl (lIa_ok dd4) h
    · intro G12 x11 h
      refine Y.blk (pc' := 46) (L' := [none, some (.int x11), none, none]) (st' := [.int ((nI 10) + x11)]) (sg := [(.bipush 10, nI 10), (.iload_n 1, 0), (.iadd, 0)]) (lSa_ok dd5) rfl ?_
      exact Y.iret rfl (lIa_ok dd6) h

def f_AB_append2 (w : Nat → Nat) (G : gH) (a0 : Nat) (a1 : Int32) : gR :=
  gFI G a0 10 3 fun v1 => bI (f_IN_stringSize G a1) fun v4 G3 => gOb G3 a0 10 fun o6 => bV (f_AB_ensureCapacityInternal G3 a0 (v1 + v4)) fun G8 => gOb G8 a0 10 fun o10 => bI (f_AB_isLatin1 w G8 a0) fun v13 G12 => if v13 = 0 then gFA G12 a0 10 0 fun v14 => none
  else gFA G12 a0 10 0 fun v15 => bI (f_IN_getChars w G12 a1 (v1 + v4) v15) fun v18 G17 => gPut G17 a0 10 3 (.int (v1 + v4)) fun G19 => rA a0 G19
theorem k_AB_append2 {l : Launch} {D : va_G} {B : Nat} {O : State → Heap → Prop} {w : Nat → Nat} (hV : zGw l D B O w) (G : gH) (a0 : Nat) (a1 : Int32) : gMet (zVm l D B O) m_AB_append2 5 [.ref a0, .int a1] G (f_AB_append2 w G a0 a1) := by
  have hdd : lSa m_AB_append2 0 [(.aload_n 0, 0)] = true ∧ lIa m_AB_append2 1 (.getfield 79) 3 = true ∧ lSa m_AB_append2 4 [(.istore_n 2, 0), (.iload_n 2, 0), (.iload_n 1, 0)] = true ∧ lIa m_AB_append2 7 (.invokestatic 245) 3 = true ∧ lSa m_AB_append2 10 [(.iadd, 0), (.istore_n 3, 0), (.aload_n 0, 0), (.iload_n 3, 0)] = true ∧ lIa m_AB_append2 14 (.invokevirtual 100) 3 = true ∧ lSa m_AB_append2 17 [(.aload_n 0, 0)] = true ∧ lIa m_AB_append2 18 (.invokevirtual 83) 3 = true ∧ lIa m_AB_append2 21 (.ifCond .eq 16) 3 = true ∧ lSa m_AB_append2 37 [(.iload_n 1, 0), (.iload_n 2, 0), (.iload_n 3, 0), (.aload_n 0, 0)] = true ∧ lIa m_AB_append2 41 (.getfield 15) 3 = true ∧ lSa m_AB_append2 24 [(.iload_n 1, 0), (.iload_n 3, 0), (.aload_n 0, 0)] = true ∧ lIa m_AB_append2 27 (.getfield 15) 3 = true ∧ lIa m_AB_append2 30 (.invokestatic 248) 3 = true ∧ lSa m_AB_append2 33 [(.pop, 0)] = true ∧ lIa m_AB_append2 34 (.goto 14) 3 = true ∧ lSa m_AB_append2 48 [(.aload_n 0, 0), (.iload_n 3, 0)] = true ∧ lIa m_AB_append2 50 (.putfield 79) 3 = true ∧ lSa m_AB_append2 53 [(.aload_n 0, 0)] = true ∧ lIa m_AB_append2 54 (.areturn) 1 = true := by decide +kernel
  refine lA8 hdd (fun dd0 dd1 dd2 dd3 dd4 dd5 dd6 dd7 hdd => ?_)
  refine lA8 hdd (fun dd8 dd9 dd10 dd11 dd12 dd13 dd14 dd15 hdd => ?_)
  obtain ⟨dd16, dd17, dd18, dd19⟩ := hdd
  refine gMet.of (by decide +kernel) (Nat.le_of_ble_eq_true rfl) [some (.ref a0), some (.int a1), none, none] (fun ls h => zEn_ok (n := 4) h) ?_
  intro o Gf h
  unfold f_AB_append2 at h
  refine Y.blk (pc' := 1) (L' := [some (.ref a0), some (.int a1), none, none]) (st' := [.ref a0]) (sg := [(.aload_n 0, 0)]) (lSa_ok dd0) rfl ?_
  refine Y.getI fl_AB_79 (lIa_ok dd1) h (fun v1 h => ?_)
  refine Y.blk (pc' := 7) (L' := [some (.ref a0), some (.int a1), some (.int v1), none]) (st' := [.int a1, .int v1]) (sg := [(.istore_n 2, 0), (.iload_n 2, 0), (.iload_n 1, 0)]) (lSa_ok dd2) rfl ?_
  refine Y.callI (yC.S (As := [.int a1]) (st := [.int v1]) hV.1.1 cb_IN_stringSize lk_AB_245 st_IN_stringSize (lIa_ok dd3) rfl rfl (Nat.le_of_ble_eq_true rfl) (by decide)) (k_IN_stringSize hV.1 G a1) h (fun v4 G3 _ h => ?_)
  refine Y.blk (pc' := 14) (L' := [some (.ref a0), some (.int a1), some (.int v1), some (.int (v1 + v4))]) (st' := [.int (v1 + v4), .ref a0]) (sg := [(.iadd, 0), (.istore_n 3, 0), (.aload_n 0, 0), (.iload_n 3, 0)]) (lSa_ok dd4) rfl ?_
  obtain ⟨_, o6, e5, m7, h⟩ := gOb_inv h
  refine Y.callN (yC.Vi (b := a0) (As := [.int (v1 + v4)]) (st := []) (r := ("java/lang/StringBuilder", T_SB, 4)) hV.1.1 cb_AB_ensureCapacityInternal lk_AB_100 in_AB_ensureCapacityInternal rfl seSB_AB_ensureCapacityInternal (lIa_ok dd5) rfl rfl (Nat.le_of_ble_eq_true rfl) (by decide) e5 m7) (k_AB_ensureCapacityInternal hV.1 G3 a0 (v1 + v4)) h (fun G8 _ h => ?_)
  refine Y.blk (pc' := 18) (L' := [some (.ref a0), some (.int a1), some (.int v1), some (.int (v1 + v4))]) (st' := [.ref a0]) (sg := [(.aload_n 0, 0)]) (lSa_ok dd6) rfl ?_
  obtain ⟨_, o10, e9, m11, h⟩ := gOb_inv h
  refine Y.callI (yC.Vi (b := a0) (As := []) (st := []) (r := ("java/lang/StringBuilder", T_SB, 4)) hV.1.1 cb_AB_isLatin1 lk_AB_83 in_AB_isLatin1 rfl seSB_AB_isLatin1 (lIa_ok dd7) rfl rfl (Nat.le_of_ble_eq_true rfl) (by decide) e9 m11) (k_AB_isLatin1 hV G8 a0) h (fun v13 G12 _ h => ?_)
  refine Y.if_eq (off := 16) (tgt := 37) (lIa_ok dd8) (by decide) h (fun c20 h => ?_) (fun c20 h => ?_)
  · refine Y.blk (pc' := 41) (L' := [some (.ref a0), some (.int a1), some (.int v1), some (.int (v1 + v4))]) (st' := [.ref a0, .int (v1 + v4), .int v1, .int a1]) (sg := [(.iload_n 1, 0), (.iload_n 2, 0), (.iload_n 3, 0), (.aload_n 0, 0)]) (lSa_ok dd9) rfl ?_
    refine Y.getA fl_AB_15 (lIa_ok dd10) h (fun v14 h => ?_)
    cases h
  · refine Y.blk (pc' := 27) (L' := [some (.ref a0), some (.int a1), some (.int v1), some (.int (v1 + v4))]) (st' := [.ref a0, .int (v1 + v4), .int a1]) (sg := [(.iload_n 1, 0), (.iload_n 3, 0), (.aload_n 0, 0)]) (lSa_ok dd11) rfl ?_
    refine Y.getA fl_AB_15 (lIa_ok dd12) h (fun v15 h => ?_)
    refine Y.callI (yC.S (As := [.int a1, .int (v1 + v4), .ref v15]) (st := []) hV.1.1 cb_IN_getChars lk_AB_248 st_IN_getChars (lIa_ok dd13) rfl rfl (Nat.le_of_ble_eq_true rfl) (by decide)) (k_IN_getChars hV G12 a1 (v1 + v4) v15) h (fun v18 G17 _ h => ?_)
    refine Y.blk (pc' := 34) (L' := [some (.ref a0), some (.int a1), some (.int v1), some (.int (v1 + v4))]) (st' := []) (sg := [(.pop, 0)]) (lSa_ok dd14) rfl ?_
    refine Y.goto (off := 14) (tgt := 48) (lIa_ok dd15) (by decide) ?_
    refine Y.blk (pc' := 50) (L' := [some (.ref a0), some (.int a1), some (.int v1), some (.int (v1 + v4))]) (st' := [.int (v1 + v4), .ref a0]) (sg := [(.aload_n 0, 0), (.iload_n 3, 0)]) (lSa_ok dd16) rfl ?_
    refine Y.putf fl_AB_79 (by decide) rfl rfl (lIa_ok dd17) h (fun G19 _ _ h => ?_)
    refine Y.blk (pc' := 54) (L' := [some (.ref a0), some (.int a1), some (.int v1), some (.int (v1 + v4))]) (st' := [.ref a0]) (sg := [(.aload_n 0, 0)]) (lSa_ok dd18) rfl ?_
    exact Y.aret rfl (by first | exact Or.inl ⟨_, rfl⟩ | exact Or.inr ⟨_, rfl⟩) (lIa_ok dd19) h

def f_SB_append2 (w : Nat → Nat) (G : gH) (a0 : Nat) (a1 : Int32) : gR :=
  gOb G a0 10 fun o2 => bA (f_AB_append2 w G a0 a1) fun v5 G4 => rA a0 G4
theorem k_SB_append2 {l : Launch} {D : va_G} {B : Nat} {O : State → Heap → Prop} {w : Nat → Nat} (hV : zGw l D B O w) (G : gH) (a0 : Nat) (a1 : Int32) : gMet (zVm l D B O) m_SB_append2 6 [.ref a0, .int a1] G (f_SB_append2 w G a0 a1) := by
  have hdd : lSa m_SB_append2 0 [(.aload_n 0, 0), (.iload_n 1, 0)] = true ∧ lIa m_SB_append2 2 (.invokespecial 53) 3 = true ∧ lSa m_SB_append2 5 [(.pop, 0), (.aload_n 0, 0)] = true ∧ lIa m_SB_append2 7 (.areturn) 1 = true := by decide +kernel
  obtain ⟨dd0, dd1, dd2, dd3⟩ := hdd
  refine gMet.of (by decide +kernel) (Nat.le_of_ble_eq_true rfl) [some (.ref a0), some (.int a1)] (fun ls h => zEn_ok (n := 2) h) ?_
  intro o Gf h
  unfold f_SB_append2 at h
  refine Y.blk (pc' := 2) (L' := [some (.ref a0), some (.int a1)]) (st' := [.int a1, .ref a0]) (sg := [(.aload_n 0, 0), (.iload_n 1, 0)]) (lSa_ok dd0) rfl ?_
  obtain ⟨_, o2, e1, m3, h⟩ := gOb_inv h
  refine Y.callA (yC.SU (b := a0) (As := [.int a1]) (st := []) (r := ("java/lang/StringBuilder", T_SB, 4)) hV.1.1 cb_AB_append2 lk_SB_53 sm_AB_append2 su_SB_AB in_AB_append2 (by decide) rfl (lIa_ok dd1) rfl rfl (Nat.le_of_ble_eq_true rfl) (by decide) e1 m3) (k_AB_append2 hV G a0 a1) h (fun v5 G4 _ h => ?_)
  refine Y.blk (pc' := 7) (L' := [some (.ref a0), some (.int a1)]) (st' := [.ref a0]) (sg := [(.pop, 0), (.aload_n 0, 0)]) (lSa_ok dd2) rfl ?_
  exact Y.aret rfl (by first | exact Or.inl ⟨_, rfl⟩ | exact Or.inr ⟨_, rfl⟩) (lIa_ok dd3) h

def f_ST_coder (w : Nat → Nat) (G : gH) (a0 : Nat) : gR :=
  if (nI 1) = 0 then rN .byte (nI 1) G
  else gFI G a0 8 1 fun v1 => rN .byte v1 G
theorem k_ST_coder {l : Launch} {D : va_G} {B : Nat} {O : State → Heap → Prop} {w : Nat → Nat} (hV : zGw l D B O w) (G : gH) (a0 : Nat) : gMet (zVm l D B O) m_ST_coder 2 [.ref a0] G (f_ST_coder w G a0) := by
  have hdd : lIa m_ST_coder 0 (.getstatic 38) 3 = true ∧ lIa m_ST_coder 3 (.ifCond .eq 10) 3 = true ∧ lSa m_ST_coder 13 [(.iconst 1, nI 1)] = true ∧ lIa m_ST_coder 14 (.ireturn) 1 = true ∧ lSa m_ST_coder 6 [(.aload_n 0, 0)] = true ∧ lIa m_ST_coder 7 (.getfield 15) 3 = true ∧ lIa m_ST_coder 10 (.goto 4) 3 = true := by decide +kernel
  obtain ⟨dd0, dd1, dd2, dd3, dd4, dd5, dd6⟩ := hdd
  refine gMet.of (by decide +kernel) (Nat.le_of_ble_eq_true rfl) [some (.ref a0)] (fun ls h => zEn_ok (n := 1) h) ?_
  intro o Gf h
  unfold f_ST_coder at h
  refine Y.gets (v := .int (nI 1)) (fun U H h => (hV.2 U H h).2.2.2.1) sf_ST_38 (lIa_ok dd0) ?_
  refine Y.if_eq (off := 10) (tgt := 13) (lIa_ok dd1) (by decide) h (fun c2 h => ?_) (fun c2 h => ?_)
  · refine Y.blk (pc' := 14) (L' := [some (.ref a0)]) (st' := [.int (nI 1)]) (sg := [(.iconst 1, nI 1)]) (lSa_ok dd2) rfl ?_
    exact Y.nret (st := []) rfl (lIa_ok dd3) h
  · refine Y.blk (pc' := 7) (L' := [some (.ref a0)]) (st' := [.ref a0]) (sg := [(.aload_n 0, 0)]) (lSa_ok dd4) rfl ?_
    refine Y.getI fl_ST_15 (lIa_ok dd5) h (fun v1 h => ?_)
    refine Y.goto (off := 4) (tgt := 14) (lIa_ok dd6) (by decide) ?_
    exact Y.nret (st := []) rfl (lIa_ok dd3) h

def f_AB_inflateIfNeededFor (w : Nat → Nat) (G : gH) (a0 : Nat) (a1 : Nat) : gR :=
  if (nI 1) = 0 then rV G
  else gFI G a0 10 1 fun v1 => gOb G a1 8 fun o3 => bI (f_ST_coder w G a1) fun v6 G5 => if v1 = v6 then rV G5
    else none
theorem k_AB_inflateIfNeededFor {l : Launch} {D : va_G} {B : Nat} {O : State → Heap → Prop} {w : Nat → Nat} (hV : zGw l D B O w) (G : gH) (a0 : Nat) (a1 : Nat) : gMet (zVm l D B O) m_AB_inflateIfNeededFor 3 [.ref a0, .ref a1] G (f_AB_inflateIfNeededFor w G a0 a1) := by
  have hdd : lIa m_AB_inflateIfNeededFor 0 (.getstatic 18) 3 = true ∧ lIa m_AB_inflateIfNeededFor 3 (.ifCond .eq 18) 3 = true ∧ lIa m_AB_inflateIfNeededFor 21 (.return_) 1 = true ∧ lSa m_AB_inflateIfNeededFor 6 [(.aload_n 0, 0)] = true ∧ lIa m_AB_inflateIfNeededFor 7 (.getfield 22) 3 = true ∧ lSa m_AB_inflateIfNeededFor 10 [(.aload_n 1, 0)] = true ∧ lIa m_AB_inflateIfNeededFor 11 (.invokevirtual 40) 3 = true ∧ lIa m_AB_inflateIfNeededFor 14 (.if_icmp .eq 7) 3 = true ∧ lSa m_AB_inflateIfNeededFor 17 [(.aload_n 0, 0)] = true := by decide +kernel
  refine lA8 hdd (fun dd0 dd1 dd2 dd3 dd4 dd5 dd6 dd7 hdd => ?_)
  have dd8 := hdd
  refine gMet.of (by decide +kernel) (Nat.le_of_ble_eq_true rfl) [some (.ref a0), some (.ref a1)] (fun ls h => zEn_ok (n := 2) h) ?_
  intro o Gf h
  unfold f_AB_inflateIfNeededFor at h
  refine Y.gets (v := .int (nI 1)) (fun U H h => (hV.2 U H h).2.2.2.1) sf_AB_18 (lIa_ok dd0) ?_
  refine Y.if_eq (off := 18) (tgt := 21) (lIa_ok dd1) (by decide) h (fun c8 h => ?_) (fun c8 h => ?_)
  · exact Y.vret rfl (lIa_ok dd2) h
  · refine Y.blk (pc' := 7) (L' := [some (.ref a0), some (.ref a1)]) (st' := [.ref a0]) (sg := [(.aload_n 0, 0)]) (lSa_ok dd3) rfl ?_
    refine Y.getI fl_AB_22 (lIa_ok dd4) h (fun v1 h => ?_)
    refine Y.blk (pc' := 11) (L' := [some (.ref a0), some (.ref a1)]) (st' := [.ref a1, .int v1]) (sg := [(.aload_n 1, 0)]) (lSa_ok dd5) rfl ?_
    obtain ⟨_, o3, e2, m4, h⟩ := gOb_inv h
    refine Y.callI (yC.Vi (b := a1) (As := []) (st := [.int v1]) (r := ("java/lang/String", T_ST, 4)) hV.1.1 cb_ST_coder lk_AB_40 in_ST_coder rfl se_ST_coder (lIa_ok dd6) rfl rfl (Nat.le_of_ble_eq_true rfl) (by decide) e2 m4) (k_ST_coder hV G a1) h (fun v6 G5 _ h => ?_)
    refine Y.ic_eq (off := 7) (tgt := 21) (lIa_ok dd7) (by decide) h (fun c7 h => ?_) (fun c7 h => ?_)
    · exact Y.vret rfl (lIa_ok dd2) h
    · refine Y.blk (pc' := 18) (L' := [some (.ref a0), some (.ref a1)]) (st' := [.ref a0]) (sg := [(.aload_n 0, 0)]) (lSa_ok dd8) rfl ?_
      cases h

def f_ST_getBytes (w : Nat → Nat) (G : gH) (a0 : Nat) (a1 : Nat) (a2 : Int32) (a3 : Int32) : gR :=
  gOb G a0 8 fun o2 => bI (f_ST_coder w G a0) fun v5 G4 => if v5 = a3 then gFA G4 a0 8 0 fun v6 => gFA G4 a0 8 0 fun v7 => gLen G4 v7 101 fun v8 => gCpB G4 v6 (nI 0) a1 (a2 <<< (a3 &&& 31)) v8 fun G9 => rV G9
  else gFA G4 a0 8 0 fun v10 => gFA G4 a0 8 0 fun v11 => gLen G4 v11 101 fun v12 => none
theorem k_ST_getBytes {l : Launch} {D : va_G} {B : Nat} {O : State → Heap → Prop} {w : Nat → Nat} (hV : zGw l D B O w) (G : gH) (a0 : Nat) (a1 : Nat) (a2 : Int32) (a3 : Int32) : gMet (zVm l D B O) m_ST_getBytes 3 [.ref a0, .ref a1, .int a2, .int a3] G (f_ST_getBytes w G a0 a1 a2 a3) := by
  have hdd : lSa m_ST_getBytes 0 [(.aload_n 0, 0)] = true ∧ lIa m_ST_getBytes 1 (.invokevirtual 335) 3 = true ∧ lSa m_ST_getBytes 4 [(.iload_n 3, 0)] = true ∧ lIa m_ST_getBytes 5 (.if_icmp .ne 23) 3 = true ∧ lSa m_ST_getBytes 8 [(.aload_n 0, 0)] = true ∧ lIa m_ST_getBytes 9 (.getfield 9) 3 = true ∧ lSa m_ST_getBytes 12 [(.iconst 0, nI 0), (.aload_n 1, 0), (.iload_n 2, 0), (.iload_n 3, 0), (.ishl, 0), (.aload_n 0, 0)] = true ∧ lIa m_ST_getBytes 18 (.getfield 9) 3 = true ∧ lIa m_ST_getBytes 21 (.arraylength) 1 = true ∧ lIa m_ST_getBytes 22 (.invokestatic 212) 3 = true ∧ lIa m_ST_getBytes 25 (.goto 18) 3 = true ∧ lIa m_ST_getBytes 43 (.return_) 1 = true ∧ lSa m_ST_getBytes 28 [(.aload_n 0, 0)] = true ∧ lIa m_ST_getBytes 29 (.getfield 9) 3 = true ∧ lSa m_ST_getBytes 32 [(.iconst 0, nI 0), (.aload_n 1, 0), (.iload_n 2, 0), (.aload_n 0, 0)] = true ∧ lIa m_ST_getBytes 36 (.getfield 9) 3 = true ∧ lIa m_ST_getBytes 39 (.arraylength) 1 = true := by decide +kernel
  refine lA8 hdd (fun dd0 dd1 dd2 dd3 dd4 dd5 dd6 dd7 hdd => ?_)
  refine lA8 hdd (fun dd8 dd9 dd10 dd11 dd12 dd13 dd14 dd15 hdd => ?_)
  have dd16 := hdd
  refine gMet.of (by decide +kernel) (Nat.le_of_ble_eq_true rfl) [some (.ref a0), some (.ref a1), some (.int a2), some (.int a3)] (fun ls h => zEn_ok (n := 4) h) ?_
  intro o Gf h
  unfold f_ST_getBytes at h
  refine Y.blk (pc' := 1) (L' := [some (.ref a0), some (.ref a1), some (.int a2), some (.int a3)]) (st' := [.ref a0]) (sg := [(.aload_n 0, 0)]) (lSa_ok dd0) rfl ?_
  obtain ⟨_, o2, e1, m3, h⟩ := gOb_inv h
  refine Y.callI (yC.Vi (b := a0) (As := []) (st := []) (r := ("java/lang/String", T_ST, 4)) hV.1.1 cb_ST_coder lk_ST_335 in_ST_coder rfl se_ST_coder (lIa_ok dd1) rfl rfl (Nat.le_of_ble_eq_true rfl) (by decide) e1 m3) (k_ST_coder hV G a0) h (fun v5 G4 _ h => ?_)
  refine Y.blk (pc' := 5) (L' := [some (.ref a0), some (.ref a1), some (.int a2), some (.int a3)]) (st' := [.int a3, .int v5]) (sg := [(.iload_n 3, 0)]) (lSa_ok dd2) rfl ?_
  refine Y.ic_ne (off := 23) (tgt := 28) (lIa_ok dd3) (by decide) h (fun c13 h => ?_) (fun c13 h => ?_)
  · refine Y.blk (pc' := 9) (L' := [some (.ref a0), some (.ref a1), some (.int a2), some (.int a3)]) (st' := [.ref a0]) (sg := [(.aload_n 0, 0)]) (lSa_ok dd4) rfl ?_
    refine Y.getA fl_ST_9 (lIa_ok dd5) h (fun v6 h => ?_)
    refine Y.blk (pc' := 18) (L' := [some (.ref a0), some (.ref a1), some (.int a2), some (.int a3)]) (st' := [.ref a0, .int (a2 <<< (a3 &&& 31)), .ref a1, .int (nI 0), .ref v6]) (sg := [(.iconst 0, nI 0), (.aload_n 1, 0), (.iload_n 2, 0), (.iload_n 3, 0), (.ishl, 0), (.aload_n 0, 0)]) (lSa_ok dd6) rfl ?_
    refine Y.getA fl_ST_9 (lIa_ok dd7) h (fun v7 h => ?_)
    refine Y.alen (t0 := 1) (lIa_ok dd8) rfl h (fun v8 h => ?_)
    refine Y.copyB (t0 := 1) lk_ST_212 nat_copy st_copy ini_SY (by decide) rfl (Nat.le_of_ble_eq_true rfl) (lIa_ok dd9) rfl h (fun G9 _ _ h => ?_)
    refine Y.goto (off := 18) (tgt := 43) (lIa_ok dd10) (by decide) ?_
    exact Y.vret rfl (lIa_ok dd11) h
  · refine Y.blk (pc' := 29) (L' := [some (.ref a0), some (.ref a1), some (.int a2), some (.int a3)]) (st' := [.ref a0]) (sg := [(.aload_n 0, 0)]) (lSa_ok dd12) rfl ?_
    refine Y.getA fl_ST_9 (lIa_ok dd13) h (fun v10 h => ?_)
    refine Y.blk (pc' := 36) (L' := [some (.ref a0), some (.ref a1), some (.int a2), some (.int a3)]) (st' := [.ref a0, .int a2, .ref a1, .int (nI 0), .ref v10]) (sg := [(.iconst 0, nI 0), (.aload_n 1, 0), (.iload_n 2, 0), (.aload_n 0, 0)]) (lSa_ok dd14) rfl ?_
    refine Y.getA fl_ST_9 (lIa_ok dd15) h (fun v11 h => ?_)
    refine Y.alen (t0 := 1) (lIa_ok dd16) rfl h (fun v12 h => ?_)
    cases h

def f_AB_putStringAt (w : Nat → Nat) (G : gH) (a0 : Nat) (a1 : Int32) (a2 : Nat) : gR :=
  gOb G a0 10 fun o2 => bV (f_AB_inflateIfNeededFor w G a0 a2) fun G4 => gFA G4 a0 10 0 fun v5 => gFI G4 a0 10 1 fun v6 => gOb G4 a2 8 fun o8 => bV (f_ST_getBytes w G4 a2 v5 a1 v6) fun G10 => rV G10
theorem k_AB_putStringAt {l : Launch} {D : va_G} {B : Nat} {O : State → Heap → Prop} {w : Nat → Nat} (hV : zGw l D B O w) (G : gH) (a0 : Nat) (a1 : Int32) (a2 : Nat) : gMet (zVm l D B O) m_AB_putStringAt 4 [.ref a0, .int a1, .ref a2] G (f_AB_putStringAt w G a0 a1 a2) := by
  have hdd : lSa m_AB_putStringAt 0 [(.aload_n 0, 0), (.aload_n 2, 0)] = true ∧ lIa m_AB_putStringAt 2 (.invokevirtual 397) 3 = true ∧ lSa m_AB_putStringAt 5 [(.aload_n 2, 0), (.aload_n 0, 0)] = true ∧ lIa m_AB_putStringAt 7 (.getfield 15) 3 = true ∧ lSa m_AB_putStringAt 10 [(.iload_n 1, 0), (.aload_n 0, 0)] = true ∧ lIa m_AB_putStringAt 12 (.getfield 22) 3 = true ∧ lIa m_AB_putStringAt 15 (.invokevirtual 399) 3 = true ∧ lIa m_AB_putStringAt 18 (.return_) 1 = true := by decide +kernel
  obtain ⟨dd0, dd1, dd2, dd3, dd4, dd5, dd6, dd7⟩ := hdd
  refine gMet.of (by decide +kernel) (Nat.le_of_ble_eq_true rfl) [some (.ref a0), some (.int a1), some (.ref a2)] (fun ls h => zEn_ok (n := 3) h) ?_
  intro o Gf h
  unfold f_AB_putStringAt at h
  refine Y.blk (pc' := 2) (L' := [some (.ref a0), some (.int a1), some (.ref a2)]) (st' := [.ref a2, .ref a0]) (sg := [(.aload_n 0, 0), (.aload_n 2, 0)]) (lSa_ok dd0) rfl ?_
  obtain ⟨_, o2, e1, m3, h⟩ := gOb_inv h
  refine Y.callN (yC.Vi (b := a0) (As := [.ref a2]) (st := []) (r := ("java/lang/StringBuilder", T_SB, 4)) hV.1.1 cb_AB_inflateIfNeededFor lk_AB_397 in_AB_inflateIfNeededFor rfl seSB_AB_inflateIfNeededFor (lIa_ok dd1) rfl rfl (Nat.le_of_ble_eq_true rfl) (by decide) e1 m3) (k_AB_inflateIfNeededFor hV G a0 a2) h (fun G4 _ h => ?_)
  refine Y.blk (pc' := 7) (L' := [some (.ref a0), some (.int a1), some (.ref a2)]) (st' := [.ref a0, .ref a2]) (sg := [(.aload_n 2, 0), (.aload_n 0, 0)]) (lSa_ok dd2) rfl ?_
  refine Y.getA fl_AB_15 (lIa_ok dd3) h (fun v5 h => ?_)
  refine Y.blk (pc' := 12) (L' := [some (.ref a0), some (.int a1), some (.ref a2)]) (st' := [.ref a0, .int a1, .ref v5, .ref a2]) (sg := [(.iload_n 1, 0), (.aload_n 0, 0)]) (lSa_ok dd4) rfl ?_
  refine Y.getI fl_AB_22 (lIa_ok dd5) h (fun v6 h => ?_)
  obtain ⟨_, o8, e7, m9, h⟩ := gOb_inv h
  refine Y.callN (yC.Vi (b := a2) (As := [.ref v5, .int a1, .int v6]) (st := []) (r := ("java/lang/String", T_ST, 4)) hV.1.1 cb_ST_getBytes lk_AB_399 in_ST_getBytes rfl se_ST_getBytes (lIa_ok dd6) rfl rfl (Nat.le_of_ble_eq_true rfl) (by decide) e7 m9) (k_ST_getBytes hV G4 a2 v5 a1 v6) h (fun G10 _ h => ?_)
  exact Y.vret rfl (lIa_ok dd7) h

def f_ST_length (w : Nat → Nat) (G : gH) (a0 : Nat) : gR :=
  gFA G a0 8 0 fun v1 => gLen G v1 101 fun v2 => gOb G a0 8 fun o4 => bI (f_ST_coder w G a0) fun v7 G6 => rI (v2 >>> (v7 &&& 31)) G6
theorem k_ST_length {l : Launch} {D : va_G} {B : Nat} {O : State → Heap → Prop} {w : Nat → Nat} (hV : zGw l D B O w) (G : gH) (a0 : Nat) : gMet (zVm l D B O) m_ST_length 3 [.ref a0] G (f_ST_length w G a0) := by
  have hdd : lSa m_ST_length 0 [(.aload_n 0, 0)] = true ∧ lIa m_ST_length 1 (.getfield 9) 3 = true ∧ lIa m_ST_length 4 (.arraylength) 1 = true ∧ lSa m_ST_length 5 [(.aload_n 0, 0)] = true ∧ lIa m_ST_length 6 (.invokevirtual 335) 3 = true ∧ lSa m_ST_length 9 [(.ishr, 0)] = true ∧ lIa m_ST_length 10 (.ireturn) 1 = true := by decide +kernel
  obtain ⟨dd0, dd1, dd2, dd3, dd4, dd5, dd6⟩ := hdd
  refine gMet.of (by decide +kernel) (Nat.le_of_ble_eq_true rfl) [some (.ref a0)] (fun ls h => zEn_ok (n := 1) h) ?_
  intro o Gf h
  unfold f_ST_length at h
  refine Y.blk (pc' := 1) (L' := [some (.ref a0)]) (st' := [.ref a0]) (sg := [(.aload_n 0, 0)]) (lSa_ok dd0) rfl ?_
  refine Y.getA fl_ST_9 (lIa_ok dd1) h (fun v1 h => ?_)
  refine Y.alen (t0 := 1) (lIa_ok dd2) rfl h (fun v2 h => ?_)
  refine Y.blk (pc' := 6) (L' := [some (.ref a0)]) (st' := [.ref a0, .int v2]) (sg := [(.aload_n 0, 0)]) (lSa_ok dd3) rfl ?_
  obtain ⟨_, o4, e3, m5, h⟩ := gOb_inv h
  refine Y.callI (yC.Vi (b := a0) (As := []) (st := [.int v2]) (r := ("java/lang/String", T_ST, 4)) hV.1.1 cb_ST_coder lk_ST_335 in_ST_coder rfl se_ST_coder (lIa_ok dd4) rfl rfl (Nat.le_of_ble_eq_true rfl) (by decide) e3 m5) (k_ST_coder hV G a0) h (fun v7 G6 _ h => ?_)
  refine Y.blk (pc' := 10) (L' := [some (.ref a0)]) (st' := [.int (v2 >>> (v7 &&& 31))]) (sg := [(.ishr, 0)]) (lSa_ok dd5) rfl ?_
  exact Y.iret rfl (lIa_ok dd6) h
end
section
def f_AB_append3 (w : Nat → Nat) (G : gH) (a0 : Nat) (a1 : Nat) : gR :=
  gOb G a1 8 fun o2 => bI (f_ST_length w G a1) fun v5 G4 => gFI G4 a0 10 3 fun v6 => gOb G4 a0 10 fun o8 => bV (f_AB_ensureCapacityInternal G4 a0 (v6 + v5)) fun G10 => gFI G10 a0 10 3 fun v11 => gOb G10 a0 10 fun o13 => bV (f_AB_putStringAt w G10 a0 v11 a1) fun G15 => gFI G15 a0 10 3 fun v16 => gPut G15 a0 10 3 (.int (v16 + v5)) fun G17 => rA a0 G17
theorem k_AB_append3 {l : Launch} {D : va_G} {B : Nat} {O : State → Heap → Prop} {w : Nat → Nat} (hV : zGw l D B O w) (G : gH) (a0 : Nat) (a1 : Nat) : gMet (zVm l D B O) m_AB_append3 5 [.ref a0, .ref a1] G (f_AB_append3 w G a0 a1) := by
  have hdd : lSa m_AB_append3 0 [(.aload_n 1, 0)] = true ∧ lIa m_AB_append3 1 (.ifnonnull 8) 3 = true ∧ lSa m_AB_append3 9 [(.aload_n 1, 0)] = true ∧ lIa m_AB_append3 10 (.invokevirtual 32) 3 = true ∧ lSa m_AB_append3 13 [(.istore_n 2, 0), (.aload_n 0, 0), (.aload_n 0, 0)] = true ∧ lIa m_AB_append3 16 (.getfield 79) 3 = true ∧ lSa m_AB_append3 19 [(.iload_n 2, 0), (.iadd, 0)] = true ∧ lIa m_AB_append3 21 (.invokevirtual 100) 3 = true ∧ lSa m_AB_append3 24 [(.aload_n 0, 0), (.aload_n 0, 0)] = true ∧ lIa m_AB_append3 26 (.getfield 79) 3 = true ∧ lSa m_AB_append3 29 [(.aload_n 1, 0)] = true ∧ lIa m_AB_append3 30 (.invokevirtual 208) 3 = true ∧ lSa m_AB_append3 33 [(.aload_n 0, 0), (.dup, 0)] = true ∧ lIa m_AB_append3 35 (.getfield 79) 3 = true ∧ lSa m_AB_append3 38 [(.iload_n 2, 0), (.iadd, 0)] = true ∧ lIa m_AB_append3 40 (.putfield 79) 3 = true ∧ lSa m_AB_append3 43 [(.aload_n 0, 0)] = true ∧ lIa m_AB_append3 44 (.areturn) 1 = true := by decide +kernel
  refine lA8 hdd (fun dd0 dd1 dd2 dd3 dd4 dd5 dd6 dd7 hdd => ?_)
  refine lA8 hdd (fun dd8 dd9 dd10 dd11 dd12 dd13 dd14 dd15 hdd => ?_)
  obtain ⟨dd16, dd17⟩ := hdd
  refine gMet.of (by decide +kernel) (Nat.le_of_ble_eq_true rfl) [some (.ref a0), some (.ref a1), none] (fun ls h => zEn_ok (n := 3) h) ?_
  intro o Gf h
  unfold f_AB_append3 at h
  refine Y.blk (pc' := 1) (L' := [some (.ref a0), some (.ref a1), none]) (st' := [.ref a1]) (sg := [(.aload_n 1, 0)]) (lSa_ok dd0) rfl ?_
  refine Y.ifnonnull_r (off := 8) (tgt := 9) (lIa_ok dd1) (by decide) ?_
  refine Y.blk (pc' := 10) (L' := [some (.ref a0), some (.ref a1), none]) (st' := [.ref a1]) (sg := [(.aload_n 1, 0)]) (lSa_ok dd2) rfl ?_
  obtain ⟨_, o2, e1, m3, h⟩ := gOb_inv h
  refine Y.callI (yC.Vi (b := a1) (As := []) (st := []) (r := ("java/lang/String", T_ST, 4)) hV.1.1 cb_ST_length lk_AB_32 in_ST_length rfl se_ST_length (lIa_ok dd3) rfl rfl (Nat.le_of_ble_eq_true rfl) (by decide) e1 m3) (k_ST_length hV G a1) h (fun v5 G4 _ h => ?_)
  refine Y.blk (pc' := 16) (L' := [some (.ref a0), some (.ref a1), some (.int v5)]) (st' := [.ref a0, .ref a0]) (sg := [(.istore_n 2, 0), (.aload_n 0, 0), (.aload_n 0, 0)]) (lSa_ok dd4) rfl ?_
  refine Y.getI fl_AB_79 (lIa_ok dd5) h (fun v6 h => ?_)
  refine Y.blk (pc' := 21) (L' := [some (.ref a0), some (.ref a1), some (.int v5)]) (st' := [.int (v6 + v5), .ref a0]) (sg := [(.iload_n 2, 0), (.iadd, 0)]) (lSa_ok dd6) rfl ?_
  obtain ⟨_, o8, e7, m9, h⟩ := gOb_inv h
  refine Y.callN (yC.Vi (b := a0) (As := [.int (v6 + v5)]) (st := []) (r := ("java/lang/StringBuilder", T_SB, 4)) hV.1.1 cb_AB_ensureCapacityInternal lk_AB_100 in_AB_ensureCapacityInternal rfl seSB_AB_ensureCapacityInternal (lIa_ok dd7) rfl rfl (Nat.le_of_ble_eq_true rfl) (by decide) e7 m9) (k_AB_ensureCapacityInternal hV.1 G4 a0 (v6 + v5)) h (fun G10 _ h => ?_)
  refine Y.blk (pc' := 26) (L' := [some (.ref a0), some (.ref a1), some (.int v5)]) (st' := [.ref a0, .ref a0]) (sg := [(.aload_n 0, 0), (.aload_n 0, 0)]) (lSa_ok dd8) rfl ?_
  refine Y.getI fl_AB_79 (lIa_ok dd9) h (fun v11 h => ?_)
  refine Y.blk (pc' := 30) (L' := [some (.ref a0), some (.ref a1), some (.int v5)]) (st' := [.ref a1, .int v11, .ref a0]) (sg := [(.aload_n 1, 0)]) (lSa_ok dd10) rfl ?_
  obtain ⟨_, o13, e12, m14, h⟩ := gOb_inv h
  refine Y.callN (yC.Vi (b := a0) (As := [.int v11, .ref a1]) (st := []) (r := ("java/lang/StringBuilder", T_SB, 4)) hV.1.1 cb_AB_putStringAt lk_AB_208 in_AB_putStringAt rfl seSB_AB_putStringAt (lIa_ok dd11) rfl rfl (Nat.le_of_ble_eq_true rfl) (by decide) e12 m14) (k_AB_putStringAt hV G10 a0 v11 a1) h (fun G15 _ h => ?_)
  refine Y.blk (pc' := 35) (L' := [some (.ref a0), some (.ref a1), some (.int v5)]) (st' := [.ref a0, .ref a0]) (sg := [(.aload_n 0, 0), (.dup, 0)]) (lSa_ok dd12) rfl ?_
  refine Y.getI fl_AB_79 (lIa_ok dd13) h (fun v16 h => ?_)
  refine Y.blk (pc' := 40) (L' := [some (.ref a0), some (.ref a1), some (.int v5)]) (st' := [.int (v16 + v5), .ref a0]) (sg := [(.iload_n 2, 0), (.iadd, 0)]) (lSa_ok dd14) rfl ?_
  refine Y.putf fl_AB_79 (by decide) rfl rfl (lIa_ok dd15) h (fun G17 _ _ h => ?_)
  refine Y.blk (pc' := 44) (L' := [some (.ref a0), some (.ref a1), some (.int v5)]) (st' := [.ref a0]) (sg := [(.aload_n 0, 0)]) (lSa_ok dd16) rfl ?_
  exact Y.aret rfl (by first | exact Or.inl ⟨_, rfl⟩ | exact Or.inr ⟨_, rfl⟩) (lIa_ok dd17) h

def f_SB_append3 (w : Nat → Nat) (G : gH) (a0 : Nat) (a1 : Nat) : gR :=
  gOb G a0 10 fun o2 => bA (f_AB_append3 w G a0 a1) fun v5 G4 => rA a0 G4
theorem k_SB_append3 {l : Launch} {D : va_G} {B : Nat} {O : State → Heap → Prop} {w : Nat → Nat} (hV : zGw l D B O w) (G : gH) (a0 : Nat) (a1 : Nat) : gMet (zVm l D B O) m_SB_append3 6 [.ref a0, .ref a1] G (f_SB_append3 w G a0 a1) := by
  have hdd : lSa m_SB_append3 0 [(.aload_n 0, 0), (.aload_n 1, 0)] = true ∧ lIa m_SB_append3 2 (.invokespecial 29) 3 = true ∧ lSa m_SB_append3 5 [(.pop, 0), (.aload_n 0, 0)] = true ∧ lIa m_SB_append3 7 (.areturn) 1 = true := by decide +kernel
  obtain ⟨dd0, dd1, dd2, dd3⟩ := hdd
  refine gMet.of (by decide +kernel) (Nat.le_of_ble_eq_true rfl) [some (.ref a0), some (.ref a1)] (fun ls h => zEn_ok (n := 2) h) ?_
  intro o Gf h
  unfold f_SB_append3 at h
  refine Y.blk (pc' := 2) (L' := [some (.ref a0), some (.ref a1)]) (st' := [.ref a1, .ref a0]) (sg := [(.aload_n 0, 0), (.aload_n 1, 0)]) (lSa_ok dd0) rfl ?_
  obtain ⟨_, o2, e1, m3, h⟩ := gOb_inv h
  refine Y.callA (yC.SU (b := a0) (As := [.ref a1]) (st := []) (r := ("java/lang/StringBuilder", T_SB, 4)) hV.1.1 cb_AB_append3 lk_SB_29 sm_AB_append3 su_SB_AB in_AB_append3 (by decide) rfl (lIa_ok dd1) rfl rfl (Nat.le_of_ble_eq_true rfl) (by decide) e1 m3) (k_AB_append3 hV G a0 a1) h (fun v5 G4 _ h => ?_)
  refine Y.blk (pc' := 7) (L' := [some (.ref a0), some (.ref a1)]) (st' := [.ref a0]) (sg := [(.pop, 0), (.aload_n 0, 0)]) (lSa_ok dd2) rfl ?_
  exact Y.aret rfl (by first | exact Or.inl ⟨_, rfl⟩ | exact Or.inr ⟨_, rfl⟩) (lIa_ok dd3) h

def f_AB_getValue (G : gH) (a0 : Nat) : gR :=
  gFA G a0 10 0 fun v1 => rA v1 G
theorem k_AB_getValue {l : Launch} {D : va_G} {B : Nat} {O : State → Heap → Prop} (hV : zG l D B O) (G : gH) (a0 : Nat) : gMet (zVm l D B O) m_AB_getValue 2 [.ref a0] G (f_AB_getValue G a0) := by
  have hdd : lSa m_AB_getValue 0 [(.aload_n 0, 0)] = true ∧ lIa m_AB_getValue 1 (.getfield 15) 3 = true ∧ lIa m_AB_getValue 4 (.areturn) 1 = true := by decide +kernel
  obtain ⟨dd0, dd1, dd2⟩ := hdd
  refine gMet.of (by decide +kernel) (Nat.le_of_ble_eq_true rfl) [some (.ref a0)] (fun ls h => zEn_ok (n := 1) h) ?_
  intro o Gf h
  unfold f_AB_getValue at h
  refine Y.blk (pc' := 1) (L' := [some (.ref a0)]) (st' := [.ref a0]) (sg := [(.aload_n 0, 0)]) (lSa_ok dd0) rfl ?_
  refine Y.getA fl_AB_15 (lIa_ok dd1) h (fun v1 h => ?_)
  exact Y.aret rfl (by first | exact Or.inl ⟨_, rfl⟩ | exact Or.inr ⟨_, rfl⟩) (lIa_ok dd2) h

def f_AR_checkLength (w : Nat → Nat) (G : gH) (a0 : Int32) (a1 : Int32) : gR :=
  if a0 ≤ a1 then rV G
  else none
theorem k_AR_checkLength {l : Launch} {D : va_G} {B : Nat} {O : State → Heap → Prop} {w : Nat → Nat} (hV : zGw l D B O w) (G : gH) (a0 : Int32) (a1 : Int32) : gMet (zVm l D B O) m_AR_checkLength 2 [.int a0, .int a1] G (f_AR_checkLength w G a0 a1) := by
  have hdd : lSa m_AR_checkLength 0 [(.iload_n 1, 0), (.iload_n 0, 0)] = true ∧ lIa m_AR_checkLength 2 (.if_icmp .ge 35) 3 = true ∧ lIa m_AR_checkLength 37 (.return_) 1 = true := by decide +kernel
  obtain ⟨dd0, dd1, dd2⟩ := hdd
  refine gMet.of (by decide +kernel) (Nat.le_of_ble_eq_true rfl) [some (.int a0), some (.int a1)] (fun ls h => zEn_ok (n := 2) h) ?_
  intro o Gf h
  unfold f_AR_checkLength at h
  refine Y.blk (pc' := 2) (L' := [some (.int a0), some (.int a1)]) (st' := [.int a0, .int a1]) (sg := [(.iload_n 1, 0), (.iload_n 0, 0)]) (lSa_ok dd0) rfl ?_
  refine Y.ic_ge (off := 35) (tgt := 37) (lIa_ok dd1) (by decide) h (fun c1 h => ?_) (fun c1 h => ?_)
  · exact Y.vret rfl (lIa_ok dd2) h
  · cases h

def f_AR_copyOfRangeByte (w : Nat → Nat) (G : gH) (a0 : Nat) (a1 : Int32) (a2 : Int32) : gR :=
  bV (f_AR_checkLength w G a1 a2) fun G2 => gNewA G2 101 (a2 - a1) fun q3 G4 => gLen G4 a0 101 fun v5 => gCpB G4 a0 a1 q3 (nI 0) (if (a2 - a1) < (v5 - a1) then (a2 - a1) else (v5 - a1)) fun G6 => rA q3 G6
theorem k_AR_copyOfRangeByte {l : Launch} {D : va_G} {B : Nat} {O : State → Heap → Prop} {w : Nat → Nat} (hV : zGw l D B O w) (G : gH) (a0 : Nat) (a1 : Int32) (a2 : Int32) : gMet (zVm l D B O) m_AR_copyOfRangeByte 3 [.ref a0, .int a1, .int a2] G (f_AR_copyOfRangeByte w G a0 a1 a2) := by
  have hdd : lSa m_AR_copyOfRangeByte 0 [(.iload_n 1, 0), (.iload_n 2, 0)] = true ∧ lIa m_AR_copyOfRangeByte 2 (.invokestatic 343) 3 = true ∧ lSa m_AR_copyOfRangeByte 5 [(.iload_n 2, 0), (.iload_n 1, 0), (.isub, 0), (.istore_n 3, 0), (.iload_n 3, 0)] = true ∧ lSa m_AR_copyOfRangeByte 12 [(.astore 4, 0), (.aload_n 0, 0), (.iload_n 1, 0), (.aload 4, 0), (.iconst 0, nI 0), (.aload_n 0, 0)] = true ∧ lIa m_AR_copyOfRangeByte 20 (.arraylength) 1 = true ∧ lSa m_AR_copyOfRangeByte 21 [(.iload_n 1, 0), (.isub, 0), (.iload_n 3, 0)] = true ∧ lIa m_AR_copyOfRangeByte 24 (.invokestatic 304) 3 = true ∧ lIa m_AR_copyOfRangeByte 27 (.invokestatic 150) 3 = true ∧ lSa m_AR_copyOfRangeByte 30 [(.aload 4, 0)] = true ∧ lIa m_AR_copyOfRangeByte 32 (.areturn) 1 = true := by decide +kernel
  refine lA8 hdd (fun dd0 dd1 dd2 dd3 dd4 dd5 dd6 dd7 hdd => ?_)
  obtain ⟨dd8, dd9⟩ := hdd
  refine gMet.of (by decide +kernel) (Nat.le_of_ble_eq_true rfl) [some (.ref a0), some (.int a1), some (.int a2), none, none] (fun ls h => zEn_ok (n := 5) h) ?_
  intro o Gf h
  unfold f_AR_copyOfRangeByte at h
  refine Y.blk (pc' := 2) (L' := [some (.ref a0), some (.int a1), some (.int a2), none, none]) (st' := [.int a2, .int a1]) (sg := [(.iload_n 1, 0), (.iload_n 2, 0)]) (lSa_ok dd0) rfl ?_
  refine Y.callN (yC.S (As := [.int a1, .int a2]) (st := []) hV.1.1 cb_AR_checkLength lk_AR_343 st_AR_checkLength (lIa_ok dd1) rfl rfl (Nat.le_of_ble_eq_true rfl) (by decide)) (k_AR_checkLength hV G a1 a2) h (fun G2 _ h => ?_)
  refine Y.blk (pc' := 10) (L' := [some (.ref a0), some (.int a1), some (.int a2), some (.int (a2 - a1)), none]) (st' := [.int (a2 - a1)]) (sg := [(.iload_n 2, 0), (.iload_n 1, 0), (.isub, 0), (.istore_n 3, 0), (.iload_n 3, 0)]) (lSa_ok dd2) rfl ?_
  refine Y.newa (at_ := .byte) (t0 := 1) ac_b rfl (by decide) rfl (by decide) (by decide +kernel) h (fun q3 G4 h => ?_)
  refine Y.blk (pc' := 20) (L' := [some (.ref a0), some (.int a1), some (.int a2), some (.int (a2 - a1)), some (.ref q3)]) (st' := [.ref a0, .int (nI 0), .ref q3, .int a1, .ref a0]) (sg := [(.astore 4, 0), (.aload_n 0, 0), (.iload_n 1, 0), (.aload 4, 0), (.iconst 0, nI 0), (.aload_n 0, 0)]) (lSa_ok dd3) rfl ?_
  refine Y.alen (t0 := 1) (lIa_ok dd4) rfl h (fun v5 h => ?_)
  refine Y.blk (pc' := 24) (L' := [some (.ref a0), some (.int a1), some (.int a2), some (.int (a2 - a1)), some (.ref q3)]) (st' := [.int (a2 - a1), .int (v5 - a1), .int (nI 0), .ref q3, .int a1, .ref a0]) (sg := [(.iload_n 1, 0), (.isub, 0), (.iload_n 3, 0)]) (lSa_ok dd5) rfl ?_
  refine Y.mmin lk_AR_304 st_MA_min ini_MA cb_MA_min.1 (by decide) rfl (Nat.le_of_ble_eq_true rfl) (lIa_ok dd6) ?_
  refine Y.copyB (t0 := 1) lk_AR_150 nat_copy st_copy ini_SY (by decide) rfl (Nat.le_of_ble_eq_true rfl) (lIa_ok dd7) rfl h (fun G6 _ _ h => ?_)
  refine Y.blk (pc' := 32) (L' := [some (.ref a0), some (.int a1), some (.int a2), some (.int (a2 - a1)), some (.ref q3)]) (st' := [.ref q3]) (sg := [(.aload 4, 0)]) (lSa_ok dd8) rfl ?_
  exact Y.aret rfl (by first | exact Or.inl ⟨_, rfl⟩ | exact Or.inr ⟨_, rfl⟩) (lIa_ok dd9) h

def f_AR_copyOfRange (w : Nat → Nat) (G : gH) (a0 : Nat) (a1 : Int32) (a2 : Int32) : gR :=
  if a1 = 0 then (gLen G a0 101 fun v1 => if a2 = v1 then gClB G a0 fun q2 G3 => gCaA G3 q2 101 (rA q2 G3)
    else bA (f_AR_copyOfRangeByte w G a0 a1 a2) fun v6 G5 => rA v6 G5)
  else bA (f_AR_copyOfRangeByte w G a0 a1 a2) fun v10 G9 => rA v10 G9
theorem k_AR_copyOfRange {l : Launch} {D : va_G} {B : Nat} {O : State → Heap → Prop} {w : Nat → Nat} (hV : zGw l D B O w) (G : gH) (a0 : Nat) (a1 : Int32) (a2 : Int32) : gMet (zVm l D B O) m_AR_copyOfRange 4 [.ref a0, .int a1, .int a2] G (f_AR_copyOfRange w G a0 a1 a2) := by
  have hdd : lSa m_AR_copyOfRange 0 [(.iload_n 1, 0)] = true ∧ lIa m_AR_copyOfRange 1 (.ifCond .ne 9) 3 = true ∧ lSa m_AR_copyOfRange 4 [(.iload_n 2, 0), (.aload_n 0, 0)] = true ∧ lIa m_AR_copyOfRange 6 (.arraylength) 1 = true ∧ lIa m_AR_copyOfRange 7 (.if_icmp .eq 10) 3 = true ∧ lSa m_AR_copyOfRange 17 [(.aload_n 0, 0)] = true ∧ lIa m_AR_copyOfRange 18 (.invokevirtual 310) 3 = true ∧ lIa m_AR_copyOfRange 21 (.checkcast 311) 3 = true ∧ lIa m_AR_copyOfRange 24 (.areturn) 1 = true ∧ lSa m_AR_copyOfRange 10 [(.aload_n 0, 0), (.iload_n 1, 0), (.iload_n 2, 0)] = true ∧ lIa m_AR_copyOfRange 13 (.invokestatic 339) 3 = true ∧ lIa m_AR_copyOfRange 16 (.areturn) 1 = true := by decide +kernel
  refine lA8 hdd (fun dd0 dd1 dd2 dd3 dd4 dd5 dd6 dd7 hdd => ?_)
  obtain ⟨dd8, dd9, dd10, dd11⟩ := hdd
  refine gMet.of (by decide +kernel) (Nat.le_of_ble_eq_true rfl) [some (.ref a0), some (.int a1), some (.int a2)] (fun ls h => zEn_ok (n := 3) h) ?_
  intro o Gf h
  unfold f_AR_copyOfRange at h
  refine Y.blk (pc' := 1) (L' := [some (.ref a0), some (.int a1), some (.int a2)]) (st' := [.int a1]) (sg := [(.iload_n 1, 0)]) (lSa_ok dd0) rfl ?_
  refine Y.if_ne (off := 9) (tgt := 10) (lIa_ok dd1) (by decide) h (fun c11 h => ?_) (fun c11 h => ?_)
  · refine Y.blk (pc' := 6) (L' := [some (.ref a0), some (.int a1), some (.int a2)]) (st' := [.ref a0, .int a2]) (sg := [(.iload_n 2, 0), (.aload_n 0, 0)]) (lSa_ok dd2) rfl ?_
    refine Y.alen (t0 := 1) (lIa_ok dd3) rfl h (fun v1 h => ?_)
    refine Y.ic_eq (off := 10) (tgt := 17) (lIa_ok dd4) (by decide) h (fun c7 h => ?_) (fun c7 h => ?_)
    · refine Y.blk (pc' := 18) (L' := [some (.ref a0), some (.int a1), some (.int a2)]) (st' := [.ref a0]) (sg := [(.aload_n 0, 0)]) (lSa_ok dd5) rfl ?_
      refine Y.cloneB (t0 := 1) lk_clone rfl (by decide) rfl (Nat.le_of_ble_eq_true rfl) (lIa_ok dd6) h (fun q2 G3 h => ?_)
      refine Y.castA (t0 := 1) (nm := "[B") (lIa_ok dd7) rfl (by decide) ck_AR_311 h (fun h => ?_)
      exact Y.aret rfl (by first | exact Or.inl ⟨_, rfl⟩ | exact Or.inr ⟨_, rfl⟩) (lIa_ok dd8) h
    · refine Y.blk (pc' := 13) (L' := [some (.ref a0), some (.int a1), some (.int a2)]) (st' := [.int a2, .int a1, .ref a0]) (sg := [(.aload_n 0, 0), (.iload_n 1, 0), (.iload_n 2, 0)]) (lSa_ok dd9) rfl ?_
      refine Y.callA (yC.S (As := [.ref a0, .int a1, .int a2]) (st := []) hV.1.1 cb_AR_copyOfRangeByte lk_AR_339 st_AR_copyOfRangeByte (lIa_ok dd10) rfl rfl (Nat.le_of_ble_eq_true rfl) (by decide)) (k_AR_copyOfRangeByte hV G a0 a1 a2) h (fun v6 G5 _ h => ?_)
      exact Y.aret rfl (by first | exact Or.inl ⟨_, rfl⟩ | exact Or.inr ⟨_, rfl⟩) (lIa_ok dd11) h
  · refine Y.blk (pc' := 13) (L' := [some (.ref a0), some (.int a1), some (.int a2)]) (st' := [.int a2, .int a1, .ref a0]) (sg := [(.aload_n 0, 0), (.iload_n 1, 0), (.iload_n 2, 0)]) (lSa_ok dd9) rfl ?_
    refine Y.callA (yC.S (As := [.ref a0, .int a1, .int a2]) (st := []) hV.1.1 cb_AR_copyOfRangeByte lk_AR_339 st_AR_copyOfRangeByte (lIa_ok dd10) rfl rfl (Nat.le_of_ble_eq_true rfl) (by decide)) (k_AR_copyOfRangeByte hV G a0 a1 a2) h (fun v10 G9 _ h => ?_)
    exact Y.aret rfl (by first | exact Or.inl ⟨_, rfl⟩ | exact Or.inr ⟨_, rfl⟩) (lIa_ok dd11) h

def f_ST_init1 (w : Nat → Nat) (G : gH) (a0 : Nat) (a1 : Nat) : gR :=
  gOb G a1 10 fun o2 => bA (f_AB_getValue G a1) fun v5 G4 => gOb G4 a1 10 fun o7 => bI (f_SB_length G4 a1) fun v10 G9 => gOb G9 a1 10 fun o12 => bI (f_AB_isLatin1 w G9 a1) fun v15 G14 => if v15 = 0 then (if (nI 1) = 0 then gPut G14 a0 8 1 (.int (nI 1)) fun G16 => bA (f_AR_copyOfRange w G16 v5 (nI 0) (v10 <<< ((nI 1) &&& 31))) fun v19 G18 => gPut G18 a0 8 0 (.ref v19) fun G20 => rV G20
    else gFI G14 a1 10 2 fun v21 => if v21 = 0 then gPut G14 a0 8 1 (.int (nI 1)) fun G22 => bA (f_AR_copyOfRange w G22 v5 (nI 0) (v10 <<< ((nI 1) &&& 31))) fun v25 G24 => gPut G24 a0 8 0 (.ref v25) fun G26 => rV G26
      else none)
  else gPut G14 a0 8 1 (.int (nI 0)) fun G29 => bA (f_AR_copyOfRange w G29 v5 (nI 0) v10) fun v32 G31 => gPut G31 a0 8 0 (.ref v32) fun G33 => rV G33
theorem k_ST_init1 {l : Launch} {D : va_G} {B : Nat} {O : State → Heap → Prop} {w : Nat → Nat} (hV : zGw l D B O w) (G : gH) (a0 : Nat) (a1 : Nat) : gMet (zVm l D B O) m_ST_init1 5 [.ref a0, .ref a1, .null] G (f_ST_init1 w G a0 a1) := by
  have hdd : lSa m_ST_init1 0 [(.aload_n 0, 0)] = true ∧ lIa m_ST_init1 1 (.invokespecial 1) 3 = true ∧ lSa m_ST_init1 4 [(.aload_n 1, 0)] = true ∧ lIa m_ST_init1 5 (.invokevirtual 552) 3 = true ∧ lSa m_ST_init1 8 [(.astore_n 3, 0), (.aload_n 1, 0)] = true ∧ lIa m_ST_init1 10 (.invokevirtual 549) 3 = true ∧ lSa m_ST_init1 13 [(.istore 4, 0), (.aload_n 1, 0)] = true ∧ lIa m_ST_init1 16 (.invokevirtual 1047) 3 = true ∧ lIa m_ST_init1 19 (.ifCond .eq 22) 3 = true ∧ lIa m_ST_init1 41 (.getstatic 38) 3 = true ∧ lIa m_ST_init1 44 (.ifCond .eq 35) 3 = true ∧ lSa m_ST_init1 79 [(.aload_n 0, 0), (.iconst 1, nI 1)] = true ∧ lIa m_ST_init1 81 (.putfield 15) 3 = true ∧ lSa m_ST_init1 84 [(.aload_n 0, 0), (.aload_n 3, 0), (.iconst 0, nI 0), (.iload 4, 0), (.iconst 1, nI 1), (.ishl, 0)] = true ∧ lIa m_ST_init1 91 (.invokestatic 54) 3 = true ∧ lIa m_ST_init1 94 (.putfield 9) 3 = true ∧ lIa m_ST_init1 97 (.return_) 1 = true ∧ lSa m_ST_init1 47 [(.aload_n 1, 0)] = true ∧ lIa m_ST_init1 48 (.getfield 1048) 3 = true ∧ lIa m_ST_init1 51 (.ifCond .eq 28) 3 = true ∧ lSa m_ST_init1 54 [(.aload_n 0, 0), (.aload_n 3, 0), (.iconst 0, nI 0), (.iload 4, 0)] = true ∧ lSa m_ST_init1 22 [(.aload_n 0, 0), (.iconst 0, nI 0)] = true ∧ lIa m_ST_init1 24 (.putfield 15) 3 = true ∧ lSa m_ST_init1 27 [(.aload_n 0, 0), (.aload_n 3, 0), (.iconst 0, nI 0), (.iload 4, 0)] = true ∧ lIa m_ST_init1 32 (.invokestatic 54) 3 = true ∧ lIa m_ST_init1 35 (.putfield 9) 3 = true ∧ lIa m_ST_init1 38 (.goto 59) 3 = true := by decide +kernel
  refine lA8 hdd (fun dd0 dd1 dd2 dd3 dd4 dd5 dd6 dd7 hdd => ?_)
  refine lA8 hdd (fun dd8 dd9 dd10 dd11 dd12 dd13 dd14 dd15 hdd => ?_)
  refine lA8 hdd (fun dd16 dd17 dd18 dd19 dd20 dd21 dd22 dd23 hdd => ?_)
  obtain ⟨dd24, dd25, dd26⟩ := hdd
  refine gMet.of (by decide +kernel) (Nat.le_of_ble_eq_true rfl) [some (.ref a0), some (.ref a1), some (.null), none, none] (fun ls h => zEn_ok (n := 5) h) ?_
  intro o Gf h
  unfold f_ST_init1 at h
  refine Y.blk (pc' := 1) (L' := [some (.ref a0), some (.ref a1), some (.null), none, none]) (st' := [.ref a0]) (sg := [(.aload_n 0, 0)]) (lSa_ok dd0) rfl ?_
  refine Y.objInit lk_ST_1 in_OJ_init cw_OJ_init (by decide) rfl (Nat.le_of_ble_eq_true rfl) (lIa_ok dd1) ?_
  refine Y.blk (pc' := 5) (L' := [some (.ref a0), some (.ref a1), some (.null), none, none]) (st' := [.ref a1]) (sg := [(.aload_n 1, 0)]) (lSa_ok dd2) rfl ?_
  obtain ⟨_, o2, e1, m3, h⟩ := gOb_inv h
  refine Y.callA (yC.Vi (b := a1) (As := []) (st := []) (r := ("java/lang/StringBuilder", T_SB, 4)) hV.1.1 cb_AB_getValue lk_ST_552 in_AB_getValue rfl seSB_AB_getValue (lIa_ok dd3) rfl rfl (Nat.le_of_ble_eq_true rfl) (by decide) e1 m3) (k_AB_getValue hV.1 G a1) h (fun v5 G4 _ h => ?_)
  refine Y.blk (pc' := 10) (L' := [some (.ref a0), some (.ref a1), some (.null), some (.ref v5), none]) (st' := [.ref a1]) (sg := [(.astore_n 3, 0), (.aload_n 1, 0)]) (lSa_ok dd4) rfl ?_
  obtain ⟨_, o7, e6, m8, h⟩ := gOb_inv h
  refine Y.callI (yC.U (b := a1) (As := []) (st := []) (r := ("java/lang/StringBuilder", T_SB, 4)) hV.1.1 cb_SB_length lk_ST_549 sm_AB_length in_AB_length cb_AB_length.1 ⟨by decide +kernel, by decide +kernel⟩ (by decide +kernel) in_SB_length rfl sx_SB_length (lIa_ok dd5) rfl rfl (Nat.le_of_ble_eq_true rfl) (by decide) e6 m8) (k_SB_length hV.1 G4 a1) h (fun v10 G9 _ h => ?_)
  refine Y.blk (pc' := 16) (L' := [some (.ref a0), some (.ref a1), some (.null), some (.ref v5), some (.int v10)]) (st' := [.ref a1]) (sg := [(.istore 4, 0), (.aload_n 1, 0)]) (lSa_ok dd6) rfl ?_
  obtain ⟨_, o12, e11, m13, h⟩ := gOb_inv h
  refine Y.callI (yC.Vi (b := a1) (As := []) (st := []) (r := ("java/lang/StringBuilder", T_SB, 4)) hV.1.1 cb_AB_isLatin1 lk_ST_1047 in_AB_isLatin1 rfl seSB_AB_isLatin1 (lIa_ok dd7) rfl rfl (Nat.le_of_ble_eq_true rfl) (by decide) e11 m13) (k_AB_isLatin1 hV G9 a1) h (fun v15 G14 _ h => ?_)
  refine Y.if_eq (off := 22) (tgt := 41) (lIa_ok dd8) (by decide) h (fun c34 h => ?_) (fun c34 h => ?_)
  · refine Y.gets (v := .int (nI 1)) (fun U H h => (hV.2 U H h).2.2.2.1) sf_ST_38 (lIa_ok dd9) ?_
    refine Y.if_eq (off := 35) (tgt := 79) (lIa_ok dd10) (by decide) h (fun c28 h => ?_) (fun c28 h => ?_)
    · refine Y.blk (pc' := 81) (L' := [some (.ref a0), some (.ref a1), some (.null), some (.ref v5), some (.int v10)]) (st' := [.int (nI 1), .ref a0]) (sg := [(.aload_n 0, 0), (.iconst 1, nI 1)]) (lSa_ok dd11) rfl ?_
      refine Y.putF fl_ST_15 rfl (by decide) rfl rfl (lIa_ok dd12) h (fun G16 _ _ h => ?_)
      refine Y.blk (pc' := 91) (L' := [some (.ref a0), some (.ref a1), some (.null), some (.ref v5), some (.int v10)]) (st' := [.int (v10 <<< ((nI 1) &&& 31)), .int (nI 0), .ref v5, .ref a0]) (sg := [(.aload_n 0, 0), (.aload_n 3, 0), (.iconst 0, nI 0), (.iload 4, 0), (.iconst 1, nI 1), (.ishl, 0)]) (lSa_ok dd13) rfl ?_
      refine Y.callA (yC.S (As := [.ref v5, .int (nI 0), .int (v10 <<< ((nI 1) &&& 31))]) (st := [.ref a0]) hV.1.1 cb_AR_copyOfRange lk_ST_54 st_AR_copyOfRange (lIa_ok dd14) rfl rfl (Nat.le_of_ble_eq_true rfl) (by decide)) (k_AR_copyOfRange hV G16 v5 (nI 0) (v10 <<< ((nI 1) &&& 31))) h (fun v19 G18 _ h => ?_)
      refine Y.putF fl_ST_9 rfl (by decide) rfl rfl (lIa_ok dd15) h (fun G20 _ _ h => ?_)
      exact Y.vret rfl (lIa_ok dd16) h
    · refine Y.blk (pc' := 48) (L' := [some (.ref a0), some (.ref a1), some (.null), some (.ref v5), some (.int v10)]) (st' := [.ref a1]) (sg := [(.aload_n 1, 0)]) (lSa_ok dd17) rfl ?_
      refine Y.getI fl_ST_1048 (lIa_ok dd18) h (fun v21 h => ?_)
      refine Y.if_eq (off := 28) (tgt := 79) (lIa_ok dd19) (by decide) h (fun c27 h => ?_) (fun c27 h => ?_)
      · refine Y.blk (pc' := 81) (L' := [some (.ref a0), some (.ref a1), some (.null), some (.ref v5), some (.int v10)]) (st' := [.int (nI 1), .ref a0]) (sg := [(.aload_n 0, 0), (.iconst 1, nI 1)]) (lSa_ok dd11) rfl ?_
        refine Y.putF fl_ST_15 rfl (by decide) rfl rfl (lIa_ok dd12) h (fun G22 _ _ h => ?_)
        refine Y.blk (pc' := 91) (L' := [some (.ref a0), some (.ref a1), some (.null), some (.ref v5), some (.int v10)]) (st' := [.int (v10 <<< ((nI 1) &&& 31)), .int (nI 0), .ref v5, .ref a0]) (sg := [(.aload_n 0, 0), (.aload_n 3, 0), (.iconst 0, nI 0), (.iload 4, 0), (.iconst 1, nI 1), (.ishl, 0)]) (lSa_ok dd13) rfl ?_
        refine Y.callA (yC.S (As := [.ref v5, .int (nI 0), .int (v10 <<< ((nI 1) &&& 31))]) (st := [.ref a0]) hV.1.1 cb_AR_copyOfRange lk_ST_54 st_AR_copyOfRange (lIa_ok dd14) rfl rfl (Nat.le_of_ble_eq_true rfl) (by decide)) (k_AR_copyOfRange hV G22 v5 (nI 0) (v10 <<< ((nI 1) &&& 31))) h (fun v25 G24 _ h => ?_)
        refine Y.putF fl_ST_9 rfl (by decide) rfl rfl (lIa_ok dd15) h (fun G26 _ _ h => ?_)
        exact Y.vret rfl (lIa_ok dd16) h
      · refine Y.blk (pc' := 59) (L' := [some (.ref a0), some (.ref a1), some (.null), some (.ref v5), some (.int v10)]) (st' := [.int v10, .int (nI 0), .ref v5, .ref a0]) (sg := [(.aload_n 0, 0), (.aload_n 3, 0), (.iconst 0, nI 0), (.iload 4, 0)]) (lSa_ok dd20) rfl ?_
        cases h
  · refine Y.blk (pc' := 24) (L' := [some (.ref a0), some (.ref a1), some (.null), some (.ref v5), some (.int v10)]) (st' := [.int (nI 0), .ref a0]) (sg := [(.aload_n 0, 0), (.iconst 0, nI 0)]) (lSa_ok dd21) rfl ?_
    refine Y.putF fl_ST_15 rfl (by decide) rfl rfl (lIa_ok dd22) h (fun G29 _ _ h => ?_)
    refine Y.blk (pc' := 32) (L' := [some (.ref a0), some (.ref a1), some (.null), some (.ref v5), some (.int v10)]) (st' := [.int v10, .int (nI 0), .ref v5, .ref a0]) (sg := [(.aload_n 0, 0), (.aload_n 3, 0), (.iconst 0, nI 0), (.iload 4, 0)]) (lSa_ok dd23) rfl ?_
    refine Y.callA (yC.S (As := [.ref v5, .int (nI 0), .int v10]) (st := [.ref a0]) hV.1.1 cb_AR_copyOfRange lk_ST_54 st_AR_copyOfRange (lIa_ok dd24) rfl rfl (Nat.le_of_ble_eq_true rfl) (by decide)) (k_AR_copyOfRange hV G29 v5 (nI 0) v10) h (fun v32 G31 _ h => ?_)
    refine Y.putF fl_ST_9 rfl (by decide) rfl rfl (lIa_ok dd25) h (fun G33 _ _ h => ?_)
    refine Y.goto (off := 59) (tgt := 97) (lIa_ok dd26) (by decide) ?_
    exact Y.vret rfl (lIa_ok dd16) h

def f_ST_init2 (w : Nat → Nat) (G : gH) (a0 : Nat) (a1 : Nat) : gR :=
  bV (f_ST_init1 w G a0 a1) fun G2 => rV G2
theorem k_ST_init2 {l : Launch} {D : va_G} {B : Nat} {O : State → Heap → Prop} {w : Nat → Nat} (hV : zGw l D B O w) (G : gH) (a0 : Nat) (a1 : Nat) : gMet (zVm l D B O) m_ST_init2 6 [.ref a0, .ref a1] G (f_ST_init2 w G a0 a1) := by
  have hdd : lSa m_ST_init2 0 [(.aload_n 0, 0), (.aload_n 1, 0), (.aconst_null, 0)] = true ∧ lIa m_ST_init2 3 (.invokespecial 489) 3 = true ∧ lIa m_ST_init2 6 (.return_) 1 = true := by decide +kernel
  obtain ⟨dd0, dd1, dd2⟩ := hdd
  refine gMet.of (by decide +kernel) (Nat.le_of_ble_eq_true rfl) [some (.ref a0), some (.ref a1)] (fun ls h => zEn_ok (n := 2) h) ?_
  intro o Gf h
  unfold f_ST_init2 at h
  refine Y.blk (pc' := 3) (L' := [some (.ref a0), some (.ref a1)]) (st' := [.null, .ref a1, .ref a0]) (sg := [(.aload_n 0, 0), (.aload_n 1, 0), (.aconst_null, 0)]) (lSa_ok dd0) rfl ?_
  refine Y.callN (yC.I (b := a0) (As := [.ref a1, .null]) (st := []) hV.1.1 cb_ST_init1 lk_ST_489 in_ST_init1 rfl rfl (lIa_ok dd1) rfl rfl (Nat.le_of_ble_eq_true rfl) (by decide)) (k_ST_init1 hV G a0 a1) h (fun G2 _ h => ?_)
  exact Y.vret rfl (lIa_ok dd2) h

def f_SB_toString (w : Nat → Nat) (G : gH) (a0 : Nat) : gR :=
  gNewO G 8 4 [.null, .int 0, .int 0, .int 0] fun q1 G2 => bV (f_ST_init2 w G2 q1 a0) fun G4 => rA q1 G4
theorem k_SB_toString {l : Launch} {D : va_G} {B : Nat} {O : State → Heap → Prop} {w : Nat → Nat} (hV : zGw l D B O w) (G : gH) (a0 : Nat) : gMet (zVm l D B O) m_SB_toString 7 [.ref a0] G (f_SB_toString w G a0) := by
  have hdd : lIa m_SB_toString 0 (.new 18) 3 = true ∧ lSa m_SB_toString 3 [(.dup, 0), (.aload_n 0, 0)] = true ∧ lIa m_SB_toString 5 (.invokespecial 137) 3 = true ∧ lIa m_SB_toString 8 (.areturn) 1 = true := by decide +kernel
  obtain ⟨dd0, dd1, dd2, dd3⟩ := hdd
  refine gMet.of (by decide +kernel) (Nat.le_of_ble_eq_true rfl) [some (.ref a0)] (fun ls h => zEn_ok (n := 1) h) ?_
  intro o Gf h
  unfold f_SB_toString at h
  refine Y.new nc_SB_18 (by decide) bk_ST (lIa_ok dd0) h (fun q1 G2 h => ?_)
  refine Y.blk (pc' := 5) (L' := [some (.ref a0)]) (st' := [.ref a0, .ref q1, .ref q1]) (sg := [(.dup, 0), (.aload_n 0, 0)]) (lSa_ok dd1) rfl ?_
  refine Y.callN (yC.I (b := q1) (As := [.ref a0]) (st := [.ref q1]) hV.1.1 cb_ST_init2 lk_SB_137 in_ST_init2 rfl rfl (lIa_ok dd2) rfl rfl (Nat.le_of_ble_eq_true rfl) (by decide)) (k_ST_init2 hV G2 q1 a0) h (fun G4 _ h => ?_)
  exact Y.aret rfl (by first | exact Or.inl ⟨_, rfl⟩ | exact Or.inr ⟨_, rfl⟩) (lIa_ok dd3) h

def f_M_textOf_L10 (w : Nat → Nat) (K70 : gH → Nat → Int32 → Nat → gR) : Nat → gH → Nat → Int32 → Nat → Int32 → gR
  | 0, _, _, _, _, _ => none
  | n + 1, G, x0, x1, x2, x3 =>
    gOb G x0 6 fun o6 => bI (f_M_length G x0 x1) fun v9 G8 => if v9 ≤ x3 then K70 G8 x0 x1 x2
    else if x3 = 0 then gOb G8 x2 10 fun o11 => bA (f_SB_append3 w G8 x2 (w 5)) fun v14 G13 => gOb G13 x0 6 fun o16 => bA (f_M_at G13 x0 x1 x3) fun v19 G18 => gLd G18 v19 100 (nI 0) fun v20 => gOb G18 v14 10 fun o22 => bA (f_SB_append2 w G18 v14 v20) fun v25 G24 => gOb G24 v25 10 fun o27 => bA (f_SB_append1 w G24 v25 (nI 46)) fun v30 G29 => gOb G29 x0 6 fun o32 => bA (f_M_at G29 x0 x1 x3) fun v35 G34 => gLd G34 v35 100 (nI 1) fun v36 => gOb G34 v30 10 fun o38 => bA (f_SB_append2 w G34 v30 v36) fun v41 G40 => f_M_textOf_L10 w K70 n G40 x0 x1 x2 (x3 + (nI 1))
      else gOb G8 x2 10 fun o43 => bA (f_SB_append3 w G8 x2 (w 3)) fun v46 G45 => gOb G45 x0 6 fun o48 => bA (f_M_at G45 x0 x1 x3) fun v51 G50 => gLd G50 v51 100 (nI 0) fun v52 => gOb G50 v46 10 fun o54 => bA (f_SB_append2 w G50 v46 v52) fun v57 G56 => gOb G56 v57 10 fun o59 => bA (f_SB_append1 w G56 v57 (nI 46)) fun v62 G61 => gOb G61 x0 6 fun o64 => bA (f_M_at G61 x0 x1 x3) fun v67 G66 => gLd G66 v67 100 (nI 1) fun v68 => gOb G66 v62 10 fun o70 => bA (f_SB_append2 w G66 v62 v68) fun v73 G72 => f_M_textOf_L10 w K70 n G72 x0 x1 x2 (x3 + (nI 1))
def f_M_textOf (w : Nat → Nat) (G : gH) (a0 : Nat) (a1 : Int32) : gR :=
  gNewO G 10 4 [.null, .int 0, .int 0, .int 0] fun q1 G2 => bV (f_SB_init w G2 q1) fun G4 => f_M_textOf_L10 w (fun G79 x76 x77 x78 => gOb G79 x76 6 fun o81 => bI (f_M_length G79 x76 x77) fun v84 G83 => if v84 = 0 then rA (w 7) G83
    else gOb G83 x78 10 fun o86 => bA (f_SB_toString w G83 x78) fun v89 G88 => rA v89 G88) zFu G4 a0 a1 q1 (nI 0)
theorem k_M_textOf_L10 {l : Launch} {D : va_G} {B : Nat} {O : State → Heap → Prop} {w : Nat → Nat} (hV : zGw l D B O w) {o : gO} {Gf : gH} (K70 : gH → Nat → Int32 → Nat → gR) (hK70 : ∀ (G : gH) (x0 : Nat) (x1 : Int32) (x2 : Nat), K70 G x0 x1 x2 = some (o, Gf) → Y (zVm l D B O) m_M_textOf 13 o Gf 70 [some (.ref x0), some (.int x1), some (.ref x2), none] [] G) : ∀ (n : Nat) (G : gH) (x0 : Nat) (x1 : Int32) (x2 : Nat) (x3 : Int32), f_M_textOf_L10 w K70 n G x0 x1 x2 x3 = some (o, Gf) → Y (zVm l D B O) m_M_textOf 13 o Gf 10 [some (.ref x0), some (.int x1), some (.ref x2), some (.int x3)] [] G := by
  have hdd : lSa m_M_textOf 10 [(.iload_n 3, 0), (.aload_n 0, 0), (.iload_n 1, 0)] = true ∧ lIa m_M_textOf 13 (.invokevirtual 74) 3 = true ∧ lIa m_M_textOf 16 (.if_icmp .ge 54) 3 = true ∧ lSa m_M_textOf 19 [(.aload_n 2, 0), (.iload_n 3, 0)] = true ∧ lIa m_M_textOf 21 (.ifCond .ne 9) 3 = true ∧ lIa m_M_textOf 24 (.ldc_w 263) 3 = true ∧ lIa m_M_textOf 27 (.goto 6) 3 = true ∧ lIa m_M_textOf 33 (.invokevirtual 267) 3 = true ∧ lSa m_M_textOf 36 [(.aload_n 0, 0), (.iload_n 1, 0), (.iload_n 3, 0)] = true ∧ lIa m_M_textOf 39 (.invokevirtual 132) 3 = true ∧ lSa m_M_textOf 42 [(.iconst 0, nI 0)] = true ∧ lIa m_M_textOf 43 (.iaload) 1 = true ∧ lIa m_M_textOf 44 (.invokevirtual 271) 3 = true ∧ lSa m_M_textOf 47 [(.bipush 46, nI 46)] = true ∧ lIa m_M_textOf 49 (.invokevirtual 274) 3 = true ∧ lSa m_M_textOf 52 [(.aload_n 0, 0), (.iload_n 1, 0), (.iload_n 3, 0)] = true ∧ lIa m_M_textOf 55 (.invokevirtual 132) 3 = true ∧ lSa m_M_textOf 58 [(.iconst 1, nI 1)] = true ∧ lIa m_M_textOf 59 (.iaload) 1 = true ∧ lIa m_M_textOf 60 (.invokevirtual 271) 3 = true ∧ lSa m_M_textOf 63 [(.pop, 0), (.iinc 3 1, nI 1)] = true ∧ lIa m_M_textOf 67 (.goto (-57)) 3 = true ∧ lIa m_M_textOf 30 (.ldc_w 265) 3 = true := by decide +kernel
  refine lA8 hdd (fun dd0 dd1 dd2 dd3 dd4 dd5 dd6 dd7 hdd => ?_)
  refine lA8 hdd (fun dd8 dd9 dd10 dd11 dd12 dd13 dd14 dd15 hdd => ?_)
  obtain ⟨dd16, dd17, dd18, dd19, dd20, dd21, dd22⟩ := hdd
  intro n
  induction n with
  | zero => intro G x0 x1 x2 x3 h; cases h
  | succ n ih =>
    intro G x0 x1 x2 x3 h
    unfold f_M_textOf_L10 at h
    refine Y.blk (pc' := 13) (L' := [some (.ref x0), some (.int x1), some (.ref x2), some (.int x3)]) (st' := [.int x1, .ref x0, .int x3]) (sg := [(.iload_n 3, 0), (.aload_n 0, 0), (.iload_n 1, 0)]) (lSa_ok dd0) rfl ?_
    obtain ⟨_, o6, e5, m7, h⟩ := gOb_inv h
    refine Y.callI (yC.Vi (b := x0) (As := [.int x1]) (st := [.int x3]) (r := ("PartlisterModel", T_M, 9)) hV.1.1 cb_M_length lk_M_74 in_M_length rfl se_M_length (lIa_ok dd1) rfl rfl (Nat.le_of_ble_eq_true rfl) (by decide) e5 m7) (k_M_length hV.1 G x0 x1) h (fun v9 G8 _ h => ?_)
    refine Y.ic_ge (off := 54) (tgt := 70) (lIa_ok dd2) (by decide) h (fun c75 h => ?_) (fun c75 h => ?_)
    · refine Y.less (L' := [some (.ref x0), some (.int x1), some (.ref x2), none]) (zLe_some (zLe_some (zLe_some (zLe_none (zLe_nil))))) ?_
      exact hK70 G8 x0 x1 x2 h
    · refine Y.blk (pc' := 21) (L' := [some (.ref x0), some (.int x1), some (.ref x2), some (.int x3)]) (st' := [.int x3, .ref x2]) (sg := [(.aload_n 2, 0), (.iload_n 3, 0)]) (lSa_ok dd3) rfl ?_
      refine Y.if_ne (off := 9) (tgt := 30) (lIa_ok dd4) (by decide) h (fun c74 h => ?_) (fun c74 h => ?_)
      · refine Y.ldcSW (fun U H h => (hV.2 U H h).2.2.2.2.2.1) (lIa_ok dd5) ?_
        refine Y.goto (off := 6) (tgt := 33) (lIa_ok dd6) (by decide) ?_
        obtain ⟨_, o11, e10, m12, h⟩ := gOb_inv h
        refine Y.callA (yC.Vi (b := x2) (As := [.ref (w 5)]) (st := []) (r := ("java/lang/StringBuilder", T_SB, 4)) hV.1.1 cb_SB_append3 lk_M_267 in_SB_append3 rfl se_SB_append3 (lIa_ok dd7) rfl rfl (Nat.le_of_ble_eq_true rfl) (by decide) e10 m12) (k_SB_append3 hV G8 x2 (w 5)) h (fun v14 G13 _ h => ?_)
        refine Y.blk (pc' := 39) (L' := [some (.ref x0), some (.int x1), some (.ref x2), some (.int x3)]) (st' := [.int x3, .int x1, .ref x0, .ref v14]) (sg := [(.aload_n 0, 0), (.iload_n 1, 0), (.iload_n 3, 0)]) (lSa_ok dd8) rfl ?_
        obtain ⟨_, o16, e15, m17, h⟩ := gOb_inv h
        refine Y.callA (yC.Vi (b := x0) (As := [.int x1, .int x3]) (st := [.ref v14]) (r := ("PartlisterModel", T_M, 9)) hV.1.1 cb_M_at lk_M_132 in_M_at rfl se_M_at (lIa_ok dd9) rfl rfl (Nat.le_of_ble_eq_true rfl) (by decide) e15 m17) (k_M_at hV.1 G13 x0 x1 x3) h (fun v19 G18 _ h => ?_)
        refine Y.blk (pc' := 43) (L' := [some (.ref x0), some (.int x1), some (.ref x2), some (.int x3)]) (st' := [.int (nI 0), .ref v19, .ref v14]) (sg := [(.iconst 0, nI 0)]) (lSa_ok dd10) rfl ?_
        refine Y.iald (t0 := 0) (lIa_ok dd11) rfl h (fun v20 h => ?_)
        obtain ⟨_, o22, e21, m23, h⟩ := gOb_inv h
        refine Y.callA (yC.Vi (b := v14) (As := [.int v20]) (st := []) (r := ("java/lang/StringBuilder", T_SB, 4)) hV.1.1 cb_SB_append2 lk_M_271 in_SB_append2 rfl se_SB_append2 (lIa_ok dd12) rfl rfl (Nat.le_of_ble_eq_true rfl) (by decide) e21 m23) (k_SB_append2 hV G18 v14 v20) h (fun v25 G24 _ h => ?_)
        refine Y.blk (pc' := 49) (L' := [some (.ref x0), some (.int x1), some (.ref x2), some (.int x3)]) (st' := [.int (nI 46), .ref v25]) (sg := [(.bipush 46, nI 46)]) (lSa_ok dd13) rfl ?_
        obtain ⟨_, o27, e26, m28, h⟩ := gOb_inv h
        refine Y.callA (yC.Vi (b := v25) (As := [.int (nI 46)]) (st := []) (r := ("java/lang/StringBuilder", T_SB, 4)) hV.1.1 cb_SB_append1 lk_M_274 in_SB_append1 rfl se_SB_append1 (lIa_ok dd14) rfl rfl (Nat.le_of_ble_eq_true rfl) (by decide) e26 m28) (k_SB_append1 hV G24 v25 (nI 46)) h (fun v30 G29 _ h => ?_)
        refine Y.blk (pc' := 55) (L' := [some (.ref x0), some (.int x1), some (.ref x2), some (.int x3)]) (st' := [.int x3, .int x1, .ref x0, .ref v30]) (sg := [(.aload_n 0, 0), (.iload_n 1, 0), (.iload_n 3, 0)]) (lSa_ok dd15) rfl ?_
        obtain ⟨_, o32, e31, m33, h⟩ := gOb_inv h
        refine Y.callA (yC.Vi (b := x0) (As := [.int x1, .int x3]) (st := [.ref v30]) (r := ("PartlisterModel", T_M, 9)) hV.1.1 cb_M_at lk_M_132 in_M_at rfl se_M_at (lIa_ok dd16) rfl rfl (Nat.le_of_ble_eq_true rfl) (by decide) e31 m33) (k_M_at hV.1 G29 x0 x1 x3) h (fun v35 G34 _ h => ?_)
        refine Y.blk (pc' := 59) (L' := [some (.ref x0), some (.int x1), some (.ref x2), some (.int x3)]) (st' := [.int (nI 1), .ref v35, .ref v30]) (sg := [(.iconst 1, nI 1)]) (lSa_ok dd17) rfl ?_
        refine Y.iald (t0 := 0) (lIa_ok dd18) rfl h (fun v36 h => ?_)
        obtain ⟨_, o38, e37, m39, h⟩ := gOb_inv h
        refine Y.callA (yC.Vi (b := v30) (As := [.int v36]) (st := []) (r := ("java/lang/StringBuilder", T_SB, 4)) hV.1.1 cb_SB_append2 lk_M_271 in_SB_append2 rfl se_SB_append2 (lIa_ok dd19) rfl rfl (Nat.le_of_ble_eq_true rfl) (by decide) e37 m39) (k_SB_append2 hV G34 v30 v36) h (fun v41 G40 _ h => ?_)
        refine Y.blk (pc' := 67) (L' := [some (.ref x0), some (.int x1), some (.ref x2), some (.int (x3 + (nI 1)))]) (st' := []) (sg := [(.pop, 0), (.iinc 3 1, nI 1)]) (lSa_ok dd20) rfl ?_
        refine Y.goto (off := -57) (tgt := 10) (lIa_ok dd21) (by decide) ?_
        exact ih G40 x0 x1 x2 (x3 + (nI 1)) h
      · refine Y.ldcSW (fun U H h => (hV.2 U H h).2.2.2.2.1) (lIa_ok dd22) ?_
        obtain ⟨_, o43, e42, m44, h⟩ := gOb_inv h
        refine Y.callA (yC.Vi (b := x2) (As := [.ref (w 3)]) (st := []) (r := ("java/lang/StringBuilder", T_SB, 4)) hV.1.1 cb_SB_append3 lk_M_267 in_SB_append3 rfl se_SB_append3 (lIa_ok dd7) rfl rfl (Nat.le_of_ble_eq_true rfl) (by decide) e42 m44) (k_SB_append3 hV G8 x2 (w 3)) h (fun v46 G45 _ h => ?_)
        refine Y.blk (pc' := 39) (L' := [some (.ref x0), some (.int x1), some (.ref x2), some (.int x3)]) (st' := [.int x3, .int x1, .ref x0, .ref v46]) (sg := [(.aload_n 0, 0), (.iload_n 1, 0), (.iload_n 3, 0)]) (lSa_ok dd8) rfl ?_
        obtain ⟨_, o48, e47, m49, h⟩ := gOb_inv h
        refine Y.callA (yC.Vi (b := x0) (As := [.int x1, .int x3]) (st := [.ref v46]) (r := ("PartlisterModel", T_M, 9)) hV.1.1 cb_M_at lk_M_132 in_M_at rfl se_M_at (lIa_ok dd9) rfl rfl (Nat.le_of_ble_eq_true rfl) (by decide) e47 m49) (k_M_at hV.1 G45 x0 x1 x3) h (fun v51 G50 _ h => ?_)
        refine Y.blk (pc' := 43) (L' := [some (.ref x0), some (.int x1), some (.ref x2), some (.int x3)]) (st' := [.int (nI 0), .ref v51, .ref v46]) (sg := [(.iconst 0, nI 0)]) (lSa_ok dd10) rfl ?_
        refine Y.iald (t0 := 0) (lIa_ok dd11) rfl h (fun v52 h => ?_)
        obtain ⟨_, o54, e53, m55, h⟩ := gOb_inv h
        refine Y.callA (yC.Vi (b := v46) (As := [.int v52]) (st := []) (r := ("java/lang/StringBuilder", T_SB, 4)) hV.1.1 cb_SB_append2 lk_M_271 in_SB_append2 rfl se_SB_append2 (lIa_ok dd12) rfl rfl (Nat.le_of_ble_eq_true rfl) (by decide) e53 m55) (k_SB_append2 hV G50 v46 v52) h (fun v57 G56 _ h => ?_)
        refine Y.blk (pc' := 49) (L' := [some (.ref x0), some (.int x1), some (.ref x2), some (.int x3)]) (st' := [.int (nI 46), .ref v57]) (sg := [(.bipush 46, nI 46)]) (lSa_ok dd13) rfl ?_
        obtain ⟨_, o59, e58, m60, h⟩ := gOb_inv h
        refine Y.callA (yC.Vi (b := v57) (As := [.int (nI 46)]) (st := []) (r := ("java/lang/StringBuilder", T_SB, 4)) hV.1.1 cb_SB_append1 lk_M_274 in_SB_append1 rfl se_SB_append1 (lIa_ok dd14) rfl rfl (Nat.le_of_ble_eq_true rfl) (by decide) e58 m60) (k_SB_append1 hV G56 v57 (nI 46)) h (fun v62 G61 _ h => ?_)
        refine Y.blk (pc' := 55) (L' := [some (.ref x0), some (.int x1), some (.ref x2), some (.int x3)]) (st' := [.int x3, .int x1, .ref x0, .ref v62]) (sg := [(.aload_n 0, 0), (.iload_n 1, 0), (.iload_n 3, 0)]) (lSa_ok dd15) rfl ?_
        obtain ⟨_, o64, e63, m65, h⟩ := gOb_inv h
        refine Y.callA (yC.Vi (b := x0) (As := [.int x1, .int x3]) (st := [.ref v62]) (r := ("PartlisterModel", T_M, 9)) hV.1.1 cb_M_at lk_M_132 in_M_at rfl se_M_at (lIa_ok dd16) rfl rfl (Nat.le_of_ble_eq_true rfl) (by decide) e63 m65) (k_M_at hV.1 G61 x0 x1 x3) h (fun v67 G66 _ h => ?_)
        refine Y.blk (pc' := 59) (L' := [some (.ref x0), some (.int x1), some (.ref x2), some (.int x3)]) (st' := [.int (nI 1), .ref v67, .ref v62]) (sg := [(.iconst 1, nI 1)]) (lSa_ok dd17) rfl ?_
        refine Y.iald (t0 := 0) (lIa_ok dd18) rfl h (fun v68 h => ?_)
        obtain ⟨_, o70, e69, m71, h⟩ := gOb_inv h
        refine Y.callA (yC.Vi (b := v62) (As := [.int v68]) (st := []) (r := ("java/lang/StringBuilder", T_SB, 4)) hV.1.1 cb_SB_append2 lk_M_271 in_SB_append2 rfl se_SB_append2 (lIa_ok dd19) rfl rfl (Nat.le_of_ble_eq_true rfl) (by decide) e69 m71) (k_SB_append2 hV G66 v62 v68) h (fun v73 G72 _ h => ?_)
        refine Y.blk (pc' := 67) (L' := [some (.ref x0), some (.int x1), some (.ref x2), some (.int (x3 + (nI 1)))]) (st' := []) (sg := [(.pop, 0), (.iinc 3 1, nI 1)]) (lSa_ok dd20) rfl ?_
        refine Y.goto (off := -57) (tgt := 10) (lIa_ok dd21) (by decide) ?_
        exact ih G72 x0 x1 x2 (x3 + (nI 1)) h
theorem k_M_textOf {l : Launch} {D : va_G} {B : Nat} {O : State → Heap → Prop} {w : Nat → Nat} (hV : zGw l D B O w) (G : gH) (a0 : Nat) (a1 : Int32) : gMet (zVm l D B O) m_M_textOf 13 [.ref a0, .int a1] G (f_M_textOf w G a0 a1) := by
  have hdd : lIa m_M_textOf 0 (.new 260) 3 = true ∧ lSa m_M_textOf 3 [(.dup, 0)] = true ∧ lIa m_M_textOf 4 (.invokespecial 262) 3 = true ∧ lSa m_M_textOf 7 [(.astore_n 2, 0), (.iconst 0, nI 0), (.istore_n 3, 0)] = true ∧ lSa m_M_textOf 70 [(.aload_n 0, 0), (.iload_n 1, 0)] = true ∧ lIa m_M_textOf 72 (.invokevirtual 74) 3 = true ∧ lIa m_M_textOf 75 (.ifCond .ne 9) 3 = true ∧ lIa m_M_textOf 78 (.ldc_w 277) 3 = true ∧ lIa m_M_textOf 81 (.goto 7) 3 = true ∧ lIa m_M_textOf 88 (.areturn) 1 = true ∧ lSa m_M_textOf 84 [(.aload_n 2, 0)] = true ∧ lIa m_M_textOf 85 (.invokevirtual 279) 3 = true := by decide +kernel
  refine lA8 hdd (fun dd0 dd1 dd2 dd3 dd4 dd5 dd6 dd7 hdd => ?_)
  obtain ⟨dd8, dd9, dd10, dd11⟩ := hdd
  refine gMet.of (by decide +kernel) (Nat.le_of_ble_eq_true rfl) [some (.ref a0), some (.int a1), none, none] (fun ls h => zEn_ok (n := 4) h) ?_
  intro o Gf h
  unfold f_M_textOf at h
  refine Y.new nc_M_260 (by decide) bk_SB (lIa_ok dd0) h (fun q1 G2 h => ?_)
  refine Y.blk (pc' := 4) (L' := [some (.ref a0), some (.int a1), none, none]) (st' := [.ref q1, .ref q1]) (sg := [(.dup, 0)]) (lSa_ok dd1) rfl ?_
  refine Y.callN (yC.I (b := q1) (As := []) (st := [.ref q1]) hV.1.1 cb_SB_init lk_M_262 in_SB_init rfl rfl (lIa_ok dd2) rfl rfl (Nat.le_of_ble_eq_true rfl) (by decide)) (k_SB_init hV G2 q1) h (fun G4 _ h => ?_)
  refine Y.blk (pc' := 10) (L' := [some (.ref a0), some (.int a1), some (.ref q1), some (.int (nI 0))]) (st' := []) (sg := [(.astore_n 2, 0), (.iconst 0, nI 0), (.istore_n 3, 0)]) (lSa_ok dd3) rfl ?_
  refine k_M_textOf_L10 hV _ ?_  zFu G4 a0 a1 q1 (nI 0) h
  · intro G79 x76 x77 x78 h
    refine Y.blk (pc' := 72) (L' := [some (.ref x76), some (.int x77), some (.ref x78), none]) (st' := [.int x77, .ref x76]) (sg := [(.aload_n 0, 0), (.iload_n 1, 0)]) (lSa_ok dd4) rfl ?_
    obtain ⟨_, o81, e80, m82, h⟩ := gOb_inv h
    refine Y.callI (yC.Vi (b := x76) (As := [.int x77]) (st := []) (r := ("PartlisterModel", T_M, 9)) hV.1.1 cb_M_length lk_M_74 in_M_length rfl se_M_length (lIa_ok dd5) rfl rfl (Nat.le_of_ble_eq_true rfl) (by decide) e80 m82) (k_M_length hV.1 G79 x76 x77) h (fun v84 G83 _ h => ?_)
    refine Y.if_ne (off := 9) (tgt := 84) (lIa_ok dd6) (by decide) h (fun c90 h => ?_) (fun c90 h => ?_)
    · refine Y.ldcSW (fun U H h => (hV.2 U H h).2.2.2.2.2.2.1) (lIa_ok dd7) ?_
      refine Y.goto (off := 7) (tgt := 88) (lIa_ok dd8) (by decide) ?_
      exact Y.aret rfl (by first | exact Or.inl ⟨_, rfl⟩ | exact Or.inr ⟨_, rfl⟩) (lIa_ok dd9) h
    · refine Y.blk (pc' := 85) (L' := [some (.ref x76), some (.int x77), some (.ref x78), none]) (st' := [.ref x78]) (sg := [(.aload_n 2, 0)]) (lSa_ok dd10) rfl ?_
      obtain ⟨_, o86, e85, m87, h⟩ := gOb_inv h
      refine Y.callA (yC.Vi (b := x78) (As := []) (st := []) (r := ("java/lang/StringBuilder", T_SB, 4)) hV.1.1 cb_SB_toString lk_M_279 in_SB_toString rfl se_SB_toString (lIa_ok dd11) rfl rfl (Nat.le_of_ble_eq_true rfl) (by decide) e85 m87) (k_SB_toString hV G83 x78) h (fun v89 G88 _ h => ?_)
      exact Y.aret rfl (by first | exact Or.inl ⟨_, rfl⟩ | exact Or.inr ⟨_, rfl⟩) (lIa_ok dd9) h

def f_M_digest_L11 (w : Nat → Nat) (K34 : gH → Nat → Int64 → gR) : Nat → gH → Nat → Int64 → Int32 → gR
  | 0, _, _, _, _ => none
  | n + 1, G, x0, x1, x3 =>
    if (nI 8) ≤ x3 then K34 G x0 x1
    else gOb G x0 6 fun o3 => bI (f_M_houseTold G x0 x3) fun v6 G5 => bL (f_M_add2 G5 x1 v6.toInt64) fun v9 G8 => f_M_digest_L11 w K34 n G8 x0 v9 (x3 + (nI 1))
def f_M_digest_L67 (w : Nat → Nat) (K111 : gH → Nat → Int64 → Int32 → gR) : Nat → gH → Nat → Int64 → Int32 → Int32 → gR
  | 0, _, _, _, _, _ => none
  | n + 1, G, x0, x1, x3, x4 =>
    gOb G x0 6 fun o28 => bI (f_M_length G x0 x3) fun v31 G30 => if v31 ≤ x4 then K111 G30 x0 x1 x3
    else gOb G30 x0 6 fun o33 => bA (f_M_at G30 x0 x3 x4) fun v36 G35 => gLd G35 v36 100 (nI 0) fun v37 => bL (f_M_add2 G35 x1 v37.toInt64) fun v40 G39 => gOb G39 x0 6 fun o42 => bA (f_M_at G39 x0 x3 x4) fun v45 G44 => gLd G44 v45 100 (nI 1) fun v46 => bL (f_M_add2 G44 v40 v46.toInt64) fun v49 G48 => f_M_digest_L67 w K111 n G48 x0 v49 x3 (x4 + (nI 1))
def f_M_digest_L194 (w : Nat → Nat) (K224 : gH → Nat → Int64 → Int32 → gR) : Nat → gH → Nat → Int64 → Int32 → Int32 → gR
  | 0, _, _, _, _, _ => none
  | n + 1, G, x0, x1, x3, x4 =>
    if (nI 4) ≤ x4 then K224 G x0 x1 x3
    else if x3 < (nI 2) then K224 G x0 x1 x3
      else gOb G x0 6 fun o117 => bI (f_M_partTold G x0 x3 x4) fun v120 G119 => bL (f_M_add2 G119 x1 v120.toInt64) fun v123 G122 => f_M_digest_L194 w K224 n G122 x0 v123 x3 (x4 + (nI 1))
def f_M_digest_L36 (w : Nat → Nat) (K230 : gH → Nat → Int64 → gR) : Nat → gH → Nat → Int64 → Int32 → gR
  | 0, _, _, _, _ => none
  | n + 1, G, x0, x1, x3 =>
    if (nI 6) ≤ x3 then K230 G x0 x1
    else gOb G x0 6 fun o15 => bI (f_M_sizeOf G x0 x3) fun v18 G17 => bL (f_M_add2 G17 x1 v18.toInt64) fun v21 G20 => gOb G20 x0 6 fun o23 => bI (f_M_isNoList G20 x0 x3) fun v26 G25 => if v26 = 0 then f_M_digest_L67 w (fun G54 x51 x52 x53 => gOb G54 x51 6 fun o56 => bI (f_M_hashOf G54 x51 x53) fun v59 G58 => bL (f_M_add2 G58 x52 v59.toInt64) fun v62 G61 => gOb G61 x51 6 fun o64 => bI (f_M_extremeOf G61 x51 x53 (nI 1)) fun v67 G66 => bL (f_M_add2 G66 v62 v67.toInt64) fun v70 G69 => gOb G69 x51 6 fun o72 => bI (f_M_extremeOf G69 x51 x53 (nI 0)) fun v75 G74 => bL (f_M_add2 G74 v70 v75.toInt64) fun v78 G77 => gOb G77 x51 6 fun o80 => bI (f_M_firstOf G77 x51 x53 (nI 7)) fun v83 G82 => bL (f_M_add2 G82 v78 v83.toInt64) fun v86 G85 => gOb G85 x51 6 fun o88 => bI (f_M_lastOf G85 x51 x53 (nI 7)) fun v91 G90 => bL (f_M_add2 G90 v86 v91.toInt64) fun v94 G93 => gOb G93 x51 6 fun o96 => bI (f_M_manyOf G93 x51 x53 (nI 7)) fun v99 G98 => bL (f_M_add2 G98 v94 v99.toInt64) fun v102 G101 => gOb G101 x51 6 fun o104 => bA (f_M_textOf w G101 x51 x53) fun v107 G106 => gOb G106 v107 8 fun o109 => bI (f_ST_length w G106 v107) fun v112 G111 => bL (f_M_add2 G111 v102 v112.toInt64) fun v115 G114 => f_M_digest_L194 w (fun G129 x126 x127 x128 => f_M_digest_L36 w K230 n G129 x126 x127 (x128 + (nI 1))) zFu G114 x51 v115 x53 (nI 0)) zFu G25 x0 v21 x3 (nI 0)
      else f_M_digest_L36 w K230 n G25 x0 v21 (x3 + (nI 1))
def f_M_digest_L241 (w : Nat → Nat) (K331 : gH → Nat → Int64 → Int32 → gR) : Nat → gH → Nat → Int64 → Int32 → Int32 → gR
  | 0, _, _, _, _, _ => none
  | n + 1, G, x0, x1, x3, x4 =>
    if (nI 6) ≤ x4 then K331 G x0 x1 x3
    else gOb G x0 6 fun o136 => bI (f_M_isNoList G x0 x3) fun v139 G138 => if v139 = 0 then (gOb G138 x0 6 fun o141 => bI (f_M_isNoList G138 x0 x4) fun v144 G143 => if v144 = 0 then gOb G143 x0 6 fun o146 => bI (f_M_same G143 x0 x3 x4) fun v149 G148 => bI (f_M_one G148 v149) fun v152 G151 => bL (f_M_add2 G151 x1 v152.toInt64) fun v155 G154 => gOb G154 x0 6 fun o157 => bI (f_M_hasEach G154 x0 x3 x4) fun v160 G159 => bI (f_M_one G159 v160) fun v163 G162 => bL (f_M_add2 G162 v155 v163.toInt64) fun v166 G165 => gOb G165 x0 6 fun o168 => bI (f_M_hasNoneOf G165 x0 x3 x4) fun v171 G170 => bI (f_M_one G170 v171) fun v174 G173 => bL (f_M_add2 G173 v166 v174.toInt64) fun v177 G176 => gOb G176 x0 6 fun o179 => bI (f_M_found G176 x0 x3 x4) fun v182 G181 => bL (f_M_add2 G181 v177 v182.toInt64) fun v185 G184 => f_M_digest_L241 w K331 n G184 x0 v185 x3 (x4 + (nI 1))
        else f_M_digest_L241 w K331 n G143 x0 x1 x3 (x4 + (nI 1)))
      else f_M_digest_L241 w K331 n G138 x0 x1 x3 (x4 + (nI 1))
def f_M_digest_L232 (w : Nat → Nat) (K337 : gH → Nat → Int64 → gR) : Nat → gH → Nat → Int64 → Int32 → gR
  | 0, _, _, _, _ => none
  | n + 1, G, x0, x1, x3 =>
    if (nI 6) ≤ x3 then K337 G x0 x1
    else f_M_digest_L241 w (fun G192 x189 x190 x191 => f_M_digest_L232 w K337 n G192 x189 x190 (x191 + (nI 1))) zFu G x0 x1 x3 (nI 0)
def f_M_digest_L347 (w : Nat → Nat) (K373 : gH → Nat → Int64 → Int32 → gR) : Nat → gH → Nat → Int64 → Int32 → Int32 → gR
  | 0, _, _, _, _, _ => none
  | n + 1, G, x0, x1, x3, x4 =>
    if (nI 7) ≤ x4 then K373 G x0 x1 x3
    else gOb G x0 6 fun o198 => bI (f_M_cursorTold G x0 x3 x4) fun v201 G200 => bL (f_M_add2 G200 x1 v201.toInt64) fun v204 G203 => f_M_digest_L347 w K373 n G203 x0 v204 x3 (x4 + (nI 1))
def f_M_digest_L339 (w : Nat → Nat) (K379 : gH → Nat → Int64 → gR) : Nat → gH → Nat → Int64 → Int32 → gR
  | 0, _, _, _, _ => none
  | n + 1, G, x0, x1, x3 =>
    if (nI 3) ≤ x3 then K379 G x0 x1
    else f_M_digest_L347 w (fun G209 x206 x207 x208 => f_M_digest_L339 w K379 n G209 x206 x207 (x208 + (nI 1))) zFu G x0 x1 x3 (nI 0)
def f_M_digest (w : Nat → Nat) (G : gH) (a0 : Nat) : gR :=
  gPut G a0 6 0 (.int (nI 0)) fun G1 => f_M_digest_L11 w (fun G13 x11 x12 => f_M_digest_L36 w (fun G134 x132 x133 => f_M_digest_L232 w (fun G196 x194 x195 => f_M_digest_L339 w (fun G213 x211 x212 => gOb G213 x211 6 fun o215 => bI (f_M_isWhole w G213 x211) fun v218 G217 => bI (f_M_one G217 v218) fun v221 G220 => bL (f_M_add2 G220 x212 v221.toInt64) fun v224 G223 => rL v224 G223) zFu G196 x194 x195 (nI 0)) zFu G134 x132 x133 (nI 0)) zFu G13 x11 x12 (nI 0)) zFu G1 a0 (lN 2203) (nI 0)
theorem k_M_digest_L11 {l : Launch} {D : va_G} {B : Nat} {O : State → Heap → Prop} {w : Nat → Nat} (hV : zGw l D B O w) {o : gO} {Gf : gH} (K34 : gH → Nat → Int64 → gR) (hK34 : ∀ (G : gH) (x0 : Nat) (x1 : Int64), K34 G x0 x1 = some (o, Gf) → Y (zVm l D B O) m_M_digest 15 o Gf 34 [some (.ref x0), some (.long x1), none, none, none] [] G) : ∀ (n : Nat) (G : gH) (x0 : Nat) (x1 : Int64) (x3 : Int32), f_M_digest_L11 w K34 n G x0 x1 x3 = some (o, Gf) → Y (zVm l D B O) m_M_digest 15 o Gf 11 [some (.ref x0), some (.long x1), none, some (.int x3), none] [] G := by
  have hdd : lSa m_M_digest 11 [(.iload_n 3, 0), (.bipush 8, nI 8)] = true ∧ lIa m_M_digest 14 (.if_icmp .ge 20) 3 = true ∧ lSa m_M_digest 17 [(.lload_n 1, 0), (.aload_n 0, 0), (.iload_n 3, 0)] = true ∧ lIa m_M_digest 20 (.invokevirtual 296) 3 = true ∧ lSa m_M_digest 23 [(.i2l, 0)] = true ∧ lIa m_M_digest 24 (.invokestatic 307) 3 = true ∧ lSa m_M_digest 27 [(.lstore_n 1, 0), (.iinc 3 1, nI 1)] = true ∧ lIa m_M_digest 31 (.goto (-20)) 3 = true := by decide +kernel
  obtain ⟨dd0, dd1, dd2, dd3, dd4, dd5, dd6, dd7⟩ := hdd
  intro n
  induction n with
  | zero => intro G x0 x1 x3 h; cases h
  | succ n ih =>
    intro G x0 x1 x3 h
    unfold f_M_digest_L11 at h
    refine Y.blk (pc' := 14) (L' := [some (.ref x0), some (.long x1), none, some (.int x3), none]) (st' := [.int (nI 8), .int x3]) (sg := [(.iload_n 3, 0), (.bipush 8, nI 8)]) (lSa_ok dd0) rfl ?_
    refine Y.ic_ge (off := 20) (tgt := 34) (lIa_ok dd1) (by decide) h (fun c10 h => ?_) (fun c10 h => ?_)
    · refine Y.less (L' := [some (.ref x0), some (.long x1), none, none, none]) (zLe_some (zLe_some (zLe_some (zLe_none (zLe_some (zLe_nil)))))) ?_
      exact hK34 G x0 x1 h
    · refine Y.blk (pc' := 20) (L' := [some (.ref x0), some (.long x1), none, some (.int x3), none]) (st' := [.int x3, .ref x0, .long x1]) (sg := [(.lload_n 1, 0), (.aload_n 0, 0), (.iload_n 3, 0)]) (lSa_ok dd2) rfl ?_
      obtain ⟨_, o3, e2, m4, h⟩ := gOb_inv h
      refine Y.callI (yC.Vi (b := x0) (As := [.int x3]) (st := [.long x1]) (r := ("PartlisterModel", T_M, 9)) hV.1.1 cb_M_houseTold lk_M_296 in_M_houseTold rfl se_M_houseTold (lIa_ok dd3) rfl rfl (Nat.le_of_ble_eq_true rfl) (by decide) e2 m4) (k_M_houseTold hV.1 G x0 x3) h (fun v6 G5 _ h => ?_)
      refine Y.blk (pc' := 24) (L' := [some (.ref x0), some (.long x1), none, some (.int x3), none]) (st' := [.long v6.toInt64, .long x1]) (sg := [(.i2l, 0)]) (lSa_ok dd4) rfl ?_
      refine Y.callL (yC.S (As := [.long x1, .long v6.toInt64]) (st := []) hV.1.1 cb_M_add2 lk_M_307 st_M_add2 (lIa_ok dd5) rfl rfl (Nat.le_of_ble_eq_true rfl) (by decide)) (k_M_add2 hV.1 G5 x1 v6.toInt64) h (fun v9 G8 _ h => ?_)
      refine Y.blk (pc' := 31) (L' := [some (.ref x0), some (.long v9), none, some (.int (x3 + (nI 1))), none]) (st' := []) (sg := [(.lstore_n 1, 0), (.iinc 3 1, nI 1)]) (lSa_ok dd6) rfl ?_
      refine Y.goto (off := -20) (tgt := 11) (lIa_ok dd7) (by decide) ?_
      exact ih G8 x0 v9 (x3 + (nI 1)) h
theorem k_M_digest_L67 {l : Launch} {D : va_G} {B : Nat} {O : State → Heap → Prop} {w : Nat → Nat} (hV : zGw l D B O w) {o : gO} {Gf : gH} (K111 : gH → Nat → Int64 → Int32 → gR) (hK111 : ∀ (G : gH) (x0 : Nat) (x1 : Int64) (x3 : Int32), K111 G x0 x1 x3 = some (o, Gf) → Y (zVm l D B O) m_M_digest 15 o Gf 111 [some (.ref x0), some (.long x1), none, some (.int x3), none] [] G) : ∀ (n : Nat) (G : gH) (x0 : Nat) (x1 : Int64) (x3 : Int32) (x4 : Int32), f_M_digest_L67 w K111 n G x0 x1 x3 x4 = some (o, Gf) → Y (zVm l D B O) m_M_digest 15 o Gf 67 [some (.ref x0), some (.long x1), none, some (.int x3), some (.int x4)] [] G := by
  have hdd : lSa m_M_digest 67 [(.iload 4, 0), (.aload_n 0, 0), (.iload_n 3, 0)] = true ∧ lIa m_M_digest 71 (.invokevirtual 74) 3 = true ∧ lIa m_M_digest 74 (.if_icmp .ge 37) 3 = true ∧ lSa m_M_digest 77 [(.lload_n 1, 0), (.aload_n 0, 0), (.iload_n 3, 0), (.iload 4, 0)] = true ∧ lIa m_M_digest 82 (.invokevirtual 132) 3 = true ∧ lSa m_M_digest 85 [(.iconst 0, nI 0)] = true ∧ lIa m_M_digest 86 (.iaload) 1 = true ∧ lSa m_M_digest 87 [(.i2l, 0)] = true ∧ lIa m_M_digest 88 (.invokestatic 307) 3 = true ∧ lSa m_M_digest 91 [(.aload_n 0, 0), (.iload_n 3, 0), (.iload 4, 0)] = true ∧ lIa m_M_digest 95 (.invokevirtual 132) 3 = true ∧ lSa m_M_digest 98 [(.iconst 1, nI 1)] = true ∧ lIa m_M_digest 99 (.iaload) 1 = true ∧ lSa m_M_digest 100 [(.i2l, 0)] = true ∧ lIa m_M_digest 101 (.invokestatic 307) 3 = true ∧ lSa m_M_digest 104 [(.lstore_n 1, 0), (.iinc 4 1, nI 1)] = true ∧ lIa m_M_digest 108 (.goto (-41)) 3 = true := by decide +kernel
  refine lA8 hdd (fun dd0 dd1 dd2 dd3 dd4 dd5 dd6 dd7 hdd => ?_)
  refine lA8 hdd (fun dd8 dd9 dd10 dd11 dd12 dd13 dd14 dd15 hdd => ?_)
  have dd16 := hdd
  intro n
  induction n with
  | zero => intro G x0 x1 x3 x4 h; cases h
  | succ n ih =>
    intro G x0 x1 x3 x4 h
    unfold f_M_digest_L67 at h
    refine Y.blk (pc' := 71) (L' := [some (.ref x0), some (.long x1), none, some (.int x3), some (.int x4)]) (st' := [.int x3, .ref x0, .int x4]) (sg := [(.iload 4, 0), (.aload_n 0, 0), (.iload_n 3, 0)]) (lSa_ok dd0) rfl ?_
    obtain ⟨_, o28, e27, m29, h⟩ := gOb_inv h
    refine Y.callI (yC.Vi (b := x0) (As := [.int x3]) (st := [.int x4]) (r := ("PartlisterModel", T_M, 9)) hV.1.1 cb_M_length lk_M_74 in_M_length rfl se_M_length (lIa_ok dd1) rfl rfl (Nat.le_of_ble_eq_true rfl) (by decide) e27 m29) (k_M_length hV.1 G x0 x3) h (fun v31 G30 _ h => ?_)
    refine Y.ic_ge (off := 37) (tgt := 111) (lIa_ok dd2) (by decide) h (fun c50 h => ?_) (fun c50 h => ?_)
    · refine Y.less (L' := [some (.ref x0), some (.long x1), none, some (.int x3), none]) (zLe_some (zLe_some (zLe_some (zLe_some (zLe_none (zLe_nil)))))) ?_
      exact hK111 G30 x0 x1 x3 h
    · refine Y.blk (pc' := 82) (L' := [some (.ref x0), some (.long x1), none, some (.int x3), some (.int x4)]) (st' := [.int x4, .int x3, .ref x0, .long x1]) (sg := [(.lload_n 1, 0), (.aload_n 0, 0), (.iload_n 3, 0), (.iload 4, 0)]) (lSa_ok dd3) rfl ?_
      obtain ⟨_, o33, e32, m34, h⟩ := gOb_inv h
      refine Y.callA (yC.Vi (b := x0) (As := [.int x3, .int x4]) (st := [.long x1]) (r := ("PartlisterModel", T_M, 9)) hV.1.1 cb_M_at lk_M_132 in_M_at rfl se_M_at (lIa_ok dd4) rfl rfl (Nat.le_of_ble_eq_true rfl) (by decide) e32 m34) (k_M_at hV.1 G30 x0 x3 x4) h (fun v36 G35 _ h => ?_)
      refine Y.blk (pc' := 86) (L' := [some (.ref x0), some (.long x1), none, some (.int x3), some (.int x4)]) (st' := [.int (nI 0), .ref v36, .long x1]) (sg := [(.iconst 0, nI 0)]) (lSa_ok dd5) rfl ?_
      refine Y.iald (t0 := 0) (lIa_ok dd6) rfl h (fun v37 h => ?_)
      refine Y.blk (pc' := 88) (L' := [some (.ref x0), some (.long x1), none, some (.int x3), some (.int x4)]) (st' := [.long v37.toInt64, .long x1]) (sg := [(.i2l, 0)]) (lSa_ok dd7) rfl ?_
      refine Y.callL (yC.S (As := [.long x1, .long v37.toInt64]) (st := []) hV.1.1 cb_M_add2 lk_M_307 st_M_add2 (lIa_ok dd8) rfl rfl (Nat.le_of_ble_eq_true rfl) (by decide)) (k_M_add2 hV.1 G35 x1 v37.toInt64) h (fun v40 G39 _ h => ?_)
      refine Y.blk (pc' := 95) (L' := [some (.ref x0), some (.long x1), none, some (.int x3), some (.int x4)]) (st' := [.int x4, .int x3, .ref x0, .long v40]) (sg := [(.aload_n 0, 0), (.iload_n 3, 0), (.iload 4, 0)]) (lSa_ok dd9) rfl ?_
      obtain ⟨_, o42, e41, m43, h⟩ := gOb_inv h
      refine Y.callA (yC.Vi (b := x0) (As := [.int x3, .int x4]) (st := [.long v40]) (r := ("PartlisterModel", T_M, 9)) hV.1.1 cb_M_at lk_M_132 in_M_at rfl se_M_at (lIa_ok dd10) rfl rfl (Nat.le_of_ble_eq_true rfl) (by decide) e41 m43) (k_M_at hV.1 G39 x0 x3 x4) h (fun v45 G44 _ h => ?_)
      refine Y.blk (pc' := 99) (L' := [some (.ref x0), some (.long x1), none, some (.int x3), some (.int x4)]) (st' := [.int (nI 1), .ref v45, .long v40]) (sg := [(.iconst 1, nI 1)]) (lSa_ok dd11) rfl ?_
      refine Y.iald (t0 := 0) (lIa_ok dd12) rfl h (fun v46 h => ?_)
      refine Y.blk (pc' := 101) (L' := [some (.ref x0), some (.long x1), none, some (.int x3), some (.int x4)]) (st' := [.long v46.toInt64, .long v40]) (sg := [(.i2l, 0)]) (lSa_ok dd13) rfl ?_
      refine Y.callL (yC.S (As := [.long v40, .long v46.toInt64]) (st := []) hV.1.1 cb_M_add2 lk_M_307 st_M_add2 (lIa_ok dd14) rfl rfl (Nat.le_of_ble_eq_true rfl) (by decide)) (k_M_add2 hV.1 G44 v40 v46.toInt64) h (fun v49 G48 _ h => ?_)
      refine Y.blk (pc' := 108) (L' := [some (.ref x0), some (.long v49), none, some (.int x3), some (.int (x4 + (nI 1)))]) (st' := []) (sg := [(.lstore_n 1, 0), (.iinc 4 1, nI 1)]) (lSa_ok dd15) rfl ?_
      refine Y.goto (off := -41) (tgt := 67) (lIa_ok dd16) (by decide) ?_
      exact ih G48 x0 v49 x3 (x4 + (nI 1)) h
theorem k_M_digest_L194 {l : Launch} {D : va_G} {B : Nat} {O : State → Heap → Prop} {w : Nat → Nat} (hV : zGw l D B O w) {o : gO} {Gf : gH} (K224 : gH → Nat → Int64 → Int32 → gR) (hK224 : ∀ (G : gH) (x0 : Nat) (x1 : Int64) (x3 : Int32), K224 G x0 x1 x3 = some (o, Gf) → Y (zVm l D B O) m_M_digest 15 o Gf 224 [some (.ref x0), some (.long x1), none, some (.int x3), none] [] G) : ∀ (n : Nat) (G : gH) (x0 : Nat) (x1 : Int64) (x3 : Int32) (x4 : Int32), f_M_digest_L194 w K224 n G x0 x1 x3 x4 = some (o, Gf) → Y (zVm l D B O) m_M_digest 15 o Gf 194 [some (.ref x0), some (.long x1), none, some (.int x3), some (.int x4)] [] G := by
  have hdd : lSa m_M_digest 194 [(.iload 4, 0), (.iconst 4, nI 4)] = true ∧ lIa m_M_digest 197 (.if_icmp .ge 27) 3 = true ∧ lSa m_M_digest 200 [(.iload_n 3, 0), (.iconst 2, nI 2)] = true ∧ lIa m_M_digest 202 (.if_icmp .lt 22) 3 = true ∧ lSa m_M_digest 205 [(.lload_n 1, 0), (.aload_n 0, 0), (.iload_n 3, 0), (.iload 4, 0)] = true ∧ lIa m_M_digest 210 (.invokevirtual 287) 3 = true ∧ lSa m_M_digest 213 [(.i2l, 0)] = true ∧ lIa m_M_digest 214 (.invokestatic 307) 3 = true ∧ lSa m_M_digest 217 [(.lstore_n 1, 0), (.iinc 4 1, nI 1)] = true ∧ lIa m_M_digest 221 (.goto (-27)) 3 = true := by decide +kernel
  refine lA8 hdd (fun dd0 dd1 dd2 dd3 dd4 dd5 dd6 dd7 hdd => ?_)
  obtain ⟨dd8, dd9⟩ := hdd
  intro n
  induction n with
  | zero => intro G x0 x1 x3 x4 h; cases h
  | succ n ih =>
    intro G x0 x1 x3 x4 h
    unfold f_M_digest_L194 at h
    refine Y.blk (pc' := 197) (L' := [some (.ref x0), some (.long x1), none, some (.int x3), some (.int x4)]) (st' := [.int (nI 4), .int x4]) (sg := [(.iload 4, 0), (.iconst 4, nI 4)]) (lSa_ok dd0) rfl ?_
    refine Y.ic_ge (off := 27) (tgt := 224) (lIa_ok dd1) (by decide) h (fun c125 h => ?_) (fun c125 h => ?_)
    · refine Y.less (L' := [some (.ref x0), some (.long x1), none, some (.int x3), none]) (zLe_some (zLe_some (zLe_some (zLe_some (zLe_none (zLe_nil)))))) ?_
      exact hK224 G x0 x1 x3 h
    · refine Y.blk (pc' := 202) (L' := [some (.ref x0), some (.long x1), none, some (.int x3), some (.int x4)]) (st' := [.int (nI 2), .int x3]) (sg := [(.iload_n 3, 0), (.iconst 2, nI 2)]) (lSa_ok dd2) rfl ?_
      refine Y.ic_lt (off := 22) (tgt := 224) (lIa_ok dd3) (by decide) h (fun c124 h => ?_) (fun c124 h => ?_)
      · refine Y.less (L' := [some (.ref x0), some (.long x1), none, some (.int x3), none]) (zLe_some (zLe_some (zLe_some (zLe_some (zLe_none (zLe_nil)))))) ?_
        exact hK224 G x0 x1 x3 h
      · refine Y.blk (pc' := 210) (L' := [some (.ref x0), some (.long x1), none, some (.int x3), some (.int x4)]) (st' := [.int x4, .int x3, .ref x0, .long x1]) (sg := [(.lload_n 1, 0), (.aload_n 0, 0), (.iload_n 3, 0), (.iload 4, 0)]) (lSa_ok dd4) rfl ?_
        obtain ⟨_, o117, e116, m118, h⟩ := gOb_inv h
        refine Y.callI (yC.Vi (b := x0) (As := [.int x3, .int x4]) (st := [.long x1]) (r := ("PartlisterModel", T_M, 9)) hV.1.1 cb_M_partTold lk_M_287 in_M_partTold rfl se_M_partTold (lIa_ok dd5) rfl rfl (Nat.le_of_ble_eq_true rfl) (by decide) e116 m118) (k_M_partTold hV.1 G x0 x3 x4) h (fun v120 G119 _ h => ?_)
        refine Y.blk (pc' := 214) (L' := [some (.ref x0), some (.long x1), none, some (.int x3), some (.int x4)]) (st' := [.long v120.toInt64, .long x1]) (sg := [(.i2l, 0)]) (lSa_ok dd6) rfl ?_
        refine Y.callL (yC.S (As := [.long x1, .long v120.toInt64]) (st := []) hV.1.1 cb_M_add2 lk_M_307 st_M_add2 (lIa_ok dd7) rfl rfl (Nat.le_of_ble_eq_true rfl) (by decide)) (k_M_add2 hV.1 G119 x1 v120.toInt64) h (fun v123 G122 _ h => ?_)
        refine Y.blk (pc' := 221) (L' := [some (.ref x0), some (.long v123), none, some (.int x3), some (.int (x4 + (nI 1)))]) (st' := []) (sg := [(.lstore_n 1, 0), (.iinc 4 1, nI 1)]) (lSa_ok dd8) rfl ?_
        refine Y.goto (off := -27) (tgt := 194) (lIa_ok dd9) (by decide) ?_
        exact ih G122 x0 v123 x3 (x4 + (nI 1)) h
theorem k_M_digest_L36 {l : Launch} {D : va_G} {B : Nat} {O : State → Heap → Prop} {w : Nat → Nat} (hV : zGw l D B O w) {o : gO} {Gf : gH} (K230 : gH → Nat → Int64 → gR) (hK230 : ∀ (G : gH) (x0 : Nat) (x1 : Int64), K230 G x0 x1 = some (o, Gf) → Y (zVm l D B O) m_M_digest 15 o Gf 230 [some (.ref x0), some (.long x1), none, none, none] [] G) : ∀ (n : Nat) (G : gH) (x0 : Nat) (x1 : Int64) (x3 : Int32), f_M_digest_L36 w K230 n G x0 x1 x3 = some (o, Gf) → Y (zVm l D B O) m_M_digest 15 o Gf 36 [some (.ref x0), some (.long x1), none, some (.int x3), none] [] G := by
  have hdd : lSa m_M_digest 36 [(.iload_n 3, 0), (.bipush 6, nI 6)] = true ∧ lIa m_M_digest 39 (.if_icmp .ge 191) 3 = true ∧ lSa m_M_digest 42 [(.lload_n 1, 0), (.aload_n 0, 0), (.iload_n 3, 0)] = true ∧ lIa m_M_digest 45 (.invokevirtual 223) 3 = true ∧ lSa m_M_digest 48 [(.i2l, 0)] = true ∧ lIa m_M_digest 49 (.invokestatic 307) 3 = true ∧ lSa m_M_digest 52 [(.lstore_n 1, 0), (.aload_n 0, 0), (.iload_n 3, 0)] = true ∧ lIa m_M_digest 55 (.invokevirtual 110) 3 = true ∧ lIa m_M_digest 58 (.ifCond .eq 6) 3 = true ∧ lSa m_M_digest 64 [(.iconst 0, nI 0), (.istore 4, 0)] = true ∧ lSa m_M_digest 111 [(.lload_n 1, 0), (.aload_n 0, 0), (.iload_n 3, 0)] = true ∧ lIa m_M_digest 114 (.invokevirtual 257) 3 = true ∧ lSa m_M_digest 117 [(.i2l, 0)] = true ∧ lIa m_M_digest 118 (.invokestatic 307) 3 = true ∧ lSa m_M_digest 121 [(.aload_n 0, 0), (.iload_n 3, 0), (.iconst 1, nI 1)] = true ∧ lIa m_M_digest 124 (.invokevirtual 253) 3 = true ∧ lSa m_M_digest 127 [(.i2l, 0)] = true ∧ lIa m_M_digest 128 (.invokestatic 307) 3 = true ∧ lSa m_M_digest 131 [(.aload_n 0, 0), (.iload_n 3, 0), (.iconst 0, nI 0)] = true ∧ lIa m_M_digest 134 (.invokevirtual 253) 3 = true ∧ lSa m_M_digest 137 [(.i2l, 0)] = true ∧ lIa m_M_digest 138 (.invokestatic 307) 3 = true ∧ lSa m_M_digest 141 [(.lstore_n 1, 0), (.lload_n 1, 0), (.aload_n 0, 0), (.iload_n 3, 0), (.bipush 7, nI 7)] = true ∧ lIa m_M_digest 147 (.invokevirtual 163) 3 = true ∧ lSa m_M_digest 150 [(.i2l, 0)] = true ∧ lIa m_M_digest 151 (.invokestatic 307) 3 = true ∧ lSa m_M_digest 154 [(.aload_n 0, 0), (.iload_n 3, 0), (.bipush 7, nI 7)] = true ∧ lIa m_M_digest 158 (.invokevirtual 226) 3 = true ∧ lSa m_M_digest 161 [(.i2l, 0)] = true ∧ lIa m_M_digest 162 (.invokestatic 307) 3 = true ∧ lSa m_M_digest 165 [(.aload_n 0, 0), (.iload_n 3, 0), (.bipush 7, nI 7)] = true ∧ lIa m_M_digest 169 (.invokevirtual 229) 3 = true ∧ lSa m_M_digest 172 [(.i2l, 0)] = true ∧ lIa m_M_digest 173 (.invokestatic 307) 3 = true ∧ lSa m_M_digest 176 [(.lstore_n 1, 0), (.lload_n 1, 0), (.aload_n 0, 0), (.iload_n 3, 0)] = true ∧ lIa m_M_digest 180 (.invokevirtual 283) 3 = true ∧ lIa m_M_digest 183 (.invokevirtual 310) 3 = true ∧ lSa m_M_digest 186 [(.i2l, 0)] = true ∧ lIa m_M_digest 187 (.invokestatic 307) 3 = true ∧ lSa m_M_digest 190 [(.lstore_n 1, 0), (.iconst 0, nI 0), (.istore 4, 0)] = true ∧ lSa m_M_digest 224 [(.iinc 3 1, nI 1)] = true ∧ lIa m_M_digest 227 (.goto (-191)) 3 = true ∧ lIa m_M_digest 61 (.goto 163) 3 = true := by decide +kernel
  refine lA8 hdd (fun dd0 dd1 dd2 dd3 dd4 dd5 dd6 dd7 hdd => ?_)
  refine lA8 hdd (fun dd8 dd9 dd10 dd11 dd12 dd13 dd14 dd15 hdd => ?_)
  refine lA8 hdd (fun dd16 dd17 dd18 dd19 dd20 dd21 dd22 dd23 hdd => ?_)
  refine lA8 hdd (fun dd24 dd25 dd26 dd27 dd28 dd29 dd30 dd31 hdd => ?_)
  refine lA8 hdd (fun dd32 dd33 dd34 dd35 dd36 dd37 dd38 dd39 hdd => ?_)
  obtain ⟨dd40, dd41, dd42⟩ := hdd
  intro n
  induction n with
  | zero => intro G x0 x1 x3 h; cases h
  | succ n ih =>
    intro G x0 x1 x3 h
    unfold f_M_digest_L36 at h
    refine Y.blk (pc' := 39) (L' := [some (.ref x0), some (.long x1), none, some (.int x3), none]) (st' := [.int (nI 6), .int x3]) (sg := [(.iload_n 3, 0), (.bipush 6, nI 6)]) (lSa_ok dd0) rfl ?_
    refine Y.ic_ge (off := 191) (tgt := 230) (lIa_ok dd1) (by decide) h (fun c131 h => ?_) (fun c131 h => ?_)
    · refine Y.less (L' := [some (.ref x0), some (.long x1), none, none, none]) (zLe_some (zLe_some (zLe_some (zLe_none (zLe_some (zLe_nil)))))) ?_
      exact hK230 G x0 x1 h
    · refine Y.blk (pc' := 45) (L' := [some (.ref x0), some (.long x1), none, some (.int x3), none]) (st' := [.int x3, .ref x0, .long x1]) (sg := [(.lload_n 1, 0), (.aload_n 0, 0), (.iload_n 3, 0)]) (lSa_ok dd2) rfl ?_
      obtain ⟨_, o15, e14, m16, h⟩ := gOb_inv h
      refine Y.callI (yC.Vi (b := x0) (As := [.int x3]) (st := [.long x1]) (r := ("PartlisterModel", T_M, 9)) hV.1.1 cb_M_sizeOf lk_M_223 in_M_sizeOf rfl se_M_sizeOf (lIa_ok dd3) rfl rfl (Nat.le_of_ble_eq_true rfl) (by decide) e14 m16) (k_M_sizeOf hV.1 G x0 x3) h (fun v18 G17 _ h => ?_)
      refine Y.blk (pc' := 49) (L' := [some (.ref x0), some (.long x1), none, some (.int x3), none]) (st' := [.long v18.toInt64, .long x1]) (sg := [(.i2l, 0)]) (lSa_ok dd4) rfl ?_
      refine Y.callL (yC.S (As := [.long x1, .long v18.toInt64]) (st := []) hV.1.1 cb_M_add2 lk_M_307 st_M_add2 (lIa_ok dd5) rfl rfl (Nat.le_of_ble_eq_true rfl) (by decide)) (k_M_add2 hV.1 G17 x1 v18.toInt64) h (fun v21 G20 _ h => ?_)
      refine Y.blk (pc' := 55) (L' := [some (.ref x0), some (.long v21), none, some (.int x3), none]) (st' := [.int x3, .ref x0]) (sg := [(.lstore_n 1, 0), (.aload_n 0, 0), (.iload_n 3, 0)]) (lSa_ok dd6) rfl ?_
      obtain ⟨_, o23, e22, m24, h⟩ := gOb_inv h
      refine Y.callI (yC.Vi (b := x0) (As := [.int x3]) (st := []) (r := ("PartlisterModel", T_M, 9)) hV.1.1 cb_M_isNoList lk_M_110 in_M_isNoList rfl se_M_isNoList (lIa_ok dd7) rfl rfl (Nat.le_of_ble_eq_true rfl) (by decide) e22 m24) (k_M_isNoList hV.1 G20 x0 x3) h (fun v26 G25 _ h => ?_)
      refine Y.if_eq (off := 6) (tgt := 64) (lIa_ok dd8) (by decide) h (fun c130 h => ?_) (fun c130 h => ?_)
      · refine Y.blk (pc' := 67) (L' := [some (.ref x0), some (.long v21), none, some (.int x3), some (.int (nI 0))]) (st' := []) (sg := [(.iconst 0, nI 0), (.istore 4, 0)]) (lSa_ok dd9) rfl ?_
        refine k_M_digest_L67 hV _ ?_  zFu G25 x0 v21 x3 (nI 0) h
        · intro G54 x51 x52 x53 h
          refine Y.blk (pc' := 114) (L' := [some (.ref x51), some (.long x52), none, some (.int x53), none]) (st' := [.int x53, .ref x51, .long x52]) (sg := [(.lload_n 1, 0), (.aload_n 0, 0), (.iload_n 3, 0)]) (lSa_ok dd10) rfl ?_
          obtain ⟨_, o56, e55, m57, h⟩ := gOb_inv h
          refine Y.callI (yC.Vi (b := x51) (As := [.int x53]) (st := [.long x52]) (r := ("PartlisterModel", T_M, 9)) hV.1.1 cb_M_hashOf lk_M_257 in_M_hashOf rfl se_M_hashOf (lIa_ok dd11) rfl rfl (Nat.le_of_ble_eq_true rfl) (by decide) e55 m57) (k_M_hashOf hV.1 G54 x51 x53) h (fun v59 G58 _ h => ?_)
          refine Y.blk (pc' := 118) (L' := [some (.ref x51), some (.long x52), none, some (.int x53), none]) (st' := [.long v59.toInt64, .long x52]) (sg := [(.i2l, 0)]) (lSa_ok dd12) rfl ?_
          refine Y.callL (yC.S (As := [.long x52, .long v59.toInt64]) (st := []) hV.1.1 cb_M_add2 lk_M_307 st_M_add2 (lIa_ok dd13) rfl rfl (Nat.le_of_ble_eq_true rfl) (by decide)) (k_M_add2 hV.1 G58 x52 v59.toInt64) h (fun v62 G61 _ h => ?_)
          refine Y.blk (pc' := 124) (L' := [some (.ref x51), some (.long x52), none, some (.int x53), none]) (st' := [.int (nI 1), .int x53, .ref x51, .long v62]) (sg := [(.aload_n 0, 0), (.iload_n 3, 0), (.iconst 1, nI 1)]) (lSa_ok dd14) rfl ?_
          obtain ⟨_, o64, e63, m65, h⟩ := gOb_inv h
          refine Y.callI (yC.Vi (b := x51) (As := [.int x53, .int (nI 1)]) (st := [.long v62]) (r := ("PartlisterModel", T_M, 9)) hV.1.1 cb_M_extremeOf lk_M_253 in_M_extremeOf rfl se_M_extremeOf (lIa_ok dd15) rfl rfl (Nat.le_of_ble_eq_true rfl) (by decide) e63 m65) (k_M_extremeOf hV.1 G61 x51 x53 (nI 1)) h (fun v67 G66 _ h => ?_)
          refine Y.blk (pc' := 128) (L' := [some (.ref x51), some (.long x52), none, some (.int x53), none]) (st' := [.long v67.toInt64, .long v62]) (sg := [(.i2l, 0)]) (lSa_ok dd16) rfl ?_
          refine Y.callL (yC.S (As := [.long v62, .long v67.toInt64]) (st := []) hV.1.1 cb_M_add2 lk_M_307 st_M_add2 (lIa_ok dd17) rfl rfl (Nat.le_of_ble_eq_true rfl) (by decide)) (k_M_add2 hV.1 G66 v62 v67.toInt64) h (fun v70 G69 _ h => ?_)
          refine Y.blk (pc' := 134) (L' := [some (.ref x51), some (.long x52), none, some (.int x53), none]) (st' := [.int (nI 0), .int x53, .ref x51, .long v70]) (sg := [(.aload_n 0, 0), (.iload_n 3, 0), (.iconst 0, nI 0)]) (lSa_ok dd18) rfl ?_
          obtain ⟨_, o72, e71, m73, h⟩ := gOb_inv h
          refine Y.callI (yC.Vi (b := x51) (As := [.int x53, .int (nI 0)]) (st := [.long v70]) (r := ("PartlisterModel", T_M, 9)) hV.1.1 cb_M_extremeOf lk_M_253 in_M_extremeOf rfl se_M_extremeOf (lIa_ok dd19) rfl rfl (Nat.le_of_ble_eq_true rfl) (by decide) e71 m73) (k_M_extremeOf hV.1 G69 x51 x53 (nI 0)) h (fun v75 G74 _ h => ?_)
          refine Y.blk (pc' := 138) (L' := [some (.ref x51), some (.long x52), none, some (.int x53), none]) (st' := [.long v75.toInt64, .long v70]) (sg := [(.i2l, 0)]) (lSa_ok dd20) rfl ?_
          refine Y.callL (yC.S (As := [.long v70, .long v75.toInt64]) (st := []) hV.1.1 cb_M_add2 lk_M_307 st_M_add2 (lIa_ok dd21) rfl rfl (Nat.le_of_ble_eq_true rfl) (by decide)) (k_M_add2 hV.1 G74 v70 v75.toInt64) h (fun v78 G77 _ h => ?_)
          refine Y.blk (pc' := 147) (L' := [some (.ref x51), some (.long v78), none, some (.int x53), none]) (st' := [.int (nI 7), .int x53, .ref x51, .long v78]) (sg := [(.lstore_n 1, 0), (.lload_n 1, 0), (.aload_n 0, 0), (.iload_n 3, 0), (.bipush 7, nI 7)]) (lSa_ok dd22) rfl ?_
          obtain ⟨_, o80, e79, m81, h⟩ := gOb_inv h
          refine Y.callI (yC.Vi (b := x51) (As := [.int x53, .int (nI 7)]) (st := [.long v78]) (r := ("PartlisterModel", T_M, 9)) hV.1.1 cb_M_firstOf lk_M_163 in_M_firstOf rfl se_M_firstOf (lIa_ok dd23) rfl rfl (Nat.le_of_ble_eq_true rfl) (by decide) e79 m81) (k_M_firstOf hV.1 G77 x51 x53 (nI 7)) h (fun v83 G82 _ h => ?_)
          refine Y.blk (pc' := 151) (L' := [some (.ref x51), some (.long v78), none, some (.int x53), none]) (st' := [.long v83.toInt64, .long v78]) (sg := [(.i2l, 0)]) (lSa_ok dd24) rfl ?_
          refine Y.callL (yC.S (As := [.long v78, .long v83.toInt64]) (st := []) hV.1.1 cb_M_add2 lk_M_307 st_M_add2 (lIa_ok dd25) rfl rfl (Nat.le_of_ble_eq_true rfl) (by decide)) (k_M_add2 hV.1 G82 v78 v83.toInt64) h (fun v86 G85 _ h => ?_)
          refine Y.blk (pc' := 158) (L' := [some (.ref x51), some (.long v78), none, some (.int x53), none]) (st' := [.int (nI 7), .int x53, .ref x51, .long v86]) (sg := [(.aload_n 0, 0), (.iload_n 3, 0), (.bipush 7, nI 7)]) (lSa_ok dd26) rfl ?_
          obtain ⟨_, o88, e87, m89, h⟩ := gOb_inv h
          refine Y.callI (yC.Vi (b := x51) (As := [.int x53, .int (nI 7)]) (st := [.long v86]) (r := ("PartlisterModel", T_M, 9)) hV.1.1 cb_M_lastOf lk_M_226 in_M_lastOf rfl se_M_lastOf (lIa_ok dd27) rfl rfl (Nat.le_of_ble_eq_true rfl) (by decide) e87 m89) (k_M_lastOf hV.1 G85 x51 x53 (nI 7)) h (fun v91 G90 _ h => ?_)
          refine Y.blk (pc' := 162) (L' := [some (.ref x51), some (.long v78), none, some (.int x53), none]) (st' := [.long v91.toInt64, .long v86]) (sg := [(.i2l, 0)]) (lSa_ok dd28) rfl ?_
          refine Y.callL (yC.S (As := [.long v86, .long v91.toInt64]) (st := []) hV.1.1 cb_M_add2 lk_M_307 st_M_add2 (lIa_ok dd29) rfl rfl (Nat.le_of_ble_eq_true rfl) (by decide)) (k_M_add2 hV.1 G90 v86 v91.toInt64) h (fun v94 G93 _ h => ?_)
          refine Y.blk (pc' := 169) (L' := [some (.ref x51), some (.long v78), none, some (.int x53), none]) (st' := [.int (nI 7), .int x53, .ref x51, .long v94]) (sg := [(.aload_n 0, 0), (.iload_n 3, 0), (.bipush 7, nI 7)]) (lSa_ok dd30) rfl ?_
          obtain ⟨_, o96, e95, m97, h⟩ := gOb_inv h
          refine Y.callI (yC.Vi (b := x51) (As := [.int x53, .int (nI 7)]) (st := [.long v94]) (r := ("PartlisterModel", T_M, 9)) hV.1.1 cb_M_manyOf lk_M_229 in_M_manyOf rfl se_M_manyOf (lIa_ok dd31) rfl rfl (Nat.le_of_ble_eq_true rfl) (by decide) e95 m97) (k_M_manyOf hV.1 G93 x51 x53 (nI 7)) h (fun v99 G98 _ h => ?_)
          refine Y.blk (pc' := 173) (L' := [some (.ref x51), some (.long v78), none, some (.int x53), none]) (st' := [.long v99.toInt64, .long v94]) (sg := [(.i2l, 0)]) (lSa_ok dd32) rfl ?_
          refine Y.callL (yC.S (As := [.long v94, .long v99.toInt64]) (st := []) hV.1.1 cb_M_add2 lk_M_307 st_M_add2 (lIa_ok dd33) rfl rfl (Nat.le_of_ble_eq_true rfl) (by decide)) (k_M_add2 hV.1 G98 v94 v99.toInt64) h (fun v102 G101 _ h => ?_)
          refine Y.blk (pc' := 180) (L' := [some (.ref x51), some (.long v102), none, some (.int x53), none]) (st' := [.int x53, .ref x51, .long v102]) (sg := [(.lstore_n 1, 0), (.lload_n 1, 0), (.aload_n 0, 0), (.iload_n 3, 0)]) (lSa_ok dd34) rfl ?_
          obtain ⟨_, o104, e103, m105, h⟩ := gOb_inv h
          refine Y.callA (yC.Vi (b := x51) (As := [.int x53]) (st := [.long v102]) (r := ("PartlisterModel", T_M, 9)) hV.1.1 cb_M_textOf lk_M_283 in_M_textOf rfl se_M_textOf (lIa_ok dd35) rfl rfl (Nat.le_of_ble_eq_true rfl) (by decide) e103 m105) (k_M_textOf hV G101 x51 x53) h (fun v107 G106 _ h => ?_)
          obtain ⟨_, o109, e108, m110, h⟩ := gOb_inv h
          refine Y.callI (yC.Vi (b := v107) (As := []) (st := [.long v102]) (r := ("java/lang/String", T_ST, 4)) hV.1.1 cb_ST_length lk_M_310 in_ST_length rfl se_ST_length (lIa_ok dd36) rfl rfl (Nat.le_of_ble_eq_true rfl) (by decide) e108 m110) (k_ST_length hV G106 v107) h (fun v112 G111 _ h => ?_)
          refine Y.blk (pc' := 187) (L' := [some (.ref x51), some (.long v102), none, some (.int x53), none]) (st' := [.long v112.toInt64, .long v102]) (sg := [(.i2l, 0)]) (lSa_ok dd37) rfl ?_
          refine Y.callL (yC.S (As := [.long v102, .long v112.toInt64]) (st := []) hV.1.1 cb_M_add2 lk_M_307 st_M_add2 (lIa_ok dd38) rfl rfl (Nat.le_of_ble_eq_true rfl) (by decide)) (k_M_add2 hV.1 G111 v102 v112.toInt64) h (fun v115 G114 _ h => ?_)
          refine Y.blk (pc' := 194) (L' := [some (.ref x51), some (.long v115), none, some (.int x53), some (.int (nI 0))]) (st' := []) (sg := [(.lstore_n 1, 0), (.iconst 0, nI 0), (.istore 4, 0)]) (lSa_ok dd39) rfl ?_
          refine k_M_digest_L194 hV _ ?_  zFu G114 x51 v115 x53 (nI 0) h
          · intro G129 x126 x127 x128 h
            refine Y.blk (pc' := 227) (L' := [some (.ref x126), some (.long x127), none, some (.int (x128 + (nI 1))), none]) (st' := []) (sg := [(.iinc 3 1, nI 1)]) (lSa_ok dd40) rfl ?_
            refine Y.goto (off := -191) (tgt := 36) (lIa_ok dd41) (by decide) ?_
            exact ih G129 x126 x127 (x128 + (nI 1)) h
      · refine Y.goto (off := 163) (tgt := 224) (lIa_ok dd42) (by decide) ?_
        refine Y.blk (pc' := 227) (L' := [some (.ref x0), some (.long v21), none, some (.int (x3 + (nI 1))), none]) (st' := []) (sg := [(.iinc 3 1, nI 1)]) (lSa_ok dd40) rfl ?_
        refine Y.goto (off := -191) (tgt := 36) (lIa_ok dd41) (by decide) ?_
        exact ih G25 x0 v21 (x3 + (nI 1)) h
theorem k_M_digest_L241 {l : Launch} {D : va_G} {B : Nat} {O : State → Heap → Prop} {w : Nat → Nat} (hV : zGw l D B O w) {o : gO} {Gf : gH} (K331 : gH → Nat → Int64 → Int32 → gR) (hK331 : ∀ (G : gH) (x0 : Nat) (x1 : Int64) (x3 : Int32), K331 G x0 x1 x3 = some (o, Gf) → Y (zVm l D B O) m_M_digest 15 o Gf 331 [some (.ref x0), some (.long x1), none, some (.int x3), none] [] G) : ∀ (n : Nat) (G : gH) (x0 : Nat) (x1 : Int64) (x3 : Int32) (x4 : Int32), f_M_digest_L241 w K331 n G x0 x1 x3 x4 = some (o, Gf) → Y (zVm l D B O) m_M_digest 15 o Gf 241 [some (.ref x0), some (.long x1), none, some (.int x3), some (.int x4)] [] G := by
  have hdd : lSa m_M_digest 241 [(.iload 4, 0), (.bipush 6, nI 6)] = true ∧ lIa m_M_digest 245 (.if_icmp .ge 86) 3 = true ∧ lSa m_M_digest 248 [(.aload_n 0, 0), (.iload_n 3, 0)] = true ∧ lIa m_M_digest 250 (.invokevirtual 110) 3 = true ∧ lIa m_M_digest 253 (.ifCond .ne 72) 3 = true ∧ lSa m_M_digest 256 [(.aload_n 0, 0), (.iload 4, 0)] = true ∧ lIa m_M_digest 259 (.invokevirtual 110) 3 = true ∧ lIa m_M_digest 262 (.ifCond .eq 6) 3 = true ∧ lSa m_M_digest 268 [(.lload_n 1, 0), (.aload_n 0, 0), (.iload_n 3, 0), (.iload 4, 0)] = true ∧ lIa m_M_digest 273 (.invokevirtual 244) 3 = true ∧ lIa m_M_digest 276 (.invokestatic 188) 3 = true ∧ lSa m_M_digest 279 [(.i2l, 0)] = true ∧ lIa m_M_digest 280 (.invokestatic 307) 3 = true ∧ lSa m_M_digest 283 [(.aload_n 0, 0), (.iload_n 3, 0), (.iload 4, 0)] = true ∧ lIa m_M_digest 287 (.invokevirtual 238) 3 = true ∧ lIa m_M_digest 290 (.invokestatic 188) 3 = true ∧ lSa m_M_digest 293 [(.i2l, 0)] = true ∧ lIa m_M_digest 294 (.invokestatic 307) 3 = true ∧ lSa m_M_digest 297 [(.aload_n 0, 0), (.iload_n 3, 0), (.iload 4, 0)] = true ∧ lIa m_M_digest 301 (.invokevirtual 241) 3 = true ∧ lIa m_M_digest 304 (.invokestatic 188) 3 = true ∧ lSa m_M_digest 307 [(.i2l, 0)] = true ∧ lIa m_M_digest 308 (.invokestatic 307) 3 = true ∧ lSa m_M_digest 311 [(.lstore_n 1, 0), (.lload_n 1, 0), (.aload_n 0, 0), (.iload_n 3, 0), (.iload 4, 0)] = true ∧ lIa m_M_digest 317 (.invokevirtual 247) 3 = true ∧ lSa m_M_digest 320 [(.i2l, 0)] = true ∧ lIa m_M_digest 321 (.invokestatic 307) 3 = true ∧ lSa m_M_digest 324 [(.lstore_n 1, 0), (.iinc 4 1, nI 1)] = true ∧ lIa m_M_digest 328 (.goto (-87)) 3 = true ∧ lIa m_M_digest 265 (.goto 60) 3 = true ∧ lSa m_M_digest 325 [(.iinc 4 1, nI 1)] = true := by decide +kernel
  refine lA8 hdd (fun dd0 dd1 dd2 dd3 dd4 dd5 dd6 dd7 hdd => ?_)
  refine lA8 hdd (fun dd8 dd9 dd10 dd11 dd12 dd13 dd14 dd15 hdd => ?_)
  refine lA8 hdd (fun dd16 dd17 dd18 dd19 dd20 dd21 dd22 dd23 hdd => ?_)
  obtain ⟨dd24, dd25, dd26, dd27, dd28, dd29, dd30⟩ := hdd
  intro n
  induction n with
  | zero => intro G x0 x1 x3 x4 h; cases h
  | succ n ih =>
    intro G x0 x1 x3 x4 h
    unfold f_M_digest_L241 at h
    refine Y.blk (pc' := 245) (L' := [some (.ref x0), some (.long x1), none, some (.int x3), some (.int x4)]) (st' := [.int (nI 6), .int x4]) (sg := [(.iload 4, 0), (.bipush 6, nI 6)]) (lSa_ok dd0) rfl ?_
    refine Y.ic_ge (off := 86) (tgt := 331) (lIa_ok dd1) (by decide) h (fun c188 h => ?_) (fun c188 h => ?_)
    · refine Y.less (L' := [some (.ref x0), some (.long x1), none, some (.int x3), none]) (zLe_some (zLe_some (zLe_some (zLe_some (zLe_none (zLe_nil)))))) ?_
      exact hK331 G x0 x1 x3 h
    · refine Y.blk (pc' := 250) (L' := [some (.ref x0), some (.long x1), none, some (.int x3), some (.int x4)]) (st' := [.int x3, .ref x0]) (sg := [(.aload_n 0, 0), (.iload_n 3, 0)]) (lSa_ok dd2) rfl ?_
      obtain ⟨_, o136, e135, m137, h⟩ := gOb_inv h
      refine Y.callI (yC.Vi (b := x0) (As := [.int x3]) (st := []) (r := ("PartlisterModel", T_M, 9)) hV.1.1 cb_M_isNoList lk_M_110 in_M_isNoList rfl se_M_isNoList (lIa_ok dd3) rfl rfl (Nat.le_of_ble_eq_true rfl) (by decide) e135 m137) (k_M_isNoList hV.1 G x0 x3) h (fun v139 G138 _ h => ?_)
      refine Y.if_ne (off := 72) (tgt := 325) (lIa_ok dd4) (by decide) h (fun c187 h => ?_) (fun c187 h => ?_)
      · refine Y.blk (pc' := 259) (L' := [some (.ref x0), some (.long x1), none, some (.int x3), some (.int x4)]) (st' := [.int x4, .ref x0]) (sg := [(.aload_n 0, 0), (.iload 4, 0)]) (lSa_ok dd5) rfl ?_
        obtain ⟨_, o141, e140, m142, h⟩ := gOb_inv h
        refine Y.callI (yC.Vi (b := x0) (As := [.int x4]) (st := []) (r := ("PartlisterModel", T_M, 9)) hV.1.1 cb_M_isNoList lk_M_110 in_M_isNoList rfl se_M_isNoList (lIa_ok dd6) rfl rfl (Nat.le_of_ble_eq_true rfl) (by decide) e140 m142) (k_M_isNoList hV.1 G138 x0 x4) h (fun v144 G143 _ h => ?_)
        refine Y.if_eq (off := 6) (tgt := 268) (lIa_ok dd7) (by decide) h (fun c186 h => ?_) (fun c186 h => ?_)
        · refine Y.blk (pc' := 273) (L' := [some (.ref x0), some (.long x1), none, some (.int x3), some (.int x4)]) (st' := [.int x4, .int x3, .ref x0, .long x1]) (sg := [(.lload_n 1, 0), (.aload_n 0, 0), (.iload_n 3, 0), (.iload 4, 0)]) (lSa_ok dd8) rfl ?_
          obtain ⟨_, o146, e145, m147, h⟩ := gOb_inv h
          refine Y.callI (yC.Vi (b := x0) (As := [.int x3, .int x4]) (st := [.long x1]) (r := ("PartlisterModel", T_M, 9)) hV.1.1 cb_M_same lk_M_244 in_M_same rfl se_M_same (lIa_ok dd9) rfl rfl (Nat.le_of_ble_eq_true rfl) (by decide) e145 m147) (k_M_same hV.1 G143 x0 x3 x4) h (fun v149 G148 _ h => ?_)
          refine Y.callI (yC.S (As := [.int v149]) (st := [.long x1]) hV.1.1 cb_M_one lk_M_188 st_M_one (lIa_ok dd10) rfl rfl (Nat.le_of_ble_eq_true rfl) (by decide)) (k_M_one hV.1 G148 v149) h (fun v152 G151 _ h => ?_)
          refine Y.blk (pc' := 280) (L' := [some (.ref x0), some (.long x1), none, some (.int x3), some (.int x4)]) (st' := [.long v152.toInt64, .long x1]) (sg := [(.i2l, 0)]) (lSa_ok dd11) rfl ?_
          refine Y.callL (yC.S (As := [.long x1, .long v152.toInt64]) (st := []) hV.1.1 cb_M_add2 lk_M_307 st_M_add2 (lIa_ok dd12) rfl rfl (Nat.le_of_ble_eq_true rfl) (by decide)) (k_M_add2 hV.1 G151 x1 v152.toInt64) h (fun v155 G154 _ h => ?_)
          refine Y.blk (pc' := 287) (L' := [some (.ref x0), some (.long x1), none, some (.int x3), some (.int x4)]) (st' := [.int x4, .int x3, .ref x0, .long v155]) (sg := [(.aload_n 0, 0), (.iload_n 3, 0), (.iload 4, 0)]) (lSa_ok dd13) rfl ?_
          obtain ⟨_, o157, e156, m158, h⟩ := gOb_inv h
          refine Y.callI (yC.Vi (b := x0) (As := [.int x3, .int x4]) (st := [.long v155]) (r := ("PartlisterModel", T_M, 9)) hV.1.1 cb_M_hasEach lk_M_238 in_M_hasEach rfl se_M_hasEach (lIa_ok dd14) rfl rfl (Nat.le_of_ble_eq_true rfl) (by decide) e156 m158) (k_M_hasEach hV.1 G154 x0 x3 x4) h (fun v160 G159 _ h => ?_)
          refine Y.callI (yC.S (As := [.int v160]) (st := [.long v155]) hV.1.1 cb_M_one lk_M_188 st_M_one (lIa_ok dd15) rfl rfl (Nat.le_of_ble_eq_true rfl) (by decide)) (k_M_one hV.1 G159 v160) h (fun v163 G162 _ h => ?_)
          refine Y.blk (pc' := 294) (L' := [some (.ref x0), some (.long x1), none, some (.int x3), some (.int x4)]) (st' := [.long v163.toInt64, .long v155]) (sg := [(.i2l, 0)]) (lSa_ok dd16) rfl ?_
          refine Y.callL (yC.S (As := [.long v155, .long v163.toInt64]) (st := []) hV.1.1 cb_M_add2 lk_M_307 st_M_add2 (lIa_ok dd17) rfl rfl (Nat.le_of_ble_eq_true rfl) (by decide)) (k_M_add2 hV.1 G162 v155 v163.toInt64) h (fun v166 G165 _ h => ?_)
          refine Y.blk (pc' := 301) (L' := [some (.ref x0), some (.long x1), none, some (.int x3), some (.int x4)]) (st' := [.int x4, .int x3, .ref x0, .long v166]) (sg := [(.aload_n 0, 0), (.iload_n 3, 0), (.iload 4, 0)]) (lSa_ok dd18) rfl ?_
          obtain ⟨_, o168, e167, m169, h⟩ := gOb_inv h
          refine Y.callI (yC.Vi (b := x0) (As := [.int x3, .int x4]) (st := [.long v166]) (r := ("PartlisterModel", T_M, 9)) hV.1.1 cb_M_hasNoneOf lk_M_241 in_M_hasNoneOf rfl se_M_hasNoneOf (lIa_ok dd19) rfl rfl (Nat.le_of_ble_eq_true rfl) (by decide) e167 m169) (k_M_hasNoneOf hV.1 G165 x0 x3 x4) h (fun v171 G170 _ h => ?_)
          refine Y.callI (yC.S (As := [.int v171]) (st := [.long v166]) hV.1.1 cb_M_one lk_M_188 st_M_one (lIa_ok dd20) rfl rfl (Nat.le_of_ble_eq_true rfl) (by decide)) (k_M_one hV.1 G170 v171) h (fun v174 G173 _ h => ?_)
          refine Y.blk (pc' := 308) (L' := [some (.ref x0), some (.long x1), none, some (.int x3), some (.int x4)]) (st' := [.long v174.toInt64, .long v166]) (sg := [(.i2l, 0)]) (lSa_ok dd21) rfl ?_
          refine Y.callL (yC.S (As := [.long v166, .long v174.toInt64]) (st := []) hV.1.1 cb_M_add2 lk_M_307 st_M_add2 (lIa_ok dd22) rfl rfl (Nat.le_of_ble_eq_true rfl) (by decide)) (k_M_add2 hV.1 G173 v166 v174.toInt64) h (fun v177 G176 _ h => ?_)
          refine Y.blk (pc' := 317) (L' := [some (.ref x0), some (.long v177), none, some (.int x3), some (.int x4)]) (st' := [.int x4, .int x3, .ref x0, .long v177]) (sg := [(.lstore_n 1, 0), (.lload_n 1, 0), (.aload_n 0, 0), (.iload_n 3, 0), (.iload 4, 0)]) (lSa_ok dd23) rfl ?_
          obtain ⟨_, o179, e178, m180, h⟩ := gOb_inv h
          refine Y.callI (yC.Vi (b := x0) (As := [.int x3, .int x4]) (st := [.long v177]) (r := ("PartlisterModel", T_M, 9)) hV.1.1 cb_M_found lk_M_247 in_M_found rfl se_M_found (lIa_ok dd24) rfl rfl (Nat.le_of_ble_eq_true rfl) (by decide) e178 m180) (k_M_found hV.1 G176 x0 x3 x4) h (fun v182 G181 _ h => ?_)
          refine Y.blk (pc' := 321) (L' := [some (.ref x0), some (.long v177), none, some (.int x3), some (.int x4)]) (st' := [.long v182.toInt64, .long v177]) (sg := [(.i2l, 0)]) (lSa_ok dd25) rfl ?_
          refine Y.callL (yC.S (As := [.long v177, .long v182.toInt64]) (st := []) hV.1.1 cb_M_add2 lk_M_307 st_M_add2 (lIa_ok dd26) rfl rfl (Nat.le_of_ble_eq_true rfl) (by decide)) (k_M_add2 hV.1 G181 v177 v182.toInt64) h (fun v185 G184 _ h => ?_)
          refine Y.blk (pc' := 328) (L' := [some (.ref x0), some (.long v185), none, some (.int x3), some (.int (x4 + (nI 1)))]) (st' := []) (sg := [(.lstore_n 1, 0), (.iinc 4 1, nI 1)]) (lSa_ok dd27) rfl ?_
          refine Y.goto (off := -87) (tgt := 241) (lIa_ok dd28) (by decide) ?_
          exact ih G184 x0 v185 x3 (x4 + (nI 1)) h
        · refine Y.goto (off := 60) (tgt := 325) (lIa_ok dd29) (by decide) ?_
          refine Y.blk (pc' := 328) (L' := [some (.ref x0), some (.long x1), none, some (.int x3), some (.int (x4 + (nI 1)))]) (st' := []) (sg := [(.iinc 4 1, nI 1)]) (lSa_ok dd30) rfl ?_
          refine Y.goto (off := -87) (tgt := 241) (lIa_ok dd28) (by decide) ?_
          exact ih G143 x0 x1 x3 (x4 + (nI 1)) h
      · refine Y.blk (pc' := 328) (L' := [some (.ref x0), some (.long x1), none, some (.int x3), some (.int (x4 + (nI 1)))]) (st' := []) (sg := [(.iinc 4 1, nI 1)]) (lSa_ok dd30) rfl ?_
        refine Y.goto (off := -87) (tgt := 241) (lIa_ok dd28) (by decide) ?_
        exact ih G138 x0 x1 x3 (x4 + (nI 1)) h
theorem k_M_digest_L232 {l : Launch} {D : va_G} {B : Nat} {O : State → Heap → Prop} {w : Nat → Nat} (hV : zGw l D B O w) {o : gO} {Gf : gH} (K337 : gH → Nat → Int64 → gR) (hK337 : ∀ (G : gH) (x0 : Nat) (x1 : Int64), K337 G x0 x1 = some (o, Gf) → Y (zVm l D B O) m_M_digest 15 o Gf 337 [some (.ref x0), some (.long x1), none, none, none] [] G) : ∀ (n : Nat) (G : gH) (x0 : Nat) (x1 : Int64) (x3 : Int32), f_M_digest_L232 w K337 n G x0 x1 x3 = some (o, Gf) → Y (zVm l D B O) m_M_digest 15 o Gf 232 [some (.ref x0), some (.long x1), none, some (.int x3), none] [] G := by
  have hdd : lSa m_M_digest 232 [(.iload_n 3, 0), (.bipush 6, nI 6)] = true ∧ lIa m_M_digest 235 (.if_icmp .ge 102) 3 = true ∧ lSa m_M_digest 238 [(.iconst 0, nI 0), (.istore 4, 0)] = true ∧ lSa m_M_digest 331 [(.iinc 3 1, nI 1)] = true ∧ lIa m_M_digest 334 (.goto (-102)) 3 = true := by decide +kernel
  obtain ⟨dd0, dd1, dd2, dd3, dd4⟩ := hdd
  intro n
  induction n with
  | zero => intro G x0 x1 x3 h; cases h
  | succ n ih =>
    intro G x0 x1 x3 h
    unfold f_M_digest_L232 at h
    refine Y.blk (pc' := 235) (L' := [some (.ref x0), some (.long x1), none, some (.int x3), none]) (st' := [.int (nI 6), .int x3]) (sg := [(.iload_n 3, 0), (.bipush 6, nI 6)]) (lSa_ok dd0) rfl ?_
    refine Y.ic_ge (off := 102) (tgt := 337) (lIa_ok dd1) (by decide) h (fun c193 h => ?_) (fun c193 h => ?_)
    · refine Y.less (L' := [some (.ref x0), some (.long x1), none, none, none]) (zLe_some (zLe_some (zLe_some (zLe_none (zLe_some (zLe_nil)))))) ?_
      exact hK337 G x0 x1 h
    · refine Y.blk (pc' := 241) (L' := [some (.ref x0), some (.long x1), none, some (.int x3), some (.int (nI 0))]) (st' := []) (sg := [(.iconst 0, nI 0), (.istore 4, 0)]) (lSa_ok dd2) rfl ?_
      refine k_M_digest_L241 hV _ ?_  zFu G x0 x1 x3 (nI 0) h
      · intro G192 x189 x190 x191 h
        refine Y.blk (pc' := 334) (L' := [some (.ref x189), some (.long x190), none, some (.int (x191 + (nI 1))), none]) (st' := []) (sg := [(.iinc 3 1, nI 1)]) (lSa_ok dd3) rfl ?_
        refine Y.goto (off := -102) (tgt := 232) (lIa_ok dd4) (by decide) ?_
        exact ih G192 x189 x190 (x191 + (nI 1)) h
theorem k_M_digest_L347 {l : Launch} {D : va_G} {B : Nat} {O : State → Heap → Prop} {w : Nat → Nat} (hV : zGw l D B O w) {o : gO} {Gf : gH} (K373 : gH → Nat → Int64 → Int32 → gR) (hK373 : ∀ (G : gH) (x0 : Nat) (x1 : Int64) (x3 : Int32), K373 G x0 x1 x3 = some (o, Gf) → Y (zVm l D B O) m_M_digest 15 o Gf 373 [some (.ref x0), some (.long x1), none, some (.int x3), none] [] G) : ∀ (n : Nat) (G : gH) (x0 : Nat) (x1 : Int64) (x3 : Int32) (x4 : Int32), f_M_digest_L347 w K373 n G x0 x1 x3 x4 = some (o, Gf) → Y (zVm l D B O) m_M_digest 15 o Gf 347 [some (.ref x0), some (.long x1), none, some (.int x3), some (.int x4)] [] G := by
  have hdd : lSa m_M_digest 347 [(.iload 4, 0), (.bipush 7, nI 7)] = true ∧ lIa m_M_digest 351 (.if_icmp .ge 22) 3 = true ∧ lSa m_M_digest 354 [(.lload_n 1, 0), (.aload_n 0, 0), (.iload_n 3, 0), (.iload 4, 0)] = true ∧ lIa m_M_digest 359 (.invokevirtual 290) 3 = true ∧ lSa m_M_digest 362 [(.i2l, 0)] = true ∧ lIa m_M_digest 363 (.invokestatic 307) 3 = true ∧ lSa m_M_digest 366 [(.lstore_n 1, 0), (.iinc 4 1, nI 1)] = true ∧ lIa m_M_digest 370 (.goto (-23)) 3 = true := by decide +kernel
  obtain ⟨dd0, dd1, dd2, dd3, dd4, dd5, dd6, dd7⟩ := hdd
  intro n
  induction n with
  | zero => intro G x0 x1 x3 x4 h; cases h
  | succ n ih =>
    intro G x0 x1 x3 x4 h
    unfold f_M_digest_L347 at h
    refine Y.blk (pc' := 351) (L' := [some (.ref x0), some (.long x1), none, some (.int x3), some (.int x4)]) (st' := [.int (nI 7), .int x4]) (sg := [(.iload 4, 0), (.bipush 7, nI 7)]) (lSa_ok dd0) rfl ?_
    refine Y.ic_ge (off := 22) (tgt := 373) (lIa_ok dd1) (by decide) h (fun c205 h => ?_) (fun c205 h => ?_)
    · refine Y.less (L' := [some (.ref x0), some (.long x1), none, some (.int x3), none]) (zLe_some (zLe_some (zLe_some (zLe_some (zLe_none (zLe_nil)))))) ?_
      exact hK373 G x0 x1 x3 h
    · refine Y.blk (pc' := 359) (L' := [some (.ref x0), some (.long x1), none, some (.int x3), some (.int x4)]) (st' := [.int x4, .int x3, .ref x0, .long x1]) (sg := [(.lload_n 1, 0), (.aload_n 0, 0), (.iload_n 3, 0), (.iload 4, 0)]) (lSa_ok dd2) rfl ?_
      obtain ⟨_, o198, e197, m199, h⟩ := gOb_inv h
      refine Y.callI (yC.Vi (b := x0) (As := [.int x3, .int x4]) (st := [.long x1]) (r := ("PartlisterModel", T_M, 9)) hV.1.1 cb_M_cursorTold lk_M_290 in_M_cursorTold rfl se_M_cursorTold (lIa_ok dd3) rfl rfl (Nat.le_of_ble_eq_true rfl) (by decide) e197 m199) (k_M_cursorTold hV.1 G x0 x3 x4) h (fun v201 G200 _ h => ?_)
      refine Y.blk (pc' := 363) (L' := [some (.ref x0), some (.long x1), none, some (.int x3), some (.int x4)]) (st' := [.long v201.toInt64, .long x1]) (sg := [(.i2l, 0)]) (lSa_ok dd4) rfl ?_
      refine Y.callL (yC.S (As := [.long x1, .long v201.toInt64]) (st := []) hV.1.1 cb_M_add2 lk_M_307 st_M_add2 (lIa_ok dd5) rfl rfl (Nat.le_of_ble_eq_true rfl) (by decide)) (k_M_add2 hV.1 G200 x1 v201.toInt64) h (fun v204 G203 _ h => ?_)
      refine Y.blk (pc' := 370) (L' := [some (.ref x0), some (.long v204), none, some (.int x3), some (.int (x4 + (nI 1)))]) (st' := []) (sg := [(.lstore_n 1, 0), (.iinc 4 1, nI 1)]) (lSa_ok dd6) rfl ?_
      refine Y.goto (off := -23) (tgt := 347) (lIa_ok dd7) (by decide) ?_
      exact ih G203 x0 v204 x3 (x4 + (nI 1)) h
theorem k_M_digest_L339 {l : Launch} {D : va_G} {B : Nat} {O : State → Heap → Prop} {w : Nat → Nat} (hV : zGw l D B O w) {o : gO} {Gf : gH} (K379 : gH → Nat → Int64 → gR) (hK379 : ∀ (G : gH) (x0 : Nat) (x1 : Int64), K379 G x0 x1 = some (o, Gf) → Y (zVm l D B O) m_M_digest 15 o Gf 379 [some (.ref x0), some (.long x1), none, none, none] [] G) : ∀ (n : Nat) (G : gH) (x0 : Nat) (x1 : Int64) (x3 : Int32), f_M_digest_L339 w K379 n G x0 x1 x3 = some (o, Gf) → Y (zVm l D B O) m_M_digest 15 o Gf 339 [some (.ref x0), some (.long x1), none, some (.int x3), none] [] G := by
  have hdd : lSa m_M_digest 339 [(.iload_n 3, 0), (.iconst 3, nI 3)] = true ∧ lIa m_M_digest 341 (.if_icmp .ge 38) 3 = true ∧ lSa m_M_digest 344 [(.iconst 0, nI 0), (.istore 4, 0)] = true ∧ lSa m_M_digest 373 [(.iinc 3 1, nI 1)] = true ∧ lIa m_M_digest 376 (.goto (-37)) 3 = true := by decide +kernel
  obtain ⟨dd0, dd1, dd2, dd3, dd4⟩ := hdd
  intro n
  induction n with
  | zero => intro G x0 x1 x3 h; cases h
  | succ n ih =>
    intro G x0 x1 x3 h
    unfold f_M_digest_L339 at h
    refine Y.blk (pc' := 341) (L' := [some (.ref x0), some (.long x1), none, some (.int x3), none]) (st' := [.int (nI 3), .int x3]) (sg := [(.iload_n 3, 0), (.iconst 3, nI 3)]) (lSa_ok dd0) rfl ?_
    refine Y.ic_ge (off := 38) (tgt := 379) (lIa_ok dd1) (by decide) h (fun c210 h => ?_) (fun c210 h => ?_)
    · refine Y.less (L' := [some (.ref x0), some (.long x1), none, none, none]) (zLe_some (zLe_some (zLe_some (zLe_none (zLe_some (zLe_nil)))))) ?_
      exact hK379 G x0 x1 h
    · refine Y.blk (pc' := 347) (L' := [some (.ref x0), some (.long x1), none, some (.int x3), some (.int (nI 0))]) (st' := []) (sg := [(.iconst 0, nI 0), (.istore 4, 0)]) (lSa_ok dd2) rfl ?_
      refine k_M_digest_L347 hV _ ?_  zFu G x0 x1 x3 (nI 0) h
      · intro G209 x206 x207 x208 h
        refine Y.blk (pc' := 376) (L' := [some (.ref x206), some (.long x207), none, some (.int (x208 + (nI 1))), none]) (st' := []) (sg := [(.iinc 3 1, nI 1)]) (lSa_ok dd3) rfl ?_
        refine Y.goto (off := -37) (tgt := 339) (lIa_ok dd4) (by decide) ?_
        exact ih G209 x206 x207 (x208 + (nI 1)) h
theorem k_M_digest {l : Launch} {D : va_G} {B : Nat} {O : State → Heap → Prop} {w : Nat → Nat} (hV : zGw l D B O w) (G : gH) (a0 : Nat) : gMet (zVm l D B O) m_M_digest 15 [.ref a0] G (f_M_digest w G a0) := by
  have hdd : lSa m_M_digest 0 [(.aload_n 0, 0), (.iconst 0, nI 0)] = true ∧ lIa m_M_digest 2 (.putfield 32) 3 = true ∧ lIa m_M_digest 5 (.ldc2_w 305) 3 = true ∧ lSa m_M_digest 8 [(.lstore_n 1, 0), (.iconst 0, nI 0), (.istore_n 3, 0)] = true ∧ lSa m_M_digest 34 [(.iconst 0, nI 0), (.istore_n 3, 0)] = true ∧ lSa m_M_digest 230 [(.iconst 0, nI 0), (.istore_n 3, 0)] = true ∧ lSa m_M_digest 337 [(.iconst 0, nI 0), (.istore_n 3, 0)] = true ∧ lSa m_M_digest 379 [(.lload_n 1, 0), (.aload_n 0, 0)] = true ∧ lIa m_M_digest 381 (.invokevirtual 299) 3 = true ∧ lIa m_M_digest 384 (.invokestatic 188) 3 = true ∧ lSa m_M_digest 387 [(.i2l, 0)] = true ∧ lIa m_M_digest 388 (.invokestatic 307) 3 = true ∧ lIa m_M_digest 391 (.lreturn) 1 = true := by decide +kernel
  refine lA8 hdd (fun dd0 dd1 dd2 dd3 dd4 dd5 dd6 dd7 hdd => ?_)
  obtain ⟨dd8, dd9, dd10, dd11, dd12⟩ := hdd
  refine gMet.of (by decide +kernel) (Nat.le_of_ble_eq_true rfl) [some (.ref a0), none, none, none, none] (fun ls h => zEn_ok (n := 5) h) ?_
  intro o Gf h
  unfold f_M_digest at h
  refine Y.blk (pc' := 2) (L' := [some (.ref a0), none, none, none, none]) (st' := [.int (nI 0), .ref a0]) (sg := [(.aload_n 0, 0), (.iconst 0, nI 0)]) (lSa_ok dd0) rfl ?_
  refine Y.putf fl_M_32 (by decide) rfl rfl (lIa_ok dd1) h (fun G1 _ _ h => ?_)
  refine Y.ldc2 (v := lN 2203) co_M_305 (lIa_ok dd2) ?_
  refine Y.blk (pc' := 11) (L' := [some (.ref a0), some (.long (lN 2203)), none, some (.int (nI 0)), none]) (st' := []) (sg := [(.lstore_n 1, 0), (.iconst 0, nI 0), (.istore_n 3, 0)]) (lSa_ok dd3) rfl ?_
  refine k_M_digest_L11 hV _ ?_  zFu G1 a0 (lN 2203) (nI 0) h
  · intro G13 x11 x12 h
    refine Y.blk (pc' := 36) (L' := [some (.ref x11), some (.long x12), none, some (.int (nI 0)), none]) (st' := []) (sg := [(.iconst 0, nI 0), (.istore_n 3, 0)]) (lSa_ok dd4) rfl ?_
    refine k_M_digest_L36 hV _ ?_  zFu G13 x11 x12 (nI 0) h
    · intro G134 x132 x133 h
      refine Y.blk (pc' := 232) (L' := [some (.ref x132), some (.long x133), none, some (.int (nI 0)), none]) (st' := []) (sg := [(.iconst 0, nI 0), (.istore_n 3, 0)]) (lSa_ok dd5) rfl ?_
      refine k_M_digest_L232 hV _ ?_  zFu G134 x132 x133 (nI 0) h
      · intro G196 x194 x195 h
        refine Y.blk (pc' := 339) (L' := [some (.ref x194), some (.long x195), none, some (.int (nI 0)), none]) (st' := []) (sg := [(.iconst 0, nI 0), (.istore_n 3, 0)]) (lSa_ok dd6) rfl ?_
        refine k_M_digest_L339 hV _ ?_  zFu G196 x194 x195 (nI 0) h
        · intro G213 x211 x212 h
          refine Y.blk (pc' := 381) (L' := [some (.ref x211), some (.long x212), none, none, none]) (st' := [.ref x211, .long x212]) (sg := [(.lload_n 1, 0), (.aload_n 0, 0)]) (lSa_ok dd7) rfl ?_
          obtain ⟨_, o215, e214, m216, h⟩ := gOb_inv h
          refine Y.callI (yC.Vi (b := x211) (As := []) (st := [.long x212]) (r := ("PartlisterModel", T_M, 9)) hV.1.1 cb_M_isWhole lk_M_299 in_M_isWhole rfl se_M_isWhole (lIa_ok dd8) rfl rfl (Nat.le_of_ble_eq_true rfl) (by decide) e214 m216) (k_M_isWhole hV G213 x211) h (fun v218 G217 _ h => ?_)
          refine Y.callI (yC.S (As := [.int v218]) (st := [.long x212]) hV.1.1 cb_M_one lk_M_188 st_M_one (lIa_ok dd9) rfl rfl (Nat.le_of_ble_eq_true rfl) (by decide)) (k_M_one hV.1 G217 v218) h (fun v221 G220 _ h => ?_)
          refine Y.blk (pc' := 388) (L' := [some (.ref x211), some (.long x212), none, none, none]) (st' := [.long v221.toInt64, .long x212]) (sg := [(.i2l, 0)]) (lSa_ok dd10) rfl ?_
          refine Y.callL (yC.S (As := [.long x212, .long v221.toInt64]) (st := []) hV.1.1 cb_M_add2 lk_M_307 st_M_add2 (lIa_ok dd11) rfl rfl (Nat.le_of_ble_eq_true rfl) (by decide)) (k_M_add2 hV.1 G220 x212 v221.toInt64) h (fun v224 G223 _ h => ?_)
          exact Y.lret rfl (lIa_ok dd12) h
end
section
def f_M_fault (G : gH) (a0 : Nat) (a1 : Int32) : gR :=
  gFI G a0 6 7 fun v1 => gPut G a0 6 7 (.int (v1 + (nI 1))) fun G2 => rI a1 G2
theorem k_M_fault {l : Launch} {D : va_G} {B : Nat} {O : State → Heap → Prop} (hV : zG l D B O) (G : gH) (a0 : Nat) (a1 : Int32) : gMet (zVm l D B O) m_M_fault 2 [.ref a0, .int a1] G (f_M_fault G a0 a1) := by
  have hdd : lSa m_M_fault 0 [(.aload_n 0, 0), (.dup, 0)] = true ∧ lIa m_M_fault 2 (.getfield 211) 3 = true ∧ lSa m_M_fault 5 [(.iconst 1, nI 1), (.iadd, 0)] = true ∧ lIa m_M_fault 7 (.putfield 211) 3 = true ∧ lSa m_M_fault 10 [(.iload_n 1, 0)] = true ∧ lIa m_M_fault 11 (.ireturn) 1 = true := by decide +kernel
  obtain ⟨dd0, dd1, dd2, dd3, dd4, dd5⟩ := hdd
  refine gMet.of (by decide +kernel) (Nat.le_of_ble_eq_true rfl) [some (.ref a0), some (.int a1)] (fun ls h => zEn_ok (n := 2) h) ?_
  intro o Gf h
  unfold f_M_fault at h
  refine Y.blk (pc' := 2) (L' := [some (.ref a0), some (.int a1)]) (st' := [.ref a0, .ref a0]) (sg := [(.aload_n 0, 0), (.dup, 0)]) (lSa_ok dd0) rfl ?_
  refine Y.getI fl_M_211 (lIa_ok dd1) h (fun v1 h => ?_)
  refine Y.blk (pc' := 7) (L' := [some (.ref a0), some (.int a1)]) (st' := [.int (v1 + (nI 1)), .ref a0]) (sg := [(.iconst 1, nI 1), (.iadd, 0)]) (lSa_ok dd2) rfl ?_
  refine Y.putf fl_M_211 (by decide) rfl rfl (lIa_ok dd3) h (fun G2 _ _ h => ?_)
  refine Y.blk (pc' := 11) (L' := [some (.ref a0), some (.int a1)]) (st' := [.int a1]) (sg := [(.iload_n 1, 0)]) (lSa_ok dd4) rfl ?_
  exact Y.iret rfl (lIa_ok dd5) h

def f_M_isNoCursor (G : gH) (a0 : Nat) (a1 : Int32) : gR :=
  bI (f_M_isIn G a1 (nI 0) (nI 2)) fun v3 G2 => if v3 = 0 then rZ (nI 1) G2
  else gFA G2 a0 6 3 fun v4 => gLdq G2 v4 105 a1 (rZ (nI 1) G2) fun v5 => rZ (nI 0) G2
theorem k_M_isNoCursor {l : Launch} {D : va_G} {B : Nat} {O : State → Heap → Prop} (hV : zG l D B O) (G : gH) (a0 : Nat) (a1 : Int32) : gMet (zVm l D B O) m_M_isNoCursor 3 [.ref a0, .int a1] G (f_M_isNoCursor G a0 a1) := by
  have hdd : lSa m_M_isNoCursor 0 [(.iload_n 1, 0), (.iconst 0, nI 0), (.iconst 2, nI 2)] = true ∧ lIa m_M_isNoCursor 3 (.invokestatic 40) 3 = true ∧ lIa m_M_isNoCursor 6 (.ifCond .eq 12) 3 = true ∧ lSa m_M_isNoCursor 18 [(.iconst 1, nI 1)] = true ∧ lIa m_M_isNoCursor 19 (.goto 4) 3 = true ∧ lIa m_M_isNoCursor 23 (.ireturn) 1 = true ∧ lSa m_M_isNoCursor 9 [(.aload_n 0, 0)] = true ∧ lIa m_M_isNoCursor 10 (.getfield 24) 3 = true ∧ lSa m_M_isNoCursor 13 [(.iload_n 1, 0)] = true ∧ lIa m_M_isNoCursor 14 (.aaload) 1 = true ∧ lIa m_M_isNoCursor 15 (.ifnonnull 7) 3 = true ∧ lSa m_M_isNoCursor 22 [(.iconst 0, nI 0)] = true := by decide +kernel
  refine lA8 hdd (fun dd0 dd1 dd2 dd3 dd4 dd5 dd6 dd7 hdd => ?_)
  obtain ⟨dd8, dd9, dd10, dd11⟩ := hdd
  refine gMet.of (by decide +kernel) (Nat.le_of_ble_eq_true rfl) [some (.ref a0), some (.int a1)] (fun ls h => zEn_ok (n := 2) h) ?_
  intro o Gf h
  unfold f_M_isNoCursor at h
  refine Y.blk (pc' := 3) (L' := [some (.ref a0), some (.int a1)]) (st' := [.int (nI 2), .int (nI 0), .int a1]) (sg := [(.iload_n 1, 0), (.iconst 0, nI 0), (.iconst 2, nI 2)]) (lSa_ok dd0) rfl ?_
  refine Y.callI (yC.S (As := [.int a1, .int (nI 0), .int (nI 2)]) (st := []) hV.1 cb_M_isIn lk_M_40 st_M_isIn (lIa_ok dd1) rfl rfl (Nat.le_of_ble_eq_true rfl) (by decide)) (k_M_isIn hV G a1 (nI 0) (nI 2)) h (fun v3 G2 _ h => ?_)
  refine Y.if_eq (off := 12) (tgt := 18) (lIa_ok dd2) (by decide) h (fun c6 h => ?_) (fun c6 h => ?_)
  · refine Y.blk (pc' := 19) (L' := [some (.ref a0), some (.int a1)]) (st' := [.int (nI 1)]) (sg := [(.iconst 1, nI 1)]) (lSa_ok dd3) rfl ?_
    refine Y.goto (off := 4) (tgt := 23) (lIa_ok dd4) (by decide) ?_
    exact Y.zret rfl (lIa_ok dd5) h
  · refine Y.blk (pc' := 10) (L' := [some (.ref a0), some (.int a1)]) (st' := [.ref a0]) (sg := [(.aload_n 0, 0)]) (lSa_ok dd6) rfl ?_
    refine Y.getA fl_M_24 (lIa_ok dd7) h (fun v4 h => ?_)
    refine Y.blk (pc' := 14) (L' := [some (.ref a0), some (.int a1)]) (st' := [.int a1, .ref v4]) (sg := [(.iload_n 1, 0)]) (lSa_ok dd8) rfl ?_
    refine Y.aald (t0 := 5) (lIa_ok dd9) rfl h (fun h => ?_) (fun v5 h => ?_)
    · refine Y.ifnonnull_n (off := 7) (lIa_ok dd10) ?_
      refine Y.blk (pc' := 19) (L' := [some (.ref a0), some (.int a1)]) (st' := [.int (nI 1)]) (sg := [(.iconst 1, nI 1)]) (lSa_ok dd3) rfl ?_
      refine Y.goto (off := 4) (tgt := 23) (lIa_ok dd4) (by decide) ?_
      exact Y.zret rfl (lIa_ok dd5) h
    · refine Y.ifnonnull_r (off := 7) (tgt := 22) (lIa_ok dd10) (by decide) ?_
      refine Y.blk (pc' := 23) (L' := [some (.ref a0), some (.int a1)]) (st' := [.int (nI 0)]) (sg := [(.iconst 0, nI 0)]) (lSa_ok dd11) rfl ?_
      exact Y.zret rfl (lIa_ok dd5) h

def f_M_drop (G : gH) (a0 : Nat) (a1 : Int32) : gR :=
  gOb G a0 6 fun o2 => bI (f_M_isNoCursor G a0 a1) fun v5 G4 => gOb G4 a0 6 fun o7 => bI (f_M_start G4 a0 v5 (nI 1)) fun v10 G9 => if v10 = 0 then (gFA G9 a0 6 3 fun v11 => gLdq G9 v11 105 a1 (none) fun v12 => gFI G9 v12 4 3 fun v13 => if v13 = 0 then (gFI G9 v12 4 2 fun v14 => if v14 = (-1) then gOb G9 a0 6 fun o16 => bI (f_M_fault G9 a0 (-7)) fun v19 G18 => rI v19 G18
        else gFI G9 v12 4 0 fun v20 => gFI G9 v12 4 2 fun v21 => gOb G9 a0 6 fun o23 => bA (f_M_take G9 a0 v20 v21) fun v26 G25 => gFI G25 v12 4 2 fun v27 => gPut G25 v12 4 1 (.int v27) fun G28 => gPut G28 v12 4 2 (.int (-1)) fun G29 => gFI G29 v12 4 0 fun v30 => gOb G29 a0 6 fun o32 => bV (f_M_change G29 a0 v30 (-1) a1) fun G34 => gFI G34 v12 4 0 fun v35 => gOb G34 a0 6 fun o37 => bI (f_M_length G34 a0 v35) fun v40 G39 => rI v40 G39)
      else gOb G9 a0 6 fun o43 => bI (f_M_fault G9 a0 (-9)) fun v46 G45 => rI v46 G45)
  else rI (nI 0) G9
theorem k_M_drop {l : Launch} {D : va_G} {B : Nat} {O : State → Heap → Prop} (hV : zG l D B O) (G : gH) (a0 : Nat) (a1 : Int32) : gMet (zVm l D B O) m_M_drop 14 [.ref a0, .int a1] G (f_M_drop G a0 a1) := by
  have hdd : lSa m_M_drop 0 [(.aload_n 0, 0), (.aload_n 0, 0), (.iload_n 1, 0)] = true ∧ lIa m_M_drop 3 (.invokevirtual 214) 3 = true ∧ lSa m_M_drop 6 [(.iconst 1, nI 1)] = true ∧ lIa m_M_drop 7 (.invokevirtual 114) 3 = true ∧ lIa m_M_drop 10 (.ifCond .eq 5) 3 = true ∧ lSa m_M_drop 15 [(.aload_n 0, 0)] = true ∧ lIa m_M_drop 16 (.getfield 24) 3 = true ∧ lSa m_M_drop 19 [(.iload_n 1, 0)] = true ∧ lIa m_M_drop 20 (.aaload) 1 = true ∧ lSa m_M_drop 21 [(.astore_n 2, 0), (.aload_n 2, 0)] = true ∧ lIa m_M_drop 23 (.getfield 99) 3 = true ∧ lIa m_M_drop 26 (.ifCond .eq 10) 3 = true ∧ lSa m_M_drop 36 [(.aload_n 2, 0)] = true ∧ lIa m_M_drop 37 (.getfield 220) 3 = true ∧ lSa m_M_drop 40 [(.iconst (-1), -1)] = true ∧ lIa m_M_drop 41 (.if_icmp .ne 10) 3 = true ∧ lSa m_M_drop 44 [(.aload_n 0, 0), (.bipush (-7), -7)] = true ∧ lIa m_M_drop 47 (.invokevirtual 217) 3 = true ∧ lIa m_M_drop 50 (.ireturn) 1 = true ∧ lSa m_M_drop 51 [(.aload_n 0, 0), (.aload_n 2, 0)] = true ∧ lIa m_M_drop 53 (.getfield 89) 3 = true ∧ lSa m_M_drop 56 [(.aload_n 2, 0)] = true ∧ lIa m_M_drop 57 (.getfield 220) 3 = true ∧ lIa m_M_drop 60 (.invokevirtual 157) 3 = true ∧ lSa m_M_drop 63 [(.pop, 0), (.aload_n 2, 0), (.aload_n 2, 0)] = true ∧ lIa m_M_drop 66 (.getfield 220) 3 = true ∧ lIa m_M_drop 69 (.putfield 208) 3 = true ∧ lSa m_M_drop 72 [(.aload_n 2, 0), (.iconst (-1), -1)] = true ∧ lIa m_M_drop 74 (.putfield 220) 3 = true ∧ lSa m_M_drop 77 [(.aload_n 0, 0), (.aload_n 2, 0)] = true ∧ lIa m_M_drop 79 (.getfield 89) 3 = true ∧ lSa m_M_drop 82 [(.iconst (-1), -1), (.iload_n 1, 0)] = true ∧ lIa m_M_drop 84 (.invokevirtual 128) 3 = true ∧ lSa m_M_drop 87 [(.aload_n 0, 0), (.aload_n 2, 0)] = true ∧ lIa m_M_drop 89 (.getfield 89) 3 = true ∧ lIa m_M_drop 92 (.invokevirtual 74) 3 = true ∧ lIa m_M_drop 95 (.ireturn) 1 = true ∧ lSa m_M_drop 29 [(.aload_n 0, 0), (.bipush (-9), -9)] = true ∧ lIa m_M_drop 32 (.invokevirtual 217) 3 = true ∧ lIa m_M_drop 35 (.ireturn) 1 = true ∧ lSa m_M_drop 13 [(.iconst 0, nI 0)] = true ∧ lIa m_M_drop 14 (.ireturn) 1 = true := by decide +kernel
  refine lA8 hdd (fun dd0 dd1 dd2 dd3 dd4 dd5 dd6 dd7 hdd => ?_)
  refine lA8 hdd (fun dd8 dd9 dd10 dd11 dd12 dd13 dd14 dd15 hdd => ?_)
  refine lA8 hdd (fun dd16 dd17 dd18 dd19 dd20 dd21 dd22 dd23 hdd => ?_)
  refine lA8 hdd (fun dd24 dd25 dd26 dd27 dd28 dd29 dd30 dd31 hdd => ?_)
  refine lA8 hdd (fun dd32 dd33 dd34 dd35 dd36 dd37 dd38 dd39 hdd => ?_)
  obtain ⟨dd40, dd41⟩ := hdd
  refine gMet.of (by decide +kernel) (Nat.le_of_ble_eq_true rfl) [some (.ref a0), some (.int a1), none] (fun ls h => zEn_ok (n := 3) h) ?_
  intro o Gf h
  unfold f_M_drop at h
  refine Y.blk (pc' := 3) (L' := [some (.ref a0), some (.int a1), none]) (st' := [.int a1, .ref a0, .ref a0]) (sg := [(.aload_n 0, 0), (.aload_n 0, 0), (.iload_n 1, 0)]) (lSa_ok dd0) rfl ?_
  obtain ⟨_, o2, e1, m3, h⟩ := gOb_inv h
  refine Y.callI (yC.Vi (b := a0) (As := [.int a1]) (st := [.ref a0]) (r := ("PartlisterModel", T_M, 9)) hV.1 cb_M_isNoCursor lk_M_214 in_M_isNoCursor rfl se_M_isNoCursor (lIa_ok dd1) rfl rfl (Nat.le_of_ble_eq_true rfl) (by decide) e1 m3) (k_M_isNoCursor hV G a0 a1) h (fun v5 G4 _ h => ?_)
  refine Y.blk (pc' := 7) (L' := [some (.ref a0), some (.int a1), none]) (st' := [.int (nI 1), .int v5, .ref a0]) (sg := [(.iconst 1, nI 1)]) (lSa_ok dd2) rfl ?_
  obtain ⟨_, o7, e6, m8, h⟩ := gOb_inv h
  refine Y.callI (yC.Vi (b := a0) (As := [.int v5, .int (nI 1)]) (st := []) (r := ("PartlisterModel", T_M, 9)) hV.1 cb_M_start lk_M_114 in_M_start rfl se_M_start (lIa_ok dd3) rfl rfl (Nat.le_of_ble_eq_true rfl) (by decide) e6 m8) (k_M_start hV G4 a0 v5 (nI 1)) h (fun v10 G9 _ h => ?_)
  refine Y.if_eq (off := 5) (tgt := 15) (lIa_ok dd4) (by decide) h (fun c48 h => ?_) (fun c48 h => ?_)
  · refine Y.blk (pc' := 16) (L' := [some (.ref a0), some (.int a1), none]) (st' := [.ref a0]) (sg := [(.aload_n 0, 0)]) (lSa_ok dd5) rfl ?_
    refine Y.getA fl_M_24 (lIa_ok dd6) h (fun v11 h => ?_)
    refine Y.blk (pc' := 20) (L' := [some (.ref a0), some (.int a1), none]) (st' := [.int a1, .ref v11]) (sg := [(.iload_n 1, 0)]) (lSa_ok dd7) rfl ?_
    refine Y.aald (t0 := 5) (lIa_ok dd8) rfl h (fun h => ?_) (fun v12 h => ?_)
    · refine Y.blk (pc' := 23) (L' := [some (.ref a0), some (.int a1), some (.null)]) (st' := [.null]) (sg := [(.astore_n 2, 0), (.aload_n 2, 0)]) (lSa_ok dd9) rfl ?_
      cases h
    · refine Y.blk (pc' := 23) (L' := [some (.ref a0), some (.int a1), some (.ref v12)]) (st' := [.ref v12]) (sg := [(.astore_n 2, 0), (.aload_n 2, 0)]) (lSa_ok dd9) rfl ?_
      refine Y.getI fl_M_99 (lIa_ok dd10) h (fun v13 h => ?_)
      refine Y.if_eq (off := 10) (tgt := 36) (lIa_ok dd11) (by decide) h (fun c47 h => ?_) (fun c47 h => ?_)
      · refine Y.blk (pc' := 37) (L' := [some (.ref a0), some (.int a1), some (.ref v12)]) (st' := [.ref v12]) (sg := [(.aload_n 2, 0)]) (lSa_ok dd12) rfl ?_
        refine Y.getI fl_M_220 (lIa_ok dd13) h (fun v14 h => ?_)
        refine Y.blk (pc' := 41) (L' := [some (.ref a0), some (.int a1), some (.ref v12)]) (st' := [.int (-1), .int v14]) (sg := [(.iconst (-1), -1)]) (lSa_ok dd14) rfl ?_
        refine Y.ic_ne (off := 10) (tgt := 51) (lIa_ok dd15) (by decide) h (fun c41 h => ?_) (fun c41 h => ?_)
        · refine Y.blk (pc' := 47) (L' := [some (.ref a0), some (.int a1), some (.ref v12)]) (st' := [.int (-7), .ref a0]) (sg := [(.aload_n 0, 0), (.bipush (-7), -7)]) (lSa_ok dd16) rfl ?_
          obtain ⟨_, o16, e15, m17, h⟩ := gOb_inv h
          refine Y.callI (yC.Vi (b := a0) (As := [.int (-7)]) (st := []) (r := ("PartlisterModel", T_M, 9)) hV.1 cb_M_fault lk_M_217 in_M_fault rfl se_M_fault (lIa_ok dd17) rfl rfl (Nat.le_of_ble_eq_true rfl) (by decide) e15 m17) (k_M_fault hV G9 a0 (-7)) h (fun v19 G18 _ h => ?_)
          exact Y.iret rfl (lIa_ok dd18) h
        · refine Y.blk (pc' := 53) (L' := [some (.ref a0), some (.int a1), some (.ref v12)]) (st' := [.ref v12, .ref a0]) (sg := [(.aload_n 0, 0), (.aload_n 2, 0)]) (lSa_ok dd19) rfl ?_
          refine Y.getI fl_M_89 (lIa_ok dd20) h (fun v20 h => ?_)
          refine Y.blk (pc' := 57) (L' := [some (.ref a0), some (.int a1), some (.ref v12)]) (st' := [.ref v12, .int v20, .ref a0]) (sg := [(.aload_n 2, 0)]) (lSa_ok dd21) rfl ?_
          refine Y.getI fl_M_220 (lIa_ok dd22) h (fun v21 h => ?_)
          obtain ⟨_, o23, e22, m24, h⟩ := gOb_inv h
          refine Y.callA (yC.Vi (b := a0) (As := [.int v20, .int v21]) (st := []) (r := ("PartlisterModel", T_M, 9)) hV.1 cb_M_take lk_M_157 in_M_take rfl se_M_take (lIa_ok dd23) rfl rfl (Nat.le_of_ble_eq_true rfl) (by decide) e22 m24) (k_M_take hV G9 a0 v20 v21) h (fun v26 G25 _ h => ?_)
          refine Y.blk (pc' := 66) (L' := [some (.ref a0), some (.int a1), some (.ref v12)]) (st' := [.ref v12, .ref v12]) (sg := [(.pop, 0), (.aload_n 2, 0), (.aload_n 2, 0)]) (lSa_ok dd24) rfl ?_
          refine Y.getI fl_M_220 (lIa_ok dd25) h (fun v27 h => ?_)
          refine Y.putf fl_M_208 (by decide) rfl rfl (lIa_ok dd26) h (fun G28 _ _ h => ?_)
          refine Y.blk (pc' := 74) (L' := [some (.ref a0), some (.int a1), some (.ref v12)]) (st' := [.int (-1), .ref v12]) (sg := [(.aload_n 2, 0), (.iconst (-1), -1)]) (lSa_ok dd27) rfl ?_
          refine Y.putf fl_M_220 (by decide) rfl rfl (lIa_ok dd28) h (fun G29 _ _ h => ?_)
          refine Y.blk (pc' := 79) (L' := [some (.ref a0), some (.int a1), some (.ref v12)]) (st' := [.ref v12, .ref a0]) (sg := [(.aload_n 0, 0), (.aload_n 2, 0)]) (lSa_ok dd29) rfl ?_
          refine Y.getI fl_M_89 (lIa_ok dd30) h (fun v30 h => ?_)
          refine Y.blk (pc' := 84) (L' := [some (.ref a0), some (.int a1), some (.ref v12)]) (st' := [.int a1, .int (-1), .int v30, .ref a0]) (sg := [(.iconst (-1), -1), (.iload_n 1, 0)]) (lSa_ok dd31) rfl ?_
          obtain ⟨_, o32, e31, m33, h⟩ := gOb_inv h
          refine Y.callN (yC.Vi (b := a0) (As := [.int v30, .int (-1), .int a1]) (st := []) (r := ("PartlisterModel", T_M, 9)) hV.1 cb_M_change lk_M_128 in_M_change rfl se_M_change (lIa_ok dd32) rfl rfl (Nat.le_of_ble_eq_true rfl) (by decide) e31 m33) (k_M_change hV G29 a0 v30 (-1) a1) h (fun G34 _ h => ?_)
          refine Y.blk (pc' := 89) (L' := [some (.ref a0), some (.int a1), some (.ref v12)]) (st' := [.ref v12, .ref a0]) (sg := [(.aload_n 0, 0), (.aload_n 2, 0)]) (lSa_ok dd33) rfl ?_
          refine Y.getI fl_M_89 (lIa_ok dd34) h (fun v35 h => ?_)
          obtain ⟨_, o37, e36, m38, h⟩ := gOb_inv h
          refine Y.callI (yC.Vi (b := a0) (As := [.int v35]) (st := []) (r := ("PartlisterModel", T_M, 9)) hV.1 cb_M_length lk_M_74 in_M_length rfl se_M_length (lIa_ok dd35) rfl rfl (Nat.le_of_ble_eq_true rfl) (by decide) e36 m38) (k_M_length hV G34 a0 v35) h (fun v40 G39 _ h => ?_)
          exact Y.iret rfl (lIa_ok dd36) h
      · refine Y.blk (pc' := 32) (L' := [some (.ref a0), some (.int a1), some (.ref v12)]) (st' := [.int (-9), .ref a0]) (sg := [(.aload_n 0, 0), (.bipush (-9), -9)]) (lSa_ok dd37) rfl ?_
        obtain ⟨_, o43, e42, m44, h⟩ := gOb_inv h
        refine Y.callI (yC.Vi (b := a0) (As := [.int (-9)]) (st := []) (r := ("PartlisterModel", T_M, 9)) hV.1 cb_M_fault lk_M_217 in_M_fault rfl se_M_fault (lIa_ok dd38) rfl rfl (Nat.le_of_ble_eq_true rfl) (by decide) e42 m44) (k_M_fault hV G9 a0 (-9)) h (fun v46 G45 _ h => ?_)
        exact Y.iret rfl (lIa_ok dd39) h
  · refine Y.blk (pc' := 14) (L' := [some (.ref a0), some (.int a1), none]) (st' := [.int (nI 0)]) (sg := [(.iconst 0, nI 0)]) (lSa_ok dd40) rfl ?_
    exact Y.iret rfl (lIa_ok dd41) h

def f_M_end (G : gH) (a0 : Nat) (a1 : Int32) : gR :=
  gOb G a0 6 fun o2 => bI (f_M_isNoCursor G a0 a1) fun v5 G4 => gOb G4 a0 6 fun o7 => bI (f_M_start G4 a0 v5 (nI 1)) fun v10 G9 => if v10 = 0 then gFA G9 a0 6 3 fun v11 => gLdq G9 v11 105 a1 (none) fun v12 => gFI G9 v12 4 3 fun v13 => gOb G9 a0 6 fun o15 => bV (f_M_endCursor G9 a0 a1) fun G17 => rZ v13 G17
  else rZ (nI 0) G9
theorem k_M_end {l : Launch} {D : va_G} {B : Nat} {O : State → Heap → Prop} (hV : zG l D B O) (G : gH) (a0 : Nat) (a1 : Int32) : gMet (zVm l D B O) m_M_end 4 [.ref a0, .int a1] G (f_M_end G a0 a1) := by
  have hdd : lSa m_M_end 0 [(.aload_n 0, 0), (.aload_n 0, 0), (.iload_n 1, 0)] = true ∧ lIa m_M_end 3 (.invokevirtual 214) 3 = true ∧ lSa m_M_end 6 [(.iconst 1, nI 1)] = true ∧ lIa m_M_end 7 (.invokevirtual 114) 3 = true ∧ lIa m_M_end 10 (.ifCond .eq 5) 3 = true ∧ lSa m_M_end 15 [(.aload_n 0, 0)] = true ∧ lIa m_M_end 16 (.getfield 24) 3 = true ∧ lSa m_M_end 19 [(.iload_n 1, 0)] = true ∧ lIa m_M_end 20 (.aaload) 1 = true ∧ lIa m_M_end 21 (.getfield 99) 3 = true ∧ lSa m_M_end 24 [(.istore_n 2, 0), (.aload_n 0, 0), (.iload_n 1, 0)] = true ∧ lIa m_M_end 27 (.invokevirtual 92) 3 = true ∧ lSa m_M_end 30 [(.iload_n 2, 0)] = true ∧ lIa m_M_end 31 (.ireturn) 1 = true ∧ lSa m_M_end 13 [(.iconst 0, nI 0)] = true ∧ lIa m_M_end 14 (.ireturn) 1 = true := by decide +kernel
  refine lA8 hdd (fun dd0 dd1 dd2 dd3 dd4 dd5 dd6 dd7 hdd => ?_)
  obtain ⟨dd8, dd9, dd10, dd11, dd12, dd13, dd14, dd15⟩ := hdd
  refine gMet.of (by decide +kernel) (Nat.le_of_ble_eq_true rfl) [some (.ref a0), some (.int a1), none] (fun ls h => zEn_ok (n := 3) h) ?_
  intro o Gf h
  unfold f_M_end at h
  refine Y.blk (pc' := 3) (L' := [some (.ref a0), some (.int a1), none]) (st' := [.int a1, .ref a0, .ref a0]) (sg := [(.aload_n 0, 0), (.aload_n 0, 0), (.iload_n 1, 0)]) (lSa_ok dd0) rfl ?_
  obtain ⟨_, o2, e1, m3, h⟩ := gOb_inv h
  refine Y.callI (yC.Vi (b := a0) (As := [.int a1]) (st := [.ref a0]) (r := ("PartlisterModel", T_M, 9)) hV.1 cb_M_isNoCursor lk_M_214 in_M_isNoCursor rfl se_M_isNoCursor (lIa_ok dd1) rfl rfl (Nat.le_of_ble_eq_true rfl) (by decide) e1 m3) (k_M_isNoCursor hV G a0 a1) h (fun v5 G4 _ h => ?_)
  refine Y.blk (pc' := 7) (L' := [some (.ref a0), some (.int a1), none]) (st' := [.int (nI 1), .int v5, .ref a0]) (sg := [(.iconst 1, nI 1)]) (lSa_ok dd2) rfl ?_
  obtain ⟨_, o7, e6, m8, h⟩ := gOb_inv h
  refine Y.callI (yC.Vi (b := a0) (As := [.int v5, .int (nI 1)]) (st := []) (r := ("PartlisterModel", T_M, 9)) hV.1 cb_M_start lk_M_114 in_M_start rfl se_M_start (lIa_ok dd3) rfl rfl (Nat.le_of_ble_eq_true rfl) (by decide) e6 m8) (k_M_start hV G4 a0 v5 (nI 1)) h (fun v10 G9 _ h => ?_)
  refine Y.if_eq (off := 5) (tgt := 15) (lIa_ok dd4) (by decide) h (fun c18 h => ?_) (fun c18 h => ?_)
  · refine Y.blk (pc' := 16) (L' := [some (.ref a0), some (.int a1), none]) (st' := [.ref a0]) (sg := [(.aload_n 0, 0)]) (lSa_ok dd5) rfl ?_
    refine Y.getA fl_M_24 (lIa_ok dd6) h (fun v11 h => ?_)
    refine Y.blk (pc' := 20) (L' := [some (.ref a0), some (.int a1), none]) (st' := [.int a1, .ref v11]) (sg := [(.iload_n 1, 0)]) (lSa_ok dd7) rfl ?_
    refine Y.aald (t0 := 5) (lIa_ok dd8) rfl h (fun h => ?_) (fun v12 h => ?_)
    · cases h
    · refine Y.getI fl_M_99 (lIa_ok dd9) h (fun v13 h => ?_)
      refine Y.blk (pc' := 27) (L' := [some (.ref a0), some (.int a1), some (.int v13)]) (st' := [.int a1, .ref a0]) (sg := [(.istore_n 2, 0), (.aload_n 0, 0), (.iload_n 1, 0)]) (lSa_ok dd10) rfl ?_
      obtain ⟨_, o15, e14, m16, h⟩ := gOb_inv h
      refine Y.callN (yC.Vi (b := a0) (As := [.int a1]) (st := []) (r := ("PartlisterModel", T_M, 9)) hV.1 cb_M_endCursor lk_M_92 in_M_endCursor rfl se_M_endCursor (lIa_ok dd11) rfl rfl (Nat.le_of_ble_eq_true rfl) (by decide) e14 m16) (k_M_endCursor hV G9 a0 a1) h (fun G17 _ h => ?_)
      refine Y.blk (pc' := 31) (L' := [some (.ref a0), some (.int a1), some (.int v13)]) (st' := [.int v13]) (sg := [(.iload_n 2, 0)]) (lSa_ok dd12) rfl ?_
      exact Y.zret rfl (lIa_ok dd13) h
  · refine Y.blk (pc' := 14) (L' := [some (.ref a0), some (.int a1), none]) (st' := [.int (nI 0)]) (sg := [(.iconst 0, nI 0)]) (lSa_ok dd14) rfl ?_
    exact Y.zret rfl (lIa_ok dd15) h

def f_M_isNoPlace (G : gH) (a0 : Nat) (a1 : Int32) (a2 : Int32) : gR :=
  gOb G a0 6 fun o2 => bI (f_M_length G a0 a1) fun v5 G4 => bI (f_M_isIn G4 a2 (nI 0) (v5 - (nI 1))) fun v8 G7 => if v8 = 0 then rZ (nI 1) G7
  else rZ (nI 0) G7
theorem k_M_isNoPlace {l : Launch} {D : va_G} {B : Nat} {O : State → Heap → Prop} (hV : zG l D B O) (G : gH) (a0 : Nat) (a1 : Int32) (a2 : Int32) : gMet (zVm l D B O) m_M_isNoPlace 6 [.ref a0, .int a1, .int a2] G (f_M_isNoPlace G a0 a1 a2) := by
  have hdd : lSa m_M_isNoPlace 0 [(.iload_n 2, 0), (.iconst 0, nI 0), (.aload_n 0, 0), (.iload_n 1, 0)] = true ∧ lIa m_M_isNoPlace 4 (.invokevirtual 74) 3 = true ∧ lSa m_M_isNoPlace 7 [(.iconst 1, nI 1), (.isub, 0)] = true ∧ lIa m_M_isNoPlace 9 (.invokestatic 40) 3 = true ∧ lIa m_M_isNoPlace 12 (.ifCond .ne 7) 3 = true ∧ lSa m_M_isNoPlace 15 [(.iconst 1, nI 1)] = true ∧ lIa m_M_isNoPlace 16 (.goto 4) 3 = true ∧ lIa m_M_isNoPlace 20 (.ireturn) 1 = true ∧ lSa m_M_isNoPlace 19 [(.iconst 0, nI 0)] = true := by decide +kernel
  refine lA8 hdd (fun dd0 dd1 dd2 dd3 dd4 dd5 dd6 dd7 hdd => ?_)
  have dd8 := hdd
  refine gMet.of (by decide +kernel) (Nat.le_of_ble_eq_true rfl) [some (.ref a0), some (.int a1), some (.int a2)] (fun ls h => zEn_ok (n := 3) h) ?_
  intro o Gf h
  unfold f_M_isNoPlace at h
  refine Y.blk (pc' := 4) (L' := [some (.ref a0), some (.int a1), some (.int a2)]) (st' := [.int a1, .ref a0, .int (nI 0), .int a2]) (sg := [(.iload_n 2, 0), (.iconst 0, nI 0), (.aload_n 0, 0), (.iload_n 1, 0)]) (lSa_ok dd0) rfl ?_
  obtain ⟨_, o2, e1, m3, h⟩ := gOb_inv h
  refine Y.callI (yC.Vi (b := a0) (As := [.int a1]) (st := [.int (nI 0), .int a2]) (r := ("PartlisterModel", T_M, 9)) hV.1 cb_M_length lk_M_74 in_M_length rfl se_M_length (lIa_ok dd1) rfl rfl (Nat.le_of_ble_eq_true rfl) (by decide) e1 m3) (k_M_length hV G a0 a1) h (fun v5 G4 _ h => ?_)
  refine Y.blk (pc' := 9) (L' := [some (.ref a0), some (.int a1), some (.int a2)]) (st' := [.int (v5 - (nI 1)), .int (nI 0), .int a2]) (sg := [(.iconst 1, nI 1), (.isub, 0)]) (lSa_ok dd2) rfl ?_
  refine Y.callI (yC.S (As := [.int a2, .int (nI 0), .int (v5 - (nI 1))]) (st := []) hV.1 cb_M_isIn lk_M_40 st_M_isIn (lIa_ok dd3) rfl rfl (Nat.le_of_ble_eq_true rfl) (by decide)) (k_M_isIn hV G4 a2 (nI 0) (v5 - (nI 1))) h (fun v8 G7 _ h => ?_)
  refine Y.if_ne (off := 7) (tgt := 19) (lIa_ok dd4) (by decide) h (fun c9 h => ?_) (fun c9 h => ?_)
  · refine Y.blk (pc' := 16) (L' := [some (.ref a0), some (.int a1), some (.int a2)]) (st' := [.int (nI 1)]) (sg := [(.iconst 1, nI 1)]) (lSa_ok dd5) rfl ?_
    refine Y.goto (off := 4) (tgt := 20) (lIa_ok dd6) (by decide) ?_
    exact Y.zret rfl (lIa_ok dd7) h
  · refine Y.blk (pc' := 20) (L' := [some (.ref a0), some (.int a1), some (.int a2)]) (st' := [.int (nI 0)]) (sg := [(.iconst 0, nI 0)]) (lSa_ok dd8) rfl ?_
    exact Y.zret rfl (lIa_ok dd7) h

def f_M_write (G : gH) (a0 : Nat) (a1 : Int32) (a2 : Int32) (a3 : Nat) : gR :=
  gOb G a0 6 fun o2 => bA (f_M_row G a0 a1) fun v5 G4 => gOb G4 a0 6 fun o7 => bI (f_M_base zDp G4 a0 a1) fun v10 G9 => gOb G9 v5 9 fun o12 => bA (f_AL_set G9 v5 (v10 + a2) a3) fun v15 G14 => gCaA G14 v15 100 (rA v15 G14)
theorem k_M_write {l : Launch} {D : va_G} {B : Nat} {O : State → Heap → Prop} (hV : zG l D B O) (G : gH) (a0 : Nat) (a1 : Int32) (a2 : Int32) (a3 : Nat) : gMet (zVm l D B O) m_M_write 12 [.ref a0, .int a1, .int a2, .ref a3] G (f_M_write G a0 a1 a2 a3) := by
  have hdd : lSa m_M_write 0 [(.aload_n 0, 0), (.iload_n 1, 0)] = true ∧ lIa m_M_write 2 (.invokevirtual 68) 3 = true ∧ lSa m_M_write 5 [(.aload_n 0, 0), (.iload_n 1, 0)] = true ∧ lIa m_M_write 7 (.invokevirtual 54) 3 = true ∧ lSa m_M_write 10 [(.iload_n 2, 0), (.iadd, 0), (.aload_n 3, 0)] = true ∧ lIa m_M_write 13 (.invokevirtual 143) 3 = true ∧ lIa m_M_write 16 (.checkcast 72) 3 = true ∧ lIa m_M_write 19 (.areturn) 1 = true := by decide +kernel
  obtain ⟨dd0, dd1, dd2, dd3, dd4, dd5, dd6, dd7⟩ := hdd
  refine gMet.of (by decide +kernel) (Nat.le_of_ble_eq_true rfl) [some (.ref a0), some (.int a1), some (.int a2), some (.ref a3)] (fun ls h => zEn_ok (n := 4) h) ?_
  intro o Gf h
  unfold f_M_write at h
  refine Y.blk (pc' := 2) (L' := [some (.ref a0), some (.int a1), some (.int a2), some (.ref a3)]) (st' := [.int a1, .ref a0]) (sg := [(.aload_n 0, 0), (.iload_n 1, 0)]) (lSa_ok dd0) rfl ?_
  obtain ⟨_, o2, e1, m3, h⟩ := gOb_inv h
  refine Y.callA (yC.Vi (b := a0) (As := [.int a1]) (st := []) (r := ("PartlisterModel", T_M, 9)) hV.1 cb_M_row lk_M_68 in_M_row rfl se_M_row (lIa_ok dd1) rfl rfl (Nat.le_of_ble_eq_true rfl) (by decide) e1 m3) (k_M_row hV G a0 a1) h (fun v5 G4 _ h => ?_)
  refine Y.blk (pc' := 7) (L' := [some (.ref a0), some (.int a1), some (.int a2), some (.ref a3)]) (st' := [.int a1, .ref a0, .ref v5]) (sg := [(.aload_n 0, 0), (.iload_n 1, 0)]) (lSa_ok dd2) rfl ?_
  obtain ⟨_, o7, e6, m8, h⟩ := gOb_inv h
  refine Y.callI (yC.Vi (b := a0) (As := [.int a1]) (st := [.ref v5]) (r := ("PartlisterModel", T_M, 9)) hV.1 cb_M_base lk_M_54 in_M_base rfl se_M_base (lIa_ok dd3) rfl rfl (Nat.le_of_ble_eq_true rfl) (by decide) e6 m8) (k_M_base zDp hV G4 a0 a1) h (fun v10 G9 _ h => ?_)
  refine Y.blk (pc' := 13) (L' := [some (.ref a0), some (.int a1), some (.int a2), some (.ref a3)]) (st' := [.ref a3, .int (v10 + a2), .ref v5]) (sg := [(.iload_n 2, 0), (.iadd, 0), (.aload_n 3, 0)]) (lSa_ok dd4) rfl ?_
  obtain ⟨_, o12, e11, m13, h⟩ := gOb_inv h
  refine Y.callA (yC.Vi (b := v5) (As := [.int (v10 + a2), .ref a3]) (st := []) (r := ("java/util/ArrayList", T_AL, 3)) hV.1 cb_AL_set lk_M_143 in_AL_set rfl se_AL_set (lIa_ok dd5) rfl rfl (Nat.le_of_ble_eq_true rfl) (by decide) e11 m13) (k_AL_set hV G9 v5 (v10 + a2) a3) h (fun v15 G14 _ h => ?_)
  refine Y.castA (t0 := 0) (nm := "[I") (lIa_ok dd6) rfl (by decide) ck_M_72 h (fun h => ?_)
  exact Y.aret rfl (by first | exact Or.inl ⟨_, rfl⟩ | exact Or.inr ⟨_, rfl⟩) (lIa_ok dd7) h

def f_M_exchange (G : gH) (a0 : Nat) (a1 : Int32) (a2 : Int32) (a3 : Int32) : gR :=
  gOb G a0 6 fun o2 => bI (f_M_isNoList G a0 a1) fun v5 G4 => gOb G4 a0 6 fun o7 => bI (f_M_start G4 a0 v5 (nI 1)) fun v10 G9 => if v10 = 0 then (gOb G9 a0 6 fun o12 => bI (f_M_isNoPlace G9 a0 a1 a2) fun v15 G14 => if v15 = 0 then (gOb G14 a0 6 fun o17 => bI (f_M_isNoPlace G14 a0 a1 a3) fun v20 G19 => if v20 = 0 then (gOb G19 a0 6 fun o22 => bI (f_M_refuse G19 a0 (nI 0) (nI 1)) fun v25 G24 => if v25 = 0 then (gOb G24 a0 6 fun o27 => bA (f_M_at G24 a0 a1 a3) fun v30 G29 => gOb G29 a0 6 fun o32 => bA (f_M_write G29 a0 a1 a2 v30) fun v35 G34 => gOb G34 a0 6 fun o37 => bA (f_M_write G34 a0 a1 a3 v35) fun v40 G39 => gOb G39 a0 6 fun o42 => bA (f_M_at G39 a0 a1 a2) fun v45 G44 => gLd G44 v45 100 (nI 0) fun v46 => gOb G44 a0 6 fun o48 => bA (f_M_at G44 a0 a1 a3) fun v51 G50 => gLd G50 v51 100 (nI 0) fun v52 => if v46 = v52 then rZ (nI 1) G50
          else rZ (nI 0) G50)
        else rZ (nI 0) G24)
      else gOb G19 a0 6 fun o56 => bI (f_M_refuse G19 a0 (nI 1) (nI 1)) fun v59 G58 => if v59 = 0 then (gOb G58 a0 6 fun o61 => bA (f_M_at G58 a0 a1 a3) fun v64 G63 => gOb G63 a0 6 fun o66 => bA (f_M_write G63 a0 a1 a2 v64) fun v69 G68 => gOb G68 a0 6 fun o71 => bA (f_M_write G68 a0 a1 a3 v69) fun v74 G73 => gOb G73 a0 6 fun o76 => bA (f_M_at G73 a0 a1 a2) fun v79 G78 => gLd G78 v79 100 (nI 0) fun v80 => gOb G78 a0 6 fun o82 => bA (f_M_at G78 a0 a1 a3) fun v85 G84 => gLd G84 v85 100 (nI 0) fun v86 => if v80 = v86 then rZ (nI 1) G84
          else rZ (nI 0) G84)
        else rZ (nI 0) G58)
    else gOb G14 a0 6 fun o91 => bI (f_M_refuse G14 a0 (nI 1) (nI 1)) fun v94 G93 => if v94 = 0 then (gOb G93 a0 6 fun o96 => bA (f_M_at G93 a0 a1 a3) fun v99 G98 => gOb G98 a0 6 fun o101 => bA (f_M_write G98 a0 a1 a2 v99) fun v104 G103 => gOb G103 a0 6 fun o106 => bA (f_M_write G103 a0 a1 a3 v104) fun v109 G108 => gOb G108 a0 6 fun o111 => bA (f_M_at G108 a0 a1 a2) fun v114 G113 => gLd G113 v114 100 (nI 0) fun v115 => gOb G113 a0 6 fun o117 => bA (f_M_at G113 a0 a1 a3) fun v120 G119 => gLd G119 v120 100 (nI 0) fun v121 => if v115 = v121 then rZ (nI 1) G119
        else rZ (nI 0) G119)
      else rZ (nI 0) G93)
  else rZ (nI 0) G9
theorem k_M_exchange {l : Launch} {D : va_G} {B : Nat} {O : State → Heap → Prop} (hV : zG l D B O) (G : gH) (a0 : Nat) (a1 : Int32) (a2 : Int32) (a3 : Int32) : gMet (zVm l D B O) m_M_exchange 13 [.ref a0, .int a1, .int a2, .int a3] G (f_M_exchange G a0 a1 a2 a3) := by
  have hdd : lSa m_M_exchange 0 [(.aload_n 0, 0), (.aload_n 0, 0), (.iload_n 1, 0)] = true ∧ lIa m_M_exchange 3 (.invokevirtual 110) 3 = true ∧ lSa m_M_exchange 6 [(.iconst 1, nI 1)] = true ∧ lIa m_M_exchange 7 (.invokevirtual 114) 3 = true ∧ lIa m_M_exchange 10 (.ifCond .ne 34) 3 = true ∧ lSa m_M_exchange 13 [(.aload_n 0, 0), (.aload_n 0, 0), (.iload_n 1, 0), (.iload_n 2, 0)] = true ∧ lIa m_M_exchange 17 (.invokevirtual 147) 3 = true ∧ lIa m_M_exchange 20 (.ifCond .ne 12) 3 = true ∧ lSa m_M_exchange 23 [(.aload_n 0, 0), (.iload_n 1, 0), (.iload_n 3, 0)] = true ∧ lIa m_M_exchange 26 (.invokevirtual 147) 3 = true ∧ lIa m_M_exchange 29 (.ifCond .eq 7) 3 = true ∧ lSa m_M_exchange 36 [(.iconst 0, nI 0), (.iconst 1, nI 1)] = true ∧ lIa m_M_exchange 38 (.invokevirtual 36) 3 = true ∧ lIa m_M_exchange 41 (.ifCond .eq 5) 3 = true ∧ lSa m_M_exchange 46 [(.aload_n 0, 0), (.iload_n 1, 0), (.iload_n 2, 0), (.aload_n 0, 0), (.iload_n 1, 0), (.iload_n 3, 0)] = true ∧ lIa m_M_exchange 52 (.invokevirtual 132) 3 = true ∧ lIa m_M_exchange 55 (.invokevirtual 150) 3 = true ∧ lSa m_M_exchange 58 [(.astore 4, 0), (.aload_n 0, 0), (.iload_n 1, 0), (.iload_n 3, 0), (.aload 4, 0)] = true ∧ lIa m_M_exchange 65 (.invokevirtual 150) 3 = true ∧ lSa m_M_exchange 68 [(.pop, 0), (.aload_n 0, 0), (.iload_n 1, 0), (.iload_n 2, 0)] = true ∧ lIa m_M_exchange 72 (.invokevirtual 132) 3 = true ∧ lSa m_M_exchange 75 [(.iconst 0, nI 0)] = true ∧ lIa m_M_exchange 76 (.iaload) 1 = true ∧ lSa m_M_exchange 77 [(.aload_n 0, 0), (.iload_n 1, 0), (.iload_n 3, 0)] = true ∧ lIa m_M_exchange 80 (.invokevirtual 132) 3 = true ∧ lSa m_M_exchange 83 [(.iconst 0, nI 0)] = true ∧ lIa m_M_exchange 84 (.iaload) 1 = true ∧ lIa m_M_exchange 85 (.if_icmp .ne 7) 3 = true ∧ lSa m_M_exchange 88 [(.iconst 1, nI 1)] = true ∧ lIa m_M_exchange 89 (.goto 4) 3 = true ∧ lIa m_M_exchange 93 (.ireturn) 1 = true ∧ lSa m_M_exchange 92 [(.iconst 0, nI 0)] = true ∧ lSa m_M_exchange 44 [(.iconst 0, nI 0)] = true ∧ lIa m_M_exchange 45 (.ireturn) 1 = true ∧ lSa m_M_exchange 32 [(.iconst 1, nI 1)] = true ∧ lIa m_M_exchange 33 (.goto 4) 3 = true ∧ lSa m_M_exchange 37 [(.iconst 1, nI 1)] = true := by decide +kernel
  refine lA8 hdd (fun dd0 dd1 dd2 dd3 dd4 dd5 dd6 dd7 hdd => ?_)
  refine lA8 hdd (fun dd8 dd9 dd10 dd11 dd12 dd13 dd14 dd15 hdd => ?_)
  refine lA8 hdd (fun dd16 dd17 dd18 dd19 dd20 dd21 dd22 dd23 hdd => ?_)
  refine lA8 hdd (fun dd24 dd25 dd26 dd27 dd28 dd29 dd30 dd31 hdd => ?_)
  obtain ⟨dd32, dd33, dd34, dd35, dd36⟩ := hdd
  refine gMet.of (by decide +kernel) (Nat.le_of_ble_eq_true rfl) [some (.ref a0), some (.int a1), some (.int a2), some (.int a3), none] (fun ls h => zEn_ok (n := 5) h) ?_
  intro o Gf h
  unfold f_M_exchange at h
  refine Y.blk (pc' := 3) (L' := [some (.ref a0), some (.int a1), some (.int a2), some (.int a3), none]) (st' := [.int a1, .ref a0, .ref a0]) (sg := [(.aload_n 0, 0), (.aload_n 0, 0), (.iload_n 1, 0)]) (lSa_ok dd0) rfl ?_
  obtain ⟨_, o2, e1, m3, h⟩ := gOb_inv h
  refine Y.callI (yC.Vi (b := a0) (As := [.int a1]) (st := [.ref a0]) (r := ("PartlisterModel", T_M, 9)) hV.1 cb_M_isNoList lk_M_110 in_M_isNoList rfl se_M_isNoList (lIa_ok dd1) rfl rfl (Nat.le_of_ble_eq_true rfl) (by decide) e1 m3) (k_M_isNoList hV G a0 a1) h (fun v5 G4 _ h => ?_)
  refine Y.blk (pc' := 7) (L' := [some (.ref a0), some (.int a1), some (.int a2), some (.int a3), none]) (st' := [.int (nI 1), .int v5, .ref a0]) (sg := [(.iconst 1, nI 1)]) (lSa_ok dd2) rfl ?_
  obtain ⟨_, o7, e6, m8, h⟩ := gOb_inv h
  refine Y.callI (yC.Vi (b := a0) (As := [.int v5, .int (nI 1)]) (st := []) (r := ("PartlisterModel", T_M, 9)) hV.1 cb_M_start lk_M_114 in_M_start rfl se_M_start (lIa_ok dd3) rfl rfl (Nat.le_of_ble_eq_true rfl) (by decide) e6 m8) (k_M_start hV G4 a0 v5 (nI 1)) h (fun v10 G9 _ h => ?_)
  refine Y.if_ne (off := 34) (tgt := 44) (lIa_ok dd4) (by decide) h (fun c125 h => ?_) (fun c125 h => ?_)
  · refine Y.blk (pc' := 17) (L' := [some (.ref a0), some (.int a1), some (.int a2), some (.int a3), none]) (st' := [.int a2, .int a1, .ref a0, .ref a0]) (sg := [(.aload_n 0, 0), (.aload_n 0, 0), (.iload_n 1, 0), (.iload_n 2, 0)]) (lSa_ok dd5) rfl ?_
    obtain ⟨_, o12, e11, m13, h⟩ := gOb_inv h
    refine Y.callI (yC.Vi (b := a0) (As := [.int a1, .int a2]) (st := [.ref a0]) (r := ("PartlisterModel", T_M, 9)) hV.1 cb_M_isNoPlace lk_M_147 in_M_isNoPlace rfl se_M_isNoPlace (lIa_ok dd6) rfl rfl (Nat.le_of_ble_eq_true rfl) (by decide) e11 m13) (k_M_isNoPlace hV G9 a0 a1 a2) h (fun v15 G14 _ h => ?_)
    refine Y.if_ne (off := 12) (tgt := 32) (lIa_ok dd7) (by decide) h (fun c124 h => ?_) (fun c124 h => ?_)
    · refine Y.blk (pc' := 26) (L' := [some (.ref a0), some (.int a1), some (.int a2), some (.int a3), none]) (st' := [.int a3, .int a1, .ref a0, .ref a0]) (sg := [(.aload_n 0, 0), (.iload_n 1, 0), (.iload_n 3, 0)]) (lSa_ok dd8) rfl ?_
      obtain ⟨_, o17, e16, m18, h⟩ := gOb_inv h
      refine Y.callI (yC.Vi (b := a0) (As := [.int a1, .int a3]) (st := [.ref a0]) (r := ("PartlisterModel", T_M, 9)) hV.1 cb_M_isNoPlace lk_M_147 in_M_isNoPlace rfl se_M_isNoPlace (lIa_ok dd9) rfl rfl (Nat.le_of_ble_eq_true rfl) (by decide) e16 m18) (k_M_isNoPlace hV G14 a0 a1 a3) h (fun v20 G19 _ h => ?_)
      refine Y.if_eq (off := 7) (tgt := 36) (lIa_ok dd10) (by decide) h (fun c89 h => ?_) (fun c89 h => ?_)
      · refine Y.blk (pc' := 38) (L' := [some (.ref a0), some (.int a1), some (.int a2), some (.int a3), none]) (st' := [.int (nI 1), .int (nI 0), .ref a0]) (sg := [(.iconst 0, nI 0), (.iconst 1, nI 1)]) (lSa_ok dd11) rfl ?_
        obtain ⟨_, o22, e21, m23, h⟩ := gOb_inv h
        refine Y.callI (yC.Vi (b := a0) (As := [.int (nI 0), .int (nI 1)]) (st := []) (r := ("PartlisterModel", T_M, 9)) hV.1 cb_M_refuse lk_M_36 in_M_refuse rfl se_M_refuse (lIa_ok dd12) rfl rfl (Nat.le_of_ble_eq_true rfl) (by decide) e21 m23) (k_M_refuse hV G19 a0 (nI 0) (nI 1)) h (fun v25 G24 _ h => ?_)
        refine Y.if_eq (off := 5) (tgt := 46) (lIa_ok dd13) (by decide) h (fun c54 h => ?_) (fun c54 h => ?_)
        · refine Y.blk (pc' := 52) (L' := [some (.ref a0), some (.int a1), some (.int a2), some (.int a3), none]) (st' := [.int a3, .int a1, .ref a0, .int a2, .int a1, .ref a0]) (sg := [(.aload_n 0, 0), (.iload_n 1, 0), (.iload_n 2, 0), (.aload_n 0, 0), (.iload_n 1, 0), (.iload_n 3, 0)]) (lSa_ok dd14) rfl ?_
          obtain ⟨_, o27, e26, m28, h⟩ := gOb_inv h
          refine Y.callA (yC.Vi (b := a0) (As := [.int a1, .int a3]) (st := [.int a2, .int a1, .ref a0]) (r := ("PartlisterModel", T_M, 9)) hV.1 cb_M_at lk_M_132 in_M_at rfl se_M_at (lIa_ok dd15) rfl rfl (Nat.le_of_ble_eq_true rfl) (by decide) e26 m28) (k_M_at hV G24 a0 a1 a3) h (fun v30 G29 _ h => ?_)
          obtain ⟨_, o32, e31, m33, h⟩ := gOb_inv h
          refine Y.callA (yC.Vi (b := a0) (As := [.int a1, .int a2, .ref v30]) (st := []) (r := ("PartlisterModel", T_M, 9)) hV.1 cb_M_write lk_M_150 in_M_write rfl se_M_write (lIa_ok dd16) rfl rfl (Nat.le_of_ble_eq_true rfl) (by decide) e31 m33) (k_M_write hV G29 a0 a1 a2 v30) h (fun v35 G34 _ h => ?_)
          refine Y.blk (pc' := 65) (L' := [some (.ref a0), some (.int a1), some (.int a2), some (.int a3), some (.ref v35)]) (st' := [.ref v35, .int a3, .int a1, .ref a0]) (sg := [(.astore 4, 0), (.aload_n 0, 0), (.iload_n 1, 0), (.iload_n 3, 0), (.aload 4, 0)]) (lSa_ok dd17) rfl ?_
          obtain ⟨_, o37, e36, m38, h⟩ := gOb_inv h
          refine Y.callA (yC.Vi (b := a0) (As := [.int a1, .int a3, .ref v35]) (st := []) (r := ("PartlisterModel", T_M, 9)) hV.1 cb_M_write lk_M_150 in_M_write rfl se_M_write (lIa_ok dd18) rfl rfl (Nat.le_of_ble_eq_true rfl) (by decide) e36 m38) (k_M_write hV G34 a0 a1 a3 v35) h (fun v40 G39 _ h => ?_)
          refine Y.blk (pc' := 72) (L' := [some (.ref a0), some (.int a1), some (.int a2), some (.int a3), some (.ref v35)]) (st' := [.int a2, .int a1, .ref a0]) (sg := [(.pop, 0), (.aload_n 0, 0), (.iload_n 1, 0), (.iload_n 2, 0)]) (lSa_ok dd19) rfl ?_
          obtain ⟨_, o42, e41, m43, h⟩ := gOb_inv h
          refine Y.callA (yC.Vi (b := a0) (As := [.int a1, .int a2]) (st := []) (r := ("PartlisterModel", T_M, 9)) hV.1 cb_M_at lk_M_132 in_M_at rfl se_M_at (lIa_ok dd20) rfl rfl (Nat.le_of_ble_eq_true rfl) (by decide) e41 m43) (k_M_at hV G39 a0 a1 a2) h (fun v45 G44 _ h => ?_)
          refine Y.blk (pc' := 76) (L' := [some (.ref a0), some (.int a1), some (.int a2), some (.int a3), some (.ref v35)]) (st' := [.int (nI 0), .ref v45]) (sg := [(.iconst 0, nI 0)]) (lSa_ok dd21) rfl ?_
          refine Y.iald (t0 := 0) (lIa_ok dd22) rfl h (fun v46 h => ?_)
          refine Y.blk (pc' := 80) (L' := [some (.ref a0), some (.int a1), some (.int a2), some (.int a3), some (.ref v35)]) (st' := [.int a3, .int a1, .ref a0, .int v46]) (sg := [(.aload_n 0, 0), (.iload_n 1, 0), (.iload_n 3, 0)]) (lSa_ok dd23) rfl ?_
          obtain ⟨_, o48, e47, m49, h⟩ := gOb_inv h
          refine Y.callA (yC.Vi (b := a0) (As := [.int a1, .int a3]) (st := [.int v46]) (r := ("PartlisterModel", T_M, 9)) hV.1 cb_M_at lk_M_132 in_M_at rfl se_M_at (lIa_ok dd24) rfl rfl (Nat.le_of_ble_eq_true rfl) (by decide) e47 m49) (k_M_at hV G44 a0 a1 a3) h (fun v51 G50 _ h => ?_)
          refine Y.blk (pc' := 84) (L' := [some (.ref a0), some (.int a1), some (.int a2), some (.int a3), some (.ref v35)]) (st' := [.int (nI 0), .ref v51, .int v46]) (sg := [(.iconst 0, nI 0)]) (lSa_ok dd25) rfl ?_
          refine Y.iald (t0 := 0) (lIa_ok dd26) rfl h (fun v52 h => ?_)
          refine Y.ic_ne (off := 7) (tgt := 92) (lIa_ok dd27) (by decide) h (fun c53 h => ?_) (fun c53 h => ?_)
          · refine Y.blk (pc' := 89) (L' := [some (.ref a0), some (.int a1), some (.int a2), some (.int a3), some (.ref v35)]) (st' := [.int (nI 1)]) (sg := [(.iconst 1, nI 1)]) (lSa_ok dd28) rfl ?_
            refine Y.goto (off := 4) (tgt := 93) (lIa_ok dd29) (by decide) ?_
            exact Y.zret rfl (lIa_ok dd30) h
          · refine Y.blk (pc' := 93) (L' := [some (.ref a0), some (.int a1), some (.int a2), some (.int a3), some (.ref v35)]) (st' := [.int (nI 0)]) (sg := [(.iconst 0, nI 0)]) (lSa_ok dd31) rfl ?_
            exact Y.zret rfl (lIa_ok dd30) h
        · refine Y.blk (pc' := 45) (L' := [some (.ref a0), some (.int a1), some (.int a2), some (.int a3), none]) (st' := [.int (nI 0)]) (sg := [(.iconst 0, nI 0)]) (lSa_ok dd32) rfl ?_
          exact Y.zret rfl (lIa_ok dd33) h
      · refine Y.blk (pc' := 33) (L' := [some (.ref a0), some (.int a1), some (.int a2), some (.int a3), none]) (st' := [.int (nI 1), .ref a0]) (sg := [(.iconst 1, nI 1)]) (lSa_ok dd34) rfl ?_
        refine Y.goto (off := 4) (tgt := 37) (lIa_ok dd35) (by decide) ?_
        refine Y.blk (pc' := 38) (L' := [some (.ref a0), some (.int a1), some (.int a2), some (.int a3), none]) (st' := [.int (nI 1), .int (nI 1), .ref a0]) (sg := [(.iconst 1, nI 1)]) (lSa_ok dd36) rfl ?_
        obtain ⟨_, o56, e55, m57, h⟩ := gOb_inv h
        refine Y.callI (yC.Vi (b := a0) (As := [.int (nI 1), .int (nI 1)]) (st := []) (r := ("PartlisterModel", T_M, 9)) hV.1 cb_M_refuse lk_M_36 in_M_refuse rfl se_M_refuse (lIa_ok dd12) rfl rfl (Nat.le_of_ble_eq_true rfl) (by decide) e55 m57) (k_M_refuse hV G19 a0 (nI 1) (nI 1)) h (fun v59 G58 _ h => ?_)
        refine Y.if_eq (off := 5) (tgt := 46) (lIa_ok dd13) (by decide) h (fun c88 h => ?_) (fun c88 h => ?_)
        · refine Y.blk (pc' := 52) (L' := [some (.ref a0), some (.int a1), some (.int a2), some (.int a3), none]) (st' := [.int a3, .int a1, .ref a0, .int a2, .int a1, .ref a0]) (sg := [(.aload_n 0, 0), (.iload_n 1, 0), (.iload_n 2, 0), (.aload_n 0, 0), (.iload_n 1, 0), (.iload_n 3, 0)]) (lSa_ok dd14) rfl ?_
          obtain ⟨_, o61, e60, m62, h⟩ := gOb_inv h
          refine Y.callA (yC.Vi (b := a0) (As := [.int a1, .int a3]) (st := [.int a2, .int a1, .ref a0]) (r := ("PartlisterModel", T_M, 9)) hV.1 cb_M_at lk_M_132 in_M_at rfl se_M_at (lIa_ok dd15) rfl rfl (Nat.le_of_ble_eq_true rfl) (by decide) e60 m62) (k_M_at hV G58 a0 a1 a3) h (fun v64 G63 _ h => ?_)
          obtain ⟨_, o66, e65, m67, h⟩ := gOb_inv h
          refine Y.callA (yC.Vi (b := a0) (As := [.int a1, .int a2, .ref v64]) (st := []) (r := ("PartlisterModel", T_M, 9)) hV.1 cb_M_write lk_M_150 in_M_write rfl se_M_write (lIa_ok dd16) rfl rfl (Nat.le_of_ble_eq_true rfl) (by decide) e65 m67) (k_M_write hV G63 a0 a1 a2 v64) h (fun v69 G68 _ h => ?_)
          refine Y.blk (pc' := 65) (L' := [some (.ref a0), some (.int a1), some (.int a2), some (.int a3), some (.ref v69)]) (st' := [.ref v69, .int a3, .int a1, .ref a0]) (sg := [(.astore 4, 0), (.aload_n 0, 0), (.iload_n 1, 0), (.iload_n 3, 0), (.aload 4, 0)]) (lSa_ok dd17) rfl ?_
          obtain ⟨_, o71, e70, m72, h⟩ := gOb_inv h
          refine Y.callA (yC.Vi (b := a0) (As := [.int a1, .int a3, .ref v69]) (st := []) (r := ("PartlisterModel", T_M, 9)) hV.1 cb_M_write lk_M_150 in_M_write rfl se_M_write (lIa_ok dd18) rfl rfl (Nat.le_of_ble_eq_true rfl) (by decide) e70 m72) (k_M_write hV G68 a0 a1 a3 v69) h (fun v74 G73 _ h => ?_)
          refine Y.blk (pc' := 72) (L' := [some (.ref a0), some (.int a1), some (.int a2), some (.int a3), some (.ref v69)]) (st' := [.int a2, .int a1, .ref a0]) (sg := [(.pop, 0), (.aload_n 0, 0), (.iload_n 1, 0), (.iload_n 2, 0)]) (lSa_ok dd19) rfl ?_
          obtain ⟨_, o76, e75, m77, h⟩ := gOb_inv h
          refine Y.callA (yC.Vi (b := a0) (As := [.int a1, .int a2]) (st := []) (r := ("PartlisterModel", T_M, 9)) hV.1 cb_M_at lk_M_132 in_M_at rfl se_M_at (lIa_ok dd20) rfl rfl (Nat.le_of_ble_eq_true rfl) (by decide) e75 m77) (k_M_at hV G73 a0 a1 a2) h (fun v79 G78 _ h => ?_)
          refine Y.blk (pc' := 76) (L' := [some (.ref a0), some (.int a1), some (.int a2), some (.int a3), some (.ref v69)]) (st' := [.int (nI 0), .ref v79]) (sg := [(.iconst 0, nI 0)]) (lSa_ok dd21) rfl ?_
          refine Y.iald (t0 := 0) (lIa_ok dd22) rfl h (fun v80 h => ?_)
          refine Y.blk (pc' := 80) (L' := [some (.ref a0), some (.int a1), some (.int a2), some (.int a3), some (.ref v69)]) (st' := [.int a3, .int a1, .ref a0, .int v80]) (sg := [(.aload_n 0, 0), (.iload_n 1, 0), (.iload_n 3, 0)]) (lSa_ok dd23) rfl ?_
          obtain ⟨_, o82, e81, m83, h⟩ := gOb_inv h
          refine Y.callA (yC.Vi (b := a0) (As := [.int a1, .int a3]) (st := [.int v80]) (r := ("PartlisterModel", T_M, 9)) hV.1 cb_M_at lk_M_132 in_M_at rfl se_M_at (lIa_ok dd24) rfl rfl (Nat.le_of_ble_eq_true rfl) (by decide) e81 m83) (k_M_at hV G78 a0 a1 a3) h (fun v85 G84 _ h => ?_)
          refine Y.blk (pc' := 84) (L' := [some (.ref a0), some (.int a1), some (.int a2), some (.int a3), some (.ref v69)]) (st' := [.int (nI 0), .ref v85, .int v80]) (sg := [(.iconst 0, nI 0)]) (lSa_ok dd25) rfl ?_
          refine Y.iald (t0 := 0) (lIa_ok dd26) rfl h (fun v86 h => ?_)
          refine Y.ic_ne (off := 7) (tgt := 92) (lIa_ok dd27) (by decide) h (fun c87 h => ?_) (fun c87 h => ?_)
          · refine Y.blk (pc' := 89) (L' := [some (.ref a0), some (.int a1), some (.int a2), some (.int a3), some (.ref v69)]) (st' := [.int (nI 1)]) (sg := [(.iconst 1, nI 1)]) (lSa_ok dd28) rfl ?_
            refine Y.goto (off := 4) (tgt := 93) (lIa_ok dd29) (by decide) ?_
            exact Y.zret rfl (lIa_ok dd30) h
          · refine Y.blk (pc' := 93) (L' := [some (.ref a0), some (.int a1), some (.int a2), some (.int a3), some (.ref v69)]) (st' := [.int (nI 0)]) (sg := [(.iconst 0, nI 0)]) (lSa_ok dd31) rfl ?_
            exact Y.zret rfl (lIa_ok dd30) h
        · refine Y.blk (pc' := 45) (L' := [some (.ref a0), some (.int a1), some (.int a2), some (.int a3), none]) (st' := [.int (nI 0)]) (sg := [(.iconst 0, nI 0)]) (lSa_ok dd32) rfl ?_
          exact Y.zret rfl (lIa_ok dd33) h
    · refine Y.blk (pc' := 33) (L' := [some (.ref a0), some (.int a1), some (.int a2), some (.int a3), none]) (st' := [.int (nI 1), .ref a0]) (sg := [(.iconst 1, nI 1)]) (lSa_ok dd34) rfl ?_
      refine Y.goto (off := 4) (tgt := 37) (lIa_ok dd35) (by decide) ?_
      refine Y.blk (pc' := 38) (L' := [some (.ref a0), some (.int a1), some (.int a2), some (.int a3), none]) (st' := [.int (nI 1), .int (nI 1), .ref a0]) (sg := [(.iconst 1, nI 1)]) (lSa_ok dd36) rfl ?_
      obtain ⟨_, o91, e90, m92, h⟩ := gOb_inv h
      refine Y.callI (yC.Vi (b := a0) (As := [.int (nI 1), .int (nI 1)]) (st := []) (r := ("PartlisterModel", T_M, 9)) hV.1 cb_M_refuse lk_M_36 in_M_refuse rfl se_M_refuse (lIa_ok dd12) rfl rfl (Nat.le_of_ble_eq_true rfl) (by decide) e90 m92) (k_M_refuse hV G14 a0 (nI 1) (nI 1)) h (fun v94 G93 _ h => ?_)
      refine Y.if_eq (off := 5) (tgt := 46) (lIa_ok dd13) (by decide) h (fun c123 h => ?_) (fun c123 h => ?_)
      · refine Y.blk (pc' := 52) (L' := [some (.ref a0), some (.int a1), some (.int a2), some (.int a3), none]) (st' := [.int a3, .int a1, .ref a0, .int a2, .int a1, .ref a0]) (sg := [(.aload_n 0, 0), (.iload_n 1, 0), (.iload_n 2, 0), (.aload_n 0, 0), (.iload_n 1, 0), (.iload_n 3, 0)]) (lSa_ok dd14) rfl ?_
        obtain ⟨_, o96, e95, m97, h⟩ := gOb_inv h
        refine Y.callA (yC.Vi (b := a0) (As := [.int a1, .int a3]) (st := [.int a2, .int a1, .ref a0]) (r := ("PartlisterModel", T_M, 9)) hV.1 cb_M_at lk_M_132 in_M_at rfl se_M_at (lIa_ok dd15) rfl rfl (Nat.le_of_ble_eq_true rfl) (by decide) e95 m97) (k_M_at hV G93 a0 a1 a3) h (fun v99 G98 _ h => ?_)
        obtain ⟨_, o101, e100, m102, h⟩ := gOb_inv h
        refine Y.callA (yC.Vi (b := a0) (As := [.int a1, .int a2, .ref v99]) (st := []) (r := ("PartlisterModel", T_M, 9)) hV.1 cb_M_write lk_M_150 in_M_write rfl se_M_write (lIa_ok dd16) rfl rfl (Nat.le_of_ble_eq_true rfl) (by decide) e100 m102) (k_M_write hV G98 a0 a1 a2 v99) h (fun v104 G103 _ h => ?_)
        refine Y.blk (pc' := 65) (L' := [some (.ref a0), some (.int a1), some (.int a2), some (.int a3), some (.ref v104)]) (st' := [.ref v104, .int a3, .int a1, .ref a0]) (sg := [(.astore 4, 0), (.aload_n 0, 0), (.iload_n 1, 0), (.iload_n 3, 0), (.aload 4, 0)]) (lSa_ok dd17) rfl ?_
        obtain ⟨_, o106, e105, m107, h⟩ := gOb_inv h
        refine Y.callA (yC.Vi (b := a0) (As := [.int a1, .int a3, .ref v104]) (st := []) (r := ("PartlisterModel", T_M, 9)) hV.1 cb_M_write lk_M_150 in_M_write rfl se_M_write (lIa_ok dd18) rfl rfl (Nat.le_of_ble_eq_true rfl) (by decide) e105 m107) (k_M_write hV G103 a0 a1 a3 v104) h (fun v109 G108 _ h => ?_)
        refine Y.blk (pc' := 72) (L' := [some (.ref a0), some (.int a1), some (.int a2), some (.int a3), some (.ref v104)]) (st' := [.int a2, .int a1, .ref a0]) (sg := [(.pop, 0), (.aload_n 0, 0), (.iload_n 1, 0), (.iload_n 2, 0)]) (lSa_ok dd19) rfl ?_
        obtain ⟨_, o111, e110, m112, h⟩ := gOb_inv h
        refine Y.callA (yC.Vi (b := a0) (As := [.int a1, .int a2]) (st := []) (r := ("PartlisterModel", T_M, 9)) hV.1 cb_M_at lk_M_132 in_M_at rfl se_M_at (lIa_ok dd20) rfl rfl (Nat.le_of_ble_eq_true rfl) (by decide) e110 m112) (k_M_at hV G108 a0 a1 a2) h (fun v114 G113 _ h => ?_)
        refine Y.blk (pc' := 76) (L' := [some (.ref a0), some (.int a1), some (.int a2), some (.int a3), some (.ref v104)]) (st' := [.int (nI 0), .ref v114]) (sg := [(.iconst 0, nI 0)]) (lSa_ok dd21) rfl ?_
        refine Y.iald (t0 := 0) (lIa_ok dd22) rfl h (fun v115 h => ?_)
        refine Y.blk (pc' := 80) (L' := [some (.ref a0), some (.int a1), some (.int a2), some (.int a3), some (.ref v104)]) (st' := [.int a3, .int a1, .ref a0, .int v115]) (sg := [(.aload_n 0, 0), (.iload_n 1, 0), (.iload_n 3, 0)]) (lSa_ok dd23) rfl ?_
        obtain ⟨_, o117, e116, m118, h⟩ := gOb_inv h
        refine Y.callA (yC.Vi (b := a0) (As := [.int a1, .int a3]) (st := [.int v115]) (r := ("PartlisterModel", T_M, 9)) hV.1 cb_M_at lk_M_132 in_M_at rfl se_M_at (lIa_ok dd24) rfl rfl (Nat.le_of_ble_eq_true rfl) (by decide) e116 m118) (k_M_at hV G113 a0 a1 a3) h (fun v120 G119 _ h => ?_)
        refine Y.blk (pc' := 84) (L' := [some (.ref a0), some (.int a1), some (.int a2), some (.int a3), some (.ref v104)]) (st' := [.int (nI 0), .ref v120, .int v115]) (sg := [(.iconst 0, nI 0)]) (lSa_ok dd25) rfl ?_
        refine Y.iald (t0 := 0) (lIa_ok dd26) rfl h (fun v121 h => ?_)
        refine Y.ic_ne (off := 7) (tgt := 92) (lIa_ok dd27) (by decide) h (fun c122 h => ?_) (fun c122 h => ?_)
        · refine Y.blk (pc' := 89) (L' := [some (.ref a0), some (.int a1), some (.int a2), some (.int a3), some (.ref v104)]) (st' := [.int (nI 1)]) (sg := [(.iconst 1, nI 1)]) (lSa_ok dd28) rfl ?_
          refine Y.goto (off := 4) (tgt := 93) (lIa_ok dd29) (by decide) ?_
          exact Y.zret rfl (lIa_ok dd30) h
        · refine Y.blk (pc' := 93) (L' := [some (.ref a0), some (.int a1), some (.int a2), some (.int a3), some (.ref v104)]) (st' := [.int (nI 0)]) (sg := [(.iconst 0, nI 0)]) (lSa_ok dd31) rfl ?_
          exact Y.zret rfl (lIa_ok dd30) h
      · refine Y.blk (pc' := 45) (L' := [some (.ref a0), some (.int a1), some (.int a2), some (.int a3), none]) (st' := [.int (nI 0)]) (sg := [(.iconst 0, nI 0)]) (lSa_ok dd32) rfl ?_
        exact Y.zret rfl (lIa_ok dd33) h
  · refine Y.blk (pc' := 45) (L' := [some (.ref a0), some (.int a1), some (.int a2), some (.int a3), none]) (st' := [.int (nI 0)]) (sg := [(.iconst 0, nI 0)]) (lSa_ok dd32) rfl ?_
    exact Y.zret rfl (lIa_ok dd33) h

def f_M_extreme (G : gH) (a0 : Nat) (a1 : Int32) (a2 : Int32) : gR :=
  gOb G a0 6 fun o2 => bI (f_M_isNoList G a0 a1) fun v5 G4 => gOb G4 a0 6 fun o7 => bI (f_M_start G4 a0 v5 (nI 1)) fun v10 G9 => if v10 = 0 then gOb G9 a0 6 fun o12 => bI (f_M_extremeOf G9 a0 a1 a2) fun v15 G14 => rI v15 G14
  else rI (nI 0) G9
theorem k_M_extreme {l : Launch} {D : va_G} {B : Nat} {O : State → Heap → Prop} (hV : zG l D B O) (G : gH) (a0 : Nat) (a1 : Int32) (a2 : Int32) : gMet (zVm l D B O) m_M_extreme 14 [.ref a0, .int a1, .int a2] G (f_M_extreme G a0 a1 a2) := by
  have hdd : lSa m_M_extreme 0 [(.aload_n 0, 0), (.aload_n 0, 0), (.iload_n 1, 0)] = true ∧ lIa m_M_extreme 3 (.invokevirtual 110) 3 = true ∧ lSa m_M_extreme 6 [(.iconst 1, nI 1)] = true ∧ lIa m_M_extreme 7 (.invokevirtual 114) 3 = true ∧ lIa m_M_extreme 10 (.ifCond .eq 7) 3 = true ∧ lSa m_M_extreme 17 [(.aload_n 0, 0), (.iload_n 1, 0), (.iload_n 2, 0)] = true ∧ lIa m_M_extreme 20 (.invokevirtual 253) 3 = true ∧ lIa m_M_extreme 23 (.ireturn) 1 = true ∧ lSa m_M_extreme 13 [(.iconst 0, nI 0)] = true ∧ lIa m_M_extreme 14 (.goto 9) 3 = true := by decide +kernel
  refine lA8 hdd (fun dd0 dd1 dd2 dd3 dd4 dd5 dd6 dd7 hdd => ?_)
  obtain ⟨dd8, dd9⟩ := hdd
  refine gMet.of (by decide +kernel) (Nat.le_of_ble_eq_true rfl) [some (.ref a0), some (.int a1), some (.int a2)] (fun ls h => zEn_ok (n := 3) h) ?_
  intro o Gf h
  unfold f_M_extreme at h
  refine Y.blk (pc' := 3) (L' := [some (.ref a0), some (.int a1), some (.int a2)]) (st' := [.int a1, .ref a0, .ref a0]) (sg := [(.aload_n 0, 0), (.aload_n 0, 0), (.iload_n 1, 0)]) (lSa_ok dd0) rfl ?_
  obtain ⟨_, o2, e1, m3, h⟩ := gOb_inv h
  refine Y.callI (yC.Vi (b := a0) (As := [.int a1]) (st := [.ref a0]) (r := ("PartlisterModel", T_M, 9)) hV.1 cb_M_isNoList lk_M_110 in_M_isNoList rfl se_M_isNoList (lIa_ok dd1) rfl rfl (Nat.le_of_ble_eq_true rfl) (by decide) e1 m3) (k_M_isNoList hV G a0 a1) h (fun v5 G4 _ h => ?_)
  refine Y.blk (pc' := 7) (L' := [some (.ref a0), some (.int a1), some (.int a2)]) (st' := [.int (nI 1), .int v5, .ref a0]) (sg := [(.iconst 1, nI 1)]) (lSa_ok dd2) rfl ?_
  obtain ⟨_, o7, e6, m8, h⟩ := gOb_inv h
  refine Y.callI (yC.Vi (b := a0) (As := [.int v5, .int (nI 1)]) (st := []) (r := ("PartlisterModel", T_M, 9)) hV.1 cb_M_start lk_M_114 in_M_start rfl se_M_start (lIa_ok dd3) rfl rfl (Nat.le_of_ble_eq_true rfl) (by decide) e6 m8) (k_M_start hV G4 a0 v5 (nI 1)) h (fun v10 G9 _ h => ?_)
  refine Y.if_eq (off := 7) (tgt := 17) (lIa_ok dd4) (by decide) h (fun c16 h => ?_) (fun c16 h => ?_)
  · refine Y.blk (pc' := 20) (L' := [some (.ref a0), some (.int a1), some (.int a2)]) (st' := [.int a2, .int a1, .ref a0]) (sg := [(.aload_n 0, 0), (.iload_n 1, 0), (.iload_n 2, 0)]) (lSa_ok dd5) rfl ?_
    obtain ⟨_, o12, e11, m13, h⟩ := gOb_inv h
    refine Y.callI (yC.Vi (b := a0) (As := [.int a1, .int a2]) (st := []) (r := ("PartlisterModel", T_M, 9)) hV.1 cb_M_extremeOf lk_M_253 in_M_extremeOf rfl se_M_extremeOf (lIa_ok dd6) rfl rfl (Nat.le_of_ble_eq_true rfl) (by decide) e11 m13) (k_M_extremeOf hV G9 a0 a1 a2) h (fun v15 G14 _ h => ?_)
    exact Y.iret rfl (lIa_ok dd7) h
  · refine Y.blk (pc' := 14) (L' := [some (.ref a0), some (.int a1), some (.int a2)]) (st' := [.int (nI 0)]) (sg := [(.iconst 0, nI 0)]) (lSa_ok dd8) rfl ?_
    refine Y.goto (off := 9) (tgt := 23) (lIa_ok dd9) (by decide) ?_
    exact Y.iret rfl (lIa_ok dd7) h

def f_M_find (G : gH) (a0 : Nat) (a1 : Int32) (a2 : Int32) : gR :=
  gOb G a0 6 fun o2 => bI (f_M_areNone G a0 a1 a2) fun v5 G4 => if v5 = 0 then gOb G4 a0 6 fun o7 => bI (f_M_found G4 a0 a1 a2) fun v10 G9 => rI v10 G9
  else rI (nI 0) G4
theorem k_M_find {l : Launch} {D : va_G} {B : Nat} {O : State → Heap → Prop} (hV : zG l D B O) (G : gH) (a0 : Nat) (a1 : Int32) (a2 : Int32) : gMet (zVm l D B O) m_M_find 15 [.ref a0, .int a1, .int a2] G (f_M_find G a0 a1 a2) := by
  have hdd : lSa m_M_find 0 [(.aload_n 0, 0), (.iload_n 1, 0), (.iload_n 2, 0)] = true ∧ lIa m_M_find 3 (.invokevirtual 235) 3 = true ∧ lIa m_M_find 6 (.ifCond .eq 7) 3 = true ∧ lSa m_M_find 13 [(.aload_n 0, 0), (.iload_n 1, 0), (.iload_n 2, 0)] = true ∧ lIa m_M_find 16 (.invokevirtual 247) 3 = true ∧ lIa m_M_find 19 (.ireturn) 1 = true ∧ lSa m_M_find 9 [(.iconst 0, nI 0)] = true ∧ lIa m_M_find 10 (.goto 9) 3 = true := by decide +kernel
  obtain ⟨dd0, dd1, dd2, dd3, dd4, dd5, dd6, dd7⟩ := hdd
  refine gMet.of (by decide +kernel) (Nat.le_of_ble_eq_true rfl) [some (.ref a0), some (.int a1), some (.int a2)] (fun ls h => zEn_ok (n := 3) h) ?_
  intro o Gf h
  unfold f_M_find at h
  refine Y.blk (pc' := 3) (L' := [some (.ref a0), some (.int a1), some (.int a2)]) (st' := [.int a2, .int a1, .ref a0]) (sg := [(.aload_n 0, 0), (.iload_n 1, 0), (.iload_n 2, 0)]) (lSa_ok dd0) rfl ?_
  obtain ⟨_, o2, e1, m3, h⟩ := gOb_inv h
  refine Y.callI (yC.Vi (b := a0) (As := [.int a1, .int a2]) (st := []) (r := ("PartlisterModel", T_M, 9)) hV.1 cb_M_areNone lk_M_235 in_M_areNone rfl se_M_areNone (lIa_ok dd1) rfl rfl (Nat.le_of_ble_eq_true rfl) (by decide) e1 m3) (k_M_areNone hV G a0 a1 a2) h (fun v5 G4 _ h => ?_)
  refine Y.if_eq (off := 7) (tgt := 13) (lIa_ok dd2) (by decide) h (fun c11 h => ?_) (fun c11 h => ?_)
  · refine Y.blk (pc' := 16) (L' := [some (.ref a0), some (.int a1), some (.int a2)]) (st' := [.int a2, .int a1, .ref a0]) (sg := [(.aload_n 0, 0), (.iload_n 1, 0), (.iload_n 2, 0)]) (lSa_ok dd3) rfl ?_
    obtain ⟨_, o7, e6, m8, h⟩ := gOb_inv h
    refine Y.callI (yC.Vi (b := a0) (As := [.int a1, .int a2]) (st := []) (r := ("PartlisterModel", T_M, 9)) hV.1 cb_M_found lk_M_247 in_M_found rfl se_M_found (lIa_ok dd4) rfl rfl (Nat.le_of_ble_eq_true rfl) (by decide) e6 m8) (k_M_found hV G4 a0 a1 a2) h (fun v10 G9 _ h => ?_)
    exact Y.iret rfl (lIa_ok dd5) h
  · refine Y.blk (pc' := 10) (L' := [some (.ref a0), some (.int a1), some (.int a2)]) (st' := [.int (nI 0)]) (sg := [(.iconst 0, nI 0)]) (lSa_ok dd6) rfl ?_
    refine Y.goto (off := 9) (tgt := 19) (lIa_ok dd7) (by decide) ?_
    exact Y.iret rfl (lIa_ok dd5) h

def f_M_isNoKey (G : gH) (a0 : Nat) (a1 : Int32) : gR :=
  bI (f_M_isIn G a1 (nI 0) (nI 30)) fun v3 G2 => if v3 = 0 then rZ (nI 1) G2
  else rZ (nI 0) G2
theorem k_M_isNoKey {l : Launch} {D : va_G} {B : Nat} {O : State → Heap → Prop} (hV : zG l D B O) (G : gH) (a0 : Nat) (a1 : Int32) : gMet (zVm l D B O) m_M_isNoKey 3 [.ref a0, .int a1] G (f_M_isNoKey G a0 a1) := by
  have hdd : lSa m_M_isNoKey 0 [(.iload_n 1, 0), (.iconst 0, nI 0), (.bipush 30, nI 30)] = true ∧ lIa m_M_isNoKey 4 (.invokestatic 40) 3 = true ∧ lIa m_M_isNoKey 7 (.ifCond .ne 7) 3 = true ∧ lSa m_M_isNoKey 10 [(.iconst 1, nI 1)] = true ∧ lIa m_M_isNoKey 11 (.goto 4) 3 = true ∧ lIa m_M_isNoKey 15 (.ireturn) 1 = true ∧ lSa m_M_isNoKey 14 [(.iconst 0, nI 0)] = true := by decide +kernel
  obtain ⟨dd0, dd1, dd2, dd3, dd4, dd5, dd6⟩ := hdd
  refine gMet.of (by decide +kernel) (Nat.le_of_ble_eq_true rfl) [some (.ref a0), some (.int a1)] (fun ls h => zEn_ok (n := 2) h) ?_
  intro o Gf h
  unfold f_M_isNoKey at h
  refine Y.blk (pc' := 4) (L' := [some (.ref a0), some (.int a1)]) (st' := [.int (nI 30), .int (nI 0), .int a1]) (sg := [(.iload_n 1, 0), (.iconst 0, nI 0), (.bipush 30, nI 30)]) (lSa_ok dd0) rfl ?_
  refine Y.callI (yC.S (As := [.int a1, .int (nI 0), .int (nI 30)]) (st := []) hV.1 cb_M_isIn lk_M_40 st_M_isIn (lIa_ok dd1) rfl rfl (Nat.le_of_ble_eq_true rfl) (by decide)) (k_M_isIn hV G a1 (nI 0) (nI 30)) h (fun v3 G2 _ h => ?_)
  refine Y.if_ne (off := 7) (tgt := 14) (lIa_ok dd2) (by decide) h (fun c4 h => ?_) (fun c4 h => ?_)
  · refine Y.blk (pc' := 11) (L' := [some (.ref a0), some (.int a1)]) (st' := [.int (nI 1)]) (sg := [(.iconst 1, nI 1)]) (lSa_ok dd3) rfl ?_
    refine Y.goto (off := 4) (tgt := 15) (lIa_ok dd4) (by decide) ?_
    exact Y.zret rfl (lIa_ok dd5) h
  · refine Y.blk (pc' := 15) (L' := [some (.ref a0), some (.int a1)]) (st' := [.int (nI 0)]) (sg := [(.iconst 0, nI 0)]) (lSa_ok dd6) rfl ?_
    exact Y.zret rfl (lIa_ok dd5) h

def f_M_first (G : gH) (a0 : Nat) (a1 : Int32) (a2 : Int32) : gR :=
  gOb G a0 6 fun o2 => bI (f_M_isNoList G a0 a1) fun v5 G4 => gOb G4 a0 6 fun o7 => bI (f_M_start G4 a0 v5 (nI 1)) fun v10 G9 => if v10 = 0 then (gOb G9 a0 6 fun o12 => bI (f_M_isNoKey G9 a0 a2) fun v15 G14 => gOb G14 a0 6 fun o17 => bI (f_M_refuse G14 a0 v15 (nI 2)) fun v20 G19 => if v20 = 0 then gOb G19 a0 6 fun o22 => bI (f_M_firstOf G19 a0 a1 a2) fun v25 G24 => rI v25 G24
    else rI (nI 0) G19)
  else rI (nI 0) G9
theorem k_M_first {l : Launch} {D : va_G} {B : Nat} {O : State → Heap → Prop} (hV : zG l D B O) (G : gH) (a0 : Nat) (a1 : Int32) (a2 : Int32) : gMet (zVm l D B O) m_M_first 14 [.ref a0, .int a1, .int a2] G (f_M_first G a0 a1 a2) := by
  have hdd : lSa m_M_first 0 [(.aload_n 0, 0), (.aload_n 0, 0), (.iload_n 1, 0)] = true ∧ lIa m_M_first 3 (.invokevirtual 110) 3 = true ∧ lSa m_M_first 6 [(.iconst 1, nI 1)] = true ∧ lIa m_M_first 7 (.invokevirtual 114) 3 = true ∧ lIa m_M_first 10 (.ifCond .ne 16) 3 = true ∧ lSa m_M_first 13 [(.aload_n 0, 0), (.aload_n 0, 0), (.iload_n 2, 0)] = true ∧ lIa m_M_first 16 (.invokevirtual 160) 3 = true ∧ lSa m_M_first 19 [(.iconst 2, nI 2)] = true ∧ lIa m_M_first 20 (.invokevirtual 36) 3 = true ∧ lIa m_M_first 23 (.ifCond .eq 7) 3 = true ∧ lSa m_M_first 30 [(.aload_n 0, 0), (.iload_n 1, 0), (.iload_n 2, 0)] = true ∧ lIa m_M_first 33 (.invokevirtual 163) 3 = true ∧ lIa m_M_first 36 (.ireturn) 1 = true ∧ lSa m_M_first 26 [(.iconst 0, nI 0)] = true ∧ lIa m_M_first 27 (.goto 9) 3 = true := by decide +kernel
  refine lA8 hdd (fun dd0 dd1 dd2 dd3 dd4 dd5 dd6 dd7 hdd => ?_)
  obtain ⟨dd8, dd9, dd10, dd11, dd12, dd13, dd14⟩ := hdd
  refine gMet.of (by decide +kernel) (Nat.le_of_ble_eq_true rfl) [some (.ref a0), some (.int a1), some (.int a2)] (fun ls h => zEn_ok (n := 3) h) ?_
  intro o Gf h
  unfold f_M_first at h
  refine Y.blk (pc' := 3) (L' := [some (.ref a0), some (.int a1), some (.int a2)]) (st' := [.int a1, .ref a0, .ref a0]) (sg := [(.aload_n 0, 0), (.aload_n 0, 0), (.iload_n 1, 0)]) (lSa_ok dd0) rfl ?_
  obtain ⟨_, o2, e1, m3, h⟩ := gOb_inv h
  refine Y.callI (yC.Vi (b := a0) (As := [.int a1]) (st := [.ref a0]) (r := ("PartlisterModel", T_M, 9)) hV.1 cb_M_isNoList lk_M_110 in_M_isNoList rfl se_M_isNoList (lIa_ok dd1) rfl rfl (Nat.le_of_ble_eq_true rfl) (by decide) e1 m3) (k_M_isNoList hV G a0 a1) h (fun v5 G4 _ h => ?_)
  refine Y.blk (pc' := 7) (L' := [some (.ref a0), some (.int a1), some (.int a2)]) (st' := [.int (nI 1), .int v5, .ref a0]) (sg := [(.iconst 1, nI 1)]) (lSa_ok dd2) rfl ?_
  obtain ⟨_, o7, e6, m8, h⟩ := gOb_inv h
  refine Y.callI (yC.Vi (b := a0) (As := [.int v5, .int (nI 1)]) (st := []) (r := ("PartlisterModel", T_M, 9)) hV.1 cb_M_start lk_M_114 in_M_start rfl se_M_start (lIa_ok dd3) rfl rfl (Nat.le_of_ble_eq_true rfl) (by decide) e6 m8) (k_M_start hV G4 a0 v5 (nI 1)) h (fun v10 G9 _ h => ?_)
  refine Y.if_ne (off := 16) (tgt := 26) (lIa_ok dd4) (by decide) h (fun c27 h => ?_) (fun c27 h => ?_)
  · refine Y.blk (pc' := 16) (L' := [some (.ref a0), some (.int a1), some (.int a2)]) (st' := [.int a2, .ref a0, .ref a0]) (sg := [(.aload_n 0, 0), (.aload_n 0, 0), (.iload_n 2, 0)]) (lSa_ok dd5) rfl ?_
    obtain ⟨_, o12, e11, m13, h⟩ := gOb_inv h
    refine Y.callI (yC.Vi (b := a0) (As := [.int a2]) (st := [.ref a0]) (r := ("PartlisterModel", T_M, 9)) hV.1 cb_M_isNoKey lk_M_160 in_M_isNoKey rfl se_M_isNoKey (lIa_ok dd6) rfl rfl (Nat.le_of_ble_eq_true rfl) (by decide) e11 m13) (k_M_isNoKey hV G9 a0 a2) h (fun v15 G14 _ h => ?_)
    refine Y.blk (pc' := 20) (L' := [some (.ref a0), some (.int a1), some (.int a2)]) (st' := [.int (nI 2), .int v15, .ref a0]) (sg := [(.iconst 2, nI 2)]) (lSa_ok dd7) rfl ?_
    obtain ⟨_, o17, e16, m18, h⟩ := gOb_inv h
    refine Y.callI (yC.Vi (b := a0) (As := [.int v15, .int (nI 2)]) (st := []) (r := ("PartlisterModel", T_M, 9)) hV.1 cb_M_refuse lk_M_36 in_M_refuse rfl se_M_refuse (lIa_ok dd8) rfl rfl (Nat.le_of_ble_eq_true rfl) (by decide) e16 m18) (k_M_refuse hV G14 a0 v15 (nI 2)) h (fun v20 G19 _ h => ?_)
    refine Y.if_eq (off := 7) (tgt := 30) (lIa_ok dd9) (by decide) h (fun c26 h => ?_) (fun c26 h => ?_)
    · refine Y.blk (pc' := 33) (L' := [some (.ref a0), some (.int a1), some (.int a2)]) (st' := [.int a2, .int a1, .ref a0]) (sg := [(.aload_n 0, 0), (.iload_n 1, 0), (.iload_n 2, 0)]) (lSa_ok dd10) rfl ?_
      obtain ⟨_, o22, e21, m23, h⟩ := gOb_inv h
      refine Y.callI (yC.Vi (b := a0) (As := [.int a1, .int a2]) (st := []) (r := ("PartlisterModel", T_M, 9)) hV.1 cb_M_firstOf lk_M_163 in_M_firstOf rfl se_M_firstOf (lIa_ok dd11) rfl rfl (Nat.le_of_ble_eq_true rfl) (by decide) e21 m23) (k_M_firstOf hV G19 a0 a1 a2) h (fun v25 G24 _ h => ?_)
      exact Y.iret rfl (lIa_ok dd12) h
    · refine Y.blk (pc' := 27) (L' := [some (.ref a0), some (.int a1), some (.int a2)]) (st' := [.int (nI 0)]) (sg := [(.iconst 0, nI 0)]) (lSa_ok dd13) rfl ?_
      refine Y.goto (off := 9) (tgt := 36) (lIa_ok dd14) (by decide) ?_
      exact Y.iret rfl (lIa_ok dd12) h
  · refine Y.blk (pc' := 27) (L' := [some (.ref a0), some (.int a1), some (.int a2)]) (st' := [.int (nI 0)]) (sg := [(.iconst 0, nI 0)]) (lSa_ok dd13) rfl ?_
    refine Y.goto (off := 9) (tgt := 36) (lIa_ok dd14) (by decide) ?_
    exact Y.iret rfl (lIa_ok dd12) h

def f_M_freePart_L2 (K17 : gH → Int32 → gR) (K25 : gH → gR) : Nat → gH → Nat → Int32 → gR
  | 0, _, _, _ => none
  | n + 1, G, x0, x1 =>
    if (nI 6) ≤ x1 then K25 G
    else gFA G x0 6 2 fun v1 => gLdq G v1 104 x1 (K17 G x1) fun v2 => f_M_freePart_L2 K17 K25 n G x0 (x1 + (nI 1))
def f_M_freePart (G : gH) (a0 : Nat) : gR :=
  f_M_freePart_L2 (fun G5 x4 => rI x4 G5) (fun G6 => rI (-1) G6) zFu G a0 (nI 2)
theorem k_M_freePart_L2 {l : Launch} {D : va_G} {B : Nat} {O : State → Heap → Prop} (hV : zG l D B O) {o : gO} {Gf : gH} (K17 : gH → Int32 → gR) (K25 : gH → gR) (hK17 : ∀ (G : gH) (x1 : Int32), K17 G x1 = some (o, Gf) → Y (zVm l D B O) m_M_freePart 2 o Gf 17 [none, some (.int x1)] [] G) (hK25 : ∀ (G : gH), K25 G  = some (o, Gf) → Y (zVm l D B O) m_M_freePart 2 o Gf 25 [none, none] [] G) : ∀ (n : Nat) (G : gH) (x0 : Nat) (x1 : Int32), f_M_freePart_L2 K17 K25 n G x0 x1 = some (o, Gf) → Y (zVm l D B O) m_M_freePart 2 o Gf 2 [some (.ref x0), some (.int x1)] [] G := by
  have hdd : lSa m_M_freePart 2 [(.iload_n 1, 0), (.bipush 6, nI 6)] = true ∧ lIa m_M_freePart 5 (.if_icmp .ge 20) 3 = true ∧ lSa m_M_freePart 8 [(.aload_n 0, 0)] = true ∧ lIa m_M_freePart 9 (.getfield 18) 3 = true ∧ lSa m_M_freePart 12 [(.iload_n 1, 0)] = true ∧ lIa m_M_freePart 13 (.aaload) 1 = true ∧ lIa m_M_freePart 14 (.ifnonnull 5) 3 = true ∧ lSa m_M_freePart 19 [(.iinc 1 1, nI 1)] = true ∧ lIa m_M_freePart 22 (.goto (-20)) 3 = true := by decide +kernel
  refine lA8 hdd (fun dd0 dd1 dd2 dd3 dd4 dd5 dd6 dd7 hdd => ?_)
  have dd8 := hdd
  intro n
  induction n with
  | zero => intro G x0 x1 h; cases h
  | succ n ih =>
    intro G x0 x1 h
    unfold f_M_freePart_L2 at h
    refine Y.blk (pc' := 5) (L' := [some (.ref x0), some (.int x1)]) (st' := [.int (nI 6), .int x1]) (sg := [(.iload_n 1, 0), (.bipush 6, nI 6)]) (lSa_ok dd0) rfl ?_
    refine Y.ic_ge (off := 20) (tgt := 25) (lIa_ok dd1) (by decide) h (fun c3 h => ?_) (fun c3 h => ?_)
    · refine Y.less (L' := [none, none]) (zLe_none (zLe_none (zLe_nil))) ?_
      exact hK25 G  h
    · refine Y.blk (pc' := 9) (L' := [some (.ref x0), some (.int x1)]) (st' := [.ref x0]) (sg := [(.aload_n 0, 0)]) (lSa_ok dd2) rfl ?_
      refine Y.getA fl_M_18 (lIa_ok dd3) h (fun v1 h => ?_)
      refine Y.blk (pc' := 13) (L' := [some (.ref x0), some (.int x1)]) (st' := [.int x1, .ref v1]) (sg := [(.iload_n 1, 0)]) (lSa_ok dd4) rfl ?_
      refine Y.aald (t0 := 4) (lIa_ok dd5) rfl h (fun h => ?_) (fun v2 h => ?_)
      · refine Y.ifnonnull_n (off := 5) (lIa_ok dd6) ?_
        refine Y.less (L' := [none, some (.int x1)]) (zLe_none (zLe_some (zLe_nil))) ?_
        exact hK17 G x1 h
      · refine Y.ifnonnull_r (off := 5) (tgt := 19) (lIa_ok dd6) (by decide) ?_
        refine Y.blk (pc' := 22) (L' := [some (.ref x0), some (.int (x1 + (nI 1)))]) (st' := []) (sg := [(.iinc 1 1, nI 1)]) (lSa_ok dd7) rfl ?_
        refine Y.goto (off := -20) (tgt := 2) (lIa_ok dd8) (by decide) ?_
        exact ih G x0 (x1 + (nI 1)) h
theorem k_M_freePart {l : Launch} {D : va_G} {B : Nat} {O : State → Heap → Prop} (hV : zG l D B O) (G : gH) (a0 : Nat) : gMet (zVm l D B O) m_M_freePart 2 [.ref a0] G (f_M_freePart G a0) := by
  have hdd : lSa m_M_freePart 0 [(.iconst 2, nI 2), (.istore_n 1, 0)] = true ∧ lSa m_M_freePart 17 [(.iload_n 1, 0)] = true ∧ lIa m_M_freePart 18 (.ireturn) 1 = true ∧ lSa m_M_freePart 25 [(.iconst (-1), -1)] = true ∧ lIa m_M_freePart 26 (.ireturn) 1 = true := by decide +kernel
  obtain ⟨dd0, dd1, dd2, dd3, dd4⟩ := hdd
  refine gMet.of (by decide +kernel) (Nat.le_of_ble_eq_true rfl) [some (.ref a0), none] (fun ls h => zEn_ok (n := 2) h) ?_
  intro o Gf h
  unfold f_M_freePart at h
  refine Y.blk (pc' := 2) (L' := [some (.ref a0), some (.int (nI 2))]) (st' := []) (sg := [(.iconst 2, nI 2), (.istore_n 1, 0)]) (lSa_ok dd0) rfl ?_
  refine k_M_freePart_L2 hV _ _ ?_ ?_  zFu G a0 (nI 2) h
  · intro G5 x4 h
    refine Y.blk (pc' := 18) (L' := [none, some (.int x4)]) (st' := [.int x4]) (sg := [(.iload_n 1, 0)]) (lSa_ok dd1) rfl ?_
    exact Y.iret rfl (lIa_ok dd2) h
  · intro G6 h
    refine Y.blk (pc' := 26) (L' := [none, none]) (st' := [.int (-1)]) (sg := [(.iconst (-1), -1)]) (lSa_ok dd3) rfl ?_
    exact Y.iret rfl (lIa_ok dd4) h

def f_M_hasAll (G : gH) (a0 : Nat) (a1 : Int32) (a2 : Int32) : gR :=
  gOb G a0 6 fun o2 => bI (f_M_areNone G a0 a1 a2) fun v5 G4 => if v5 = 0 then (gOb G4 a0 6 fun o7 => bI (f_M_hasEach G4 a0 a1 a2) fun v10 G9 => if v10 = 0 then rZ (nI 0) G9
    else rZ (nI 1) G9)
  else rZ (nI 0) G4
theorem k_M_hasAll {l : Launch} {D : va_G} {B : Nat} {O : State → Heap → Prop} (hV : zG l D B O) (G : gH) (a0 : Nat) (a1 : Int32) (a2 : Int32) : gMet (zVm l D B O) m_M_hasAll 15 [.ref a0, .int a1, .int a2] G (f_M_hasAll G a0 a1 a2) := by
  have hdd : lSa m_M_hasAll 0 [(.aload_n 0, 0), (.iload_n 1, 0), (.iload_n 2, 0)] = true ∧ lIa m_M_hasAll 3 (.invokevirtual 235) 3 = true ∧ lIa m_M_hasAll 6 (.ifCond .ne 16) 3 = true ∧ lSa m_M_hasAll 9 [(.aload_n 0, 0), (.iload_n 1, 0), (.iload_n 2, 0)] = true ∧ lIa m_M_hasAll 12 (.invokevirtual 238) 3 = true ∧ lIa m_M_hasAll 15 (.ifCond .eq 7) 3 = true ∧ lSa m_M_hasAll 22 [(.iconst 0, nI 0)] = true ∧ lIa m_M_hasAll 23 (.ireturn) 1 = true ∧ lSa m_M_hasAll 18 [(.iconst 1, nI 1)] = true ∧ lIa m_M_hasAll 19 (.goto 4) 3 = true := by decide +kernel
  refine lA8 hdd (fun dd0 dd1 dd2 dd3 dd4 dd5 dd6 dd7 hdd => ?_)
  obtain ⟨dd8, dd9⟩ := hdd
  refine gMet.of (by decide +kernel) (Nat.le_of_ble_eq_true rfl) [some (.ref a0), some (.int a1), some (.int a2)] (fun ls h => zEn_ok (n := 3) h) ?_
  intro o Gf h
  unfold f_M_hasAll at h
  refine Y.blk (pc' := 3) (L' := [some (.ref a0), some (.int a1), some (.int a2)]) (st' := [.int a2, .int a1, .ref a0]) (sg := [(.aload_n 0, 0), (.iload_n 1, 0), (.iload_n 2, 0)]) (lSa_ok dd0) rfl ?_
  obtain ⟨_, o2, e1, m3, h⟩ := gOb_inv h
  refine Y.callI (yC.Vi (b := a0) (As := [.int a1, .int a2]) (st := []) (r := ("PartlisterModel", T_M, 9)) hV.1 cb_M_areNone lk_M_235 in_M_areNone rfl se_M_areNone (lIa_ok dd1) rfl rfl (Nat.le_of_ble_eq_true rfl) (by decide) e1 m3) (k_M_areNone hV G a0 a1 a2) h (fun v5 G4 _ h => ?_)
  refine Y.if_ne (off := 16) (tgt := 22) (lIa_ok dd2) (by decide) h (fun c12 h => ?_) (fun c12 h => ?_)
  · refine Y.blk (pc' := 12) (L' := [some (.ref a0), some (.int a1), some (.int a2)]) (st' := [.int a2, .int a1, .ref a0]) (sg := [(.aload_n 0, 0), (.iload_n 1, 0), (.iload_n 2, 0)]) (lSa_ok dd3) rfl ?_
    obtain ⟨_, o7, e6, m8, h⟩ := gOb_inv h
    refine Y.callI (yC.Vi (b := a0) (As := [.int a1, .int a2]) (st := []) (r := ("PartlisterModel", T_M, 9)) hV.1 cb_M_hasEach lk_M_238 in_M_hasEach rfl se_M_hasEach (lIa_ok dd4) rfl rfl (Nat.le_of_ble_eq_true rfl) (by decide) e6 m8) (k_M_hasEach hV G4 a0 a1 a2) h (fun v10 G9 _ h => ?_)
    refine Y.if_eq (off := 7) (tgt := 22) (lIa_ok dd5) (by decide) h (fun c11 h => ?_) (fun c11 h => ?_)
    · refine Y.blk (pc' := 23) (L' := [some (.ref a0), some (.int a1), some (.int a2)]) (st' := [.int (nI 0)]) (sg := [(.iconst 0, nI 0)]) (lSa_ok dd6) rfl ?_
      exact Y.zret rfl (lIa_ok dd7) h
    · refine Y.blk (pc' := 19) (L' := [some (.ref a0), some (.int a1), some (.int a2)]) (st' := [.int (nI 1)]) (sg := [(.iconst 1, nI 1)]) (lSa_ok dd8) rfl ?_
      refine Y.goto (off := 4) (tgt := 23) (lIa_ok dd9) (by decide) ?_
      exact Y.zret rfl (lIa_ok dd7) h
  · refine Y.blk (pc' := 23) (L' := [some (.ref a0), some (.int a1), some (.int a2)]) (st' := [.int (nI 0)]) (sg := [(.iconst 0, nI 0)]) (lSa_ok dd6) rfl ?_
    exact Y.zret rfl (lIa_ok dd7) h

def f_M_hash (G : gH) (a0 : Nat) (a1 : Int32) : gR :=
  gOb G a0 6 fun o2 => bI (f_M_isNoList G a0 a1) fun v5 G4 => gOb G4 a0 6 fun o7 => bI (f_M_start G4 a0 v5 (nI 1)) fun v10 G9 => if v10 = 0 then gOb G9 a0 6 fun o12 => bI (f_M_hashOf G9 a0 a1) fun v15 G14 => rI v15 G14
  else rI (nI 0) G9
theorem k_M_hash {l : Launch} {D : va_G} {B : Nat} {O : State → Heap → Prop} (hV : zG l D B O) (G : gH) (a0 : Nat) (a1 : Int32) : gMet (zVm l D B O) m_M_hash 14 [.ref a0, .int a1] G (f_M_hash G a0 a1) := by
  have hdd : lSa m_M_hash 0 [(.aload_n 0, 0), (.aload_n 0, 0), (.iload_n 1, 0)] = true ∧ lIa m_M_hash 3 (.invokevirtual 110) 3 = true ∧ lSa m_M_hash 6 [(.iconst 1, nI 1)] = true ∧ lIa m_M_hash 7 (.invokevirtual 114) 3 = true ∧ lIa m_M_hash 10 (.ifCond .eq 7) 3 = true ∧ lSa m_M_hash 17 [(.aload_n 0, 0), (.iload_n 1, 0)] = true ∧ lIa m_M_hash 19 (.invokevirtual 257) 3 = true ∧ lIa m_M_hash 22 (.ireturn) 1 = true ∧ lSa m_M_hash 13 [(.iconst 0, nI 0)] = true ∧ lIa m_M_hash 14 (.goto 8) 3 = true := by decide +kernel
  refine lA8 hdd (fun dd0 dd1 dd2 dd3 dd4 dd5 dd6 dd7 hdd => ?_)
  obtain ⟨dd8, dd9⟩ := hdd
  refine gMet.of (by decide +kernel) (Nat.le_of_ble_eq_true rfl) [some (.ref a0), some (.int a1)] (fun ls h => zEn_ok (n := 2) h) ?_
  intro o Gf h
  unfold f_M_hash at h
  refine Y.blk (pc' := 3) (L' := [some (.ref a0), some (.int a1)]) (st' := [.int a1, .ref a0, .ref a0]) (sg := [(.aload_n 0, 0), (.aload_n 0, 0), (.iload_n 1, 0)]) (lSa_ok dd0) rfl ?_
  obtain ⟨_, o2, e1, m3, h⟩ := gOb_inv h
  refine Y.callI (yC.Vi (b := a0) (As := [.int a1]) (st := [.ref a0]) (r := ("PartlisterModel", T_M, 9)) hV.1 cb_M_isNoList lk_M_110 in_M_isNoList rfl se_M_isNoList (lIa_ok dd1) rfl rfl (Nat.le_of_ble_eq_true rfl) (by decide) e1 m3) (k_M_isNoList hV G a0 a1) h (fun v5 G4 _ h => ?_)
  refine Y.blk (pc' := 7) (L' := [some (.ref a0), some (.int a1)]) (st' := [.int (nI 1), .int v5, .ref a0]) (sg := [(.iconst 1, nI 1)]) (lSa_ok dd2) rfl ?_
  obtain ⟨_, o7, e6, m8, h⟩ := gOb_inv h
  refine Y.callI (yC.Vi (b := a0) (As := [.int v5, .int (nI 1)]) (st := []) (r := ("PartlisterModel", T_M, 9)) hV.1 cb_M_start lk_M_114 in_M_start rfl se_M_start (lIa_ok dd3) rfl rfl (Nat.le_of_ble_eq_true rfl) (by decide) e6 m8) (k_M_start hV G4 a0 v5 (nI 1)) h (fun v10 G9 _ h => ?_)
  refine Y.if_eq (off := 7) (tgt := 17) (lIa_ok dd4) (by decide) h (fun c16 h => ?_) (fun c16 h => ?_)
  · refine Y.blk (pc' := 19) (L' := [some (.ref a0), some (.int a1)]) (st' := [.int a1, .ref a0]) (sg := [(.aload_n 0, 0), (.iload_n 1, 0)]) (lSa_ok dd5) rfl ?_
    obtain ⟨_, o12, e11, m13, h⟩ := gOb_inv h
    refine Y.callI (yC.Vi (b := a0) (As := [.int a1]) (st := []) (r := ("PartlisterModel", T_M, 9)) hV.1 cb_M_hashOf lk_M_257 in_M_hashOf rfl se_M_hashOf (lIa_ok dd6) rfl rfl (Nat.le_of_ble_eq_true rfl) (by decide) e11 m13) (k_M_hashOf hV G9 a0 a1) h (fun v15 G14 _ h => ?_)
    exact Y.iret rfl (lIa_ok dd7) h
  · refine Y.blk (pc' := 14) (L' := [some (.ref a0), some (.int a1)]) (st' := [.int (nI 0)]) (sg := [(.iconst 0, nI 0)]) (lSa_ok dd8) rfl ?_
    refine Y.goto (off := 8) (tgt := 22) (lIa_ok dd9) (by decide) ?_
    exact Y.iret rfl (lIa_ok dd7) h
end
section
def f_M_house (G : gH) (a0 : Nat) (a1 : Int32) : gR :=
  bI (f_M_isIn G a1 (nI 0) (nI 7)) fun v3 G2 => if v3 = 0 then (gOb G2 a0 6 fun o5 => bI (f_M_start G2 a0 (nI 1) (nI 1)) fun v8 G7 => if v8 = 0 then gOb G7 a0 6 fun o10 => bI (f_M_houseTold G7 a0 a1) fun v13 G12 => rI v13 G12
    else rI (nI 0) G7)
  else gOb G2 a0 6 fun o16 => bI (f_M_start G2 a0 (nI 0) (nI 1)) fun v19 G18 => if v19 = 0 then gOb G18 a0 6 fun o21 => bI (f_M_houseTold G18 a0 a1) fun v24 G23 => rI v24 G23
    else rI (nI 0) G18
theorem k_M_house {l : Launch} {D : va_G} {B : Nat} {O : State → Heap → Prop} (hV : zG l D B O) (G : gH) (a0 : Nat) (a1 : Int32) : gMet (zVm l D B O) m_M_house 4 [.ref a0, .int a1] G (f_M_house G a0 a1) := by
  have hdd : lSa m_M_house 0 [(.aload_n 0, 0), (.iload_n 1, 0), (.iconst 0, nI 0), (.bipush 7, nI 7)] = true ∧ lIa m_M_house 5 (.invokestatic 40) 3 = true ∧ lIa m_M_house 8 (.ifCond .ne 7) 3 = true ∧ lSa m_M_house 11 [(.iconst 1, nI 1)] = true ∧ lIa m_M_house 12 (.goto 4) 3 = true ∧ lSa m_M_house 16 [(.iconst 1, nI 1)] = true ∧ lIa m_M_house 17 (.invokevirtual 114) 3 = true ∧ lIa m_M_house 20 (.ifCond .eq 7) 3 = true ∧ lSa m_M_house 27 [(.aload_n 0, 0), (.iload_n 1, 0)] = true ∧ lIa m_M_house 29 (.invokevirtual 296) 3 = true ∧ lIa m_M_house 32 (.ireturn) 1 = true ∧ lSa m_M_house 23 [(.iconst 0, nI 0)] = true ∧ lIa m_M_house 24 (.goto 8) 3 = true ∧ lSa m_M_house 15 [(.iconst 0, nI 0), (.iconst 1, nI 1)] = true := by decide +kernel
  refine lA8 hdd (fun dd0 dd1 dd2 dd3 dd4 dd5 dd6 dd7 hdd => ?_)
  obtain ⟨dd8, dd9, dd10, dd11, dd12, dd13⟩ := hdd
  refine gMet.of (by decide +kernel) (Nat.le_of_ble_eq_true rfl) [some (.ref a0), some (.int a1)] (fun ls h => zEn_ok (n := 2) h) ?_
  intro o Gf h
  unfold f_M_house at h
  refine Y.blk (pc' := 5) (L' := [some (.ref a0), some (.int a1)]) (st' := [.int (nI 7), .int (nI 0), .int a1, .ref a0]) (sg := [(.aload_n 0, 0), (.iload_n 1, 0), (.iconst 0, nI 0), (.bipush 7, nI 7)]) (lSa_ok dd0) rfl ?_
  refine Y.callI (yC.S (As := [.int a1, .int (nI 0), .int (nI 7)]) (st := [.ref a0]) hV.1 cb_M_isIn lk_M_40 st_M_isIn (lIa_ok dd1) rfl rfl (Nat.le_of_ble_eq_true rfl) (by decide)) (k_M_isIn hV G a1 (nI 0) (nI 7)) h (fun v3 G2 _ h => ?_)
  refine Y.if_ne (off := 7) (tgt := 15) (lIa_ok dd2) (by decide) h (fun c26 h => ?_) (fun c26 h => ?_)
  · refine Y.blk (pc' := 12) (L' := [some (.ref a0), some (.int a1)]) (st' := [.int (nI 1), .ref a0]) (sg := [(.iconst 1, nI 1)]) (lSa_ok dd3) rfl ?_
    refine Y.goto (off := 4) (tgt := 16) (lIa_ok dd4) (by decide) ?_
    refine Y.blk (pc' := 17) (L' := [some (.ref a0), some (.int a1)]) (st' := [.int (nI 1), .int (nI 1), .ref a0]) (sg := [(.iconst 1, nI 1)]) (lSa_ok dd5) rfl ?_
    obtain ⟨_, o5, e4, m6, h⟩ := gOb_inv h
    refine Y.callI (yC.Vi (b := a0) (As := [.int (nI 1), .int (nI 1)]) (st := []) (r := ("PartlisterModel", T_M, 9)) hV.1 cb_M_start lk_M_114 in_M_start rfl se_M_start (lIa_ok dd6) rfl rfl (Nat.le_of_ble_eq_true rfl) (by decide) e4 m6) (k_M_start hV G2 a0 (nI 1) (nI 1)) h (fun v8 G7 _ h => ?_)
    refine Y.if_eq (off := 7) (tgt := 27) (lIa_ok dd7) (by decide) h (fun c14 h => ?_) (fun c14 h => ?_)
    · refine Y.blk (pc' := 29) (L' := [some (.ref a0), some (.int a1)]) (st' := [.int a1, .ref a0]) (sg := [(.aload_n 0, 0), (.iload_n 1, 0)]) (lSa_ok dd8) rfl ?_
      obtain ⟨_, o10, e9, m11, h⟩ := gOb_inv h
      refine Y.callI (yC.Vi (b := a0) (As := [.int a1]) (st := []) (r := ("PartlisterModel", T_M, 9)) hV.1 cb_M_houseTold lk_M_296 in_M_houseTold rfl se_M_houseTold (lIa_ok dd9) rfl rfl (Nat.le_of_ble_eq_true rfl) (by decide) e9 m11) (k_M_houseTold hV G7 a0 a1) h (fun v13 G12 _ h => ?_)
      exact Y.iret rfl (lIa_ok dd10) h
    · refine Y.blk (pc' := 24) (L' := [some (.ref a0), some (.int a1)]) (st' := [.int (nI 0)]) (sg := [(.iconst 0, nI 0)]) (lSa_ok dd11) rfl ?_
      refine Y.goto (off := 8) (tgt := 32) (lIa_ok dd12) (by decide) ?_
      exact Y.iret rfl (lIa_ok dd10) h
  · refine Y.blk (pc' := 17) (L' := [some (.ref a0), some (.int a1)]) (st' := [.int (nI 1), .int (nI 0), .ref a0]) (sg := [(.iconst 0, nI 0), (.iconst 1, nI 1)]) (lSa_ok dd13) rfl ?_
    obtain ⟨_, o16, e15, m17, h⟩ := gOb_inv h
    refine Y.callI (yC.Vi (b := a0) (As := [.int (nI 0), .int (nI 1)]) (st := []) (r := ("PartlisterModel", T_M, 9)) hV.1 cb_M_start lk_M_114 in_M_start rfl se_M_start (lIa_ok dd6) rfl rfl (Nat.le_of_ble_eq_true rfl) (by decide) e15 m17) (k_M_start hV G2 a0 (nI 0) (nI 1)) h (fun v19 G18 _ h => ?_)
    refine Y.if_eq (off := 7) (tgt := 27) (lIa_ok dd7) (by decide) h (fun c25 h => ?_) (fun c25 h => ?_)
    · refine Y.blk (pc' := 29) (L' := [some (.ref a0), some (.int a1)]) (st' := [.int a1, .ref a0]) (sg := [(.aload_n 0, 0), (.iload_n 1, 0)]) (lSa_ok dd8) rfl ?_
      obtain ⟨_, o21, e20, m22, h⟩ := gOb_inv h
      refine Y.callI (yC.Vi (b := a0) (As := [.int a1]) (st := []) (r := ("PartlisterModel", T_M, 9)) hV.1 cb_M_houseTold lk_M_296 in_M_houseTold rfl se_M_houseTold (lIa_ok dd9) rfl rfl (Nat.le_of_ble_eq_true rfl) (by decide) e20 m22) (k_M_houseTold hV G18 a0 a1) h (fun v24 G23 _ h => ?_)
      exact Y.iret rfl (lIa_ok dd10) h
    · refine Y.blk (pc' := 24) (L' := [some (.ref a0), some (.int a1)]) (st' := [.int (nI 0)]) (sg := [(.iconst 0, nI 0)]) (lSa_ok dd11) rfl ?_
      refine Y.goto (off := 8) (tgt := 32) (lIa_ok dd12) (by decide) ?_
      exact Y.iret rfl (lIa_ok dd10) h

def f_M_insert (w : Nat → Nat) (G : gH) (a0 : Nat) (a1 : Int32) (a2 : Int32) : gR :=
  gOb G a0 6 fun o2 => bI (f_M_isNoCursor G a0 a1) fun v5 G4 => gOb G4 a0 6 fun o7 => bI (f_M_start G4 a0 v5 (nI 1)) fun v10 G9 => if v10 = 0 then (gOb G9 a0 6 fun o12 => bI (f_M_isNoKey G9 a0 a2) fun v15 G14 => gOb G14 a0 6 fun o17 => bI (f_M_refuse G14 a0 v15 (nI 2)) fun v20 G19 => if v20 = 0 then (gFA G19 a0 6 3 fun v21 => gLdq G19 v21 105 a1 (none) fun v22 => gFI G19 v22 4 0 fun v23 => gOb G19 a0 6 fun o25 => bI (f_M_isFull G19 a0 v23 (nI 1)) fun v28 G27 => gOb G27 a0 6 fun o30 => bI (f_M_refuse G27 a0 v28 (nI 3)) fun v33 G32 => if v33 = 0 then (gFA G32 a0 6 3 fun v34 => gLdq G32 v34 105 a1 (none) fun v35 => gFI G32 v35 4 3 fun v36 => if v36 = 0 then gFI G32 v35 4 0 fun v37 => gFI G32 v35 4 1 fun v38 => gOb G32 a0 6 fun o40 => bA (f_M_make G32 a0 a2) fun v43 G42 => gOb G42 a0 6 fun o45 => bV (f_M_come w G42 a0 v37 v38 v43) fun G47 => gFI G47 v35 4 1 fun v48 => gPut G47 v35 4 1 (.int (v48 + (nI 1))) fun G49 => gPut G49 v35 4 2 (.int (-1)) fun G50 => gFI G50 v35 4 0 fun v51 => gOb G50 a0 6 fun o53 => bV (f_M_change G50 a0 v51 (nI 1) a1) fun G55 => gFI G55 a0 6 4 fun v56 => rI (v56 - (nI 1)) G55
            else gOb G32 a0 6 fun o58 => bI (f_M_fault G32 a0 (-9)) fun v61 G60 => rI v61 G60)
        else rI (nI 0) G32)
    else rI (nI 0) G19)
  else rI (nI 0) G9
theorem k_M_insert {l : Launch} {D : va_G} {B : Nat} {O : State → Heap → Prop} {w : Nat → Nat} (hV : zGw l D B O w) (G : gH) (a0 : Nat) (a1 : Int32) (a2 : Int32) : gMet (zVm l D B O) m_M_insert 14 [.ref a0, .int a1, .int a2] G (f_M_insert w G a0 a1 a2) := by
  have hdd : lSa m_M_insert 0 [(.aload_n 0, 0), (.aload_n 0, 0), (.iload_n 1, 0)] = true ∧ lIa m_M_insert 3 (.invokevirtual 214) 3 = true ∧ lSa m_M_insert 6 [(.iconst 1, nI 1)] = true ∧ lIa m_M_insert 7 (.invokevirtual 114) 3 = true ∧ lIa m_M_insert 10 (.ifCond .ne 38) 3 = true ∧ lSa m_M_insert 13 [(.aload_n 0, 0), (.aload_n 0, 0), (.iload_n 2, 0)] = true ∧ lIa m_M_insert 16 (.invokevirtual 160) 3 = true ∧ lSa m_M_insert 19 [(.iconst 2, nI 2)] = true ∧ lIa m_M_insert 20 (.invokevirtual 36) 3 = true ∧ lIa m_M_insert 23 (.ifCond .ne 25) 3 = true ∧ lSa m_M_insert 26 [(.aload_n 0, 0), (.aload_n 0, 0), (.aload_n 0, 0)] = true ∧ lIa m_M_insert 29 (.getfield 24) 3 = true ∧ lSa m_M_insert 32 [(.iload_n 1, 0)] = true ∧ lIa m_M_insert 33 (.aaload) 1 = true ∧ lIa m_M_insert 34 (.getfield 89) 3 = true ∧ lSa m_M_insert 37 [(.iconst 1, nI 1)] = true ∧ lIa m_M_insert 38 (.invokevirtual 117) 3 = true ∧ lSa m_M_insert 41 [(.iconst 3, nI 3)] = true ∧ lIa m_M_insert 42 (.invokevirtual 36) 3 = true ∧ lIa m_M_insert 45 (.ifCond .eq 5) 3 = true ∧ lSa m_M_insert 50 [(.aload_n 0, 0)] = true ∧ lIa m_M_insert 51 (.getfield 24) 3 = true ∧ lSa m_M_insert 54 [(.iload_n 1, 0)] = true ∧ lIa m_M_insert 55 (.aaload) 1 = true ∧ lSa m_M_insert 56 [(.astore_n 3, 0), (.aload_n 3, 0)] = true ∧ lIa m_M_insert 58 (.getfield 99) 3 = true ∧ lIa m_M_insert 61 (.ifCond .eq 10) 3 = true ∧ lSa m_M_insert 71 [(.aload_n 0, 0), (.aload_n 3, 0)] = true ∧ lIa m_M_insert 73 (.getfield 89) 3 = true ∧ lSa m_M_insert 76 [(.aload_n 3, 0)] = true ∧ lIa m_M_insert 77 (.getfield 208) 3 = true ∧ lSa m_M_insert 80 [(.aload_n 0, 0), (.iload_n 2, 0)] = true ∧ lIa m_M_insert 82 (.invokevirtual 120) 3 = true ∧ lIa m_M_insert 85 (.invokevirtual 124) 3 = true ∧ lSa m_M_insert 88 [(.aload_n 3, 0), (.dup, 0)] = true ∧ lIa m_M_insert 90 (.getfield 208) 3 = true ∧ lSa m_M_insert 93 [(.iconst 1, nI 1), (.iadd, 0)] = true ∧ lIa m_M_insert 95 (.putfield 208) 3 = true ∧ lSa m_M_insert 98 [(.aload_n 3, 0), (.iconst (-1), -1)] = true ∧ lIa m_M_insert 100 (.putfield 220) 3 = true ∧ lSa m_M_insert 103 [(.aload_n 0, 0), (.aload_n 3, 0)] = true ∧ lIa m_M_insert 105 (.getfield 89) 3 = true ∧ lSa m_M_insert 108 [(.iconst 1, nI 1), (.iload_n 1, 0)] = true ∧ lIa m_M_insert 110 (.invokevirtual 128) 3 = true ∧ lSa m_M_insert 113 [(.aload_n 0, 0)] = true ∧ lIa m_M_insert 114 (.getfield 76) 3 = true ∧ lSa m_M_insert 117 [(.iconst 1, nI 1), (.isub, 0)] = true ∧ lIa m_M_insert 119 (.ireturn) 1 = true ∧ lSa m_M_insert 64 [(.aload_n 0, 0), (.bipush (-9), -9)] = true ∧ lIa m_M_insert 67 (.invokevirtual 217) 3 = true ∧ lIa m_M_insert 70 (.ireturn) 1 = true ∧ lSa m_M_insert 48 [(.iconst 0, nI 0)] = true ∧ lIa m_M_insert 49 (.ireturn) 1 = true := by decide +kernel
  refine lA8 hdd (fun dd0 dd1 dd2 dd3 dd4 dd5 dd6 dd7 hdd => ?_)
  refine lA8 hdd (fun dd8 dd9 dd10 dd11 dd12 dd13 dd14 dd15 hdd => ?_)
  refine lA8 hdd (fun dd16 dd17 dd18 dd19 dd20 dd21 dd22 dd23 hdd => ?_)
  refine lA8 hdd (fun dd24 dd25 dd26 dd27 dd28 dd29 dd30 dd31 hdd => ?_)
  refine lA8 hdd (fun dd32 dd33 dd34 dd35 dd36 dd37 dd38 dd39 hdd => ?_)
  refine lA8 hdd (fun dd40 dd41 dd42 dd43 dd44 dd45 dd46 dd47 hdd => ?_)
  obtain ⟨dd48, dd49, dd50, dd51, dd52⟩ := hdd
  refine gMet.of (by decide +kernel) (Nat.le_of_ble_eq_true rfl) [some (.ref a0), some (.int a1), some (.int a2), none] (fun ls h => zEn_ok (n := 4) h) ?_
  intro o Gf h
  unfold f_M_insert at h
  refine Y.blk (pc' := 3) (L' := [some (.ref a0), some (.int a1), some (.int a2), none]) (st' := [.int a1, .ref a0, .ref a0]) (sg := [(.aload_n 0, 0), (.aload_n 0, 0), (.iload_n 1, 0)]) (lSa_ok dd0) rfl ?_
  obtain ⟨_, o2, e1, m3, h⟩ := gOb_inv h
  refine Y.callI (yC.Vi (b := a0) (As := [.int a1]) (st := [.ref a0]) (r := ("PartlisterModel", T_M, 9)) hV.1.1 cb_M_isNoCursor lk_M_214 in_M_isNoCursor rfl se_M_isNoCursor (lIa_ok dd1) rfl rfl (Nat.le_of_ble_eq_true rfl) (by decide) e1 m3) (k_M_isNoCursor hV.1 G a0 a1) h (fun v5 G4 _ h => ?_)
  refine Y.blk (pc' := 7) (L' := [some (.ref a0), some (.int a1), some (.int a2), none]) (st' := [.int (nI 1), .int v5, .ref a0]) (sg := [(.iconst 1, nI 1)]) (lSa_ok dd2) rfl ?_
  obtain ⟨_, o7, e6, m8, h⟩ := gOb_inv h
  refine Y.callI (yC.Vi (b := a0) (As := [.int v5, .int (nI 1)]) (st := []) (r := ("PartlisterModel", T_M, 9)) hV.1.1 cb_M_start lk_M_114 in_M_start rfl se_M_start (lIa_ok dd3) rfl rfl (Nat.le_of_ble_eq_true rfl) (by decide) e6 m8) (k_M_start hV.1 G4 a0 v5 (nI 1)) h (fun v10 G9 _ h => ?_)
  refine Y.if_ne (off := 38) (tgt := 48) (lIa_ok dd4) (by decide) h (fun c65 h => ?_) (fun c65 h => ?_)
  · refine Y.blk (pc' := 16) (L' := [some (.ref a0), some (.int a1), some (.int a2), none]) (st' := [.int a2, .ref a0, .ref a0]) (sg := [(.aload_n 0, 0), (.aload_n 0, 0), (.iload_n 2, 0)]) (lSa_ok dd5) rfl ?_
    obtain ⟨_, o12, e11, m13, h⟩ := gOb_inv h
    refine Y.callI (yC.Vi (b := a0) (As := [.int a2]) (st := [.ref a0]) (r := ("PartlisterModel", T_M, 9)) hV.1.1 cb_M_isNoKey lk_M_160 in_M_isNoKey rfl se_M_isNoKey (lIa_ok dd6) rfl rfl (Nat.le_of_ble_eq_true rfl) (by decide) e11 m13) (k_M_isNoKey hV.1 G9 a0 a2) h (fun v15 G14 _ h => ?_)
    refine Y.blk (pc' := 20) (L' := [some (.ref a0), some (.int a1), some (.int a2), none]) (st' := [.int (nI 2), .int v15, .ref a0]) (sg := [(.iconst 2, nI 2)]) (lSa_ok dd7) rfl ?_
    obtain ⟨_, o17, e16, m18, h⟩ := gOb_inv h
    refine Y.callI (yC.Vi (b := a0) (As := [.int v15, .int (nI 2)]) (st := []) (r := ("PartlisterModel", T_M, 9)) hV.1.1 cb_M_refuse lk_M_36 in_M_refuse rfl se_M_refuse (lIa_ok dd8) rfl rfl (Nat.le_of_ble_eq_true rfl) (by decide) e16 m18) (k_M_refuse hV.1 G14 a0 v15 (nI 2)) h (fun v20 G19 _ h => ?_)
    refine Y.if_ne (off := 25) (tgt := 48) (lIa_ok dd9) (by decide) h (fun c64 h => ?_) (fun c64 h => ?_)
    · refine Y.blk (pc' := 29) (L' := [some (.ref a0), some (.int a1), some (.int a2), none]) (st' := [.ref a0, .ref a0, .ref a0]) (sg := [(.aload_n 0, 0), (.aload_n 0, 0), (.aload_n 0, 0)]) (lSa_ok dd10) rfl ?_
      refine Y.getA fl_M_24 (lIa_ok dd11) h (fun v21 h => ?_)
      refine Y.blk (pc' := 33) (L' := [some (.ref a0), some (.int a1), some (.int a2), none]) (st' := [.int a1, .ref v21, .ref a0, .ref a0]) (sg := [(.iload_n 1, 0)]) (lSa_ok dd12) rfl ?_
      refine Y.aald (t0 := 5) (lIa_ok dd13) rfl h (fun h => ?_) (fun v22 h => ?_)
      · cases h
      · refine Y.getI fl_M_89 (lIa_ok dd14) h (fun v23 h => ?_)
        refine Y.blk (pc' := 38) (L' := [some (.ref a0), some (.int a1), some (.int a2), none]) (st' := [.int (nI 1), .int v23, .ref a0, .ref a0]) (sg := [(.iconst 1, nI 1)]) (lSa_ok dd15) rfl ?_
        obtain ⟨_, o25, e24, m26, h⟩ := gOb_inv h
        refine Y.callI (yC.Vi (b := a0) (As := [.int v23, .int (nI 1)]) (st := [.ref a0]) (r := ("PartlisterModel", T_M, 9)) hV.1.1 cb_M_isFull lk_M_117 in_M_isFull rfl se_M_isFull (lIa_ok dd16) rfl rfl (Nat.le_of_ble_eq_true rfl) (by decide) e24 m26) (k_M_isFull hV.1 G19 a0 v23 (nI 1)) h (fun v28 G27 _ h => ?_)
        refine Y.blk (pc' := 42) (L' := [some (.ref a0), some (.int a1), some (.int a2), none]) (st' := [.int (nI 3), .int v28, .ref a0]) (sg := [(.iconst 3, nI 3)]) (lSa_ok dd17) rfl ?_
        obtain ⟨_, o30, e29, m31, h⟩ := gOb_inv h
        refine Y.callI (yC.Vi (b := a0) (As := [.int v28, .int (nI 3)]) (st := []) (r := ("PartlisterModel", T_M, 9)) hV.1.1 cb_M_refuse lk_M_36 in_M_refuse rfl se_M_refuse (lIa_ok dd18) rfl rfl (Nat.le_of_ble_eq_true rfl) (by decide) e29 m31) (k_M_refuse hV.1 G27 a0 v28 (nI 3)) h (fun v33 G32 _ h => ?_)
        refine Y.if_eq (off := 5) (tgt := 50) (lIa_ok dd19) (by decide) h (fun c63 h => ?_) (fun c63 h => ?_)
        · refine Y.blk (pc' := 51) (L' := [some (.ref a0), some (.int a1), some (.int a2), none]) (st' := [.ref a0]) (sg := [(.aload_n 0, 0)]) (lSa_ok dd20) rfl ?_
          refine Y.getA fl_M_24 (lIa_ok dd21) h (fun v34 h => ?_)
          refine Y.blk (pc' := 55) (L' := [some (.ref a0), some (.int a1), some (.int a2), none]) (st' := [.int a1, .ref v34]) (sg := [(.iload_n 1, 0)]) (lSa_ok dd22) rfl ?_
          refine Y.aald (t0 := 5) (lIa_ok dd23) rfl h (fun h => ?_) (fun v35 h => ?_)
          · refine Y.blk (pc' := 58) (L' := [some (.ref a0), some (.int a1), some (.int a2), some (.null)]) (st' := [.null]) (sg := [(.astore_n 3, 0), (.aload_n 3, 0)]) (lSa_ok dd24) rfl ?_
            cases h
          · refine Y.blk (pc' := 58) (L' := [some (.ref a0), some (.int a1), some (.int a2), some (.ref v35)]) (st' := [.ref v35]) (sg := [(.astore_n 3, 0), (.aload_n 3, 0)]) (lSa_ok dd24) rfl ?_
            refine Y.getI fl_M_99 (lIa_ok dd25) h (fun v36 h => ?_)
            refine Y.if_eq (off := 10) (tgt := 71) (lIa_ok dd26) (by decide) h (fun c62 h => ?_) (fun c62 h => ?_)
            · refine Y.blk (pc' := 73) (L' := [some (.ref a0), some (.int a1), some (.int a2), some (.ref v35)]) (st' := [.ref v35, .ref a0]) (sg := [(.aload_n 0, 0), (.aload_n 3, 0)]) (lSa_ok dd27) rfl ?_
              refine Y.getI fl_M_89 (lIa_ok dd28) h (fun v37 h => ?_)
              refine Y.blk (pc' := 77) (L' := [some (.ref a0), some (.int a1), some (.int a2), some (.ref v35)]) (st' := [.ref v35, .int v37, .ref a0]) (sg := [(.aload_n 3, 0)]) (lSa_ok dd29) rfl ?_
              refine Y.getI fl_M_208 (lIa_ok dd30) h (fun v38 h => ?_)
              refine Y.blk (pc' := 82) (L' := [some (.ref a0), some (.int a1), some (.int a2), some (.ref v35)]) (st' := [.int a2, .ref a0, .int v38, .int v37, .ref a0]) (sg := [(.aload_n 0, 0), (.iload_n 2, 0)]) (lSa_ok dd31) rfl ?_
              obtain ⟨_, o40, e39, m41, h⟩ := gOb_inv h
              refine Y.callA (yC.Vi (b := a0) (As := [.int a2]) (st := [.int v38, .int v37, .ref a0]) (r := ("PartlisterModel", T_M, 9)) hV.1.1 cb_M_make lk_M_120 in_M_make rfl se_M_make (lIa_ok dd32) rfl rfl (Nat.le_of_ble_eq_true rfl) (by decide) e39 m41) (k_M_make hV.1 G32 a0 a2) h (fun v43 G42 _ h => ?_)
              obtain ⟨_, o45, e44, m46, h⟩ := gOb_inv h
              refine Y.callN (yC.Vi (b := a0) (As := [.int v37, .int v38, .ref v43]) (st := []) (r := ("PartlisterModel", T_M, 9)) hV.1.1 cb_M_come lk_M_124 in_M_come rfl se_M_come (lIa_ok dd33) rfl rfl (Nat.le_of_ble_eq_true rfl) (by decide) e44 m46) (k_M_come hV G42 a0 v37 v38 v43) h (fun G47 _ h => ?_)
              refine Y.blk (pc' := 90) (L' := [some (.ref a0), some (.int a1), some (.int a2), some (.ref v35)]) (st' := [.ref v35, .ref v35]) (sg := [(.aload_n 3, 0), (.dup, 0)]) (lSa_ok dd34) rfl ?_
              refine Y.getI fl_M_208 (lIa_ok dd35) h (fun v48 h => ?_)
              refine Y.blk (pc' := 95) (L' := [some (.ref a0), some (.int a1), some (.int a2), some (.ref v35)]) (st' := [.int (v48 + (nI 1)), .ref v35]) (sg := [(.iconst 1, nI 1), (.iadd, 0)]) (lSa_ok dd36) rfl ?_
              refine Y.putf fl_M_208 (by decide) rfl rfl (lIa_ok dd37) h (fun G49 _ _ h => ?_)
              refine Y.blk (pc' := 100) (L' := [some (.ref a0), some (.int a1), some (.int a2), some (.ref v35)]) (st' := [.int (-1), .ref v35]) (sg := [(.aload_n 3, 0), (.iconst (-1), -1)]) (lSa_ok dd38) rfl ?_
              refine Y.putf fl_M_220 (by decide) rfl rfl (lIa_ok dd39) h (fun G50 _ _ h => ?_)
              refine Y.blk (pc' := 105) (L' := [some (.ref a0), some (.int a1), some (.int a2), some (.ref v35)]) (st' := [.ref v35, .ref a0]) (sg := [(.aload_n 0, 0), (.aload_n 3, 0)]) (lSa_ok dd40) rfl ?_
              refine Y.getI fl_M_89 (lIa_ok dd41) h (fun v51 h => ?_)
              refine Y.blk (pc' := 110) (L' := [some (.ref a0), some (.int a1), some (.int a2), some (.ref v35)]) (st' := [.int a1, .int (nI 1), .int v51, .ref a0]) (sg := [(.iconst 1, nI 1), (.iload_n 1, 0)]) (lSa_ok dd42) rfl ?_
              obtain ⟨_, o53, e52, m54, h⟩ := gOb_inv h
              refine Y.callN (yC.Vi (b := a0) (As := [.int v51, .int (nI 1), .int a1]) (st := []) (r := ("PartlisterModel", T_M, 9)) hV.1.1 cb_M_change lk_M_128 in_M_change rfl se_M_change (lIa_ok dd43) rfl rfl (Nat.le_of_ble_eq_true rfl) (by decide) e52 m54) (k_M_change hV.1 G50 a0 v51 (nI 1) a1) h (fun G55 _ h => ?_)
              refine Y.blk (pc' := 114) (L' := [some (.ref a0), some (.int a1), some (.int a2), some (.ref v35)]) (st' := [.ref a0]) (sg := [(.aload_n 0, 0)]) (lSa_ok dd44) rfl ?_
              refine Y.getI fl_M_76 (lIa_ok dd45) h (fun v56 h => ?_)
              refine Y.blk (pc' := 119) (L' := [some (.ref a0), some (.int a1), some (.int a2), some (.ref v35)]) (st' := [.int (v56 - (nI 1))]) (sg := [(.iconst 1, nI 1), (.isub, 0)]) (lSa_ok dd46) rfl ?_
              exact Y.iret rfl (lIa_ok dd47) h
            · refine Y.blk (pc' := 67) (L' := [some (.ref a0), some (.int a1), some (.int a2), some (.ref v35)]) (st' := [.int (-9), .ref a0]) (sg := [(.aload_n 0, 0), (.bipush (-9), -9)]) (lSa_ok dd48) rfl ?_
              obtain ⟨_, o58, e57, m59, h⟩ := gOb_inv h
              refine Y.callI (yC.Vi (b := a0) (As := [.int (-9)]) (st := []) (r := ("PartlisterModel", T_M, 9)) hV.1.1 cb_M_fault lk_M_217 in_M_fault rfl se_M_fault (lIa_ok dd49) rfl rfl (Nat.le_of_ble_eq_true rfl) (by decide) e57 m59) (k_M_fault hV.1 G32 a0 (-9)) h (fun v61 G60 _ h => ?_)
              exact Y.iret rfl (lIa_ok dd50) h
        · refine Y.blk (pc' := 49) (L' := [some (.ref a0), some (.int a1), some (.int a2), none]) (st' := [.int (nI 0)]) (sg := [(.iconst 0, nI 0)]) (lSa_ok dd51) rfl ?_
          exact Y.iret rfl (lIa_ok dd52) h
    · refine Y.blk (pc' := 49) (L' := [some (.ref a0), some (.int a1), some (.int a2), none]) (st' := [.int (nI 0)]) (sg := [(.iconst 0, nI 0)]) (lSa_ok dd51) rfl ?_
      exact Y.iret rfl (lIa_ok dd52) h
  · refine Y.blk (pc' := 49) (L' := [some (.ref a0), some (.int a1), some (.int a2), none]) (st' := [.int (nI 0)]) (sg := [(.iconst 0, nI 0)]) (lSa_ok dd51) rfl ?_
    exact Y.iret rfl (lIa_ok dd52) h

def f_M_isSame (G : gH) (a0 : Nat) (a1 : Int32) (a2 : Int32) : gR :=
  gOb G a0 6 fun o2 => bI (f_M_areNone G a0 a1 a2) fun v5 G4 => if v5 = 0 then (gOb G4 a0 6 fun o7 => bI (f_M_same G4 a0 a1 a2) fun v10 G9 => if v10 = 0 then rZ (nI 0) G9
    else rZ (nI 1) G9)
  else rZ (nI 0) G4
theorem k_M_isSame {l : Launch} {D : va_G} {B : Nat} {O : State → Heap → Prop} (hV : zG l D B O) (G : gH) (a0 : Nat) (a1 : Int32) (a2 : Int32) : gMet (zVm l D B O) m_M_isSame 15 [.ref a0, .int a1, .int a2] G (f_M_isSame G a0 a1 a2) := by
  have hdd : lSa m_M_isSame 0 [(.aload_n 0, 0), (.iload_n 1, 0), (.iload_n 2, 0)] = true ∧ lIa m_M_isSame 3 (.invokevirtual 235) 3 = true ∧ lIa m_M_isSame 6 (.ifCond .ne 16) 3 = true ∧ lSa m_M_isSame 9 [(.aload_n 0, 0), (.iload_n 1, 0), (.iload_n 2, 0)] = true ∧ lIa m_M_isSame 12 (.invokevirtual 244) 3 = true ∧ lIa m_M_isSame 15 (.ifCond .eq 7) 3 = true ∧ lSa m_M_isSame 22 [(.iconst 0, nI 0)] = true ∧ lIa m_M_isSame 23 (.ireturn) 1 = true ∧ lSa m_M_isSame 18 [(.iconst 1, nI 1)] = true ∧ lIa m_M_isSame 19 (.goto 4) 3 = true := by decide +kernel
  refine lA8 hdd (fun dd0 dd1 dd2 dd3 dd4 dd5 dd6 dd7 hdd => ?_)
  obtain ⟨dd8, dd9⟩ := hdd
  refine gMet.of (by decide +kernel) (Nat.le_of_ble_eq_true rfl) [some (.ref a0), some (.int a1), some (.int a2)] (fun ls h => zEn_ok (n := 3) h) ?_
  intro o Gf h
  unfold f_M_isSame at h
  refine Y.blk (pc' := 3) (L' := [some (.ref a0), some (.int a1), some (.int a2)]) (st' := [.int a2, .int a1, .ref a0]) (sg := [(.aload_n 0, 0), (.iload_n 1, 0), (.iload_n 2, 0)]) (lSa_ok dd0) rfl ?_
  obtain ⟨_, o2, e1, m3, h⟩ := gOb_inv h
  refine Y.callI (yC.Vi (b := a0) (As := [.int a1, .int a2]) (st := []) (r := ("PartlisterModel", T_M, 9)) hV.1 cb_M_areNone lk_M_235 in_M_areNone rfl se_M_areNone (lIa_ok dd1) rfl rfl (Nat.le_of_ble_eq_true rfl) (by decide) e1 m3) (k_M_areNone hV G a0 a1 a2) h (fun v5 G4 _ h => ?_)
  refine Y.if_ne (off := 16) (tgt := 22) (lIa_ok dd2) (by decide) h (fun c12 h => ?_) (fun c12 h => ?_)
  · refine Y.blk (pc' := 12) (L' := [some (.ref a0), some (.int a1), some (.int a2)]) (st' := [.int a2, .int a1, .ref a0]) (sg := [(.aload_n 0, 0), (.iload_n 1, 0), (.iload_n 2, 0)]) (lSa_ok dd3) rfl ?_
    obtain ⟨_, o7, e6, m8, h⟩ := gOb_inv h
    refine Y.callI (yC.Vi (b := a0) (As := [.int a1, .int a2]) (st := []) (r := ("PartlisterModel", T_M, 9)) hV.1 cb_M_same lk_M_244 in_M_same rfl se_M_same (lIa_ok dd4) rfl rfl (Nat.le_of_ble_eq_true rfl) (by decide) e6 m8) (k_M_same hV G4 a0 a1 a2) h (fun v10 G9 _ h => ?_)
    refine Y.if_eq (off := 7) (tgt := 22) (lIa_ok dd5) (by decide) h (fun c11 h => ?_) (fun c11 h => ?_)
    · refine Y.blk (pc' := 23) (L' := [some (.ref a0), some (.int a1), some (.int a2)]) (st' := [.int (nI 0)]) (sg := [(.iconst 0, nI 0)]) (lSa_ok dd6) rfl ?_
      exact Y.zret rfl (lIa_ok dd7) h
    · refine Y.blk (pc' := 19) (L' := [some (.ref a0), some (.int a1), some (.int a2)]) (st' := [.int (nI 1)]) (sg := [(.iconst 1, nI 1)]) (lSa_ok dd8) rfl ?_
      refine Y.goto (off := 4) (tgt := 23) (lIa_ok dd9) (by decide) ?_
      exact Y.zret rfl (lIa_ok dd7) h
  · refine Y.blk (pc' := 23) (L' := [some (.ref a0), some (.int a1), some (.int a2)]) (st' := [.int (nI 0)]) (sg := [(.iconst 0, nI 0)]) (lSa_ok dd6) rfl ?_
    exact Y.zret rfl (lIa_ok dd7) h

def f_M_isSorted_L2 (K32 : gH → gR) (K40 : gH → gR) : Nat → gH → Nat → Int32 → Int32 → gR
  | 0, _, _, _, _ => none
  | n + 1, G, x0, x1, x2 =>
    gOb G x0 6 fun o2 => bI (f_M_length G x0 x1) fun v5 G4 => if v5 ≤ x2 then K40 G4
    else gOb G4 x0 6 fun o7 => bA (f_M_at G4 x0 x1 x2) fun v10 G9 => gLd G9 v10 100 (nI 0) fun v11 => gOb G9 x0 6 fun o13 => bA (f_M_at G9 x0 x1 (x2 - (nI 1))) fun v16 G15 => gLd G15 v16 100 (nI 0) fun v17 => if v17 ≤ v11 then f_M_isSorted_L2 K32 K40 n G15 x0 x1 (x2 + (nI 1))
      else K32 G15
def f_M_isSorted (G : gH) (a0 : Nat) (a1 : Int32) : gR :=
  f_M_isSorted_L2 (fun G20 => rZ (nI 0) G20) (fun G21 => rZ (nI 1) G21) zFu G a0 a1 (nI 1)
theorem k_M_isSorted_L2 {l : Launch} {D : va_G} {B : Nat} {O : State → Heap → Prop} (hV : zG l D B O) {o : gO} {Gf : gH} (K32 : gH → gR) (K40 : gH → gR) (hK32 : ∀ (G : gH), K32 G  = some (o, Gf) → Y (zVm l D B O) m_M_isSorted 13 o Gf 32 [none, none, none] [] G) (hK40 : ∀ (G : gH), K40 G  = some (o, Gf) → Y (zVm l D B O) m_M_isSorted 13 o Gf 40 [none, none, none] [] G) : ∀ (n : Nat) (G : gH) (x0 : Nat) (x1 : Int32) (x2 : Int32), f_M_isSorted_L2 K32 K40 n G x0 x1 x2 = some (o, Gf) → Y (zVm l D B O) m_M_isSorted 13 o Gf 2 [some (.ref x0), some (.int x1), some (.int x2)] [] G := by
  have hdd : lSa m_M_isSorted 2 [(.iload_n 2, 0), (.aload_n 0, 0), (.iload_n 1, 0)] = true ∧ lIa m_M_isSorted 5 (.invokevirtual 74) 3 = true ∧ lIa m_M_isSorted 8 (.if_icmp .ge 32) 3 = true ∧ lSa m_M_isSorted 11 [(.aload_n 0, 0), (.iload_n 1, 0), (.iload_n 2, 0)] = true ∧ lIa m_M_isSorted 14 (.invokevirtual 132) 3 = true ∧ lSa m_M_isSorted 17 [(.iconst 0, nI 0)] = true ∧ lIa m_M_isSorted 18 (.iaload) 1 = true ∧ lSa m_M_isSorted 19 [(.aload_n 0, 0), (.iload_n 1, 0), (.iload_n 2, 0), (.iconst 1, nI 1), (.isub, 0)] = true ∧ lIa m_M_isSorted 24 (.invokevirtual 132) 3 = true ∧ lSa m_M_isSorted 27 [(.iconst 0, nI 0)] = true ∧ lIa m_M_isSorted 28 (.iaload) 1 = true ∧ lIa m_M_isSorted 29 (.if_icmp .ge 5) 3 = true ∧ lSa m_M_isSorted 34 [(.iinc 2 1, nI 1)] = true ∧ lIa m_M_isSorted 37 (.goto (-35)) 3 = true := by decide +kernel
  refine lA8 hdd (fun dd0 dd1 dd2 dd3 dd4 dd5 dd6 dd7 hdd => ?_)
  obtain ⟨dd8, dd9, dd10, dd11, dd12, dd13⟩ := hdd
  intro n
  induction n with
  | zero => intro G x0 x1 x2 h; cases h
  | succ n ih =>
    intro G x0 x1 x2 h
    unfold f_M_isSorted_L2 at h
    refine Y.blk (pc' := 5) (L' := [some (.ref x0), some (.int x1), some (.int x2)]) (st' := [.int x1, .ref x0, .int x2]) (sg := [(.iload_n 2, 0), (.aload_n 0, 0), (.iload_n 1, 0)]) (lSa_ok dd0) rfl ?_
    obtain ⟨_, o2, e1, m3, h⟩ := gOb_inv h
    refine Y.callI (yC.Vi (b := x0) (As := [.int x1]) (st := [.int x2]) (r := ("PartlisterModel", T_M, 9)) hV.1 cb_M_length lk_M_74 in_M_length rfl se_M_length (lIa_ok dd1) rfl rfl (Nat.le_of_ble_eq_true rfl) (by decide) e1 m3) (k_M_length hV G x0 x1) h (fun v5 G4 _ h => ?_)
    refine Y.ic_ge (off := 32) (tgt := 40) (lIa_ok dd2) (by decide) h (fun c19 h => ?_) (fun c19 h => ?_)
    · refine Y.less (L' := [none, none, none]) (zLe_none (zLe_none (zLe_none (zLe_nil)))) ?_
      exact hK40 G4  h
    · refine Y.blk (pc' := 14) (L' := [some (.ref x0), some (.int x1), some (.int x2)]) (st' := [.int x2, .int x1, .ref x0]) (sg := [(.aload_n 0, 0), (.iload_n 1, 0), (.iload_n 2, 0)]) (lSa_ok dd3) rfl ?_
      obtain ⟨_, o7, e6, m8, h⟩ := gOb_inv h
      refine Y.callA (yC.Vi (b := x0) (As := [.int x1, .int x2]) (st := []) (r := ("PartlisterModel", T_M, 9)) hV.1 cb_M_at lk_M_132 in_M_at rfl se_M_at (lIa_ok dd4) rfl rfl (Nat.le_of_ble_eq_true rfl) (by decide) e6 m8) (k_M_at hV G4 x0 x1 x2) h (fun v10 G9 _ h => ?_)
      refine Y.blk (pc' := 18) (L' := [some (.ref x0), some (.int x1), some (.int x2)]) (st' := [.int (nI 0), .ref v10]) (sg := [(.iconst 0, nI 0)]) (lSa_ok dd5) rfl ?_
      refine Y.iald (t0 := 0) (lIa_ok dd6) rfl h (fun v11 h => ?_)
      refine Y.blk (pc' := 24) (L' := [some (.ref x0), some (.int x1), some (.int x2)]) (st' := [.int (x2 - (nI 1)), .int x1, .ref x0, .int v11]) (sg := [(.aload_n 0, 0), (.iload_n 1, 0), (.iload_n 2, 0), (.iconst 1, nI 1), (.isub, 0)]) (lSa_ok dd7) rfl ?_
      obtain ⟨_, o13, e12, m14, h⟩ := gOb_inv h
      refine Y.callA (yC.Vi (b := x0) (As := [.int x1, .int (x2 - (nI 1))]) (st := [.int v11]) (r := ("PartlisterModel", T_M, 9)) hV.1 cb_M_at lk_M_132 in_M_at rfl se_M_at (lIa_ok dd8) rfl rfl (Nat.le_of_ble_eq_true rfl) (by decide) e12 m14) (k_M_at hV G9 x0 x1 (x2 - (nI 1))) h (fun v16 G15 _ h => ?_)
      refine Y.blk (pc' := 28) (L' := [some (.ref x0), some (.int x1), some (.int x2)]) (st' := [.int (nI 0), .ref v16, .int v11]) (sg := [(.iconst 0, nI 0)]) (lSa_ok dd9) rfl ?_
      refine Y.iald (t0 := 0) (lIa_ok dd10) rfl h (fun v17 h => ?_)
      refine Y.ic_ge (off := 5) (tgt := 34) (lIa_ok dd11) (by decide) h (fun c18 h => ?_) (fun c18 h => ?_)
      · refine Y.blk (pc' := 37) (L' := [some (.ref x0), some (.int x1), some (.int (x2 + (nI 1)))]) (st' := []) (sg := [(.iinc 2 1, nI 1)]) (lSa_ok dd12) rfl ?_
        refine Y.goto (off := -35) (tgt := 2) (lIa_ok dd13) (by decide) ?_
        exact ih G15 x0 x1 (x2 + (nI 1)) h
      · refine Y.less (L' := [none, none, none]) (zLe_none (zLe_none (zLe_none (zLe_nil)))) ?_
        exact hK32 G15  h
theorem k_M_isSorted {l : Launch} {D : va_G} {B : Nat} {O : State → Heap → Prop} (hV : zG l D B O) (G : gH) (a0 : Nat) (a1 : Int32) : gMet (zVm l D B O) m_M_isSorted 13 [.ref a0, .int a1] G (f_M_isSorted G a0 a1) := by
  have hdd : lSa m_M_isSorted 0 [(.iconst 1, nI 1), (.istore_n 2, 0)] = true ∧ lSa m_M_isSorted 32 [(.iconst 0, nI 0)] = true ∧ lIa m_M_isSorted 33 (.ireturn) 1 = true ∧ lSa m_M_isSorted 40 [(.iconst 1, nI 1)] = true ∧ lIa m_M_isSorted 41 (.ireturn) 1 = true := by decide +kernel
  obtain ⟨dd0, dd1, dd2, dd3, dd4⟩ := hdd
  refine gMet.of (by decide +kernel) (Nat.le_of_ble_eq_true rfl) [some (.ref a0), some (.int a1), none] (fun ls h => zEn_ok (n := 3) h) ?_
  intro o Gf h
  unfold f_M_isSorted at h
  refine Y.blk (pc' := 2) (L' := [some (.ref a0), some (.int a1), some (.int (nI 1))]) (st' := []) (sg := [(.iconst 1, nI 1), (.istore_n 2, 0)]) (lSa_ok dd0) rfl ?_
  refine k_M_isSorted_L2 hV _ _ ?_ ?_  zFu G a0 a1 (nI 1) h
  · intro G20 h
    refine Y.blk (pc' := 33) (L' := [none, none, none]) (st' := [.int (nI 0)]) (sg := [(.iconst 0, nI 0)]) (lSa_ok dd1) rfl ?_
    exact Y.zret rfl (lIa_ok dd2) h
  · intro G21 h
    refine Y.blk (pc' := 41) (L' := [none, none, none]) (st' := [.int (nI 1)]) (sg := [(.iconst 1, nI 1)]) (lSa_ok dd3) rfl ?_
    exact Y.zret rfl (lIa_ok dd4) h

def f_M_isSound (w : Nat → Nat) (G : gH) (a0 : Nat) : gR :=
  gPut G a0 6 0 (.int (nI 0)) fun G1 => gOb G1 a0 6 fun o3 => bI (f_M_isWhole w G1 a0) fun v6 G5 => rZ v6 G5
theorem k_M_isSound {l : Launch} {D : va_G} {B : Nat} {O : State → Heap → Prop} {w : Nat → Nat} (hV : zGw l D B O w) (G : gH) (a0 : Nat) : gMet (zVm l D B O) m_M_isSound 15 [.ref a0] G (f_M_isSound w G a0) := by
  have hdd : lSa m_M_isSound 0 [(.aload_n 0, 0), (.iconst 0, nI 0)] = true ∧ lIa m_M_isSound 2 (.putfield 32) 3 = true ∧ lSa m_M_isSound 5 [(.aload_n 0, 0)] = true ∧ lIa m_M_isSound 6 (.invokevirtual 299) 3 = true ∧ lIa m_M_isSound 9 (.ireturn) 1 = true := by decide +kernel
  obtain ⟨dd0, dd1, dd2, dd3, dd4⟩ := hdd
  refine gMet.of (by decide +kernel) (Nat.le_of_ble_eq_true rfl) [some (.ref a0)] (fun ls h => zEn_ok (n := 1) h) ?_
  intro o Gf h
  unfold f_M_isSound at h
  refine Y.blk (pc' := 2) (L' := [some (.ref a0)]) (st' := [.int (nI 0), .ref a0]) (sg := [(.aload_n 0, 0), (.iconst 0, nI 0)]) (lSa_ok dd0) rfl ?_
  refine Y.putf fl_M_32 (by decide) rfl rfl (lIa_ok dd1) h (fun G1 _ _ h => ?_)
  refine Y.blk (pc' := 6) (L' := [some (.ref a0)]) (st' := [.ref a0]) (sg := [(.aload_n 0, 0)]) (lSa_ok dd2) rfl ?_
  obtain ⟨_, o3, e2, m4, h⟩ := gOb_inv h
  refine Y.callI (yC.Vi (b := a0) (As := []) (st := []) (r := ("PartlisterModel", T_M, 9)) hV.1.1 cb_M_isWhole lk_M_299 in_M_isWhole rfl se_M_isWhole (lIa_ok dd3) rfl rfl (Nat.le_of_ble_eq_true rfl) (by decide) e2 m4) (k_M_isWhole hV G1 a0) h (fun v6 G5 _ h => ?_)
  exact Y.zret rfl (lIa_ok dd4) h

def f_M_key (G : gH) (a0 : Nat) (a1 : Int32) (a2 : Int32) : gR :=
  gOb G a0 6 fun o2 => bI (f_M_isNoList G a0 a1) fun v5 G4 => if v5 = 0 then (gOb G4 a0 6 fun o7 => bI (f_M_isNoPlace G4 a0 a1 a2) fun v10 G9 => if v10 = 0 then (gOb G9 a0 6 fun o12 => bI (f_M_start G9 a0 (nI 0) (nI 1)) fun v15 G14 => if v15 = 0 then gOb G14 a0 6 fun o17 => bA (f_M_at G14 a0 a1 a2) fun v20 G19 => gLd G19 v20 100 (nI 0) fun v21 => rI v21 G19
      else rI (nI 0) G14)
    else gOb G9 a0 6 fun o24 => bI (f_M_start G9 a0 (nI 1) (nI 1)) fun v27 G26 => if v27 = 0 then gOb G26 a0 6 fun o29 => bA (f_M_at G26 a0 a1 a2) fun v32 G31 => gLd G31 v32 100 (nI 0) fun v33 => rI v33 G31
      else rI (nI 0) G26)
  else gOb G4 a0 6 fun o37 => bI (f_M_start G4 a0 (nI 1) (nI 1)) fun v40 G39 => if v40 = 0 then gOb G39 a0 6 fun o42 => bA (f_M_at G39 a0 a1 a2) fun v45 G44 => gLd G44 v45 100 (nI 0) fun v46 => rI v46 G44
    else rI (nI 0) G39
theorem k_M_key {l : Launch} {D : va_G} {B : Nat} {O : State → Heap → Prop} (hV : zG l D B O) (G : gH) (a0 : Nat) (a1 : Int32) (a2 : Int32) : gMet (zVm l D B O) m_M_key 13 [.ref a0, .int a1, .int a2] G (f_M_key G a0 a1 a2) := by
  have hdd : lSa m_M_key 0 [(.aload_n 0, 0), (.aload_n 0, 0), (.iload_n 1, 0)] = true ∧ lIa m_M_key 3 (.invokevirtual 110) 3 = true ∧ lIa m_M_key 6 (.ifCond .ne 12) 3 = true ∧ lSa m_M_key 9 [(.aload_n 0, 0), (.iload_n 1, 0), (.iload_n 2, 0)] = true ∧ lIa m_M_key 12 (.invokevirtual 147) 3 = true ∧ lIa m_M_key 15 (.ifCond .eq 7) 3 = true ∧ lSa m_M_key 22 [(.iconst 0, nI 0), (.iconst 1, nI 1)] = true ∧ lIa m_M_key 24 (.invokevirtual 114) 3 = true ∧ lIa m_M_key 27 (.ifCond .eq 7) 3 = true ∧ lSa m_M_key 34 [(.aload_n 0, 0), (.iload_n 1, 0), (.iload_n 2, 0)] = true ∧ lIa m_M_key 37 (.invokevirtual 132) 3 = true ∧ lSa m_M_key 40 [(.iconst 0, nI 0)] = true ∧ lIa m_M_key 41 (.iaload) 1 = true ∧ lIa m_M_key 42 (.ireturn) 1 = true ∧ lSa m_M_key 30 [(.iconst 0, nI 0)] = true ∧ lIa m_M_key 31 (.goto 11) 3 = true ∧ lSa m_M_key 18 [(.iconst 1, nI 1)] = true ∧ lIa m_M_key 19 (.goto 4) 3 = true ∧ lSa m_M_key 23 [(.iconst 1, nI 1)] = true := by decide +kernel
  refine lA8 hdd (fun dd0 dd1 dd2 dd3 dd4 dd5 dd6 dd7 hdd => ?_)
  refine lA8 hdd (fun dd8 dd9 dd10 dd11 dd12 dd13 dd14 dd15 hdd => ?_)
  obtain ⟨dd16, dd17, dd18⟩ := hdd
  refine gMet.of (by decide +kernel) (Nat.le_of_ble_eq_true rfl) [some (.ref a0), some (.int a1), some (.int a2)] (fun ls h => zEn_ok (n := 3) h) ?_
  intro o Gf h
  unfold f_M_key at h
  refine Y.blk (pc' := 3) (L' := [some (.ref a0), some (.int a1), some (.int a2)]) (st' := [.int a1, .ref a0, .ref a0]) (sg := [(.aload_n 0, 0), (.aload_n 0, 0), (.iload_n 1, 0)]) (lSa_ok dd0) rfl ?_
  obtain ⟨_, o2, e1, m3, h⟩ := gOb_inv h
  refine Y.callI (yC.Vi (b := a0) (As := [.int a1]) (st := [.ref a0]) (r := ("PartlisterModel", T_M, 9)) hV.1 cb_M_isNoList lk_M_110 in_M_isNoList rfl se_M_isNoList (lIa_ok dd1) rfl rfl (Nat.le_of_ble_eq_true rfl) (by decide) e1 m3) (k_M_isNoList hV G a0 a1) h (fun v5 G4 _ h => ?_)
  refine Y.if_ne (off := 12) (tgt := 18) (lIa_ok dd2) (by decide) h (fun c48 h => ?_) (fun c48 h => ?_)
  · refine Y.blk (pc' := 12) (L' := [some (.ref a0), some (.int a1), some (.int a2)]) (st' := [.int a2, .int a1, .ref a0, .ref a0]) (sg := [(.aload_n 0, 0), (.iload_n 1, 0), (.iload_n 2, 0)]) (lSa_ok dd3) rfl ?_
    obtain ⟨_, o7, e6, m8, h⟩ := gOb_inv h
    refine Y.callI (yC.Vi (b := a0) (As := [.int a1, .int a2]) (st := [.ref a0]) (r := ("PartlisterModel", T_M, 9)) hV.1 cb_M_isNoPlace lk_M_147 in_M_isNoPlace rfl se_M_isNoPlace (lIa_ok dd4) rfl rfl (Nat.le_of_ble_eq_true rfl) (by decide) e6 m8) (k_M_isNoPlace hV G4 a0 a1 a2) h (fun v10 G9 _ h => ?_)
    refine Y.if_eq (off := 7) (tgt := 22) (lIa_ok dd5) (by decide) h (fun c35 h => ?_) (fun c35 h => ?_)
    · refine Y.blk (pc' := 24) (L' := [some (.ref a0), some (.int a1), some (.int a2)]) (st' := [.int (nI 1), .int (nI 0), .ref a0]) (sg := [(.iconst 0, nI 0), (.iconst 1, nI 1)]) (lSa_ok dd6) rfl ?_
      obtain ⟨_, o12, e11, m13, h⟩ := gOb_inv h
      refine Y.callI (yC.Vi (b := a0) (As := [.int (nI 0), .int (nI 1)]) (st := []) (r := ("PartlisterModel", T_M, 9)) hV.1 cb_M_start lk_M_114 in_M_start rfl se_M_start (lIa_ok dd7) rfl rfl (Nat.le_of_ble_eq_true rfl) (by decide) e11 m13) (k_M_start hV G9 a0 (nI 0) (nI 1)) h (fun v15 G14 _ h => ?_)
      refine Y.if_eq (off := 7) (tgt := 34) (lIa_ok dd8) (by decide) h (fun c22 h => ?_) (fun c22 h => ?_)
      · refine Y.blk (pc' := 37) (L' := [some (.ref a0), some (.int a1), some (.int a2)]) (st' := [.int a2, .int a1, .ref a0]) (sg := [(.aload_n 0, 0), (.iload_n 1, 0), (.iload_n 2, 0)]) (lSa_ok dd9) rfl ?_
        obtain ⟨_, o17, e16, m18, h⟩ := gOb_inv h
        refine Y.callA (yC.Vi (b := a0) (As := [.int a1, .int a2]) (st := []) (r := ("PartlisterModel", T_M, 9)) hV.1 cb_M_at lk_M_132 in_M_at rfl se_M_at (lIa_ok dd10) rfl rfl (Nat.le_of_ble_eq_true rfl) (by decide) e16 m18) (k_M_at hV G14 a0 a1 a2) h (fun v20 G19 _ h => ?_)
        refine Y.blk (pc' := 41) (L' := [some (.ref a0), some (.int a1), some (.int a2)]) (st' := [.int (nI 0), .ref v20]) (sg := [(.iconst 0, nI 0)]) (lSa_ok dd11) rfl ?_
        refine Y.iald (t0 := 0) (lIa_ok dd12) rfl h (fun v21 h => ?_)
        exact Y.iret rfl (lIa_ok dd13) h
      · refine Y.blk (pc' := 31) (L' := [some (.ref a0), some (.int a1), some (.int a2)]) (st' := [.int (nI 0)]) (sg := [(.iconst 0, nI 0)]) (lSa_ok dd14) rfl ?_
        refine Y.goto (off := 11) (tgt := 42) (lIa_ok dd15) (by decide) ?_
        exact Y.iret rfl (lIa_ok dd13) h
    · refine Y.blk (pc' := 19) (L' := [some (.ref a0), some (.int a1), some (.int a2)]) (st' := [.int (nI 1), .ref a0]) (sg := [(.iconst 1, nI 1)]) (lSa_ok dd16) rfl ?_
      refine Y.goto (off := 4) (tgt := 23) (lIa_ok dd17) (by decide) ?_
      refine Y.blk (pc' := 24) (L' := [some (.ref a0), some (.int a1), some (.int a2)]) (st' := [.int (nI 1), .int (nI 1), .ref a0]) (sg := [(.iconst 1, nI 1)]) (lSa_ok dd18) rfl ?_
      obtain ⟨_, o24, e23, m25, h⟩ := gOb_inv h
      refine Y.callI (yC.Vi (b := a0) (As := [.int (nI 1), .int (nI 1)]) (st := []) (r := ("PartlisterModel", T_M, 9)) hV.1 cb_M_start lk_M_114 in_M_start rfl se_M_start (lIa_ok dd7) rfl rfl (Nat.le_of_ble_eq_true rfl) (by decide) e23 m25) (k_M_start hV G9 a0 (nI 1) (nI 1)) h (fun v27 G26 _ h => ?_)
      refine Y.if_eq (off := 7) (tgt := 34) (lIa_ok dd8) (by decide) h (fun c34 h => ?_) (fun c34 h => ?_)
      · refine Y.blk (pc' := 37) (L' := [some (.ref a0), some (.int a1), some (.int a2)]) (st' := [.int a2, .int a1, .ref a0]) (sg := [(.aload_n 0, 0), (.iload_n 1, 0), (.iload_n 2, 0)]) (lSa_ok dd9) rfl ?_
        obtain ⟨_, o29, e28, m30, h⟩ := gOb_inv h
        refine Y.callA (yC.Vi (b := a0) (As := [.int a1, .int a2]) (st := []) (r := ("PartlisterModel", T_M, 9)) hV.1 cb_M_at lk_M_132 in_M_at rfl se_M_at (lIa_ok dd10) rfl rfl (Nat.le_of_ble_eq_true rfl) (by decide) e28 m30) (k_M_at hV G26 a0 a1 a2) h (fun v32 G31 _ h => ?_)
        refine Y.blk (pc' := 41) (L' := [some (.ref a0), some (.int a1), some (.int a2)]) (st' := [.int (nI 0), .ref v32]) (sg := [(.iconst 0, nI 0)]) (lSa_ok dd11) rfl ?_
        refine Y.iald (t0 := 0) (lIa_ok dd12) rfl h (fun v33 h => ?_)
        exact Y.iret rfl (lIa_ok dd13) h
      · refine Y.blk (pc' := 31) (L' := [some (.ref a0), some (.int a1), some (.int a2)]) (st' := [.int (nI 0)]) (sg := [(.iconst 0, nI 0)]) (lSa_ok dd14) rfl ?_
        refine Y.goto (off := 11) (tgt := 42) (lIa_ok dd15) (by decide) ?_
        exact Y.iret rfl (lIa_ok dd13) h
  · refine Y.blk (pc' := 19) (L' := [some (.ref a0), some (.int a1), some (.int a2)]) (st' := [.int (nI 1), .ref a0]) (sg := [(.iconst 1, nI 1)]) (lSa_ok dd16) rfl ?_
    refine Y.goto (off := 4) (tgt := 23) (lIa_ok dd17) (by decide) ?_
    refine Y.blk (pc' := 24) (L' := [some (.ref a0), some (.int a1), some (.int a2)]) (st' := [.int (nI 1), .int (nI 1), .ref a0]) (sg := [(.iconst 1, nI 1)]) (lSa_ok dd18) rfl ?_
    obtain ⟨_, o37, e36, m38, h⟩ := gOb_inv h
    refine Y.callI (yC.Vi (b := a0) (As := [.int (nI 1), .int (nI 1)]) (st := []) (r := ("PartlisterModel", T_M, 9)) hV.1 cb_M_start lk_M_114 in_M_start rfl se_M_start (lIa_ok dd7) rfl rfl (Nat.le_of_ble_eq_true rfl) (by decide) e36 m38) (k_M_start hV G4 a0 (nI 1) (nI 1)) h (fun v40 G39 _ h => ?_)
    refine Y.if_eq (off := 7) (tgt := 34) (lIa_ok dd8) (by decide) h (fun c47 h => ?_) (fun c47 h => ?_)
    · refine Y.blk (pc' := 37) (L' := [some (.ref a0), some (.int a1), some (.int a2)]) (st' := [.int a2, .int a1, .ref a0]) (sg := [(.aload_n 0, 0), (.iload_n 1, 0), (.iload_n 2, 0)]) (lSa_ok dd9) rfl ?_
      obtain ⟨_, o42, e41, m43, h⟩ := gOb_inv h
      refine Y.callA (yC.Vi (b := a0) (As := [.int a1, .int a2]) (st := []) (r := ("PartlisterModel", T_M, 9)) hV.1 cb_M_at lk_M_132 in_M_at rfl se_M_at (lIa_ok dd10) rfl rfl (Nat.le_of_ble_eq_true rfl) (by decide) e41 m43) (k_M_at hV G39 a0 a1 a2) h (fun v45 G44 _ h => ?_)
      refine Y.blk (pc' := 41) (L' := [some (.ref a0), some (.int a1), some (.int a2)]) (st' := [.int (nI 0), .ref v45]) (sg := [(.iconst 0, nI 0)]) (lSa_ok dd11) rfl ?_
      refine Y.iald (t0 := 0) (lIa_ok dd12) rfl h (fun v46 h => ?_)
      exact Y.iret rfl (lIa_ok dd13) h
    · refine Y.blk (pc' := 31) (L' := [some (.ref a0), some (.int a1), some (.int a2)]) (st' := [.int (nI 0)]) (sg := [(.iconst 0, nI 0)]) (lSa_ok dd14) rfl ?_
      refine Y.goto (off := 11) (tgt := 42) (lIa_ok dd15) (by decide) ?_
      exact Y.iret rfl (lIa_ok dd13) h

def f_M_keys_L8 (K50 : gH → Nat → gR) : Nat → gH → Nat → Int32 → Int32 → Nat → Int32 → gR
  | 0, _, _, _, _, _, _ => none
  | n + 1, G, x0, x1, x2, x3, x4 =>
    if (nI 31) ≤ x4 then K50 G x3
    else gOb G x0 6 fun o4 => bI (f_M_firstOf G x0 x1 x4) fun v7 G6 => if v7 = (-1) then (if (nI 0) = x2 then gSt G6 x3 102 x4 (vp_nar .boolean (nI 1)) fun G8 => f_M_keys_L8 K50 n G8 x0 x1 x2 x3 (x4 + (nI 1))
        else gSt G6 x3 102 x4 (vp_nar .boolean (nI 0)) fun G9 => f_M_keys_L8 K50 n G9 x0 x1 x2 x3 (x4 + (nI 1)))
      else if (nI 1) = x2 then gSt G6 x3 102 x4 (vp_nar .boolean (nI 1)) fun G11 => f_M_keys_L8 K50 n G11 x0 x1 x2 x3 (x4 + (nI 1))
        else gSt G6 x3 102 x4 (vp_nar .boolean (nI 0)) fun G12 => f_M_keys_L8 K50 n G12 x0 x1 x2 x3 (x4 + (nI 1))
def f_M_keys (G : gH) (a0 : Nat) (a1 : Int32) (a2 : Int32) : gR :=
  gNewA G 102 (nI 31) fun q1 G2 => f_M_keys_L8 (fun G17 x16 => rA x16 G17) zFu G2 a0 a1 a2 q1 (nI 0)
theorem k_M_keys_L8 {l : Launch} {D : va_G} {B : Nat} {O : State → Heap → Prop} (hV : zG l D B O) {o : gO} {Gf : gH} (K50 : gH → Nat → gR) (hK50 : ∀ (G : gH) (x3 : Nat), K50 G x3 = some (o, Gf) → Y (zVm l D B O) m_M_keys 14 o Gf 50 [none, none, none, some (.ref x3), none] [] G) : ∀ (n : Nat) (G : gH) (x0 : Nat) (x1 : Int32) (x2 : Int32) (x3 : Nat) (x4 : Int32), f_M_keys_L8 K50 n G x0 x1 x2 x3 x4 = some (o, Gf) → Y (zVm l D B O) m_M_keys 14 o Gf 8 [some (.ref x0), some (.int x1), some (.int x2), some (.ref x3), some (.int x4)] [] G := by
  have hdd : lSa m_M_keys 8 [(.iload 4, 0), (.bipush 31, nI 31)] = true ∧ lIa m_M_keys 12 (.if_icmp .ge 38) 3 = true ∧ lSa m_M_keys 15 [(.aload_n 3, 0), (.iload 4, 0), (.aload_n 0, 0), (.iload_n 1, 0), (.iload 4, 0)] = true ∧ lIa m_M_keys 22 (.invokevirtual 163) 3 = true ∧ lSa m_M_keys 25 [(.iconst (-1), -1)] = true ∧ lIa m_M_keys 26 (.if_icmp .eq 7) 3 = true ∧ lSa m_M_keys 33 [(.iconst 0, nI 0), (.iload_n 2, 0)] = true ∧ lIa m_M_keys 35 (.if_icmp .ne 7) 3 = true ∧ lSa m_M_keys 38 [(.iconst 1, nI 1)] = true ∧ lIa m_M_keys 39 (.goto 4) 3 = true ∧ lIa m_M_keys 43 (.bastore) 1 = true ∧ lSa m_M_keys 44 [(.iinc 4 1, nI 1)] = true ∧ lIa m_M_keys 47 (.goto (-39)) 3 = true ∧ lSa m_M_keys 42 [(.iconst 0, nI 0)] = true ∧ lSa m_M_keys 29 [(.iconst 1, nI 1)] = true ∧ lIa m_M_keys 30 (.goto 4) 3 = true ∧ lSa m_M_keys 34 [(.iload_n 2, 0)] = true := by decide +kernel
  refine lA8 hdd (fun dd0 dd1 dd2 dd3 dd4 dd5 dd6 dd7 hdd => ?_)
  refine lA8 hdd (fun dd8 dd9 dd10 dd11 dd12 dd13 dd14 dd15 hdd => ?_)
  have dd16 := hdd
  intro n
  induction n with
  | zero => intro G x0 x1 x2 x3 x4 h; cases h
  | succ n ih =>
    intro G x0 x1 x2 x3 x4 h
    unfold f_M_keys_L8 at h
    refine Y.blk (pc' := 12) (L' := [some (.ref x0), some (.int x1), some (.int x2), some (.ref x3), some (.int x4)]) (st' := [.int (nI 31), .int x4]) (sg := [(.iload 4, 0), (.bipush 31, nI 31)]) (lSa_ok dd0) rfl ?_
    refine Y.ic_ge (off := 38) (tgt := 50) (lIa_ok dd1) (by decide) h (fun c15 h => ?_) (fun c15 h => ?_)
    · refine Y.less (L' := [none, none, none, some (.ref x3), none]) (zLe_none (zLe_none (zLe_none (zLe_some (zLe_none (zLe_nil)))))) ?_
      exact hK50 G x3 h
    · refine Y.blk (pc' := 22) (L' := [some (.ref x0), some (.int x1), some (.int x2), some (.ref x3), some (.int x4)]) (st' := [.int x4, .int x1, .ref x0, .int x4, .ref x3]) (sg := [(.aload_n 3, 0), (.iload 4, 0), (.aload_n 0, 0), (.iload_n 1, 0), (.iload 4, 0)]) (lSa_ok dd2) rfl ?_
      obtain ⟨_, o4, e3, m5, h⟩ := gOb_inv h
      refine Y.callI (yC.Vi (b := x0) (As := [.int x1, .int x4]) (st := [.int x4, .ref x3]) (r := ("PartlisterModel", T_M, 9)) hV.1 cb_M_firstOf lk_M_163 in_M_firstOf rfl se_M_firstOf (lIa_ok dd3) rfl rfl (Nat.le_of_ble_eq_true rfl) (by decide) e3 m5) (k_M_firstOf hV G x0 x1 x4) h (fun v7 G6 _ h => ?_)
      refine Y.blk (pc' := 26) (L' := [some (.ref x0), some (.int x1), some (.int x2), some (.ref x3), some (.int x4)]) (st' := [.int (-1), .int v7, .int x4, .ref x3]) (sg := [(.iconst (-1), -1)]) (lSa_ok dd4) rfl ?_
      refine Y.ic_eq (off := 7) (tgt := 33) (lIa_ok dd5) (by decide) h (fun c14 h => ?_) (fun c14 h => ?_)
      · refine Y.blk (pc' := 35) (L' := [some (.ref x0), some (.int x1), some (.int x2), some (.ref x3), some (.int x4)]) (st' := [.int x2, .int (nI 0), .int x4, .ref x3]) (sg := [(.iconst 0, nI 0), (.iload_n 2, 0)]) (lSa_ok dd6) rfl ?_
        refine Y.ic_ne (off := 7) (tgt := 42) (lIa_ok dd7) (by decide) h (fun c10 h => ?_) (fun c10 h => ?_)
        · refine Y.blk (pc' := 39) (L' := [some (.ref x0), some (.int x1), some (.int x2), some (.ref x3), some (.int x4)]) (st' := [.int (nI 1), .int x4, .ref x3]) (sg := [(.iconst 1, nI 1)]) (lSa_ok dd8) rfl ?_
          refine Y.goto (off := 4) (tgt := 43) (lIa_ok dd9) (by decide) ?_
          refine Y.zast (t0 := 2) (lIa_ok dd10) rfl (by decide) h (fun G8 _ _ h => ?_)
          refine Y.blk (pc' := 47) (L' := [some (.ref x0), some (.int x1), some (.int x2), some (.ref x3), some (.int (x4 + (nI 1)))]) (st' := []) (sg := [(.iinc 4 1, nI 1)]) (lSa_ok dd11) rfl ?_
          refine Y.goto (off := -39) (tgt := 8) (lIa_ok dd12) (by decide) ?_
          exact ih G8 x0 x1 x2 x3 (x4 + (nI 1)) h
        · refine Y.blk (pc' := 43) (L' := [some (.ref x0), some (.int x1), some (.int x2), some (.ref x3), some (.int x4)]) (st' := [.int (nI 0), .int x4, .ref x3]) (sg := [(.iconst 0, nI 0)]) (lSa_ok dd13) rfl ?_
          refine Y.zast (t0 := 2) (lIa_ok dd10) rfl (by decide) h (fun G9 _ _ h => ?_)
          refine Y.blk (pc' := 47) (L' := [some (.ref x0), some (.int x1), some (.int x2), some (.ref x3), some (.int (x4 + (nI 1)))]) (st' := []) (sg := [(.iinc 4 1, nI 1)]) (lSa_ok dd11) rfl ?_
          refine Y.goto (off := -39) (tgt := 8) (lIa_ok dd12) (by decide) ?_
          exact ih G9 x0 x1 x2 x3 (x4 + (nI 1)) h
      · refine Y.blk (pc' := 30) (L' := [some (.ref x0), some (.int x1), some (.int x2), some (.ref x3), some (.int x4)]) (st' := [.int (nI 1), .int x4, .ref x3]) (sg := [(.iconst 1, nI 1)]) (lSa_ok dd14) rfl ?_
        refine Y.goto (off := 4) (tgt := 34) (lIa_ok dd15) (by decide) ?_
        refine Y.blk (pc' := 35) (L' := [some (.ref x0), some (.int x1), some (.int x2), some (.ref x3), some (.int x4)]) (st' := [.int x2, .int (nI 1), .int x4, .ref x3]) (sg := [(.iload_n 2, 0)]) (lSa_ok dd16) rfl ?_
        refine Y.ic_ne (off := 7) (tgt := 42) (lIa_ok dd7) (by decide) h (fun c13 h => ?_) (fun c13 h => ?_)
        · refine Y.blk (pc' := 39) (L' := [some (.ref x0), some (.int x1), some (.int x2), some (.ref x3), some (.int x4)]) (st' := [.int (nI 1), .int x4, .ref x3]) (sg := [(.iconst 1, nI 1)]) (lSa_ok dd8) rfl ?_
          refine Y.goto (off := 4) (tgt := 43) (lIa_ok dd9) (by decide) ?_
          refine Y.zast (t0 := 2) (lIa_ok dd10) rfl (by decide) h (fun G11 _ _ h => ?_)
          refine Y.blk (pc' := 47) (L' := [some (.ref x0), some (.int x1), some (.int x2), some (.ref x3), some (.int (x4 + (nI 1)))]) (st' := []) (sg := [(.iinc 4 1, nI 1)]) (lSa_ok dd11) rfl ?_
          refine Y.goto (off := -39) (tgt := 8) (lIa_ok dd12) (by decide) ?_
          exact ih G11 x0 x1 x2 x3 (x4 + (nI 1)) h
        · refine Y.blk (pc' := 43) (L' := [some (.ref x0), some (.int x1), some (.int x2), some (.ref x3), some (.int x4)]) (st' := [.int (nI 0), .int x4, .ref x3]) (sg := [(.iconst 0, nI 0)]) (lSa_ok dd13) rfl ?_
          refine Y.zast (t0 := 2) (lIa_ok dd10) rfl (by decide) h (fun G12 _ _ h => ?_)
          refine Y.blk (pc' := 47) (L' := [some (.ref x0), some (.int x1), some (.int x2), some (.ref x3), some (.int (x4 + (nI 1)))]) (st' := []) (sg := [(.iinc 4 1, nI 1)]) (lSa_ok dd11) rfl ?_
          refine Y.goto (off := -39) (tgt := 8) (lIa_ok dd12) (by decide) ?_
          exact ih G12 x0 x1 x2 x3 (x4 + (nI 1)) h
theorem k_M_keys {l : Launch} {D : va_G} {B : Nat} {O : State → Heap → Prop} (hV : zG l D B O) (G : gH) (a0 : Nat) (a1 : Int32) (a2 : Int32) : gMet (zVm l D B O) m_M_keys 14 [.ref a0, .int a1, .int a2] G (f_M_keys G a0 a1 a2) := by
  have hdd : lSa m_M_keys 0 [(.bipush 31, nI 31)] = true ∧ lSa m_M_keys 4 [(.astore_n 3, 0), (.iconst 0, nI 0), (.istore 4, 0)] = true ∧ lSa m_M_keys 50 [(.aload_n 3, 0)] = true ∧ lIa m_M_keys 51 (.areturn) 1 = true := by decide +kernel
  obtain ⟨dd0, dd1, dd2, dd3⟩ := hdd
  refine gMet.of (by decide +kernel) (Nat.le_of_ble_eq_true rfl) [some (.ref a0), some (.int a1), some (.int a2), none, none] (fun ls h => zEn_ok (n := 5) h) ?_
  intro o Gf h
  unfold f_M_keys at h
  refine Y.blk (pc' := 2) (L' := [some (.ref a0), some (.int a1), some (.int a2), none, none]) (st' := [.int (nI 31)]) (sg := [(.bipush 31, nI 31)]) (lSa_ok dd0) rfl ?_
  refine Y.newa (at_ := .boolean) (t0 := 2) ac_z rfl (by decide) rfl (by decide) (by decide +kernel) h (fun q1 G2 h => ?_)
  refine Y.blk (pc' := 8) (L' := [some (.ref a0), some (.int a1), some (.int a2), some (.ref q1), some (.int (nI 0))]) (st' := []) (sg := [(.astore_n 3, 0), (.iconst 0, nI 0), (.istore 4, 0)]) (lSa_ok dd1) rfl ?_
  refine k_M_keys_L8 hV _ ?_  zFu G2 a0 a1 a2 q1 (nI 0) h
  · intro G17 x16 h
    refine Y.blk (pc' := 51) (L' := [none, none, none, some (.ref x16), none]) (st' := [.ref x16]) (sg := [(.aload_n 3, 0)]) (lSa_ok dd2) rfl ?_
    exact Y.aret rfl (by first | exact Or.inl ⟨_, rfl⟩ | exact Or.inr ⟨_, rfl⟩) (lIa_ok dd3) h

def f_M_knock (G : gH) (a0 : Nat) : gR :=
  gPut G a0 6 0 (.int (nI 0)) fun G1 => gFI G1 a0 6 8 fun v2 => gPut G1 a0 6 8 (.int (v2 + (nI 1))) fun G3 => gFI G3 a0 6 8 fun v4 => rI v4 G3
theorem k_M_knock {l : Launch} {D : va_G} {B : Nat} {O : State → Heap → Prop} (hV : zG l D B O) (G : gH) (a0 : Nat) : gMet (zVm l D B O) m_M_knock 2 [.ref a0] G (f_M_knock G a0) := by
  have hdd : lSa m_M_knock 0 [(.aload_n 0, 0), (.iconst 0, nI 0)] = true ∧ lIa m_M_knock 2 (.putfield 32) 3 = true ∧ lSa m_M_knock 5 [(.aload_n 0, 0), (.dup, 0)] = true ∧ lIa m_M_knock 7 (.getfield 293) 3 = true ∧ lSa m_M_knock 10 [(.iconst 1, nI 1), (.iadd, 0)] = true ∧ lIa m_M_knock 12 (.putfield 293) 3 = true ∧ lSa m_M_knock 15 [(.aload_n 0, 0)] = true ∧ lIa m_M_knock 16 (.getfield 293) 3 = true ∧ lIa m_M_knock 19 (.ireturn) 1 = true := by decide +kernel
  refine lA8 hdd (fun dd0 dd1 dd2 dd3 dd4 dd5 dd6 dd7 hdd => ?_)
  have dd8 := hdd
  refine gMet.of (by decide +kernel) (Nat.le_of_ble_eq_true rfl) [some (.ref a0)] (fun ls h => zEn_ok (n := 1) h) ?_
  intro o Gf h
  unfold f_M_knock at h
  refine Y.blk (pc' := 2) (L' := [some (.ref a0)]) (st' := [.int (nI 0), .ref a0]) (sg := [(.aload_n 0, 0), (.iconst 0, nI 0)]) (lSa_ok dd0) rfl ?_
  refine Y.putf fl_M_32 (by decide) rfl rfl (lIa_ok dd1) h (fun G1 _ _ h => ?_)
  refine Y.blk (pc' := 7) (L' := [some (.ref a0)]) (st' := [.ref a0, .ref a0]) (sg := [(.aload_n 0, 0), (.dup, 0)]) (lSa_ok dd2) rfl ?_
  refine Y.getI fl_M_293 (lIa_ok dd3) h (fun v2 h => ?_)
  refine Y.blk (pc' := 12) (L' := [some (.ref a0)]) (st' := [.int (v2 + (nI 1)), .ref a0]) (sg := [(.iconst 1, nI 1), (.iadd, 0)]) (lSa_ok dd4) rfl ?_
  refine Y.putf fl_M_293 (by decide) rfl rfl (lIa_ok dd5) h (fun G3 _ _ h => ?_)
  refine Y.blk (pc' := 16) (L' := [some (.ref a0)]) (st' := [.ref a0]) (sg := [(.aload_n 0, 0)]) (lSa_ok dd6) rfl ?_
  refine Y.getI fl_M_293 (lIa_ok dd7) h (fun v4 h => ?_)
  exact Y.iret rfl (lIa_ok dd8) h

def f_M_last (G : gH) (a0 : Nat) (a1 : Int32) (a2 : Int32) : gR :=
  gOb G a0 6 fun o2 => bI (f_M_isNoList G a0 a1) fun v5 G4 => gOb G4 a0 6 fun o7 => bI (f_M_start G4 a0 v5 (nI 1)) fun v10 G9 => if v10 = 0 then (gOb G9 a0 6 fun o12 => bI (f_M_isNoKey G9 a0 a2) fun v15 G14 => gOb G14 a0 6 fun o17 => bI (f_M_refuse G14 a0 v15 (nI 2)) fun v20 G19 => if v20 = 0 then gOb G19 a0 6 fun o22 => bI (f_M_lastOf G19 a0 a1 a2) fun v25 G24 => rI v25 G24
    else rI (nI 0) G19)
  else rI (nI 0) G9
theorem k_M_last {l : Launch} {D : va_G} {B : Nat} {O : State → Heap → Prop} (hV : zG l D B O) (G : gH) (a0 : Nat) (a1 : Int32) (a2 : Int32) : gMet (zVm l D B O) m_M_last 14 [.ref a0, .int a1, .int a2] G (f_M_last G a0 a1 a2) := by
  have hdd : lSa m_M_last 0 [(.aload_n 0, 0), (.aload_n 0, 0), (.iload_n 1, 0)] = true ∧ lIa m_M_last 3 (.invokevirtual 110) 3 = true ∧ lSa m_M_last 6 [(.iconst 1, nI 1)] = true ∧ lIa m_M_last 7 (.invokevirtual 114) 3 = true ∧ lIa m_M_last 10 (.ifCond .ne 16) 3 = true ∧ lSa m_M_last 13 [(.aload_n 0, 0), (.aload_n 0, 0), (.iload_n 2, 0)] = true ∧ lIa m_M_last 16 (.invokevirtual 160) 3 = true ∧ lSa m_M_last 19 [(.iconst 2, nI 2)] = true ∧ lIa m_M_last 20 (.invokevirtual 36) 3 = true ∧ lIa m_M_last 23 (.ifCond .eq 7) 3 = true ∧ lSa m_M_last 30 [(.aload_n 0, 0), (.iload_n 1, 0), (.iload_n 2, 0)] = true ∧ lIa m_M_last 33 (.invokevirtual 226) 3 = true ∧ lIa m_M_last 36 (.ireturn) 1 = true ∧ lSa m_M_last 26 [(.iconst 0, nI 0)] = true ∧ lIa m_M_last 27 (.goto 9) 3 = true := by decide +kernel
  refine lA8 hdd (fun dd0 dd1 dd2 dd3 dd4 dd5 dd6 dd7 hdd => ?_)
  obtain ⟨dd8, dd9, dd10, dd11, dd12, dd13, dd14⟩ := hdd
  refine gMet.of (by decide +kernel) (Nat.le_of_ble_eq_true rfl) [some (.ref a0), some (.int a1), some (.int a2)] (fun ls h => zEn_ok (n := 3) h) ?_
  intro o Gf h
  unfold f_M_last at h
  refine Y.blk (pc' := 3) (L' := [some (.ref a0), some (.int a1), some (.int a2)]) (st' := [.int a1, .ref a0, .ref a0]) (sg := [(.aload_n 0, 0), (.aload_n 0, 0), (.iload_n 1, 0)]) (lSa_ok dd0) rfl ?_
  obtain ⟨_, o2, e1, m3, h⟩ := gOb_inv h
  refine Y.callI (yC.Vi (b := a0) (As := [.int a1]) (st := [.ref a0]) (r := ("PartlisterModel", T_M, 9)) hV.1 cb_M_isNoList lk_M_110 in_M_isNoList rfl se_M_isNoList (lIa_ok dd1) rfl rfl (Nat.le_of_ble_eq_true rfl) (by decide) e1 m3) (k_M_isNoList hV G a0 a1) h (fun v5 G4 _ h => ?_)
  refine Y.blk (pc' := 7) (L' := [some (.ref a0), some (.int a1), some (.int a2)]) (st' := [.int (nI 1), .int v5, .ref a0]) (sg := [(.iconst 1, nI 1)]) (lSa_ok dd2) rfl ?_
  obtain ⟨_, o7, e6, m8, h⟩ := gOb_inv h
  refine Y.callI (yC.Vi (b := a0) (As := [.int v5, .int (nI 1)]) (st := []) (r := ("PartlisterModel", T_M, 9)) hV.1 cb_M_start lk_M_114 in_M_start rfl se_M_start (lIa_ok dd3) rfl rfl (Nat.le_of_ble_eq_true rfl) (by decide) e6 m8) (k_M_start hV G4 a0 v5 (nI 1)) h (fun v10 G9 _ h => ?_)
  refine Y.if_ne (off := 16) (tgt := 26) (lIa_ok dd4) (by decide) h (fun c27 h => ?_) (fun c27 h => ?_)
  · refine Y.blk (pc' := 16) (L' := [some (.ref a0), some (.int a1), some (.int a2)]) (st' := [.int a2, .ref a0, .ref a0]) (sg := [(.aload_n 0, 0), (.aload_n 0, 0), (.iload_n 2, 0)]) (lSa_ok dd5) rfl ?_
    obtain ⟨_, o12, e11, m13, h⟩ := gOb_inv h
    refine Y.callI (yC.Vi (b := a0) (As := [.int a2]) (st := [.ref a0]) (r := ("PartlisterModel", T_M, 9)) hV.1 cb_M_isNoKey lk_M_160 in_M_isNoKey rfl se_M_isNoKey (lIa_ok dd6) rfl rfl (Nat.le_of_ble_eq_true rfl) (by decide) e11 m13) (k_M_isNoKey hV G9 a0 a2) h (fun v15 G14 _ h => ?_)
    refine Y.blk (pc' := 20) (L' := [some (.ref a0), some (.int a1), some (.int a2)]) (st' := [.int (nI 2), .int v15, .ref a0]) (sg := [(.iconst 2, nI 2)]) (lSa_ok dd7) rfl ?_
    obtain ⟨_, o17, e16, m18, h⟩ := gOb_inv h
    refine Y.callI (yC.Vi (b := a0) (As := [.int v15, .int (nI 2)]) (st := []) (r := ("PartlisterModel", T_M, 9)) hV.1 cb_M_refuse lk_M_36 in_M_refuse rfl se_M_refuse (lIa_ok dd8) rfl rfl (Nat.le_of_ble_eq_true rfl) (by decide) e16 m18) (k_M_refuse hV G14 a0 v15 (nI 2)) h (fun v20 G19 _ h => ?_)
    refine Y.if_eq (off := 7) (tgt := 30) (lIa_ok dd9) (by decide) h (fun c26 h => ?_) (fun c26 h => ?_)
    · refine Y.blk (pc' := 33) (L' := [some (.ref a0), some (.int a1), some (.int a2)]) (st' := [.int a2, .int a1, .ref a0]) (sg := [(.aload_n 0, 0), (.iload_n 1, 0), (.iload_n 2, 0)]) (lSa_ok dd10) rfl ?_
      obtain ⟨_, o22, e21, m23, h⟩ := gOb_inv h
      refine Y.callI (yC.Vi (b := a0) (As := [.int a1, .int a2]) (st := []) (r := ("PartlisterModel", T_M, 9)) hV.1 cb_M_lastOf lk_M_226 in_M_lastOf rfl se_M_lastOf (lIa_ok dd11) rfl rfl (Nat.le_of_ble_eq_true rfl) (by decide) e21 m23) (k_M_lastOf hV G19 a0 a1 a2) h (fun v25 G24 _ h => ?_)
      exact Y.iret rfl (lIa_ok dd12) h
    · refine Y.blk (pc' := 27) (L' := [some (.ref a0), some (.int a1), some (.int a2)]) (st' := [.int (nI 0)]) (sg := [(.iconst 0, nI 0)]) (lSa_ok dd13) rfl ?_
      refine Y.goto (off := 9) (tgt := 36) (lIa_ok dd14) (by decide) ?_
      exact Y.iret rfl (lIa_ok dd12) h
  · refine Y.blk (pc' := 27) (L' := [some (.ref a0), some (.int a1), some (.int a2)]) (st' := [.int (nI 0)]) (sg := [(.iconst 0, nI 0)]) (lSa_ok dd13) rfl ?_
    refine Y.goto (off := 9) (tgt := 36) (lIa_ok dd14) (by decide) ?_
    exact Y.iret rfl (lIa_ok dd12) h

def f_M_many (G : gH) (a0 : Nat) (a1 : Int32) (a2 : Int32) : gR :=
  gOb G a0 6 fun o2 => bI (f_M_isNoList G a0 a1) fun v5 G4 => gOb G4 a0 6 fun o7 => bI (f_M_start G4 a0 v5 (nI 1)) fun v10 G9 => if v10 = 0 then (gOb G9 a0 6 fun o12 => bI (f_M_isNoKey G9 a0 a2) fun v15 G14 => gOb G14 a0 6 fun o17 => bI (f_M_refuse G14 a0 v15 (nI 2)) fun v20 G19 => if v20 = 0 then gOb G19 a0 6 fun o22 => bI (f_M_manyOf G19 a0 a1 a2) fun v25 G24 => rI v25 G24
    else rI (nI 0) G19)
  else rI (nI 0) G9
theorem k_M_many {l : Launch} {D : va_G} {B : Nat} {O : State → Heap → Prop} (hV : zG l D B O) (G : gH) (a0 : Nat) (a1 : Int32) (a2 : Int32) : gMet (zVm l D B O) m_M_many 14 [.ref a0, .int a1, .int a2] G (f_M_many G a0 a1 a2) := by
  have hdd : lSa m_M_many 0 [(.aload_n 0, 0), (.aload_n 0, 0), (.iload_n 1, 0)] = true ∧ lIa m_M_many 3 (.invokevirtual 110) 3 = true ∧ lSa m_M_many 6 [(.iconst 1, nI 1)] = true ∧ lIa m_M_many 7 (.invokevirtual 114) 3 = true ∧ lIa m_M_many 10 (.ifCond .ne 16) 3 = true ∧ lSa m_M_many 13 [(.aload_n 0, 0), (.aload_n 0, 0), (.iload_n 2, 0)] = true ∧ lIa m_M_many 16 (.invokevirtual 160) 3 = true ∧ lSa m_M_many 19 [(.iconst 2, nI 2)] = true ∧ lIa m_M_many 20 (.invokevirtual 36) 3 = true ∧ lIa m_M_many 23 (.ifCond .eq 7) 3 = true ∧ lSa m_M_many 30 [(.aload_n 0, 0), (.iload_n 1, 0), (.iload_n 2, 0)] = true ∧ lIa m_M_many 33 (.invokevirtual 229) 3 = true ∧ lIa m_M_many 36 (.ireturn) 1 = true ∧ lSa m_M_many 26 [(.iconst 0, nI 0)] = true ∧ lIa m_M_many 27 (.goto 9) 3 = true := by decide +kernel
  refine lA8 hdd (fun dd0 dd1 dd2 dd3 dd4 dd5 dd6 dd7 hdd => ?_)
  obtain ⟨dd8, dd9, dd10, dd11, dd12, dd13, dd14⟩ := hdd
  refine gMet.of (by decide +kernel) (Nat.le_of_ble_eq_true rfl) [some (.ref a0), some (.int a1), some (.int a2)] (fun ls h => zEn_ok (n := 3) h) ?_
  intro o Gf h
  unfold f_M_many at h
  refine Y.blk (pc' := 3) (L' := [some (.ref a0), some (.int a1), some (.int a2)]) (st' := [.int a1, .ref a0, .ref a0]) (sg := [(.aload_n 0, 0), (.aload_n 0, 0), (.iload_n 1, 0)]) (lSa_ok dd0) rfl ?_
  obtain ⟨_, o2, e1, m3, h⟩ := gOb_inv h
  refine Y.callI (yC.Vi (b := a0) (As := [.int a1]) (st := [.ref a0]) (r := ("PartlisterModel", T_M, 9)) hV.1 cb_M_isNoList lk_M_110 in_M_isNoList rfl se_M_isNoList (lIa_ok dd1) rfl rfl (Nat.le_of_ble_eq_true rfl) (by decide) e1 m3) (k_M_isNoList hV G a0 a1) h (fun v5 G4 _ h => ?_)
  refine Y.blk (pc' := 7) (L' := [some (.ref a0), some (.int a1), some (.int a2)]) (st' := [.int (nI 1), .int v5, .ref a0]) (sg := [(.iconst 1, nI 1)]) (lSa_ok dd2) rfl ?_
  obtain ⟨_, o7, e6, m8, h⟩ := gOb_inv h
  refine Y.callI (yC.Vi (b := a0) (As := [.int v5, .int (nI 1)]) (st := []) (r := ("PartlisterModel", T_M, 9)) hV.1 cb_M_start lk_M_114 in_M_start rfl se_M_start (lIa_ok dd3) rfl rfl (Nat.le_of_ble_eq_true rfl) (by decide) e6 m8) (k_M_start hV G4 a0 v5 (nI 1)) h (fun v10 G9 _ h => ?_)
  refine Y.if_ne (off := 16) (tgt := 26) (lIa_ok dd4) (by decide) h (fun c27 h => ?_) (fun c27 h => ?_)
  · refine Y.blk (pc' := 16) (L' := [some (.ref a0), some (.int a1), some (.int a2)]) (st' := [.int a2, .ref a0, .ref a0]) (sg := [(.aload_n 0, 0), (.aload_n 0, 0), (.iload_n 2, 0)]) (lSa_ok dd5) rfl ?_
    obtain ⟨_, o12, e11, m13, h⟩ := gOb_inv h
    refine Y.callI (yC.Vi (b := a0) (As := [.int a2]) (st := [.ref a0]) (r := ("PartlisterModel", T_M, 9)) hV.1 cb_M_isNoKey lk_M_160 in_M_isNoKey rfl se_M_isNoKey (lIa_ok dd6) rfl rfl (Nat.le_of_ble_eq_true rfl) (by decide) e11 m13) (k_M_isNoKey hV G9 a0 a2) h (fun v15 G14 _ h => ?_)
    refine Y.blk (pc' := 20) (L' := [some (.ref a0), some (.int a1), some (.int a2)]) (st' := [.int (nI 2), .int v15, .ref a0]) (sg := [(.iconst 2, nI 2)]) (lSa_ok dd7) rfl ?_
    obtain ⟨_, o17, e16, m18, h⟩ := gOb_inv h
    refine Y.callI (yC.Vi (b := a0) (As := [.int v15, .int (nI 2)]) (st := []) (r := ("PartlisterModel", T_M, 9)) hV.1 cb_M_refuse lk_M_36 in_M_refuse rfl se_M_refuse (lIa_ok dd8) rfl rfl (Nat.le_of_ble_eq_true rfl) (by decide) e16 m18) (k_M_refuse hV G14 a0 v15 (nI 2)) h (fun v20 G19 _ h => ?_)
    refine Y.if_eq (off := 7) (tgt := 30) (lIa_ok dd9) (by decide) h (fun c26 h => ?_) (fun c26 h => ?_)
    · refine Y.blk (pc' := 33) (L' := [some (.ref a0), some (.int a1), some (.int a2)]) (st' := [.int a2, .int a1, .ref a0]) (sg := [(.aload_n 0, 0), (.iload_n 1, 0), (.iload_n 2, 0)]) (lSa_ok dd10) rfl ?_
      obtain ⟨_, o22, e21, m23, h⟩ := gOb_inv h
      refine Y.callI (yC.Vi (b := a0) (As := [.int a1, .int a2]) (st := []) (r := ("PartlisterModel", T_M, 9)) hV.1 cb_M_manyOf lk_M_229 in_M_manyOf rfl se_M_manyOf (lIa_ok dd11) rfl rfl (Nat.le_of_ble_eq_true rfl) (by decide) e21 m23) (k_M_manyOf hV G19 a0 a1 a2) h (fun v25 G24 _ h => ?_)
      exact Y.iret rfl (lIa_ok dd12) h
    · refine Y.blk (pc' := 27) (L' := [some (.ref a0), some (.int a1), some (.int a2)]) (st' := [.int (nI 0)]) (sg := [(.iconst 0, nI 0)]) (lSa_ok dd13) rfl ?_
      refine Y.goto (off := 9) (tgt := 36) (lIa_ok dd14) (by decide) ?_
      exact Y.iret rfl (lIa_ok dd12) h
  · refine Y.blk (pc' := 27) (L' := [some (.ref a0), some (.int a1), some (.int a2)]) (st' := [.int (nI 0)]) (sg := [(.iconst 0, nI 0)]) (lSa_ok dd13) rfl ?_
    refine Y.goto (off := 9) (tgt := 36) (lIa_ok dd14) (by decide) ?_
    exact Y.iret rfl (lIa_ok dd12) h

def f_M_move_L54 (w : Nat → Nat) (K91 : gH → Nat → Int32 → Int32 → gR) : Nat → gH → Nat → Int32 → Int32 → Nat → Int32 → Int32 → gR
  | 0, _, _, _, _, _, _, _ => none
  | n + 1, G, x0, x1, x2, x3, x4, x5 =>
    if x4 ≤ x5 then K91 G x0 x1 x4
    else bI (f_MA_floorMod G (x5 + x2) x4) fun v31 G30 => gOb G30 x3 9 fun o33 => bA (f_AL_get G30 x3 x5) fun v36 G35 => gCaA G35 v36 100 (gOb G35 x0 6 fun o38 => bA (f_M_write G35 x0 x1 v31 v36) fun v41 G40 => f_M_move_L54 w K91 n G40 x0 x1 x2 x3 x4 (x5 + (nI 1)))
def f_M_move (w : Nat → Nat) (G : gH) (a0 : Nat) (a1 : Int32) (a2 : Int32) : gR :=
  gOb G a0 6 fun o2 => bI (f_M_isNoList G a0 a1) fun v5 G4 => gOb G4 a0 6 fun o7 => bI (f_M_start G4 a0 v5 (nI 1)) fun v10 G9 => if v10 = 0 then (bI (f_M_isIn G9 a2 (-40) (nI 40)) fun v13 G12 => if v13 = 0 then (gOb G12 a0 6 fun o15 => bI (f_M_refuse G12 a0 (nI 1) (nI 2)) fun v18 G17 => if v18 = 0 then (gOb G17 a0 6 fun o20 => bA (f_M_copy w G17 a0 a1) fun v23 G22 => gOb G22 v23 9 fun o25 => bI (f_AL_size G22 v23) fun v28 G27 => f_M_move_L54 w (fun G46 x43 x44 x45 => if x45 = 0 then rI (-1) G46
          else gOb G46 x43 6 fun o48 => bA (f_M_at G46 x43 x44 (nI 0)) fun v51 G50 => gLd G50 v51 100 (nI 1) fun v52 => rI v52 G50) zFu G27 a0 a1 a2 v23 v28 (nI 0))
      else rI (nI 0) G17)
    else gOb G12 a0 6 fun o56 => bI (f_M_refuse G12 a0 (nI 0) (nI 2)) fun v59 G58 => if v59 = 0 then (gOb G58 a0 6 fun o61 => bA (f_M_copy w G58 a0 a1) fun v64 G63 => gOb G63 v64 9 fun o66 => bI (f_AL_size G63 v64) fun v69 G68 => f_M_move_L54 w (fun G73 x70 x71 x72 => if x72 = 0 then rI (-1) G73
          else gOb G73 x70 6 fun o75 => bA (f_M_at G73 x70 x71 (nI 0)) fun v78 G77 => gLd G77 v78 100 (nI 1) fun v79 => rI v79 G77) zFu G68 a0 a1 a2 v64 v69 (nI 0))
      else rI (nI 0) G58)
  else rI (nI 0) G9
theorem k_M_move_L54 {l : Launch} {D : va_G} {B : Nat} {O : State → Heap → Prop} {w : Nat → Nat} (hV : zGw l D B O w) {o : gO} {Gf : gH} (K91 : gH → Nat → Int32 → Int32 → gR) (hK91 : ∀ (G : gH) (x0 : Nat) (x1 : Int32) (x4 : Int32), K91 G x0 x1 x4 = some (o, Gf) → Y (zVm l D B O) m_M_move 14 o Gf 91 [some (.ref x0), some (.int x1), none, none, some (.int x4), none] [] G) : ∀ (n : Nat) (G : gH) (x0 : Nat) (x1 : Int32) (x2 : Int32) (x3 : Nat) (x4 : Int32) (x5 : Int32), f_M_move_L54 w K91 n G x0 x1 x2 x3 x4 x5 = some (o, Gf) → Y (zVm l D B O) m_M_move 14 o Gf 54 [some (.ref x0), some (.int x1), some (.int x2), some (.ref x3), some (.int x4), some (.int x5)] [] G := by
  have hdd : lSa m_M_move 54 [(.iload 5, 0), (.iload 4, 0)] = true ∧ lIa m_M_move 58 (.if_icmp .ge 33) 3 = true ∧ lSa m_M_move 61 [(.aload_n 0, 0), (.iload_n 1, 0), (.iload 5, 0), (.iload_n 2, 0), (.iadd, 0), (.iload 4, 0)] = true ∧ lIa m_M_move 69 (.invokestatic 192) 3 = true ∧ lSa m_M_move 72 [(.aload_n 3, 0), (.iload 5, 0)] = true ∧ lIa m_M_move 75 (.invokevirtual 57) 3 = true ∧ lIa m_M_move 78 (.checkcast 72) 3 = true ∧ lIa m_M_move 81 (.invokevirtual 150) 3 = true ∧ lSa m_M_move 84 [(.pop, 0), (.iinc 5 1, nI 1)] = true ∧ lIa m_M_move 88 (.goto (-34)) 3 = true := by decide +kernel
  refine lA8 hdd (fun dd0 dd1 dd2 dd3 dd4 dd5 dd6 dd7 hdd => ?_)
  obtain ⟨dd8, dd9⟩ := hdd
  intro n
  induction n with
  | zero => intro G x0 x1 x2 x3 x4 x5 h; cases h
  | succ n ih =>
    intro G x0 x1 x2 x3 x4 x5 h
    unfold f_M_move_L54 at h
    refine Y.blk (pc' := 58) (L' := [some (.ref x0), some (.int x1), some (.int x2), some (.ref x3), some (.int x4), some (.int x5)]) (st' := [.int x4, .int x5]) (sg := [(.iload 5, 0), (.iload 4, 0)]) (lSa_ok dd0) rfl ?_
    refine Y.ic_ge (off := 33) (tgt := 91) (lIa_ok dd1) (by decide) h (fun c42 h => ?_) (fun c42 h => ?_)
    · refine Y.less (L' := [some (.ref x0), some (.int x1), none, none, some (.int x4), none]) (zLe_some (zLe_some (zLe_none (zLe_none (zLe_some (zLe_none (zLe_nil))))))) ?_
      exact hK91 G x0 x1 x4 h
    · refine Y.blk (pc' := 69) (L' := [some (.ref x0), some (.int x1), some (.int x2), some (.ref x3), some (.int x4), some (.int x5)]) (st' := [.int x4, .int (x5 + x2), .int x1, .ref x0]) (sg := [(.aload_n 0, 0), (.iload_n 1, 0), (.iload 5, 0), (.iload_n 2, 0), (.iadd, 0), (.iload 4, 0)]) (lSa_ok dd2) rfl ?_
      refine Y.callI (yC.S (As := [.int (x5 + x2), .int x4]) (st := [.int x1, .ref x0]) hV.1.1 cb_MA_floorMod lk_M_192 st_MA_floorMod (lIa_ok dd3) rfl rfl (Nat.le_of_ble_eq_true rfl) (by decide)) (k_MA_floorMod hV.1 G (x5 + x2) x4) h (fun v31 G30 _ h => ?_)
      refine Y.blk (pc' := 75) (L' := [some (.ref x0), some (.int x1), some (.int x2), some (.ref x3), some (.int x4), some (.int x5)]) (st' := [.int x5, .ref x3, .int v31, .int x1, .ref x0]) (sg := [(.aload_n 3, 0), (.iload 5, 0)]) (lSa_ok dd4) rfl ?_
      obtain ⟨_, o33, e32, m34, h⟩ := gOb_inv h
      refine Y.callA (yC.Vi (b := x3) (As := [.int x5]) (st := [.int v31, .int x1, .ref x0]) (r := ("java/util/ArrayList", T_AL, 3)) hV.1.1 cb_AL_get lk_M_57 in_AL_get rfl se_AL_get (lIa_ok dd5) rfl rfl (Nat.le_of_ble_eq_true rfl) (by decide) e32 m34) (k_AL_get hV.1 G30 x3 x5) h (fun v36 G35 _ h => ?_)
      refine Y.castA (t0 := 0) (nm := "[I") (lIa_ok dd6) rfl (by decide) ck_M_72 h (fun h => ?_)
      obtain ⟨_, o38, e37, m39, h⟩ := gOb_inv h
      refine Y.callA (yC.Vi (b := x0) (As := [.int x1, .int v31, .ref v36]) (st := []) (r := ("PartlisterModel", T_M, 9)) hV.1.1 cb_M_write lk_M_150 in_M_write rfl se_M_write (lIa_ok dd7) rfl rfl (Nat.le_of_ble_eq_true rfl) (by decide) e37 m39) (k_M_write hV.1 G35 x0 x1 v31 v36) h (fun v41 G40 _ h => ?_)
      refine Y.blk (pc' := 88) (L' := [some (.ref x0), some (.int x1), some (.int x2), some (.ref x3), some (.int x4), some (.int (x5 + (nI 1)))]) (st' := []) (sg := [(.pop, 0), (.iinc 5 1, nI 1)]) (lSa_ok dd8) rfl ?_
      refine Y.goto (off := -34) (tgt := 54) (lIa_ok dd9) (by decide) ?_
      exact ih G40 x0 x1 x2 x3 x4 (x5 + (nI 1)) h
theorem k_M_move {l : Launch} {D : va_G} {B : Nat} {O : State → Heap → Prop} {w : Nat → Nat} (hV : zGw l D B O w) (G : gH) (a0 : Nat) (a1 : Int32) (a2 : Int32) : gMet (zVm l D B O) m_M_move 14 [.ref a0, .int a1, .int a2] G (f_M_move w G a0 a1 a2) := by
  have hdd : lSa m_M_move 0 [(.aload_n 0, 0), (.aload_n 0, 0), (.iload_n 1, 0)] = true ∧ lIa m_M_move 3 (.invokevirtual 110) 3 = true ∧ lSa m_M_move 6 [(.iconst 1, nI 1)] = true ∧ lIa m_M_move 7 (.invokevirtual 114) 3 = true ∧ lIa m_M_move 10 (.ifCond .ne 27) 3 = true ∧ lSa m_M_move 13 [(.aload_n 0, 0), (.iload_n 2, 0), (.bipush (-40), -40), (.bipush 40, nI 40)] = true ∧ lIa m_M_move 19 (.invokestatic 40) 3 = true ∧ lIa m_M_move 22 (.ifCond .ne 7) 3 = true ∧ lSa m_M_move 25 [(.iconst 1, nI 1)] = true ∧ lIa m_M_move 26 (.goto 4) 3 = true ∧ lSa m_M_move 30 [(.iconst 2, nI 2)] = true ∧ lIa m_M_move 31 (.invokevirtual 36) 3 = true ∧ lIa m_M_move 34 (.ifCond .eq 5) 3 = true ∧ lSa m_M_move 39 [(.aload_n 0, 0), (.iload_n 1, 0)] = true ∧ lIa m_M_move 41 (.invokevirtual 136) 3 = true ∧ lSa m_M_move 44 [(.astore_n 3, 0), (.aload_n 3, 0)] = true ∧ lIa m_M_move 46 (.invokevirtual 61) 3 = true ∧ lSa m_M_move 49 [(.istore 4, 0), (.iconst 0, nI 0), (.istore 5, 0)] = true ∧ lSa m_M_move 91 [(.iload 4, 0)] = true ∧ lIa m_M_move 93 (.ifCond .ne 7) 3 = true ∧ lSa m_M_move 96 [(.iconst (-1), -1)] = true ∧ lIa m_M_move 97 (.goto 11) 3 = true ∧ lIa m_M_move 108 (.ireturn) 1 = true ∧ lSa m_M_move 100 [(.aload_n 0, 0), (.iload_n 1, 0), (.iconst 0, nI 0)] = true ∧ lIa m_M_move 103 (.invokevirtual 132) 3 = true ∧ lSa m_M_move 106 [(.iconst 1, nI 1)] = true ∧ lIa m_M_move 107 (.iaload) 1 = true ∧ lSa m_M_move 37 [(.iconst 0, nI 0)] = true ∧ lIa m_M_move 38 (.ireturn) 1 = true ∧ lSa m_M_move 29 [(.iconst 0, nI 0), (.iconst 2, nI 2)] = true := by decide +kernel
  refine lA8 hdd (fun dd0 dd1 dd2 dd3 dd4 dd5 dd6 dd7 hdd => ?_)
  refine lA8 hdd (fun dd8 dd9 dd10 dd11 dd12 dd13 dd14 dd15 hdd => ?_)
  refine lA8 hdd (fun dd16 dd17 dd18 dd19 dd20 dd21 dd22 dd23 hdd => ?_)
  obtain ⟨dd24, dd25, dd26, dd27, dd28, dd29⟩ := hdd
  refine gMet.of (by decide +kernel) (Nat.le_of_ble_eq_true rfl) [some (.ref a0), some (.int a1), some (.int a2), none, none, none] (fun ls h => zEn_ok (n := 6) h) ?_
  intro o Gf h
  unfold f_M_move at h
  refine Y.blk (pc' := 3) (L' := [some (.ref a0), some (.int a1), some (.int a2), none, none, none]) (st' := [.int a1, .ref a0, .ref a0]) (sg := [(.aload_n 0, 0), (.aload_n 0, 0), (.iload_n 1, 0)]) (lSa_ok dd0) rfl ?_
  obtain ⟨_, o2, e1, m3, h⟩ := gOb_inv h
  refine Y.callI (yC.Vi (b := a0) (As := [.int a1]) (st := [.ref a0]) (r := ("PartlisterModel", T_M, 9)) hV.1.1 cb_M_isNoList lk_M_110 in_M_isNoList rfl se_M_isNoList (lIa_ok dd1) rfl rfl (Nat.le_of_ble_eq_true rfl) (by decide) e1 m3) (k_M_isNoList hV.1 G a0 a1) h (fun v5 G4 _ h => ?_)
  refine Y.blk (pc' := 7) (L' := [some (.ref a0), some (.int a1), some (.int a2), none, none, none]) (st' := [.int (nI 1), .int v5, .ref a0]) (sg := [(.iconst 1, nI 1)]) (lSa_ok dd2) rfl ?_
  obtain ⟨_, o7, e6, m8, h⟩ := gOb_inv h
  refine Y.callI (yC.Vi (b := a0) (As := [.int v5, .int (nI 1)]) (st := []) (r := ("PartlisterModel", T_M, 9)) hV.1.1 cb_M_start lk_M_114 in_M_start rfl se_M_start (lIa_ok dd3) rfl rfl (Nat.le_of_ble_eq_true rfl) (by decide) e6 m8) (k_M_start hV.1 G4 a0 v5 (nI 1)) h (fun v10 G9 _ h => ?_)
  refine Y.if_ne (off := 27) (tgt := 37) (lIa_ok dd4) (by decide) h (fun c83 h => ?_) (fun c83 h => ?_)
  · refine Y.blk (pc' := 19) (L' := [some (.ref a0), some (.int a1), some (.int a2), none, none, none]) (st' := [.int (nI 40), .int (-40), .int a2, .ref a0]) (sg := [(.aload_n 0, 0), (.iload_n 2, 0), (.bipush (-40), -40), (.bipush 40, nI 40)]) (lSa_ok dd5) rfl ?_
    refine Y.callI (yC.S (As := [.int a2, .int (-40), .int (nI 40)]) (st := [.ref a0]) hV.1.1 cb_M_isIn lk_M_40 st_M_isIn (lIa_ok dd6) rfl rfl (Nat.le_of_ble_eq_true rfl) (by decide)) (k_M_isIn hV.1 G9 a2 (-40) (nI 40)) h (fun v13 G12 _ h => ?_)
    refine Y.if_ne (off := 7) (tgt := 29) (lIa_ok dd7) (by decide) h (fun c82 h => ?_) (fun c82 h => ?_)
    · refine Y.blk (pc' := 26) (L' := [some (.ref a0), some (.int a1), some (.int a2), none, none, none]) (st' := [.int (nI 1), .ref a0]) (sg := [(.iconst 1, nI 1)]) (lSa_ok dd8) rfl ?_
      refine Y.goto (off := 4) (tgt := 30) (lIa_ok dd9) (by decide) ?_
      refine Y.blk (pc' := 31) (L' := [some (.ref a0), some (.int a1), some (.int a2), none, none, none]) (st' := [.int (nI 2), .int (nI 1), .ref a0]) (sg := [(.iconst 2, nI 2)]) (lSa_ok dd10) rfl ?_
      obtain ⟨_, o15, e14, m16, h⟩ := gOb_inv h
      refine Y.callI (yC.Vi (b := a0) (As := [.int (nI 1), .int (nI 2)]) (st := []) (r := ("PartlisterModel", T_M, 9)) hV.1.1 cb_M_refuse lk_M_36 in_M_refuse rfl se_M_refuse (lIa_ok dd11) rfl rfl (Nat.le_of_ble_eq_true rfl) (by decide) e14 m16) (k_M_refuse hV.1 G12 a0 (nI 1) (nI 2)) h (fun v18 G17 _ h => ?_)
      refine Y.if_eq (off := 5) (tgt := 39) (lIa_ok dd12) (by decide) h (fun c54 h => ?_) (fun c54 h => ?_)
      · refine Y.blk (pc' := 41) (L' := [some (.ref a0), some (.int a1), some (.int a2), none, none, none]) (st' := [.int a1, .ref a0]) (sg := [(.aload_n 0, 0), (.iload_n 1, 0)]) (lSa_ok dd13) rfl ?_
        obtain ⟨_, o20, e19, m21, h⟩ := gOb_inv h
        refine Y.callA (yC.Vi (b := a0) (As := [.int a1]) (st := []) (r := ("PartlisterModel", T_M, 9)) hV.1.1 cb_M_copy lk_M_136 in_M_copy rfl se_M_copy (lIa_ok dd14) rfl rfl (Nat.le_of_ble_eq_true rfl) (by decide) e19 m21) (k_M_copy hV G17 a0 a1) h (fun v23 G22 _ h => ?_)
        refine Y.blk (pc' := 46) (L' := [some (.ref a0), some (.int a1), some (.int a2), some (.ref v23), none, none]) (st' := [.ref v23]) (sg := [(.astore_n 3, 0), (.aload_n 3, 0)]) (lSa_ok dd15) rfl ?_
        obtain ⟨_, o25, e24, m26, h⟩ := gOb_inv h
        refine Y.callI (yC.Vi (b := v23) (As := []) (st := []) (r := ("java/util/ArrayList", T_AL, 3)) hV.1.1 cb_AL_size lk_M_61 in_AL_size rfl se_AL_size (lIa_ok dd16) rfl rfl (Nat.le_of_ble_eq_true rfl) (by decide) e24 m26) (k_AL_size hV.1 G22 v23) h (fun v28 G27 _ h => ?_)
        refine Y.blk (pc' := 54) (L' := [some (.ref a0), some (.int a1), some (.int a2), some (.ref v23), some (.int v28), some (.int (nI 0))]) (st' := []) (sg := [(.istore 4, 0), (.iconst 0, nI 0), (.istore 5, 0)]) (lSa_ok dd17) rfl ?_
        refine k_M_move_L54 hV _ ?_  zFu G27 a0 a1 a2 v23 v28 (nI 0) h
        · intro G46 x43 x44 x45 h
          refine Y.blk (pc' := 93) (L' := [some (.ref x43), some (.int x44), none, none, some (.int x45), none]) (st' := [.int x45]) (sg := [(.iload 4, 0)]) (lSa_ok dd18) rfl ?_
          refine Y.if_ne (off := 7) (tgt := 100) (lIa_ok dd19) (by decide) h (fun c53 h => ?_) (fun c53 h => ?_)
          · refine Y.blk (pc' := 97) (L' := [some (.ref x43), some (.int x44), none, none, some (.int x45), none]) (st' := [.int (-1)]) (sg := [(.iconst (-1), -1)]) (lSa_ok dd20) rfl ?_
            refine Y.goto (off := 11) (tgt := 108) (lIa_ok dd21) (by decide) ?_
            exact Y.iret rfl (lIa_ok dd22) h
          · refine Y.blk (pc' := 103) (L' := [some (.ref x43), some (.int x44), none, none, some (.int x45), none]) (st' := [.int (nI 0), .int x44, .ref x43]) (sg := [(.aload_n 0, 0), (.iload_n 1, 0), (.iconst 0, nI 0)]) (lSa_ok dd23) rfl ?_
            obtain ⟨_, o48, e47, m49, h⟩ := gOb_inv h
            refine Y.callA (yC.Vi (b := x43) (As := [.int x44, .int (nI 0)]) (st := []) (r := ("PartlisterModel", T_M, 9)) hV.1.1 cb_M_at lk_M_132 in_M_at rfl se_M_at (lIa_ok dd24) rfl rfl (Nat.le_of_ble_eq_true rfl) (by decide) e47 m49) (k_M_at hV.1 G46 x43 x44 (nI 0)) h (fun v51 G50 _ h => ?_)
            refine Y.blk (pc' := 107) (L' := [some (.ref x43), some (.int x44), none, none, some (.int x45), none]) (st' := [.int (nI 1), .ref v51]) (sg := [(.iconst 1, nI 1)]) (lSa_ok dd25) rfl ?_
            refine Y.iald (t0 := 0) (lIa_ok dd26) rfl h (fun v52 h => ?_)
            exact Y.iret rfl (lIa_ok dd22) h
      · refine Y.blk (pc' := 38) (L' := [some (.ref a0), some (.int a1), some (.int a2), none, none, none]) (st' := [.int (nI 0)]) (sg := [(.iconst 0, nI 0)]) (lSa_ok dd27) rfl ?_
        exact Y.iret rfl (lIa_ok dd28) h
    · refine Y.blk (pc' := 31) (L' := [some (.ref a0), some (.int a1), some (.int a2), none, none, none]) (st' := [.int (nI 2), .int (nI 0), .ref a0]) (sg := [(.iconst 0, nI 0), (.iconst 2, nI 2)]) (lSa_ok dd29) rfl ?_
      obtain ⟨_, o56, e55, m57, h⟩ := gOb_inv h
      refine Y.callI (yC.Vi (b := a0) (As := [.int (nI 0), .int (nI 2)]) (st := []) (r := ("PartlisterModel", T_M, 9)) hV.1.1 cb_M_refuse lk_M_36 in_M_refuse rfl se_M_refuse (lIa_ok dd11) rfl rfl (Nat.le_of_ble_eq_true rfl) (by decide) e55 m57) (k_M_refuse hV.1 G12 a0 (nI 0) (nI 2)) h (fun v59 G58 _ h => ?_)
      refine Y.if_eq (off := 5) (tgt := 39) (lIa_ok dd12) (by decide) h (fun c81 h => ?_) (fun c81 h => ?_)
      · refine Y.blk (pc' := 41) (L' := [some (.ref a0), some (.int a1), some (.int a2), none, none, none]) (st' := [.int a1, .ref a0]) (sg := [(.aload_n 0, 0), (.iload_n 1, 0)]) (lSa_ok dd13) rfl ?_
        obtain ⟨_, o61, e60, m62, h⟩ := gOb_inv h
        refine Y.callA (yC.Vi (b := a0) (As := [.int a1]) (st := []) (r := ("PartlisterModel", T_M, 9)) hV.1.1 cb_M_copy lk_M_136 in_M_copy rfl se_M_copy (lIa_ok dd14) rfl rfl (Nat.le_of_ble_eq_true rfl) (by decide) e60 m62) (k_M_copy hV G58 a0 a1) h (fun v64 G63 _ h => ?_)
        refine Y.blk (pc' := 46) (L' := [some (.ref a0), some (.int a1), some (.int a2), some (.ref v64), none, none]) (st' := [.ref v64]) (sg := [(.astore_n 3, 0), (.aload_n 3, 0)]) (lSa_ok dd15) rfl ?_
        obtain ⟨_, o66, e65, m67, h⟩ := gOb_inv h
        refine Y.callI (yC.Vi (b := v64) (As := []) (st := []) (r := ("java/util/ArrayList", T_AL, 3)) hV.1.1 cb_AL_size lk_M_61 in_AL_size rfl se_AL_size (lIa_ok dd16) rfl rfl (Nat.le_of_ble_eq_true rfl) (by decide) e65 m67) (k_AL_size hV.1 G63 v64) h (fun v69 G68 _ h => ?_)
        refine Y.blk (pc' := 54) (L' := [some (.ref a0), some (.int a1), some (.int a2), some (.ref v64), some (.int v69), some (.int (nI 0))]) (st' := []) (sg := [(.istore 4, 0), (.iconst 0, nI 0), (.istore 5, 0)]) (lSa_ok dd17) rfl ?_
        refine k_M_move_L54 hV _ ?_  zFu G68 a0 a1 a2 v64 v69 (nI 0) h
        · intro G73 x70 x71 x72 h
          refine Y.blk (pc' := 93) (L' := [some (.ref x70), some (.int x71), none, none, some (.int x72), none]) (st' := [.int x72]) (sg := [(.iload 4, 0)]) (lSa_ok dd18) rfl ?_
          refine Y.if_ne (off := 7) (tgt := 100) (lIa_ok dd19) (by decide) h (fun c80 h => ?_) (fun c80 h => ?_)
          · refine Y.blk (pc' := 97) (L' := [some (.ref x70), some (.int x71), none, none, some (.int x72), none]) (st' := [.int (-1)]) (sg := [(.iconst (-1), -1)]) (lSa_ok dd20) rfl ?_
            refine Y.goto (off := 11) (tgt := 108) (lIa_ok dd21) (by decide) ?_
            exact Y.iret rfl (lIa_ok dd22) h
          · refine Y.blk (pc' := 103) (L' := [some (.ref x70), some (.int x71), none, none, some (.int x72), none]) (st' := [.int (nI 0), .int x71, .ref x70]) (sg := [(.aload_n 0, 0), (.iload_n 1, 0), (.iconst 0, nI 0)]) (lSa_ok dd23) rfl ?_
            obtain ⟨_, o75, e74, m76, h⟩ := gOb_inv h
            refine Y.callA (yC.Vi (b := x70) (As := [.int x71, .int (nI 0)]) (st := []) (r := ("PartlisterModel", T_M, 9)) hV.1.1 cb_M_at lk_M_132 in_M_at rfl se_M_at (lIa_ok dd24) rfl rfl (Nat.le_of_ble_eq_true rfl) (by decide) e74 m76) (k_M_at hV.1 G73 x70 x71 (nI 0)) h (fun v78 G77 _ h => ?_)
            refine Y.blk (pc' := 107) (L' := [some (.ref x70), some (.int x71), none, none, some (.int x72), none]) (st' := [.int (nI 1), .ref v78]) (sg := [(.iconst 1, nI 1)]) (lSa_ok dd25) rfl ?_
            refine Y.iald (t0 := 0) (lIa_ok dd26) rfl h (fun v79 h => ?_)
            exact Y.iret rfl (lIa_ok dd22) h
      · refine Y.blk (pc' := 38) (L' := [some (.ref a0), some (.int a1), some (.int a2), none, none, none]) (st' := [.int (nI 0)]) (sg := [(.iconst 0, nI 0)]) (lSa_ok dd27) rfl ?_
        exact Y.iret rfl (lIa_ok dd28) h
  · refine Y.blk (pc' := 38) (L' := [some (.ref a0), some (.int a1), some (.int a2), none, none, none]) (st' := [.int (nI 0)]) (sg := [(.iconst 0, nI 0)]) (lSa_ok dd27) rfl ?_
    exact Y.iret rfl (lIa_ok dd28) h
end
section
def f_M_next (G : gH) (a0 : Nat) (a1 : Int32) : gR :=
  gOb G a0 6 fun o2 => bI (f_M_isNoCursor G a0 a1) fun v5 G4 => gOb G4 a0 6 fun o7 => bI (f_M_start G4 a0 v5 (nI 1)) fun v10 G9 => if v10 = 0 then (gFA G9 a0 6 3 fun v11 => gLdq G9 v11 105 a1 (none) fun v12 => gFI G9 v12 4 3 fun v13 => if v13 = 0 then (gFI G9 v12 4 1 fun v14 => gFI G9 v12 4 0 fun v15 => gOb G9 a0 6 fun o17 => bI (f_M_length G9 a0 v15) fun v20 G19 => if v14 = v20 then gOb G19 a0 6 fun o22 => bI (f_M_fault G19 a0 (-8)) fun v25 G24 => rI v25 G24
        else gFI G19 v12 4 1 fun v26 => gPut G19 v12 4 2 (.int v26) fun G27 => gFI G27 v12 4 1 fun v28 => gPut G27 v12 4 1 (.int (v28 + (nI 1))) fun G29 => gFI G29 v12 4 0 fun v30 => gFI G29 v12 4 2 fun v31 => gOb G29 a0 6 fun o33 => bA (f_M_at G29 a0 v30 v31) fun v36 G35 => gLd G35 v36 100 (nI 1) fun v37 => rI v37 G35)
      else gOb G9 a0 6 fun o40 => bI (f_M_fault G9 a0 (-9)) fun v43 G42 => rI v43 G42)
  else rI (nI 0) G9
theorem k_M_next {l : Launch} {D : va_G} {B : Nat} {O : State → Heap → Prop} (hV : zG l D B O) (G : gH) (a0 : Nat) (a1 : Int32) : gMet (zVm l D B O) m_M_next 13 [.ref a0, .int a1] G (f_M_next G a0 a1) := by
  have hdd : lSa m_M_next 0 [(.aload_n 0, 0), (.aload_n 0, 0), (.iload_n 1, 0)] = true ∧ lIa m_M_next 3 (.invokevirtual 214) 3 = true ∧ lSa m_M_next 6 [(.iconst 1, nI 1)] = true ∧ lIa m_M_next 7 (.invokevirtual 114) 3 = true ∧ lIa m_M_next 10 (.ifCond .eq 5) 3 = true ∧ lSa m_M_next 15 [(.aload_n 0, 0)] = true ∧ lIa m_M_next 16 (.getfield 24) 3 = true ∧ lSa m_M_next 19 [(.iload_n 1, 0)] = true ∧ lIa m_M_next 20 (.aaload) 1 = true ∧ lSa m_M_next 21 [(.astore_n 2, 0), (.aload_n 2, 0)] = true ∧ lIa m_M_next 23 (.getfield 99) 3 = true ∧ lIa m_M_next 26 (.ifCond .eq 10) 3 = true ∧ lSa m_M_next 36 [(.aload_n 2, 0)] = true ∧ lIa m_M_next 37 (.getfield 208) 3 = true ∧ lSa m_M_next 40 [(.aload_n 0, 0), (.aload_n 2, 0)] = true ∧ lIa m_M_next 42 (.getfield 89) 3 = true ∧ lIa m_M_next 45 (.invokevirtual 74) 3 = true ∧ lIa m_M_next 48 (.if_icmp .ne 10) 3 = true ∧ lSa m_M_next 51 [(.aload_n 0, 0), (.bipush (-8), -8)] = true ∧ lIa m_M_next 54 (.invokevirtual 217) 3 = true ∧ lIa m_M_next 57 (.ireturn) 1 = true ∧ lSa m_M_next 58 [(.aload_n 2, 0), (.aload_n 2, 0)] = true ∧ lIa m_M_next 60 (.getfield 208) 3 = true ∧ lIa m_M_next 63 (.putfield 220) 3 = true ∧ lSa m_M_next 66 [(.aload_n 2, 0), (.dup, 0)] = true ∧ lIa m_M_next 68 (.getfield 208) 3 = true ∧ lSa m_M_next 71 [(.iconst 1, nI 1), (.iadd, 0)] = true ∧ lIa m_M_next 73 (.putfield 208) 3 = true ∧ lSa m_M_next 76 [(.aload_n 0, 0), (.aload_n 2, 0)] = true ∧ lIa m_M_next 78 (.getfield 89) 3 = true ∧ lSa m_M_next 81 [(.aload_n 2, 0)] = true ∧ lIa m_M_next 82 (.getfield 220) 3 = true ∧ lIa m_M_next 85 (.invokevirtual 132) 3 = true ∧ lSa m_M_next 88 [(.iconst 1, nI 1)] = true ∧ lIa m_M_next 89 (.iaload) 1 = true ∧ lIa m_M_next 90 (.ireturn) 1 = true ∧ lSa m_M_next 29 [(.aload_n 0, 0), (.bipush (-9), -9)] = true ∧ lIa m_M_next 32 (.invokevirtual 217) 3 = true ∧ lIa m_M_next 35 (.ireturn) 1 = true ∧ lSa m_M_next 13 [(.iconst 0, nI 0)] = true ∧ lIa m_M_next 14 (.ireturn) 1 = true := by decide +kernel
  refine lA8 hdd (fun dd0 dd1 dd2 dd3 dd4 dd5 dd6 dd7 hdd => ?_)
  refine lA8 hdd (fun dd8 dd9 dd10 dd11 dd12 dd13 dd14 dd15 hdd => ?_)
  refine lA8 hdd (fun dd16 dd17 dd18 dd19 dd20 dd21 dd22 dd23 hdd => ?_)
  refine lA8 hdd (fun dd24 dd25 dd26 dd27 dd28 dd29 dd30 dd31 hdd => ?_)
  refine lA8 hdd (fun dd32 dd33 dd34 dd35 dd36 dd37 dd38 dd39 hdd => ?_)
  have dd40 := hdd
  refine gMet.of (by decide +kernel) (Nat.le_of_ble_eq_true rfl) [some (.ref a0), some (.int a1), none] (fun ls h => zEn_ok (n := 3) h) ?_
  intro o Gf h
  unfold f_M_next at h
  refine Y.blk (pc' := 3) (L' := [some (.ref a0), some (.int a1), none]) (st' := [.int a1, .ref a0, .ref a0]) (sg := [(.aload_n 0, 0), (.aload_n 0, 0), (.iload_n 1, 0)]) (lSa_ok dd0) rfl ?_
  obtain ⟨_, o2, e1, m3, h⟩ := gOb_inv h
  refine Y.callI (yC.Vi (b := a0) (As := [.int a1]) (st := [.ref a0]) (r := ("PartlisterModel", T_M, 9)) hV.1 cb_M_isNoCursor lk_M_214 in_M_isNoCursor rfl se_M_isNoCursor (lIa_ok dd1) rfl rfl (Nat.le_of_ble_eq_true rfl) (by decide) e1 m3) (k_M_isNoCursor hV G a0 a1) h (fun v5 G4 _ h => ?_)
  refine Y.blk (pc' := 7) (L' := [some (.ref a0), some (.int a1), none]) (st' := [.int (nI 1), .int v5, .ref a0]) (sg := [(.iconst 1, nI 1)]) (lSa_ok dd2) rfl ?_
  obtain ⟨_, o7, e6, m8, h⟩ := gOb_inv h
  refine Y.callI (yC.Vi (b := a0) (As := [.int v5, .int (nI 1)]) (st := []) (r := ("PartlisterModel", T_M, 9)) hV.1 cb_M_start lk_M_114 in_M_start rfl se_M_start (lIa_ok dd3) rfl rfl (Nat.le_of_ble_eq_true rfl) (by decide) e6 m8) (k_M_start hV G4 a0 v5 (nI 1)) h (fun v10 G9 _ h => ?_)
  refine Y.if_eq (off := 5) (tgt := 15) (lIa_ok dd4) (by decide) h (fun c45 h => ?_) (fun c45 h => ?_)
  · refine Y.blk (pc' := 16) (L' := [some (.ref a0), some (.int a1), none]) (st' := [.ref a0]) (sg := [(.aload_n 0, 0)]) (lSa_ok dd5) rfl ?_
    refine Y.getA fl_M_24 (lIa_ok dd6) h (fun v11 h => ?_)
    refine Y.blk (pc' := 20) (L' := [some (.ref a0), some (.int a1), none]) (st' := [.int a1, .ref v11]) (sg := [(.iload_n 1, 0)]) (lSa_ok dd7) rfl ?_
    refine Y.aald (t0 := 5) (lIa_ok dd8) rfl h (fun h => ?_) (fun v12 h => ?_)
    · refine Y.blk (pc' := 23) (L' := [some (.ref a0), some (.int a1), some (.null)]) (st' := [.null]) (sg := [(.astore_n 2, 0), (.aload_n 2, 0)]) (lSa_ok dd9) rfl ?_
      cases h
    · refine Y.blk (pc' := 23) (L' := [some (.ref a0), some (.int a1), some (.ref v12)]) (st' := [.ref v12]) (sg := [(.astore_n 2, 0), (.aload_n 2, 0)]) (lSa_ok dd9) rfl ?_
      refine Y.getI fl_M_99 (lIa_ok dd10) h (fun v13 h => ?_)
      refine Y.if_eq (off := 10) (tgt := 36) (lIa_ok dd11) (by decide) h (fun c44 h => ?_) (fun c44 h => ?_)
      · refine Y.blk (pc' := 37) (L' := [some (.ref a0), some (.int a1), some (.ref v12)]) (st' := [.ref v12]) (sg := [(.aload_n 2, 0)]) (lSa_ok dd12) rfl ?_
        refine Y.getI fl_M_208 (lIa_ok dd13) h (fun v14 h => ?_)
        refine Y.blk (pc' := 42) (L' := [some (.ref a0), some (.int a1), some (.ref v12)]) (st' := [.ref v12, .ref a0, .int v14]) (sg := [(.aload_n 0, 0), (.aload_n 2, 0)]) (lSa_ok dd14) rfl ?_
        refine Y.getI fl_M_89 (lIa_ok dd15) h (fun v15 h => ?_)
        obtain ⟨_, o17, e16, m18, h⟩ := gOb_inv h
        refine Y.callI (yC.Vi (b := a0) (As := [.int v15]) (st := [.int v14]) (r := ("PartlisterModel", T_M, 9)) hV.1 cb_M_length lk_M_74 in_M_length rfl se_M_length (lIa_ok dd16) rfl rfl (Nat.le_of_ble_eq_true rfl) (by decide) e16 m18) (k_M_length hV G9 a0 v15) h (fun v20 G19 _ h => ?_)
        refine Y.ic_ne (off := 10) (tgt := 58) (lIa_ok dd17) (by decide) h (fun c38 h => ?_) (fun c38 h => ?_)
        · refine Y.blk (pc' := 54) (L' := [some (.ref a0), some (.int a1), some (.ref v12)]) (st' := [.int (-8), .ref a0]) (sg := [(.aload_n 0, 0), (.bipush (-8), -8)]) (lSa_ok dd18) rfl ?_
          obtain ⟨_, o22, e21, m23, h⟩ := gOb_inv h
          refine Y.callI (yC.Vi (b := a0) (As := [.int (-8)]) (st := []) (r := ("PartlisterModel", T_M, 9)) hV.1 cb_M_fault lk_M_217 in_M_fault rfl se_M_fault (lIa_ok dd19) rfl rfl (Nat.le_of_ble_eq_true rfl) (by decide) e21 m23) (k_M_fault hV G19 a0 (-8)) h (fun v25 G24 _ h => ?_)
          exact Y.iret rfl (lIa_ok dd20) h
        · refine Y.blk (pc' := 60) (L' := [some (.ref a0), some (.int a1), some (.ref v12)]) (st' := [.ref v12, .ref v12]) (sg := [(.aload_n 2, 0), (.aload_n 2, 0)]) (lSa_ok dd21) rfl ?_
          refine Y.getI fl_M_208 (lIa_ok dd22) h (fun v26 h => ?_)
          refine Y.putf fl_M_220 (by decide) rfl rfl (lIa_ok dd23) h (fun G27 _ _ h => ?_)
          refine Y.blk (pc' := 68) (L' := [some (.ref a0), some (.int a1), some (.ref v12)]) (st' := [.ref v12, .ref v12]) (sg := [(.aload_n 2, 0), (.dup, 0)]) (lSa_ok dd24) rfl ?_
          refine Y.getI fl_M_208 (lIa_ok dd25) h (fun v28 h => ?_)
          refine Y.blk (pc' := 73) (L' := [some (.ref a0), some (.int a1), some (.ref v12)]) (st' := [.int (v28 + (nI 1)), .ref v12]) (sg := [(.iconst 1, nI 1), (.iadd, 0)]) (lSa_ok dd26) rfl ?_
          refine Y.putf fl_M_208 (by decide) rfl rfl (lIa_ok dd27) h (fun G29 _ _ h => ?_)
          refine Y.blk (pc' := 78) (L' := [some (.ref a0), some (.int a1), some (.ref v12)]) (st' := [.ref v12, .ref a0]) (sg := [(.aload_n 0, 0), (.aload_n 2, 0)]) (lSa_ok dd28) rfl ?_
          refine Y.getI fl_M_89 (lIa_ok dd29) h (fun v30 h => ?_)
          refine Y.blk (pc' := 82) (L' := [some (.ref a0), some (.int a1), some (.ref v12)]) (st' := [.ref v12, .int v30, .ref a0]) (sg := [(.aload_n 2, 0)]) (lSa_ok dd30) rfl ?_
          refine Y.getI fl_M_220 (lIa_ok dd31) h (fun v31 h => ?_)
          obtain ⟨_, o33, e32, m34, h⟩ := gOb_inv h
          refine Y.callA (yC.Vi (b := a0) (As := [.int v30, .int v31]) (st := []) (r := ("PartlisterModel", T_M, 9)) hV.1 cb_M_at lk_M_132 in_M_at rfl se_M_at (lIa_ok dd32) rfl rfl (Nat.le_of_ble_eq_true rfl) (by decide) e32 m34) (k_M_at hV G29 a0 v30 v31) h (fun v36 G35 _ h => ?_)
          refine Y.blk (pc' := 89) (L' := [some (.ref a0), some (.int a1), some (.ref v12)]) (st' := [.int (nI 1), .ref v36]) (sg := [(.iconst 1, nI 1)]) (lSa_ok dd33) rfl ?_
          refine Y.iald (t0 := 0) (lIa_ok dd34) rfl h (fun v37 h => ?_)
          exact Y.iret rfl (lIa_ok dd35) h
      · refine Y.blk (pc' := 32) (L' := [some (.ref a0), some (.int a1), some (.ref v12)]) (st' := [.int (-9), .ref a0]) (sg := [(.aload_n 0, 0), (.bipush (-9), -9)]) (lSa_ok dd36) rfl ?_
        obtain ⟨_, o40, e39, m41, h⟩ := gOb_inv h
        refine Y.callI (yC.Vi (b := a0) (As := [.int (-9)]) (st := []) (r := ("PartlisterModel", T_M, 9)) hV.1 cb_M_fault lk_M_217 in_M_fault rfl se_M_fault (lIa_ok dd37) rfl rfl (Nat.le_of_ble_eq_true rfl) (by decide) e39 m41) (k_M_fault hV G9 a0 (-9)) h (fun v43 G42 _ h => ?_)
        exact Y.iret rfl (lIa_ok dd38) h
  · refine Y.blk (pc' := 14) (L' := [some (.ref a0), some (.int a1), none]) (st' := [.int (nI 0)]) (sg := [(.iconst 0, nI 0)]) (lSa_ok dd39) rfl ?_
    exact Y.iret rfl (lIa_ok dd40) h

def f_M_ofCursor (G : gH) (a0 : Nat) (a1 : Int32) (a2 : Int32) : gR :=
  bI (f_M_isIn G a1 (nI 0) (nI 2)) fun v3 G2 => if v3 = 0 then (gOb G2 a0 6 fun o5 => bI (f_M_start G2 a0 (nI 1) (nI 1)) fun v8 G7 => if v8 = 0 then (bI (f_M_isIn G7 a2 (nI 0) (nI 6)) fun v11 G10 => if v11 = 0 then (gOb G10 a0 6 fun o13 => bI (f_M_refuse G10 a0 (nI 1) (nI 2)) fun v16 G15 => if v16 = 0 then gOb G15 a0 6 fun o18 => bI (f_M_cursorTold G15 a0 a1 a2) fun v21 G20 => rI v21 G20
        else rI (nI 0) G15)
      else gOb G10 a0 6 fun o24 => bI (f_M_refuse G10 a0 (nI 0) (nI 2)) fun v27 G26 => if v27 = 0 then gOb G26 a0 6 fun o29 => bI (f_M_cursorTold G26 a0 a1 a2) fun v32 G31 => rI v32 G31
        else rI (nI 0) G26)
    else rI (nI 0) G7)
  else gOb G2 a0 6 fun o37 => bI (f_M_start G2 a0 (nI 0) (nI 1)) fun v40 G39 => if v40 = 0 then (bI (f_M_isIn G39 a2 (nI 0) (nI 6)) fun v43 G42 => if v43 = 0 then (gOb G42 a0 6 fun o45 => bI (f_M_refuse G42 a0 (nI 1) (nI 2)) fun v48 G47 => if v48 = 0 then gOb G47 a0 6 fun o50 => bI (f_M_cursorTold G47 a0 a1 a2) fun v53 G52 => rI v53 G52
        else rI (nI 0) G47)
      else gOb G42 a0 6 fun o56 => bI (f_M_refuse G42 a0 (nI 0) (nI 2)) fun v59 G58 => if v59 = 0 then gOb G58 a0 6 fun o61 => bI (f_M_cursorTold G58 a0 a1 a2) fun v64 G63 => rI v64 G63
        else rI (nI 0) G58)
    else rI (nI 0) G39
theorem k_M_ofCursor {l : Launch} {D : va_G} {B : Nat} {O : State → Heap → Prop} (hV : zG l D B O) (G : gH) (a0 : Nat) (a1 : Int32) (a2 : Int32) : gMet (zVm l D B O) m_M_ofCursor 7 [.ref a0, .int a1, .int a2] G (f_M_ofCursor G a0 a1 a2) := by
  have hdd : lSa m_M_ofCursor 0 [(.aload_n 0, 0), (.iload_n 1, 0), (.iconst 0, nI 0), (.iconst 2, nI 2)] = true ∧ lIa m_M_ofCursor 4 (.invokestatic 40) 3 = true ∧ lIa m_M_ofCursor 7 (.ifCond .ne 7) 3 = true ∧ lSa m_M_ofCursor 10 [(.iconst 1, nI 1)] = true ∧ lIa m_M_ofCursor 11 (.goto 4) 3 = true ∧ lSa m_M_ofCursor 15 [(.iconst 1, nI 1)] = true ∧ lIa m_M_ofCursor 16 (.invokevirtual 114) 3 = true ∧ lIa m_M_ofCursor 19 (.ifCond .ne 26) 3 = true ∧ lSa m_M_ofCursor 22 [(.aload_n 0, 0), (.iload_n 2, 0), (.iconst 0, nI 0), (.bipush 6, nI 6)] = true ∧ lIa m_M_ofCursor 27 (.invokestatic 40) 3 = true ∧ lIa m_M_ofCursor 30 (.ifCond .ne 7) 3 = true ∧ lSa m_M_ofCursor 33 [(.iconst 1, nI 1)] = true ∧ lIa m_M_ofCursor 34 (.goto 4) 3 = true ∧ lSa m_M_ofCursor 38 [(.iconst 2, nI 2)] = true ∧ lIa m_M_ofCursor 39 (.invokevirtual 36) 3 = true ∧ lIa m_M_ofCursor 42 (.ifCond .eq 7) 3 = true ∧ lSa m_M_ofCursor 49 [(.aload_n 0, 0), (.iload_n 1, 0), (.iload_n 2, 0)] = true ∧ lIa m_M_ofCursor 52 (.invokevirtual 290) 3 = true ∧ lIa m_M_ofCursor 55 (.ireturn) 1 = true ∧ lSa m_M_ofCursor 45 [(.iconst 0, nI 0)] = true ∧ lIa m_M_ofCursor 46 (.goto 9) 3 = true ∧ lSa m_M_ofCursor 37 [(.iconst 0, nI 0), (.iconst 2, nI 2)] = true ∧ lSa m_M_ofCursor 14 [(.iconst 0, nI 0), (.iconst 1, nI 1)] = true := by decide +kernel
  refine lA8 hdd (fun dd0 dd1 dd2 dd3 dd4 dd5 dd6 dd7 hdd => ?_)
  refine lA8 hdd (fun dd8 dd9 dd10 dd11 dd12 dd13 dd14 dd15 hdd => ?_)
  obtain ⟨dd16, dd17, dd18, dd19, dd20, dd21, dd22⟩ := hdd
  refine gMet.of (by decide +kernel) (Nat.le_of_ble_eq_true rfl) [some (.ref a0), some (.int a1), some (.int a2)] (fun ls h => zEn_ok (n := 3) h) ?_
  intro o Gf h
  unfold f_M_ofCursor at h
  refine Y.blk (pc' := 4) (L' := [some (.ref a0), some (.int a1), some (.int a2)]) (st' := [.int (nI 2), .int (nI 0), .int a1, .ref a0]) (sg := [(.aload_n 0, 0), (.iload_n 1, 0), (.iconst 0, nI 0), (.iconst 2, nI 2)]) (lSa_ok dd0) rfl ?_
  refine Y.callI (yC.S (As := [.int a1, .int (nI 0), .int (nI 2)]) (st := [.ref a0]) hV.1 cb_M_isIn lk_M_40 st_M_isIn (lIa_ok dd1) rfl rfl (Nat.le_of_ble_eq_true rfl) (by decide)) (k_M_isIn hV G a1 (nI 0) (nI 2)) h (fun v3 G2 _ h => ?_)
  refine Y.if_ne (off := 7) (tgt := 14) (lIa_ok dd2) (by decide) h (fun c68 h => ?_) (fun c68 h => ?_)
  · refine Y.blk (pc' := 11) (L' := [some (.ref a0), some (.int a1), some (.int a2)]) (st' := [.int (nI 1), .ref a0]) (sg := [(.iconst 1, nI 1)]) (lSa_ok dd3) rfl ?_
    refine Y.goto (off := 4) (tgt := 15) (lIa_ok dd4) (by decide) ?_
    refine Y.blk (pc' := 16) (L' := [some (.ref a0), some (.int a1), some (.int a2)]) (st' := [.int (nI 1), .int (nI 1), .ref a0]) (sg := [(.iconst 1, nI 1)]) (lSa_ok dd5) rfl ?_
    obtain ⟨_, o5, e4, m6, h⟩ := gOb_inv h
    refine Y.callI (yC.Vi (b := a0) (As := [.int (nI 1), .int (nI 1)]) (st := []) (r := ("PartlisterModel", T_M, 9)) hV.1 cb_M_start lk_M_114 in_M_start rfl se_M_start (lIa_ok dd6) rfl rfl (Nat.le_of_ble_eq_true rfl) (by decide) e4 m6) (k_M_start hV G2 a0 (nI 1) (nI 1)) h (fun v8 G7 _ h => ?_)
    refine Y.if_ne (off := 26) (tgt := 45) (lIa_ok dd7) (by decide) h (fun c35 h => ?_) (fun c35 h => ?_)
    · refine Y.blk (pc' := 27) (L' := [some (.ref a0), some (.int a1), some (.int a2)]) (st' := [.int (nI 6), .int (nI 0), .int a2, .ref a0]) (sg := [(.aload_n 0, 0), (.iload_n 2, 0), (.iconst 0, nI 0), (.bipush 6, nI 6)]) (lSa_ok dd8) rfl ?_
      refine Y.callI (yC.S (As := [.int a2, .int (nI 0), .int (nI 6)]) (st := [.ref a0]) hV.1 cb_M_isIn lk_M_40 st_M_isIn (lIa_ok dd9) rfl rfl (Nat.le_of_ble_eq_true rfl) (by decide)) (k_M_isIn hV G7 a2 (nI 0) (nI 6)) h (fun v11 G10 _ h => ?_)
      refine Y.if_ne (off := 7) (tgt := 37) (lIa_ok dd10) (by decide) h (fun c34 h => ?_) (fun c34 h => ?_)
      · refine Y.blk (pc' := 34) (L' := [some (.ref a0), some (.int a1), some (.int a2)]) (st' := [.int (nI 1), .ref a0]) (sg := [(.iconst 1, nI 1)]) (lSa_ok dd11) rfl ?_
        refine Y.goto (off := 4) (tgt := 38) (lIa_ok dd12) (by decide) ?_
        refine Y.blk (pc' := 39) (L' := [some (.ref a0), some (.int a1), some (.int a2)]) (st' := [.int (nI 2), .int (nI 1), .ref a0]) (sg := [(.iconst 2, nI 2)]) (lSa_ok dd13) rfl ?_
        obtain ⟨_, o13, e12, m14, h⟩ := gOb_inv h
        refine Y.callI (yC.Vi (b := a0) (As := [.int (nI 1), .int (nI 2)]) (st := []) (r := ("PartlisterModel", T_M, 9)) hV.1 cb_M_refuse lk_M_36 in_M_refuse rfl se_M_refuse (lIa_ok dd14) rfl rfl (Nat.le_of_ble_eq_true rfl) (by decide) e12 m14) (k_M_refuse hV G10 a0 (nI 1) (nI 2)) h (fun v16 G15 _ h => ?_)
        refine Y.if_eq (off := 7) (tgt := 49) (lIa_ok dd15) (by decide) h (fun c22 h => ?_) (fun c22 h => ?_)
        · refine Y.blk (pc' := 52) (L' := [some (.ref a0), some (.int a1), some (.int a2)]) (st' := [.int a2, .int a1, .ref a0]) (sg := [(.aload_n 0, 0), (.iload_n 1, 0), (.iload_n 2, 0)]) (lSa_ok dd16) rfl ?_
          obtain ⟨_, o18, e17, m19, h⟩ := gOb_inv h
          refine Y.callI (yC.Vi (b := a0) (As := [.int a1, .int a2]) (st := []) (r := ("PartlisterModel", T_M, 9)) hV.1 cb_M_cursorTold lk_M_290 in_M_cursorTold rfl se_M_cursorTold (lIa_ok dd17) rfl rfl (Nat.le_of_ble_eq_true rfl) (by decide) e17 m19) (k_M_cursorTold hV G15 a0 a1 a2) h (fun v21 G20 _ h => ?_)
          exact Y.iret rfl (lIa_ok dd18) h
        · refine Y.blk (pc' := 46) (L' := [some (.ref a0), some (.int a1), some (.int a2)]) (st' := [.int (nI 0)]) (sg := [(.iconst 0, nI 0)]) (lSa_ok dd19) rfl ?_
          refine Y.goto (off := 9) (tgt := 55) (lIa_ok dd20) (by decide) ?_
          exact Y.iret rfl (lIa_ok dd18) h
      · refine Y.blk (pc' := 39) (L' := [some (.ref a0), some (.int a1), some (.int a2)]) (st' := [.int (nI 2), .int (nI 0), .ref a0]) (sg := [(.iconst 0, nI 0), (.iconst 2, nI 2)]) (lSa_ok dd21) rfl ?_
        obtain ⟨_, o24, e23, m25, h⟩ := gOb_inv h
        refine Y.callI (yC.Vi (b := a0) (As := [.int (nI 0), .int (nI 2)]) (st := []) (r := ("PartlisterModel", T_M, 9)) hV.1 cb_M_refuse lk_M_36 in_M_refuse rfl se_M_refuse (lIa_ok dd14) rfl rfl (Nat.le_of_ble_eq_true rfl) (by decide) e23 m25) (k_M_refuse hV G10 a0 (nI 0) (nI 2)) h (fun v27 G26 _ h => ?_)
        refine Y.if_eq (off := 7) (tgt := 49) (lIa_ok dd15) (by decide) h (fun c33 h => ?_) (fun c33 h => ?_)
        · refine Y.blk (pc' := 52) (L' := [some (.ref a0), some (.int a1), some (.int a2)]) (st' := [.int a2, .int a1, .ref a0]) (sg := [(.aload_n 0, 0), (.iload_n 1, 0), (.iload_n 2, 0)]) (lSa_ok dd16) rfl ?_
          obtain ⟨_, o29, e28, m30, h⟩ := gOb_inv h
          refine Y.callI (yC.Vi (b := a0) (As := [.int a1, .int a2]) (st := []) (r := ("PartlisterModel", T_M, 9)) hV.1 cb_M_cursorTold lk_M_290 in_M_cursorTold rfl se_M_cursorTold (lIa_ok dd17) rfl rfl (Nat.le_of_ble_eq_true rfl) (by decide) e28 m30) (k_M_cursorTold hV G26 a0 a1 a2) h (fun v32 G31 _ h => ?_)
          exact Y.iret rfl (lIa_ok dd18) h
        · refine Y.blk (pc' := 46) (L' := [some (.ref a0), some (.int a1), some (.int a2)]) (st' := [.int (nI 0)]) (sg := [(.iconst 0, nI 0)]) (lSa_ok dd19) rfl ?_
          refine Y.goto (off := 9) (tgt := 55) (lIa_ok dd20) (by decide) ?_
          exact Y.iret rfl (lIa_ok dd18) h
    · refine Y.blk (pc' := 46) (L' := [some (.ref a0), some (.int a1), some (.int a2)]) (st' := [.int (nI 0)]) (sg := [(.iconst 0, nI 0)]) (lSa_ok dd19) rfl ?_
      refine Y.goto (off := 9) (tgt := 55) (lIa_ok dd20) (by decide) ?_
      exact Y.iret rfl (lIa_ok dd18) h
  · refine Y.blk (pc' := 16) (L' := [some (.ref a0), some (.int a1), some (.int a2)]) (st' := [.int (nI 1), .int (nI 0), .ref a0]) (sg := [(.iconst 0, nI 0), (.iconst 1, nI 1)]) (lSa_ok dd22) rfl ?_
    obtain ⟨_, o37, e36, m38, h⟩ := gOb_inv h
    refine Y.callI (yC.Vi (b := a0) (As := [.int (nI 0), .int (nI 1)]) (st := []) (r := ("PartlisterModel", T_M, 9)) hV.1 cb_M_start lk_M_114 in_M_start rfl se_M_start (lIa_ok dd6) rfl rfl (Nat.le_of_ble_eq_true rfl) (by decide) e36 m38) (k_M_start hV G2 a0 (nI 0) (nI 1)) h (fun v40 G39 _ h => ?_)
    refine Y.if_ne (off := 26) (tgt := 45) (lIa_ok dd7) (by decide) h (fun c67 h => ?_) (fun c67 h => ?_)
    · refine Y.blk (pc' := 27) (L' := [some (.ref a0), some (.int a1), some (.int a2)]) (st' := [.int (nI 6), .int (nI 0), .int a2, .ref a0]) (sg := [(.aload_n 0, 0), (.iload_n 2, 0), (.iconst 0, nI 0), (.bipush 6, nI 6)]) (lSa_ok dd8) rfl ?_
      refine Y.callI (yC.S (As := [.int a2, .int (nI 0), .int (nI 6)]) (st := [.ref a0]) hV.1 cb_M_isIn lk_M_40 st_M_isIn (lIa_ok dd9) rfl rfl (Nat.le_of_ble_eq_true rfl) (by decide)) (k_M_isIn hV G39 a2 (nI 0) (nI 6)) h (fun v43 G42 _ h => ?_)
      refine Y.if_ne (off := 7) (tgt := 37) (lIa_ok dd10) (by decide) h (fun c66 h => ?_) (fun c66 h => ?_)
      · refine Y.blk (pc' := 34) (L' := [some (.ref a0), some (.int a1), some (.int a2)]) (st' := [.int (nI 1), .ref a0]) (sg := [(.iconst 1, nI 1)]) (lSa_ok dd11) rfl ?_
        refine Y.goto (off := 4) (tgt := 38) (lIa_ok dd12) (by decide) ?_
        refine Y.blk (pc' := 39) (L' := [some (.ref a0), some (.int a1), some (.int a2)]) (st' := [.int (nI 2), .int (nI 1), .ref a0]) (sg := [(.iconst 2, nI 2)]) (lSa_ok dd13) rfl ?_
        obtain ⟨_, o45, e44, m46, h⟩ := gOb_inv h
        refine Y.callI (yC.Vi (b := a0) (As := [.int (nI 1), .int (nI 2)]) (st := []) (r := ("PartlisterModel", T_M, 9)) hV.1 cb_M_refuse lk_M_36 in_M_refuse rfl se_M_refuse (lIa_ok dd14) rfl rfl (Nat.le_of_ble_eq_true rfl) (by decide) e44 m46) (k_M_refuse hV G42 a0 (nI 1) (nI 2)) h (fun v48 G47 _ h => ?_)
        refine Y.if_eq (off := 7) (tgt := 49) (lIa_ok dd15) (by decide) h (fun c54 h => ?_) (fun c54 h => ?_)
        · refine Y.blk (pc' := 52) (L' := [some (.ref a0), some (.int a1), some (.int a2)]) (st' := [.int a2, .int a1, .ref a0]) (sg := [(.aload_n 0, 0), (.iload_n 1, 0), (.iload_n 2, 0)]) (lSa_ok dd16) rfl ?_
          obtain ⟨_, o50, e49, m51, h⟩ := gOb_inv h
          refine Y.callI (yC.Vi (b := a0) (As := [.int a1, .int a2]) (st := []) (r := ("PartlisterModel", T_M, 9)) hV.1 cb_M_cursorTold lk_M_290 in_M_cursorTold rfl se_M_cursorTold (lIa_ok dd17) rfl rfl (Nat.le_of_ble_eq_true rfl) (by decide) e49 m51) (k_M_cursorTold hV G47 a0 a1 a2) h (fun v53 G52 _ h => ?_)
          exact Y.iret rfl (lIa_ok dd18) h
        · refine Y.blk (pc' := 46) (L' := [some (.ref a0), some (.int a1), some (.int a2)]) (st' := [.int (nI 0)]) (sg := [(.iconst 0, nI 0)]) (lSa_ok dd19) rfl ?_
          refine Y.goto (off := 9) (tgt := 55) (lIa_ok dd20) (by decide) ?_
          exact Y.iret rfl (lIa_ok dd18) h
      · refine Y.blk (pc' := 39) (L' := [some (.ref a0), some (.int a1), some (.int a2)]) (st' := [.int (nI 2), .int (nI 0), .ref a0]) (sg := [(.iconst 0, nI 0), (.iconst 2, nI 2)]) (lSa_ok dd21) rfl ?_
        obtain ⟨_, o56, e55, m57, h⟩ := gOb_inv h
        refine Y.callI (yC.Vi (b := a0) (As := [.int (nI 0), .int (nI 2)]) (st := []) (r := ("PartlisterModel", T_M, 9)) hV.1 cb_M_refuse lk_M_36 in_M_refuse rfl se_M_refuse (lIa_ok dd14) rfl rfl (Nat.le_of_ble_eq_true rfl) (by decide) e55 m57) (k_M_refuse hV G42 a0 (nI 0) (nI 2)) h (fun v59 G58 _ h => ?_)
        refine Y.if_eq (off := 7) (tgt := 49) (lIa_ok dd15) (by decide) h (fun c65 h => ?_) (fun c65 h => ?_)
        · refine Y.blk (pc' := 52) (L' := [some (.ref a0), some (.int a1), some (.int a2)]) (st' := [.int a2, .int a1, .ref a0]) (sg := [(.aload_n 0, 0), (.iload_n 1, 0), (.iload_n 2, 0)]) (lSa_ok dd16) rfl ?_
          obtain ⟨_, o61, e60, m62, h⟩ := gOb_inv h
          refine Y.callI (yC.Vi (b := a0) (As := [.int a1, .int a2]) (st := []) (r := ("PartlisterModel", T_M, 9)) hV.1 cb_M_cursorTold lk_M_290 in_M_cursorTold rfl se_M_cursorTold (lIa_ok dd17) rfl rfl (Nat.le_of_ble_eq_true rfl) (by decide) e60 m62) (k_M_cursorTold hV G58 a0 a1 a2) h (fun v64 G63 _ h => ?_)
          exact Y.iret rfl (lIa_ok dd18) h
        · refine Y.blk (pc' := 46) (L' := [some (.ref a0), some (.int a1), some (.int a2)]) (st' := [.int (nI 0)]) (sg := [(.iconst 0, nI 0)]) (lSa_ok dd19) rfl ?_
          refine Y.goto (off := 9) (tgt := 55) (lIa_ok dd20) (by decide) ?_
          exact Y.iret rfl (lIa_ok dd18) h
    · refine Y.blk (pc' := 46) (L' := [some (.ref a0), some (.int a1), some (.int a2)]) (st' := [.int (nI 0)]) (sg := [(.iconst 0, nI 0)]) (lSa_ok dd19) rfl ?_
      refine Y.goto (off := 9) (tgt := 55) (lIa_ok dd20) (by decide) ?_
      exact Y.iret rfl (lIa_ok dd18) h

def f_M_ofPart (G : gH) (a0 : Nat) (a1 : Int32) (a2 : Int32) : gR :=
  gOb G a0 6 fun o2 => bI (f_M_isNoPart G a0 a1) fun v5 G4 => gOb G4 a0 6 fun o7 => bI (f_M_start G4 a0 v5 (nI 1)) fun v10 G9 => if v10 = 0 then (bI (f_M_isIn G9 a2 (nI 0) (nI 3)) fun v13 G12 => if v13 = 0 then (gOb G12 a0 6 fun o15 => bI (f_M_refuse G12 a0 (nI 1) (nI 2)) fun v18 G17 => if v18 = 0 then gOb G17 a0 6 fun o20 => bI (f_M_partTold G17 a0 a1 a2) fun v23 G22 => rI v23 G22
      else rI (nI 0) G17)
    else gOb G12 a0 6 fun o26 => bI (f_M_refuse G12 a0 (nI 0) (nI 2)) fun v29 G28 => if v29 = 0 then gOb G28 a0 6 fun o31 => bI (f_M_partTold G28 a0 a1 a2) fun v34 G33 => rI v34 G33
      else rI (nI 0) G28)
  else rI (nI 0) G9
theorem k_M_ofPart {l : Launch} {D : va_G} {B : Nat} {O : State → Heap → Prop} (hV : zG l D B O) (G : gH) (a0 : Nat) (a1 : Int32) (a2 : Int32) : gMet (zVm l D B O) m_M_ofPart 12 [.ref a0, .int a1, .int a2] G (f_M_ofPart G a0 a1 a2) := by
  have hdd : lSa m_M_ofPart 0 [(.aload_n 0, 0), (.aload_n 0, 0), (.iload_n 1, 0)] = true ∧ lIa m_M_ofPart 3 (.invokevirtual 201) 3 = true ∧ lSa m_M_ofPart 6 [(.iconst 1, nI 1)] = true ∧ lIa m_M_ofPart 7 (.invokevirtual 114) 3 = true ∧ lIa m_M_ofPart 10 (.ifCond .ne 25) 3 = true ∧ lSa m_M_ofPart 13 [(.aload_n 0, 0), (.iload_n 2, 0), (.iconst 0, nI 0), (.iconst 3, nI 3)] = true ∧ lIa m_M_ofPart 17 (.invokestatic 40) 3 = true ∧ lIa m_M_ofPart 20 (.ifCond .ne 7) 3 = true ∧ lSa m_M_ofPart 23 [(.iconst 1, nI 1)] = true ∧ lIa m_M_ofPart 24 (.goto 4) 3 = true ∧ lSa m_M_ofPart 28 [(.iconst 2, nI 2)] = true ∧ lIa m_M_ofPart 29 (.invokevirtual 36) 3 = true ∧ lIa m_M_ofPart 32 (.ifCond .eq 7) 3 = true ∧ lSa m_M_ofPart 39 [(.aload_n 0, 0), (.iload_n 1, 0), (.iload_n 2, 0)] = true ∧ lIa m_M_ofPart 42 (.invokevirtual 287) 3 = true ∧ lIa m_M_ofPart 45 (.ireturn) 1 = true ∧ lSa m_M_ofPart 35 [(.iconst 0, nI 0)] = true ∧ lIa m_M_ofPart 36 (.goto 9) 3 = true ∧ lSa m_M_ofPart 27 [(.iconst 0, nI 0), (.iconst 2, nI 2)] = true := by decide +kernel
  refine lA8 hdd (fun dd0 dd1 dd2 dd3 dd4 dd5 dd6 dd7 hdd => ?_)
  refine lA8 hdd (fun dd8 dd9 dd10 dd11 dd12 dd13 dd14 dd15 hdd => ?_)
  obtain ⟨dd16, dd17, dd18⟩ := hdd
  refine gMet.of (by decide +kernel) (Nat.le_of_ble_eq_true rfl) [some (.ref a0), some (.int a1), some (.int a2)] (fun ls h => zEn_ok (n := 3) h) ?_
  intro o Gf h
  unfold f_M_ofPart at h
  refine Y.blk (pc' := 3) (L' := [some (.ref a0), some (.int a1), some (.int a2)]) (st' := [.int a1, .ref a0, .ref a0]) (sg := [(.aload_n 0, 0), (.aload_n 0, 0), (.iload_n 1, 0)]) (lSa_ok dd0) rfl ?_
  obtain ⟨_, o2, e1, m3, h⟩ := gOb_inv h
  refine Y.callI (yC.Vi (b := a0) (As := [.int a1]) (st := [.ref a0]) (r := ("PartlisterModel", T_M, 9)) hV.1 cb_M_isNoPart lk_M_201 in_M_isNoPart rfl se_M_isNoPart (lIa_ok dd1) rfl rfl (Nat.le_of_ble_eq_true rfl) (by decide) e1 m3) (k_M_isNoPart hV G a0 a1) h (fun v5 G4 _ h => ?_)
  refine Y.blk (pc' := 7) (L' := [some (.ref a0), some (.int a1), some (.int a2)]) (st' := [.int (nI 1), .int v5, .ref a0]) (sg := [(.iconst 1, nI 1)]) (lSa_ok dd2) rfl ?_
  obtain ⟨_, o7, e6, m8, h⟩ := gOb_inv h
  refine Y.callI (yC.Vi (b := a0) (As := [.int v5, .int (nI 1)]) (st := []) (r := ("PartlisterModel", T_M, 9)) hV.1 cb_M_start lk_M_114 in_M_start rfl se_M_start (lIa_ok dd3) rfl rfl (Nat.le_of_ble_eq_true rfl) (by decide) e6 m8) (k_M_start hV G4 a0 v5 (nI 1)) h (fun v10 G9 _ h => ?_)
  refine Y.if_ne (off := 25) (tgt := 35) (lIa_ok dd4) (by decide) h (fun c37 h => ?_) (fun c37 h => ?_)
  · refine Y.blk (pc' := 17) (L' := [some (.ref a0), some (.int a1), some (.int a2)]) (st' := [.int (nI 3), .int (nI 0), .int a2, .ref a0]) (sg := [(.aload_n 0, 0), (.iload_n 2, 0), (.iconst 0, nI 0), (.iconst 3, nI 3)]) (lSa_ok dd5) rfl ?_
    refine Y.callI (yC.S (As := [.int a2, .int (nI 0), .int (nI 3)]) (st := [.ref a0]) hV.1 cb_M_isIn lk_M_40 st_M_isIn (lIa_ok dd6) rfl rfl (Nat.le_of_ble_eq_true rfl) (by decide)) (k_M_isIn hV G9 a2 (nI 0) (nI 3)) h (fun v13 G12 _ h => ?_)
    refine Y.if_ne (off := 7) (tgt := 27) (lIa_ok dd7) (by decide) h (fun c36 h => ?_) (fun c36 h => ?_)
    · refine Y.blk (pc' := 24) (L' := [some (.ref a0), some (.int a1), some (.int a2)]) (st' := [.int (nI 1), .ref a0]) (sg := [(.iconst 1, nI 1)]) (lSa_ok dd8) rfl ?_
      refine Y.goto (off := 4) (tgt := 28) (lIa_ok dd9) (by decide) ?_
      refine Y.blk (pc' := 29) (L' := [some (.ref a0), some (.int a1), some (.int a2)]) (st' := [.int (nI 2), .int (nI 1), .ref a0]) (sg := [(.iconst 2, nI 2)]) (lSa_ok dd10) rfl ?_
      obtain ⟨_, o15, e14, m16, h⟩ := gOb_inv h
      refine Y.callI (yC.Vi (b := a0) (As := [.int (nI 1), .int (nI 2)]) (st := []) (r := ("PartlisterModel", T_M, 9)) hV.1 cb_M_refuse lk_M_36 in_M_refuse rfl se_M_refuse (lIa_ok dd11) rfl rfl (Nat.le_of_ble_eq_true rfl) (by decide) e14 m16) (k_M_refuse hV G12 a0 (nI 1) (nI 2)) h (fun v18 G17 _ h => ?_)
      refine Y.if_eq (off := 7) (tgt := 39) (lIa_ok dd12) (by decide) h (fun c24 h => ?_) (fun c24 h => ?_)
      · refine Y.blk (pc' := 42) (L' := [some (.ref a0), some (.int a1), some (.int a2)]) (st' := [.int a2, .int a1, .ref a0]) (sg := [(.aload_n 0, 0), (.iload_n 1, 0), (.iload_n 2, 0)]) (lSa_ok dd13) rfl ?_
        obtain ⟨_, o20, e19, m21, h⟩ := gOb_inv h
        refine Y.callI (yC.Vi (b := a0) (As := [.int a1, .int a2]) (st := []) (r := ("PartlisterModel", T_M, 9)) hV.1 cb_M_partTold lk_M_287 in_M_partTold rfl se_M_partTold (lIa_ok dd14) rfl rfl (Nat.le_of_ble_eq_true rfl) (by decide) e19 m21) (k_M_partTold hV G17 a0 a1 a2) h (fun v23 G22 _ h => ?_)
        exact Y.iret rfl (lIa_ok dd15) h
      · refine Y.blk (pc' := 36) (L' := [some (.ref a0), some (.int a1), some (.int a2)]) (st' := [.int (nI 0)]) (sg := [(.iconst 0, nI 0)]) (lSa_ok dd16) rfl ?_
        refine Y.goto (off := 9) (tgt := 45) (lIa_ok dd17) (by decide) ?_
        exact Y.iret rfl (lIa_ok dd15) h
    · refine Y.blk (pc' := 29) (L' := [some (.ref a0), some (.int a1), some (.int a2)]) (st' := [.int (nI 2), .int (nI 0), .ref a0]) (sg := [(.iconst 0, nI 0), (.iconst 2, nI 2)]) (lSa_ok dd18) rfl ?_
      obtain ⟨_, o26, e25, m27, h⟩ := gOb_inv h
      refine Y.callI (yC.Vi (b := a0) (As := [.int (nI 0), .int (nI 2)]) (st := []) (r := ("PartlisterModel", T_M, 9)) hV.1 cb_M_refuse lk_M_36 in_M_refuse rfl se_M_refuse (lIa_ok dd11) rfl rfl (Nat.le_of_ble_eq_true rfl) (by decide) e25 m27) (k_M_refuse hV G12 a0 (nI 0) (nI 2)) h (fun v29 G28 _ h => ?_)
      refine Y.if_eq (off := 7) (tgt := 39) (lIa_ok dd12) (by decide) h (fun c35 h => ?_) (fun c35 h => ?_)
      · refine Y.blk (pc' := 42) (L' := [some (.ref a0), some (.int a1), some (.int a2)]) (st' := [.int a2, .int a1, .ref a0]) (sg := [(.aload_n 0, 0), (.iload_n 1, 0), (.iload_n 2, 0)]) (lSa_ok dd13) rfl ?_
        obtain ⟨_, o31, e30, m32, h⟩ := gOb_inv h
        refine Y.callI (yC.Vi (b := a0) (As := [.int a1, .int a2]) (st := []) (r := ("PartlisterModel", T_M, 9)) hV.1 cb_M_partTold lk_M_287 in_M_partTold rfl se_M_partTold (lIa_ok dd14) rfl rfl (Nat.le_of_ble_eq_true rfl) (by decide) e30 m32) (k_M_partTold hV G28 a0 a1 a2) h (fun v34 G33 _ h => ?_)
        exact Y.iret rfl (lIa_ok dd15) h
      · refine Y.blk (pc' := 36) (L' := [some (.ref a0), some (.int a1), some (.int a2)]) (st' := [.int (nI 0)]) (sg := [(.iconst 0, nI 0)]) (lSa_ok dd16) rfl ?_
        refine Y.goto (off := 9) (tgt := 45) (lIa_ok dd17) (by decide) ?_
        exact Y.iret rfl (lIa_ok dd15) h
  · refine Y.blk (pc' := 36) (L' := [some (.ref a0), some (.int a1), some (.int a2)]) (st' := [.int (nI 0)]) (sg := [(.iconst 0, nI 0)]) (lSa_ok dd16) rfl ?_
    refine Y.goto (off := 9) (tgt := 45) (lIa_ok dd17) (by decide) ?_
    exact Y.iret rfl (lIa_ok dd15) h

def f_M_pack (G : gH) (a0 : Nat) (a1 : Int32) (a2 : Int32) : gR :=
  bI (f_M_isIn G a1 (nI 0) (nI 1)) fun v3 G2 => if v3 = 0 then (gOb G2 a0 6 fun o5 => bI (f_M_start G2 a0 (nI 1) (nI 1)) fun v8 G7 => if v8 = 0 then gOb G7 a0 6 fun o10 => bI (f_M_endParts G7 a0 a1 a1) fun v13 G12 => gOb G12 a0 6 fun o15 => bV (f_M_endCursors G12 a0 a1) fun G17 => rI v13 G17
    else rI (nI 0) G7)
  else gOb G2 a0 6 fun o20 => bI (f_M_start G2 a0 (nI 0) (nI 1)) fun v23 G22 => if v23 = 0 then gOb G22 a0 6 fun o25 => bI (f_M_endParts G22 a0 a1 a1) fun v28 G27 => gOb G27 a0 6 fun o30 => bV (f_M_endCursors G27 a0 a1) fun G32 => rI v28 G32
    else rI (nI 0) G22
theorem k_M_pack {l : Launch} {D : va_G} {B : Nat} {O : State → Heap → Prop} (hV : zG l D B O) (G : gH) (a0 : Nat) (a1 : Int32) (a2 : Int32) : gMet (zVm l D B O) m_M_pack 13 [.ref a0, .int a1, .int a2] G (f_M_pack G a0 a1 a2) := by
  have hdd : lSa m_M_pack 0 [(.aload_n 0, 0), (.iload_n 1, 0), (.iconst 0, nI 0), (.iconst 1, nI 1)] = true ∧ lIa m_M_pack 4 (.invokestatic 40) 3 = true ∧ lIa m_M_pack 7 (.ifCond .ne 7) 3 = true ∧ lSa m_M_pack 10 [(.iconst 1, nI 1)] = true ∧ lIa m_M_pack 11 (.goto 4) 3 = true ∧ lSa m_M_pack 15 [(.iconst 1, nI 1)] = true ∧ lIa m_M_pack 16 (.invokevirtual 114) 3 = true ∧ lIa m_M_pack 19 (.ifCond .eq 5) 3 = true ∧ lSa m_M_pack 24 [(.aload_n 0, 0), (.iload_n 1, 0), (.iload_n 1, 0)] = true ∧ lIa m_M_pack 27 (.invokevirtual 103) 3 = true ∧ lSa m_M_pack 30 [(.istore_n 3, 0), (.aload_n 0, 0), (.iload_n 1, 0)] = true ∧ lIa m_M_pack 33 (.invokevirtual 177) 3 = true ∧ lSa m_M_pack 36 [(.iload_n 3, 0)] = true ∧ lIa m_M_pack 37 (.ireturn) 1 = true ∧ lSa m_M_pack 22 [(.iconst 0, nI 0)] = true ∧ lIa m_M_pack 23 (.ireturn) 1 = true ∧ lSa m_M_pack 14 [(.iconst 0, nI 0), (.iconst 1, nI 1)] = true := by decide +kernel
  refine lA8 hdd (fun dd0 dd1 dd2 dd3 dd4 dd5 dd6 dd7 hdd => ?_)
  refine lA8 hdd (fun dd8 dd9 dd10 dd11 dd12 dd13 dd14 dd15 hdd => ?_)
  have dd16 := hdd
  refine gMet.of (by decide +kernel) (Nat.le_of_ble_eq_true rfl) [some (.ref a0), some (.int a1), some (.int a2), none] (fun ls h => zEn_ok (n := 4) h) ?_
  intro o Gf h
  unfold f_M_pack at h
  refine Y.blk (pc' := 4) (L' := [some (.ref a0), some (.int a1), some (.int a2), none]) (st' := [.int (nI 1), .int (nI 0), .int a1, .ref a0]) (sg := [(.aload_n 0, 0), (.iload_n 1, 0), (.iconst 0, nI 0), (.iconst 1, nI 1)]) (lSa_ok dd0) rfl ?_
  refine Y.callI (yC.S (As := [.int a1, .int (nI 0), .int (nI 1)]) (st := [.ref a0]) hV.1 cb_M_isIn lk_M_40 st_M_isIn (lIa_ok dd1) rfl rfl (Nat.le_of_ble_eq_true rfl) (by decide)) (k_M_isIn hV G a1 (nI 0) (nI 1)) h (fun v3 G2 _ h => ?_)
  refine Y.if_ne (off := 7) (tgt := 14) (lIa_ok dd2) (by decide) h (fun c34 h => ?_) (fun c34 h => ?_)
  · refine Y.blk (pc' := 11) (L' := [some (.ref a0), some (.int a1), some (.int a2), none]) (st' := [.int (nI 1), .ref a0]) (sg := [(.iconst 1, nI 1)]) (lSa_ok dd3) rfl ?_
    refine Y.goto (off := 4) (tgt := 15) (lIa_ok dd4) (by decide) ?_
    refine Y.blk (pc' := 16) (L' := [some (.ref a0), some (.int a1), some (.int a2), none]) (st' := [.int (nI 1), .int (nI 1), .ref a0]) (sg := [(.iconst 1, nI 1)]) (lSa_ok dd5) rfl ?_
    obtain ⟨_, o5, e4, m6, h⟩ := gOb_inv h
    refine Y.callI (yC.Vi (b := a0) (As := [.int (nI 1), .int (nI 1)]) (st := []) (r := ("PartlisterModel", T_M, 9)) hV.1 cb_M_start lk_M_114 in_M_start rfl se_M_start (lIa_ok dd6) rfl rfl (Nat.le_of_ble_eq_true rfl) (by decide) e4 m6) (k_M_start hV G2 a0 (nI 1) (nI 1)) h (fun v8 G7 _ h => ?_)
    refine Y.if_eq (off := 5) (tgt := 24) (lIa_ok dd7) (by decide) h (fun c18 h => ?_) (fun c18 h => ?_)
    · refine Y.blk (pc' := 27) (L' := [some (.ref a0), some (.int a1), some (.int a2), none]) (st' := [.int a1, .int a1, .ref a0]) (sg := [(.aload_n 0, 0), (.iload_n 1, 0), (.iload_n 1, 0)]) (lSa_ok dd8) rfl ?_
      obtain ⟨_, o10, e9, m11, h⟩ := gOb_inv h
      refine Y.callI (yC.Vi (b := a0) (As := [.int a1, .int a1]) (st := []) (r := ("PartlisterModel", T_M, 9)) hV.1 cb_M_endParts lk_M_103 in_M_endParts rfl se_M_endParts (lIa_ok dd9) rfl rfl (Nat.le_of_ble_eq_true rfl) (by decide) e9 m11) (k_M_endParts hV G7 a0 a1 a1) h (fun v13 G12 _ h => ?_)
      refine Y.blk (pc' := 33) (L' := [some (.ref a0), some (.int a1), some (.int a2), some (.int v13)]) (st' := [.int a1, .ref a0]) (sg := [(.istore_n 3, 0), (.aload_n 0, 0), (.iload_n 1, 0)]) (lSa_ok dd10) rfl ?_
      obtain ⟨_, o15, e14, m16, h⟩ := gOb_inv h
      refine Y.callN (yC.Vi (b := a0) (As := [.int a1]) (st := []) (r := ("PartlisterModel", T_M, 9)) hV.1 cb_M_endCursors lk_M_177 in_M_endCursors rfl se_M_endCursors (lIa_ok dd11) rfl rfl (Nat.le_of_ble_eq_true rfl) (by decide) e14 m16) (k_M_endCursors hV G12 a0 a1) h (fun G17 _ h => ?_)
      refine Y.blk (pc' := 37) (L' := [some (.ref a0), some (.int a1), some (.int a2), some (.int v13)]) (st' := [.int v13]) (sg := [(.iload_n 3, 0)]) (lSa_ok dd12) rfl ?_
      exact Y.iret rfl (lIa_ok dd13) h
    · refine Y.blk (pc' := 23) (L' := [some (.ref a0), some (.int a1), some (.int a2), none]) (st' := [.int (nI 0)]) (sg := [(.iconst 0, nI 0)]) (lSa_ok dd14) rfl ?_
      exact Y.iret rfl (lIa_ok dd15) h
  · refine Y.blk (pc' := 16) (L' := [some (.ref a0), some (.int a1), some (.int a2), none]) (st' := [.int (nI 1), .int (nI 0), .ref a0]) (sg := [(.iconst 0, nI 0), (.iconst 1, nI 1)]) (lSa_ok dd16) rfl ?_
    obtain ⟨_, o20, e19, m21, h⟩ := gOb_inv h
    refine Y.callI (yC.Vi (b := a0) (As := [.int (nI 0), .int (nI 1)]) (st := []) (r := ("PartlisterModel", T_M, 9)) hV.1 cb_M_start lk_M_114 in_M_start rfl se_M_start (lIa_ok dd6) rfl rfl (Nat.le_of_ble_eq_true rfl) (by decide) e19 m21) (k_M_start hV G2 a0 (nI 0) (nI 1)) h (fun v23 G22 _ h => ?_)
    refine Y.if_eq (off := 5) (tgt := 24) (lIa_ok dd7) (by decide) h (fun c33 h => ?_) (fun c33 h => ?_)
    · refine Y.blk (pc' := 27) (L' := [some (.ref a0), some (.int a1), some (.int a2), none]) (st' := [.int a1, .int a1, .ref a0]) (sg := [(.aload_n 0, 0), (.iload_n 1, 0), (.iload_n 1, 0)]) (lSa_ok dd8) rfl ?_
      obtain ⟨_, o25, e24, m26, h⟩ := gOb_inv h
      refine Y.callI (yC.Vi (b := a0) (As := [.int a1, .int a1]) (st := []) (r := ("PartlisterModel", T_M, 9)) hV.1 cb_M_endParts lk_M_103 in_M_endParts rfl se_M_endParts (lIa_ok dd9) rfl rfl (Nat.le_of_ble_eq_true rfl) (by decide) e24 m26) (k_M_endParts hV G22 a0 a1 a1) h (fun v28 G27 _ h => ?_)
      refine Y.blk (pc' := 33) (L' := [some (.ref a0), some (.int a1), some (.int a2), some (.int v28)]) (st' := [.int a1, .ref a0]) (sg := [(.istore_n 3, 0), (.aload_n 0, 0), (.iload_n 1, 0)]) (lSa_ok dd10) rfl ?_
      obtain ⟨_, o30, e29, m31, h⟩ := gOb_inv h
      refine Y.callN (yC.Vi (b := a0) (As := [.int a1]) (st := []) (r := ("PartlisterModel", T_M, 9)) hV.1 cb_M_endCursors lk_M_177 in_M_endCursors rfl se_M_endCursors (lIa_ok dd11) rfl rfl (Nat.le_of_ble_eq_true rfl) (by decide) e29 m31) (k_M_endCursors hV G27 a0 a1) h (fun G32 _ h => ?_)
      refine Y.blk (pc' := 37) (L' := [some (.ref a0), some (.int a1), some (.int a2), some (.int v28)]) (st' := [.int v28]) (sg := [(.iload_n 3, 0)]) (lSa_ok dd12) rfl ?_
      exact Y.iret rfl (lIa_ok dd13) h
    · refine Y.blk (pc' := 23) (L' := [some (.ref a0), some (.int a1), some (.int a2), none]) (st' := [.int (nI 0)]) (sg := [(.iconst 0, nI 0)]) (lSa_ok dd14) rfl ?_
      exact Y.iret rfl (lIa_ok dd15) h

def f_MP_init (G : gH) (a0 : Nat) : gR :=
  rV G
theorem k_MP_init {l : Launch} {D : va_G} {B : Nat} {O : State → Heap → Prop} (hV : zG l D B O) (G : gH) (a0 : Nat) : gMet (zVm l D B O) m_MP_init 2 [.ref a0] G (f_MP_init G a0) := by
  have hdd : lSa m_MP_init 0 [(.aload_n 0, 0)] = true ∧ lIa m_MP_init 1 (.invokespecial 1) 3 = true ∧ lIa m_MP_init 4 (.return_) 1 = true := by decide +kernel
  obtain ⟨dd0, dd1, dd2⟩ := hdd
  refine gMet.of (by decide +kernel) (Nat.le_of_ble_eq_true rfl) [some (.ref a0)] (fun ls h => zEn_ok (n := 1) h) ?_
  intro o Gf h
  unfold f_MP_init at h
  refine Y.blk (pc' := 1) (L' := [some (.ref a0)]) (st' := [.ref a0]) (sg := [(.aload_n 0, 0)]) (lSa_ok dd0) rfl ?_
  refine Y.objInit lk_MP_1 in_OJ_init cw_OJ_init (by decide) rfl (Nat.le_of_ble_eq_true rfl) (lIa_ok dd1) ?_
  exact Y.vret rfl (lIa_ok dd2) h

def f_M_part (G : gH) (a0 : Nat) (a1 : Int32) (a2 : Int32) (a3 : Int32) : gR :=
  gOb G a0 6 fun o2 => bI (f_M_isNoList G a0 a1) fun v5 G4 => gOb G4 a0 6 fun o7 => bI (f_M_start G4 a0 v5 (nI 1)) fun v10 G9 => if v10 = 0 then (gOb G9 a0 6 fun o12 => bI (f_M_length G9 a0 a1) fun v15 G14 => bI (f_M_isIn G14 a2 (nI 0) v15) fun v18 G17 => if v18 = 0 then (gOb G17 a0 6 fun o20 => bI (f_M_refuse G17 a0 (nI 1) (nI 1)) fun v23 G22 => if v23 = 0 then (gOb G22 a0 6 fun o25 => bI (f_M_freePart G22 a0) fun v28 G27 => if v28 = (-1) then (gOb G27 a0 6 fun o30 => bI (f_M_refuse G27 a0 (nI 1) (nI 2)) fun v33 G32 => if v33 = 0 then gOb G32 a0 6 fun o35 => bI (f_M_freePart G32 a0) fun v38 G37 => gFA G37 a0 6 2 fun v39 => gNewO G37 5 3 [.int 0, .int 0, .int 0] fun q40 G41 => bV (f_MP_init G41 q40) fun G43 => gStq G43 v39 104 5 v38 q40 fun G44 => gFA G44 a0 6 2 fun v45 => gLdq G44 v45 104 v38 (none) fun v46 => gPut G44 v46 5 0 (.int a1) fun G47 => gFA G47 a0 6 2 fun v48 => gLdq G47 v48 104 v38 (none) fun v49 => gPut G47 v49 5 1 (.int a2) fun G50 => gFA G50 a0 6 2 fun v51 => gLdq G50 v51 104 v38 (none) fun v52 => gPut G50 v52 5 2 (.int (a3 - a2)) fun G53 => rI v38 G53
          else rI (nI 0) G32)
        else gOb G27 a0 6 fun o56 => bI (f_M_refuse G27 a0 (nI 0) (nI 2)) fun v59 G58 => if v59 = 0 then gOb G58 a0 6 fun o61 => bI (f_M_freePart G58 a0) fun v64 G63 => gFA G63 a0 6 2 fun v65 => gNewO G63 5 3 [.int 0, .int 0, .int 0] fun q66 G67 => bV (f_MP_init G67 q66) fun G69 => gStq G69 v65 104 5 v64 q66 fun G70 => gFA G70 a0 6 2 fun v71 => gLdq G70 v71 104 v64 (none) fun v72 => gPut G70 v72 5 0 (.int a1) fun G73 => gFA G73 a0 6 2 fun v74 => gLdq G73 v74 104 v64 (none) fun v75 => gPut G73 v75 5 1 (.int a2) fun G76 => gFA G76 a0 6 2 fun v77 => gLdq G76 v77 104 v64 (none) fun v78 => gPut G76 v78 5 2 (.int (a3 - a2)) fun G79 => rI v64 G79
          else rI (nI 0) G58)
      else rI (nI 0) G22)
    else gOb G17 a0 6 fun o84 => bI (f_M_length G17 a0 a1) fun v87 G86 => bI (f_M_isIn G86 a3 a2 v87) fun v90 G89 => if v90 = 0 then (gOb G89 a0 6 fun o92 => bI (f_M_refuse G89 a0 (nI 1) (nI 1)) fun v95 G94 => if v95 = 0 then (gOb G94 a0 6 fun o97 => bI (f_M_freePart G94 a0) fun v100 G99 => if v100 = (-1) then (gOb G99 a0 6 fun o102 => bI (f_M_refuse G99 a0 (nI 1) (nI 2)) fun v105 G104 => if v105 = 0 then gOb G104 a0 6 fun o107 => bI (f_M_freePart G104 a0) fun v110 G109 => gFA G109 a0 6 2 fun v111 => gNewO G109 5 3 [.int 0, .int 0, .int 0] fun q112 G113 => bV (f_MP_init G113 q112) fun G115 => gStq G115 v111 104 5 v110 q112 fun G116 => gFA G116 a0 6 2 fun v117 => gLdq G116 v117 104 v110 (none) fun v118 => gPut G116 v118 5 0 (.int a1) fun G119 => gFA G119 a0 6 2 fun v120 => gLdq G119 v120 104 v110 (none) fun v121 => gPut G119 v121 5 1 (.int a2) fun G122 => gFA G122 a0 6 2 fun v123 => gLdq G122 v123 104 v110 (none) fun v124 => gPut G122 v124 5 2 (.int (a3 - a2)) fun G125 => rI v110 G125
            else rI (nI 0) G104)
          else gOb G99 a0 6 fun o128 => bI (f_M_refuse G99 a0 (nI 0) (nI 2)) fun v131 G130 => if v131 = 0 then gOb G130 a0 6 fun o133 => bI (f_M_freePart G130 a0) fun v136 G135 => gFA G135 a0 6 2 fun v137 => gNewO G135 5 3 [.int 0, .int 0, .int 0] fun q138 G139 => bV (f_MP_init G139 q138) fun G141 => gStq G141 v137 104 5 v136 q138 fun G142 => gFA G142 a0 6 2 fun v143 => gLdq G142 v143 104 v136 (none) fun v144 => gPut G142 v144 5 0 (.int a1) fun G145 => gFA G145 a0 6 2 fun v146 => gLdq G145 v146 104 v136 (none) fun v147 => gPut G145 v147 5 1 (.int a2) fun G148 => gFA G148 a0 6 2 fun v149 => gLdq G148 v149 104 v136 (none) fun v150 => gPut G148 v150 5 2 (.int (a3 - a2)) fun G151 => rI v136 G151
            else rI (nI 0) G130)
        else rI (nI 0) G94)
      else gOb G89 a0 6 fun o156 => bI (f_M_refuse G89 a0 (nI 0) (nI 1)) fun v159 G158 => if v159 = 0 then (gOb G158 a0 6 fun o161 => bI (f_M_freePart G158 a0) fun v164 G163 => if v164 = (-1) then (gOb G163 a0 6 fun o166 => bI (f_M_refuse G163 a0 (nI 1) (nI 2)) fun v169 G168 => if v169 = 0 then gOb G168 a0 6 fun o171 => bI (f_M_freePart G168 a0) fun v174 G173 => gFA G173 a0 6 2 fun v175 => gNewO G173 5 3 [.int 0, .int 0, .int 0] fun q176 G177 => bV (f_MP_init G177 q176) fun G179 => gStq G179 v175 104 5 v174 q176 fun G180 => gFA G180 a0 6 2 fun v181 => gLdq G180 v181 104 v174 (none) fun v182 => gPut G180 v182 5 0 (.int a1) fun G183 => gFA G183 a0 6 2 fun v184 => gLdq G183 v184 104 v174 (none) fun v185 => gPut G183 v185 5 1 (.int a2) fun G186 => gFA G186 a0 6 2 fun v187 => gLdq G186 v187 104 v174 (none) fun v188 => gPut G186 v188 5 2 (.int (a3 - a2)) fun G189 => rI v174 G189
            else rI (nI 0) G168)
          else gOb G163 a0 6 fun o192 => bI (f_M_refuse G163 a0 (nI 0) (nI 2)) fun v195 G194 => if v195 = 0 then gOb G194 a0 6 fun o197 => bI (f_M_freePart G194 a0) fun v200 G199 => gFA G199 a0 6 2 fun v201 => gNewO G199 5 3 [.int 0, .int 0, .int 0] fun q202 G203 => bV (f_MP_init G203 q202) fun G205 => gStq G205 v201 104 5 v200 q202 fun G206 => gFA G206 a0 6 2 fun v207 => gLdq G206 v207 104 v200 (none) fun v208 => gPut G206 v208 5 0 (.int a1) fun G209 => gFA G209 a0 6 2 fun v210 => gLdq G209 v210 104 v200 (none) fun v211 => gPut G209 v211 5 1 (.int a2) fun G212 => gFA G212 a0 6 2 fun v213 => gLdq G212 v213 104 v200 (none) fun v214 => gPut G212 v214 5 2 (.int (a3 - a2)) fun G215 => rI v200 G215
            else rI (nI 0) G194)
        else rI (nI 0) G158)
  else rI (nI 0) G9
theorem k_M_part {l : Launch} {D : va_G} {B : Nat} {O : State → Heap → Prop} (hV : zG l D B O) (G : gH) (a0 : Nat) (a1 : Int32) (a2 : Int32) (a3 : Int32) : gMet (zVm l D B O) m_M_part 6 [.ref a0, .int a1, .int a2, .int a3] G (f_M_part G a0 a1 a2 a3) := by
  have hdd : lSa m_M_part 0 [(.aload_n 0, 0), (.aload_n 0, 0), (.iload_n 1, 0)] = true ∧ lIa m_M_part 3 (.invokevirtual 110) 3 = true ∧ lSa m_M_part 6 [(.iconst 1, nI 1)] = true ∧ lIa m_M_part 7 (.invokevirtual 114) 3 = true ∧ lIa m_M_part 10 (.ifCond .ne 63) 3 = true ∧ lSa m_M_part 13 [(.aload_n 0, 0), (.iload_n 2, 0), (.iconst 0, nI 0), (.aload_n 0, 0), (.iload_n 1, 0)] = true ∧ lIa m_M_part 18 (.invokevirtual 74) 3 = true ∧ lIa m_M_part 21 (.invokestatic 40) 3 = true ∧ lIa m_M_part 24 (.ifCond .eq 16) 3 = true ∧ lSa m_M_part 40 [(.iconst 1, nI 1)] = true ∧ lIa m_M_part 41 (.goto 4) 3 = true ∧ lSa m_M_part 45 [(.iconst 1, nI 1)] = true ∧ lIa m_M_part 46 (.invokevirtual 36) 3 = true ∧ lIa m_M_part 49 (.ifCond .ne 24) 3 = true ∧ lSa m_M_part 52 [(.aload_n 0, 0), (.aload_n 0, 0)] = true ∧ lIa m_M_part 54 (.invokevirtual 197) 3 = true ∧ lSa m_M_part 57 [(.iconst (-1), -1)] = true ∧ lIa m_M_part 58 (.if_icmp .ne 7) 3 = true ∧ lSa m_M_part 61 [(.iconst 1, nI 1)] = true ∧ lIa m_M_part 62 (.goto 4) 3 = true ∧ lSa m_M_part 66 [(.iconst 2, nI 2)] = true ∧ lIa m_M_part 67 (.invokevirtual 36) 3 = true ∧ lIa m_M_part 70 (.ifCond .eq 5) 3 = true ∧ lSa m_M_part 75 [(.aload_n 0, 0)] = true ∧ lIa m_M_part 76 (.invokevirtual 197) 3 = true ∧ lSa m_M_part 79 [(.istore 4, 0), (.aload_n 0, 0)] = true ∧ lIa m_M_part 82 (.getfield 18) 3 = true ∧ lSa m_M_part 85 [(.iload 4, 0)] = true ∧ lIa m_M_part 87 (.new 16) 3 = true ∧ lSa m_M_part 90 [(.dup, 0)] = true ∧ lIa m_M_part 91 (.invokespecial 200) 3 = true ∧ lIa m_M_part 94 (.aastore) 1 = true ∧ lSa m_M_part 95 [(.aload_n 0, 0)] = true ∧ lIa m_M_part 96 (.getfield 18) 3 = true ∧ lSa m_M_part 99 [(.iload 4, 0)] = true ∧ lIa m_M_part 101 (.aaload) 1 = true ∧ lSa m_M_part 102 [(.iload_n 1, 0)] = true ∧ lIa m_M_part 103 (.putfield 44) 3 = true ∧ lSa m_M_part 106 [(.aload_n 0, 0)] = true ∧ lIa m_M_part 107 (.getfield 18) 3 = true ∧ lSa m_M_part 110 [(.iload 4, 0)] = true ∧ lIa m_M_part 112 (.aaload) 1 = true ∧ lSa m_M_part 113 [(.iload_n 2, 0)] = true ∧ lIa m_M_part 114 (.putfield 51) 3 = true ∧ lSa m_M_part 117 [(.aload_n 0, 0)] = true ∧ lIa m_M_part 118 (.getfield 18) 3 = true ∧ lSa m_M_part 121 [(.iload 4, 0)] = true ∧ lIa m_M_part 123 (.aaload) 1 = true ∧ lSa m_M_part 124 [(.iload_n 3, 0), (.iload_n 2, 0), (.isub, 0)] = true ∧ lIa m_M_part 127 (.putfield 65) 3 = true ∧ lSa m_M_part 130 [(.iload 4, 0)] = true ∧ lIa m_M_part 132 (.ireturn) 1 = true ∧ lSa m_M_part 73 [(.iconst 0, nI 0)] = true ∧ lIa m_M_part 74 (.ireturn) 1 = true ∧ lSa m_M_part 65 [(.iconst 0, nI 0), (.iconst 2, nI 2)] = true ∧ lSa m_M_part 27 [(.iload_n 3, 0), (.iload_n 2, 0), (.aload_n 0, 0), (.iload_n 1, 0)] = true ∧ lIa m_M_part 31 (.invokevirtual 74) 3 = true ∧ lIa m_M_part 34 (.invokestatic 40) 3 = true ∧ lIa m_M_part 37 (.ifCond .ne 7) 3 = true ∧ lSa m_M_part 44 [(.iconst 0, nI 0), (.iconst 1, nI 1)] = true := by decide +kernel
  refine lA8 hdd (fun dd0 dd1 dd2 dd3 dd4 dd5 dd6 dd7 hdd => ?_)
  refine lA8 hdd (fun dd8 dd9 dd10 dd11 dd12 dd13 dd14 dd15 hdd => ?_)
  refine lA8 hdd (fun dd16 dd17 dd18 dd19 dd20 dd21 dd22 dd23 hdd => ?_)
  refine lA8 hdd (fun dd24 dd25 dd26 dd27 dd28 dd29 dd30 dd31 hdd => ?_)
  refine lA8 hdd (fun dd32 dd33 dd34 dd35 dd36 dd37 dd38 dd39 hdd => ?_)
  refine lA8 hdd (fun dd40 dd41 dd42 dd43 dd44 dd45 dd46 dd47 hdd => ?_)
  refine lA8 hdd (fun dd48 dd49 dd50 dd51 dd52 dd53 dd54 dd55 hdd => ?_)
  obtain ⟨dd56, dd57, dd58, dd59⟩ := hdd
  refine gMet.of (by decide +kernel) (Nat.le_of_ble_eq_true rfl) [some (.ref a0), some (.int a1), some (.int a2), some (.int a3), none] (fun ls h => zEn_ok (n := 5) h) ?_
  intro o Gf h
  unfold f_M_part at h
  refine Y.blk (pc' := 3) (L' := [some (.ref a0), some (.int a1), some (.int a2), some (.int a3), none]) (st' := [.int a1, .ref a0, .ref a0]) (sg := [(.aload_n 0, 0), (.aload_n 0, 0), (.iload_n 1, 0)]) (lSa_ok dd0) rfl ?_
  obtain ⟨_, o2, e1, m3, h⟩ := gOb_inv h
  refine Y.callI (yC.Vi (b := a0) (As := [.int a1]) (st := [.ref a0]) (r := ("PartlisterModel", T_M, 9)) hV.1 cb_M_isNoList lk_M_110 in_M_isNoList rfl se_M_isNoList (lIa_ok dd1) rfl rfl (Nat.le_of_ble_eq_true rfl) (by decide) e1 m3) (k_M_isNoList hV G a0 a1) h (fun v5 G4 _ h => ?_)
  refine Y.blk (pc' := 7) (L' := [some (.ref a0), some (.int a1), some (.int a2), some (.int a3), none]) (st' := [.int (nI 1), .int v5, .ref a0]) (sg := [(.iconst 1, nI 1)]) (lSa_ok dd2) rfl ?_
  obtain ⟨_, o7, e6, m8, h⟩ := gOb_inv h
  refine Y.callI (yC.Vi (b := a0) (As := [.int v5, .int (nI 1)]) (st := []) (r := ("PartlisterModel", T_M, 9)) hV.1 cb_M_start lk_M_114 in_M_start rfl se_M_start (lIa_ok dd3) rfl rfl (Nat.le_of_ble_eq_true rfl) (by decide) e6 m8) (k_M_start hV G4 a0 v5 (nI 1)) h (fun v10 G9 _ h => ?_)
  refine Y.if_ne (off := 63) (tgt := 73) (lIa_ok dd4) (by decide) h (fun c221 h => ?_) (fun c221 h => ?_)
  · refine Y.blk (pc' := 18) (L' := [some (.ref a0), some (.int a1), some (.int a2), some (.int a3), none]) (st' := [.int a1, .ref a0, .int (nI 0), .int a2, .ref a0]) (sg := [(.aload_n 0, 0), (.iload_n 2, 0), (.iconst 0, nI 0), (.aload_n 0, 0), (.iload_n 1, 0)]) (lSa_ok dd5) rfl ?_
    obtain ⟨_, o12, e11, m13, h⟩ := gOb_inv h
    refine Y.callI (yC.Vi (b := a0) (As := [.int a1]) (st := [.int (nI 0), .int a2, .ref a0]) (r := ("PartlisterModel", T_M, 9)) hV.1 cb_M_length lk_M_74 in_M_length rfl se_M_length (lIa_ok dd6) rfl rfl (Nat.le_of_ble_eq_true rfl) (by decide) e11 m13) (k_M_length hV G9 a0 a1) h (fun v15 G14 _ h => ?_)
    refine Y.callI (yC.S (As := [.int a2, .int (nI 0), .int v15]) (st := [.ref a0]) hV.1 cb_M_isIn lk_M_40 st_M_isIn (lIa_ok dd7) rfl rfl (Nat.le_of_ble_eq_true rfl) (by decide)) (k_M_isIn hV G14 a2 (nI 0) v15) h (fun v18 G17 _ h => ?_)
    refine Y.if_eq (off := 16) (tgt := 40) (lIa_ok dd8) (by decide) h (fun c220 h => ?_) (fun c220 h => ?_)
    · refine Y.blk (pc' := 41) (L' := [some (.ref a0), some (.int a1), some (.int a2), some (.int a3), none]) (st' := [.int (nI 1), .ref a0]) (sg := [(.iconst 1, nI 1)]) (lSa_ok dd9) rfl ?_
      refine Y.goto (off := 4) (tgt := 45) (lIa_ok dd10) (by decide) ?_
      refine Y.blk (pc' := 46) (L' := [some (.ref a0), some (.int a1), some (.int a2), some (.int a3), none]) (st' := [.int (nI 1), .int (nI 1), .ref a0]) (sg := [(.iconst 1, nI 1)]) (lSa_ok dd11) rfl ?_
      obtain ⟨_, o20, e19, m21, h⟩ := gOb_inv h
      refine Y.callI (yC.Vi (b := a0) (As := [.int (nI 1), .int (nI 1)]) (st := []) (r := ("PartlisterModel", T_M, 9)) hV.1 cb_M_refuse lk_M_36 in_M_refuse rfl se_M_refuse (lIa_ok dd12) rfl rfl (Nat.le_of_ble_eq_true rfl) (by decide) e19 m21) (k_M_refuse hV G17 a0 (nI 1) (nI 1)) h (fun v23 G22 _ h => ?_)
      refine Y.if_ne (off := 24) (tgt := 73) (lIa_ok dd13) (by decide) h (fun c82 h => ?_) (fun c82 h => ?_)
      · refine Y.blk (pc' := 54) (L' := [some (.ref a0), some (.int a1), some (.int a2), some (.int a3), none]) (st' := [.ref a0, .ref a0]) (sg := [(.aload_n 0, 0), (.aload_n 0, 0)]) (lSa_ok dd14) rfl ?_
        obtain ⟨_, o25, e24, m26, h⟩ := gOb_inv h
        refine Y.callI (yC.Vi (b := a0) (As := []) (st := [.ref a0]) (r := ("PartlisterModel", T_M, 9)) hV.1 cb_M_freePart lk_M_197 in_M_freePart rfl se_M_freePart (lIa_ok dd15) rfl rfl (Nat.le_of_ble_eq_true rfl) (by decide) e24 m26) (k_M_freePart hV G22 a0) h (fun v28 G27 _ h => ?_)
        refine Y.blk (pc' := 58) (L' := [some (.ref a0), some (.int a1), some (.int a2), some (.int a3), none]) (st' := [.int (-1), .int v28, .ref a0]) (sg := [(.iconst (-1), -1)]) (lSa_ok dd16) rfl ?_
        refine Y.ic_ne (off := 7) (tgt := 65) (lIa_ok dd17) (by decide) h (fun c81 h => ?_) (fun c81 h => ?_)
        · refine Y.blk (pc' := 62) (L' := [some (.ref a0), some (.int a1), some (.int a2), some (.int a3), none]) (st' := [.int (nI 1), .ref a0]) (sg := [(.iconst 1, nI 1)]) (lSa_ok dd18) rfl ?_
          refine Y.goto (off := 4) (tgt := 66) (lIa_ok dd19) (by decide) ?_
          refine Y.blk (pc' := 67) (L' := [some (.ref a0), some (.int a1), some (.int a2), some (.int a3), none]) (st' := [.int (nI 2), .int (nI 1), .ref a0]) (sg := [(.iconst 2, nI 2)]) (lSa_ok dd20) rfl ?_
          obtain ⟨_, o30, e29, m31, h⟩ := gOb_inv h
          refine Y.callI (yC.Vi (b := a0) (As := [.int (nI 1), .int (nI 2)]) (st := []) (r := ("PartlisterModel", T_M, 9)) hV.1 cb_M_refuse lk_M_36 in_M_refuse rfl se_M_refuse (lIa_ok dd21) rfl rfl (Nat.le_of_ble_eq_true rfl) (by decide) e29 m31) (k_M_refuse hV G27 a0 (nI 1) (nI 2)) h (fun v33 G32 _ h => ?_)
          refine Y.if_eq (off := 5) (tgt := 75) (lIa_ok dd22) (by decide) h (fun c54 h => ?_) (fun c54 h => ?_)
          · refine Y.blk (pc' := 76) (L' := [some (.ref a0), some (.int a1), some (.int a2), some (.int a3), none]) (st' := [.ref a0]) (sg := [(.aload_n 0, 0)]) (lSa_ok dd23) rfl ?_
            obtain ⟨_, o35, e34, m36, h⟩ := gOb_inv h
            refine Y.callI (yC.Vi (b := a0) (As := []) (st := []) (r := ("PartlisterModel", T_M, 9)) hV.1 cb_M_freePart lk_M_197 in_M_freePart rfl se_M_freePart (lIa_ok dd24) rfl rfl (Nat.le_of_ble_eq_true rfl) (by decide) e34 m36) (k_M_freePart hV G32 a0) h (fun v38 G37 _ h => ?_)
            refine Y.blk (pc' := 82) (L' := [some (.ref a0), some (.int a1), some (.int a2), some (.int a3), some (.int v38)]) (st' := [.ref a0]) (sg := [(.istore 4, 0), (.aload_n 0, 0)]) (lSa_ok dd25) rfl ?_
            refine Y.getA fl_M_18 (lIa_ok dd26) h (fun v39 h => ?_)
            refine Y.blk (pc' := 87) (L' := [some (.ref a0), some (.int a1), some (.int a2), some (.int a3), some (.int v38)]) (st' := [.int v38, .ref v39]) (sg := [(.iload 4, 0)]) (lSa_ok dd27) rfl ?_
            refine Y.new nc_M_16 (by decide) bk_MP (lIa_ok dd28) h (fun q40 G41 h => ?_)
            refine Y.blk (pc' := 91) (L' := [some (.ref a0), some (.int a1), some (.int a2), some (.int a3), some (.int v38)]) (st' := [.ref q40, .ref q40, .int v38, .ref v39]) (sg := [(.dup, 0)]) (lSa_ok dd29) rfl ?_
            refine Y.callN (yC.IN (b := q40) (As := []) (st := [.ref q40, .int v38, .ref v39]) hV.1 cb_MP_init lk_M_200 in_MP_init rfl rfl (lIa_ok dd30) rfl rfl (Nat.le_of_ble_eq_true rfl) (by decide)) (k_MP_init hV G41 q40) h (fun G43 _ h => ?_)
            refine Y.aast (t0 := 4) (r := ("PartlisterModel$Part", T_MP, 3)) (lIa_ok dd31) rfl rfl (by decide) h (fun G44 _ _ h => ?_)
            refine Y.blk (pc' := 96) (L' := [some (.ref a0), some (.int a1), some (.int a2), some (.int a3), some (.int v38)]) (st' := [.ref a0]) (sg := [(.aload_n 0, 0)]) (lSa_ok dd32) rfl ?_
            refine Y.getA fl_M_18 (lIa_ok dd33) h (fun v45 h => ?_)
            refine Y.blk (pc' := 101) (L' := [some (.ref a0), some (.int a1), some (.int a2), some (.int a3), some (.int v38)]) (st' := [.int v38, .ref v45]) (sg := [(.iload 4, 0)]) (lSa_ok dd34) rfl ?_
            refine Y.aald (t0 := 4) (lIa_ok dd35) rfl h (fun h => ?_) (fun v46 h => ?_)
            · refine Y.blk (pc' := 103) (L' := [some (.ref a0), some (.int a1), some (.int a2), some (.int a3), some (.int v38)]) (st' := [.int a1, .null]) (sg := [(.iload_n 1, 0)]) (lSa_ok dd36) rfl ?_
              cases h
            · refine Y.blk (pc' := 103) (L' := [some (.ref a0), some (.int a1), some (.int a2), some (.int a3), some (.int v38)]) (st' := [.int a1, .ref v46]) (sg := [(.iload_n 1, 0)]) (lSa_ok dd36) rfl ?_
              refine Y.putf fl_M_44 (by decide) rfl rfl (lIa_ok dd37) h (fun G47 _ _ h => ?_)
              refine Y.blk (pc' := 107) (L' := [some (.ref a0), some (.int a1), some (.int a2), some (.int a3), some (.int v38)]) (st' := [.ref a0]) (sg := [(.aload_n 0, 0)]) (lSa_ok dd38) rfl ?_
              refine Y.getA fl_M_18 (lIa_ok dd39) h (fun v48 h => ?_)
              refine Y.blk (pc' := 112) (L' := [some (.ref a0), some (.int a1), some (.int a2), some (.int a3), some (.int v38)]) (st' := [.int v38, .ref v48]) (sg := [(.iload 4, 0)]) (lSa_ok dd40) rfl ?_
              refine Y.aald (t0 := 4) (lIa_ok dd41) rfl h (fun h => ?_) (fun v49 h => ?_)
              · refine Y.blk (pc' := 114) (L' := [some (.ref a0), some (.int a1), some (.int a2), some (.int a3), some (.int v38)]) (st' := [.int a2, .null]) (sg := [(.iload_n 2, 0)]) (lSa_ok dd42) rfl ?_
                cases h
              · refine Y.blk (pc' := 114) (L' := [some (.ref a0), some (.int a1), some (.int a2), some (.int a3), some (.int v38)]) (st' := [.int a2, .ref v49]) (sg := [(.iload_n 2, 0)]) (lSa_ok dd42) rfl ?_
                refine Y.putf fl_M_51 (by decide) rfl rfl (lIa_ok dd43) h (fun G50 _ _ h => ?_)
                refine Y.blk (pc' := 118) (L' := [some (.ref a0), some (.int a1), some (.int a2), some (.int a3), some (.int v38)]) (st' := [.ref a0]) (sg := [(.aload_n 0, 0)]) (lSa_ok dd44) rfl ?_
                refine Y.getA fl_M_18 (lIa_ok dd45) h (fun v51 h => ?_)
                refine Y.blk (pc' := 123) (L' := [some (.ref a0), some (.int a1), some (.int a2), some (.int a3), some (.int v38)]) (st' := [.int v38, .ref v51]) (sg := [(.iload 4, 0)]) (lSa_ok dd46) rfl ?_
                refine Y.aald (t0 := 4) (lIa_ok dd47) rfl h (fun h => ?_) (fun v52 h => ?_)
                · refine Y.blk (pc' := 127) (L' := [some (.ref a0), some (.int a1), some (.int a2), some (.int a3), some (.int v38)]) (st' := [.int (a3 - a2), .null]) (sg := [(.iload_n 3, 0), (.iload_n 2, 0), (.isub, 0)]) (lSa_ok dd48) rfl ?_
                  cases h
                · refine Y.blk (pc' := 127) (L' := [some (.ref a0), some (.int a1), some (.int a2), some (.int a3), some (.int v38)]) (st' := [.int (a3 - a2), .ref v52]) (sg := [(.iload_n 3, 0), (.iload_n 2, 0), (.isub, 0)]) (lSa_ok dd48) rfl ?_
                  refine Y.putf fl_M_65 (by decide) rfl rfl (lIa_ok dd49) h (fun G53 _ _ h => ?_)
                  refine Y.blk (pc' := 132) (L' := [some (.ref a0), some (.int a1), some (.int a2), some (.int a3), some (.int v38)]) (st' := [.int v38]) (sg := [(.iload 4, 0)]) (lSa_ok dd50) rfl ?_
                  exact Y.iret rfl (lIa_ok dd51) h
          · refine Y.blk (pc' := 74) (L' := [some (.ref a0), some (.int a1), some (.int a2), some (.int a3), none]) (st' := [.int (nI 0)]) (sg := [(.iconst 0, nI 0)]) (lSa_ok dd52) rfl ?_
            exact Y.iret rfl (lIa_ok dd53) h
        · refine Y.blk (pc' := 67) (L' := [some (.ref a0), some (.int a1), some (.int a2), some (.int a3), none]) (st' := [.int (nI 2), .int (nI 0), .ref a0]) (sg := [(.iconst 0, nI 0), (.iconst 2, nI 2)]) (lSa_ok dd54) rfl ?_
          obtain ⟨_, o56, e55, m57, h⟩ := gOb_inv h
          refine Y.callI (yC.Vi (b := a0) (As := [.int (nI 0), .int (nI 2)]) (st := []) (r := ("PartlisterModel", T_M, 9)) hV.1 cb_M_refuse lk_M_36 in_M_refuse rfl se_M_refuse (lIa_ok dd21) rfl rfl (Nat.le_of_ble_eq_true rfl) (by decide) e55 m57) (k_M_refuse hV G27 a0 (nI 0) (nI 2)) h (fun v59 G58 _ h => ?_)
          refine Y.if_eq (off := 5) (tgt := 75) (lIa_ok dd22) (by decide) h (fun c80 h => ?_) (fun c80 h => ?_)
          · refine Y.blk (pc' := 76) (L' := [some (.ref a0), some (.int a1), some (.int a2), some (.int a3), none]) (st' := [.ref a0]) (sg := [(.aload_n 0, 0)]) (lSa_ok dd23) rfl ?_
            obtain ⟨_, o61, e60, m62, h⟩ := gOb_inv h
            refine Y.callI (yC.Vi (b := a0) (As := []) (st := []) (r := ("PartlisterModel", T_M, 9)) hV.1 cb_M_freePart lk_M_197 in_M_freePart rfl se_M_freePart (lIa_ok dd24) rfl rfl (Nat.le_of_ble_eq_true rfl) (by decide) e60 m62) (k_M_freePart hV G58 a0) h (fun v64 G63 _ h => ?_)
            refine Y.blk (pc' := 82) (L' := [some (.ref a0), some (.int a1), some (.int a2), some (.int a3), some (.int v64)]) (st' := [.ref a0]) (sg := [(.istore 4, 0), (.aload_n 0, 0)]) (lSa_ok dd25) rfl ?_
            refine Y.getA fl_M_18 (lIa_ok dd26) h (fun v65 h => ?_)
            refine Y.blk (pc' := 87) (L' := [some (.ref a0), some (.int a1), some (.int a2), some (.int a3), some (.int v64)]) (st' := [.int v64, .ref v65]) (sg := [(.iload 4, 0)]) (lSa_ok dd27) rfl ?_
            refine Y.new nc_M_16 (by decide) bk_MP (lIa_ok dd28) h (fun q66 G67 h => ?_)
            refine Y.blk (pc' := 91) (L' := [some (.ref a0), some (.int a1), some (.int a2), some (.int a3), some (.int v64)]) (st' := [.ref q66, .ref q66, .int v64, .ref v65]) (sg := [(.dup, 0)]) (lSa_ok dd29) rfl ?_
            refine Y.callN (yC.IN (b := q66) (As := []) (st := [.ref q66, .int v64, .ref v65]) hV.1 cb_MP_init lk_M_200 in_MP_init rfl rfl (lIa_ok dd30) rfl rfl (Nat.le_of_ble_eq_true rfl) (by decide)) (k_MP_init hV G67 q66) h (fun G69 _ h => ?_)
            refine Y.aast (t0 := 4) (r := ("PartlisterModel$Part", T_MP, 3)) (lIa_ok dd31) rfl rfl (by decide) h (fun G70 _ _ h => ?_)
            refine Y.blk (pc' := 96) (L' := [some (.ref a0), some (.int a1), some (.int a2), some (.int a3), some (.int v64)]) (st' := [.ref a0]) (sg := [(.aload_n 0, 0)]) (lSa_ok dd32) rfl ?_
            refine Y.getA fl_M_18 (lIa_ok dd33) h (fun v71 h => ?_)
            refine Y.blk (pc' := 101) (L' := [some (.ref a0), some (.int a1), some (.int a2), some (.int a3), some (.int v64)]) (st' := [.int v64, .ref v71]) (sg := [(.iload 4, 0)]) (lSa_ok dd34) rfl ?_
            refine Y.aald (t0 := 4) (lIa_ok dd35) rfl h (fun h => ?_) (fun v72 h => ?_)
            · refine Y.blk (pc' := 103) (L' := [some (.ref a0), some (.int a1), some (.int a2), some (.int a3), some (.int v64)]) (st' := [.int a1, .null]) (sg := [(.iload_n 1, 0)]) (lSa_ok dd36) rfl ?_
              cases h
            · refine Y.blk (pc' := 103) (L' := [some (.ref a0), some (.int a1), some (.int a2), some (.int a3), some (.int v64)]) (st' := [.int a1, .ref v72]) (sg := [(.iload_n 1, 0)]) (lSa_ok dd36) rfl ?_
              refine Y.putf fl_M_44 (by decide) rfl rfl (lIa_ok dd37) h (fun G73 _ _ h => ?_)
              refine Y.blk (pc' := 107) (L' := [some (.ref a0), some (.int a1), some (.int a2), some (.int a3), some (.int v64)]) (st' := [.ref a0]) (sg := [(.aload_n 0, 0)]) (lSa_ok dd38) rfl ?_
              refine Y.getA fl_M_18 (lIa_ok dd39) h (fun v74 h => ?_)
              refine Y.blk (pc' := 112) (L' := [some (.ref a0), some (.int a1), some (.int a2), some (.int a3), some (.int v64)]) (st' := [.int v64, .ref v74]) (sg := [(.iload 4, 0)]) (lSa_ok dd40) rfl ?_
              refine Y.aald (t0 := 4) (lIa_ok dd41) rfl h (fun h => ?_) (fun v75 h => ?_)
              · refine Y.blk (pc' := 114) (L' := [some (.ref a0), some (.int a1), some (.int a2), some (.int a3), some (.int v64)]) (st' := [.int a2, .null]) (sg := [(.iload_n 2, 0)]) (lSa_ok dd42) rfl ?_
                cases h
              · refine Y.blk (pc' := 114) (L' := [some (.ref a0), some (.int a1), some (.int a2), some (.int a3), some (.int v64)]) (st' := [.int a2, .ref v75]) (sg := [(.iload_n 2, 0)]) (lSa_ok dd42) rfl ?_
                refine Y.putf fl_M_51 (by decide) rfl rfl (lIa_ok dd43) h (fun G76 _ _ h => ?_)
                refine Y.blk (pc' := 118) (L' := [some (.ref a0), some (.int a1), some (.int a2), some (.int a3), some (.int v64)]) (st' := [.ref a0]) (sg := [(.aload_n 0, 0)]) (lSa_ok dd44) rfl ?_
                refine Y.getA fl_M_18 (lIa_ok dd45) h (fun v77 h => ?_)
                refine Y.blk (pc' := 123) (L' := [some (.ref a0), some (.int a1), some (.int a2), some (.int a3), some (.int v64)]) (st' := [.int v64, .ref v77]) (sg := [(.iload 4, 0)]) (lSa_ok dd46) rfl ?_
                refine Y.aald (t0 := 4) (lIa_ok dd47) rfl h (fun h => ?_) (fun v78 h => ?_)
                · refine Y.blk (pc' := 127) (L' := [some (.ref a0), some (.int a1), some (.int a2), some (.int a3), some (.int v64)]) (st' := [.int (a3 - a2), .null]) (sg := [(.iload_n 3, 0), (.iload_n 2, 0), (.isub, 0)]) (lSa_ok dd48) rfl ?_
                  cases h
                · refine Y.blk (pc' := 127) (L' := [some (.ref a0), some (.int a1), some (.int a2), some (.int a3), some (.int v64)]) (st' := [.int (a3 - a2), .ref v78]) (sg := [(.iload_n 3, 0), (.iload_n 2, 0), (.isub, 0)]) (lSa_ok dd48) rfl ?_
                  refine Y.putf fl_M_65 (by decide) rfl rfl (lIa_ok dd49) h (fun G79 _ _ h => ?_)
                  refine Y.blk (pc' := 132) (L' := [some (.ref a0), some (.int a1), some (.int a2), some (.int a3), some (.int v64)]) (st' := [.int v64]) (sg := [(.iload 4, 0)]) (lSa_ok dd50) rfl ?_
                  exact Y.iret rfl (lIa_ok dd51) h
          · refine Y.blk (pc' := 74) (L' := [some (.ref a0), some (.int a1), some (.int a2), some (.int a3), none]) (st' := [.int (nI 0)]) (sg := [(.iconst 0, nI 0)]) (lSa_ok dd52) rfl ?_
            exact Y.iret rfl (lIa_ok dd53) h
      · refine Y.blk (pc' := 74) (L' := [some (.ref a0), some (.int a1), some (.int a2), some (.int a3), none]) (st' := [.int (nI 0)]) (sg := [(.iconst 0, nI 0)]) (lSa_ok dd52) rfl ?_
        exact Y.iret rfl (lIa_ok dd53) h
    · refine Y.blk (pc' := 31) (L' := [some (.ref a0), some (.int a1), some (.int a2), some (.int a3), none]) (st' := [.int a1, .ref a0, .int a2, .int a3, .ref a0]) (sg := [(.iload_n 3, 0), (.iload_n 2, 0), (.aload_n 0, 0), (.iload_n 1, 0)]) (lSa_ok dd55) rfl ?_
      obtain ⟨_, o84, e83, m85, h⟩ := gOb_inv h
      refine Y.callI (yC.Vi (b := a0) (As := [.int a1]) (st := [.int a2, .int a3, .ref a0]) (r := ("PartlisterModel", T_M, 9)) hV.1 cb_M_length lk_M_74 in_M_length rfl se_M_length (lIa_ok dd56) rfl rfl (Nat.le_of_ble_eq_true rfl) (by decide) e83 m85) (k_M_length hV G17 a0 a1) h (fun v87 G86 _ h => ?_)
      refine Y.callI (yC.S (As := [.int a3, .int a2, .int v87]) (st := [.ref a0]) hV.1 cb_M_isIn lk_M_40 st_M_isIn (lIa_ok dd57) rfl rfl (Nat.le_of_ble_eq_true rfl) (by decide)) (k_M_isIn hV G86 a3 a2 v87) h (fun v90 G89 _ h => ?_)
      refine Y.if_ne (off := 7) (tgt := 44) (lIa_ok dd58) (by decide) h (fun c219 h => ?_) (fun c219 h => ?_)
      · refine Y.blk (pc' := 41) (L' := [some (.ref a0), some (.int a1), some (.int a2), some (.int a3), none]) (st' := [.int (nI 1), .ref a0]) (sg := [(.iconst 1, nI 1)]) (lSa_ok dd9) rfl ?_
        refine Y.goto (off := 4) (tgt := 45) (lIa_ok dd10) (by decide) ?_
        refine Y.blk (pc' := 46) (L' := [some (.ref a0), some (.int a1), some (.int a2), some (.int a3), none]) (st' := [.int (nI 1), .int (nI 1), .ref a0]) (sg := [(.iconst 1, nI 1)]) (lSa_ok dd11) rfl ?_
        obtain ⟨_, o92, e91, m93, h⟩ := gOb_inv h
        refine Y.callI (yC.Vi (b := a0) (As := [.int (nI 1), .int (nI 1)]) (st := []) (r := ("PartlisterModel", T_M, 9)) hV.1 cb_M_refuse lk_M_36 in_M_refuse rfl se_M_refuse (lIa_ok dd12) rfl rfl (Nat.le_of_ble_eq_true rfl) (by decide) e91 m93) (k_M_refuse hV G89 a0 (nI 1) (nI 1)) h (fun v95 G94 _ h => ?_)
        refine Y.if_ne (off := 24) (tgt := 73) (lIa_ok dd13) (by decide) h (fun c154 h => ?_) (fun c154 h => ?_)
        · refine Y.blk (pc' := 54) (L' := [some (.ref a0), some (.int a1), some (.int a2), some (.int a3), none]) (st' := [.ref a0, .ref a0]) (sg := [(.aload_n 0, 0), (.aload_n 0, 0)]) (lSa_ok dd14) rfl ?_
          obtain ⟨_, o97, e96, m98, h⟩ := gOb_inv h
          refine Y.callI (yC.Vi (b := a0) (As := []) (st := [.ref a0]) (r := ("PartlisterModel", T_M, 9)) hV.1 cb_M_freePart lk_M_197 in_M_freePart rfl se_M_freePart (lIa_ok dd15) rfl rfl (Nat.le_of_ble_eq_true rfl) (by decide) e96 m98) (k_M_freePart hV G94 a0) h (fun v100 G99 _ h => ?_)
          refine Y.blk (pc' := 58) (L' := [some (.ref a0), some (.int a1), some (.int a2), some (.int a3), none]) (st' := [.int (-1), .int v100, .ref a0]) (sg := [(.iconst (-1), -1)]) (lSa_ok dd16) rfl ?_
          refine Y.ic_ne (off := 7) (tgt := 65) (lIa_ok dd17) (by decide) h (fun c153 h => ?_) (fun c153 h => ?_)
          · refine Y.blk (pc' := 62) (L' := [some (.ref a0), some (.int a1), some (.int a2), some (.int a3), none]) (st' := [.int (nI 1), .ref a0]) (sg := [(.iconst 1, nI 1)]) (lSa_ok dd18) rfl ?_
            refine Y.goto (off := 4) (tgt := 66) (lIa_ok dd19) (by decide) ?_
            refine Y.blk (pc' := 67) (L' := [some (.ref a0), some (.int a1), some (.int a2), some (.int a3), none]) (st' := [.int (nI 2), .int (nI 1), .ref a0]) (sg := [(.iconst 2, nI 2)]) (lSa_ok dd20) rfl ?_
            obtain ⟨_, o102, e101, m103, h⟩ := gOb_inv h
            refine Y.callI (yC.Vi (b := a0) (As := [.int (nI 1), .int (nI 2)]) (st := []) (r := ("PartlisterModel", T_M, 9)) hV.1 cb_M_refuse lk_M_36 in_M_refuse rfl se_M_refuse (lIa_ok dd21) rfl rfl (Nat.le_of_ble_eq_true rfl) (by decide) e101 m103) (k_M_refuse hV G99 a0 (nI 1) (nI 2)) h (fun v105 G104 _ h => ?_)
            refine Y.if_eq (off := 5) (tgt := 75) (lIa_ok dd22) (by decide) h (fun c126 h => ?_) (fun c126 h => ?_)
            · refine Y.blk (pc' := 76) (L' := [some (.ref a0), some (.int a1), some (.int a2), some (.int a3), none]) (st' := [.ref a0]) (sg := [(.aload_n 0, 0)]) (lSa_ok dd23) rfl ?_
              obtain ⟨_, o107, e106, m108, h⟩ := gOb_inv h
              refine Y.callI (yC.Vi (b := a0) (As := []) (st := []) (r := ("PartlisterModel", T_M, 9)) hV.1 cb_M_freePart lk_M_197 in_M_freePart rfl se_M_freePart (lIa_ok dd24) rfl rfl (Nat.le_of_ble_eq_true rfl) (by decide) e106 m108) (k_M_freePart hV G104 a0) h (fun v110 G109 _ h => ?_)
              refine Y.blk (pc' := 82) (L' := [some (.ref a0), some (.int a1), some (.int a2), some (.int a3), some (.int v110)]) (st' := [.ref a0]) (sg := [(.istore 4, 0), (.aload_n 0, 0)]) (lSa_ok dd25) rfl ?_
              refine Y.getA fl_M_18 (lIa_ok dd26) h (fun v111 h => ?_)
              refine Y.blk (pc' := 87) (L' := [some (.ref a0), some (.int a1), some (.int a2), some (.int a3), some (.int v110)]) (st' := [.int v110, .ref v111]) (sg := [(.iload 4, 0)]) (lSa_ok dd27) rfl ?_
              refine Y.new nc_M_16 (by decide) bk_MP (lIa_ok dd28) h (fun q112 G113 h => ?_)
              refine Y.blk (pc' := 91) (L' := [some (.ref a0), some (.int a1), some (.int a2), some (.int a3), some (.int v110)]) (st' := [.ref q112, .ref q112, .int v110, .ref v111]) (sg := [(.dup, 0)]) (lSa_ok dd29) rfl ?_
              refine Y.callN (yC.IN (b := q112) (As := []) (st := [.ref q112, .int v110, .ref v111]) hV.1 cb_MP_init lk_M_200 in_MP_init rfl rfl (lIa_ok dd30) rfl rfl (Nat.le_of_ble_eq_true rfl) (by decide)) (k_MP_init hV G113 q112) h (fun G115 _ h => ?_)
              refine Y.aast (t0 := 4) (r := ("PartlisterModel$Part", T_MP, 3)) (lIa_ok dd31) rfl rfl (by decide) h (fun G116 _ _ h => ?_)
              refine Y.blk (pc' := 96) (L' := [some (.ref a0), some (.int a1), some (.int a2), some (.int a3), some (.int v110)]) (st' := [.ref a0]) (sg := [(.aload_n 0, 0)]) (lSa_ok dd32) rfl ?_
              refine Y.getA fl_M_18 (lIa_ok dd33) h (fun v117 h => ?_)
              refine Y.blk (pc' := 101) (L' := [some (.ref a0), some (.int a1), some (.int a2), some (.int a3), some (.int v110)]) (st' := [.int v110, .ref v117]) (sg := [(.iload 4, 0)]) (lSa_ok dd34) rfl ?_
              refine Y.aald (t0 := 4) (lIa_ok dd35) rfl h (fun h => ?_) (fun v118 h => ?_)
              · refine Y.blk (pc' := 103) (L' := [some (.ref a0), some (.int a1), some (.int a2), some (.int a3), some (.int v110)]) (st' := [.int a1, .null]) (sg := [(.iload_n 1, 0)]) (lSa_ok dd36) rfl ?_
                cases h
              · refine Y.blk (pc' := 103) (L' := [some (.ref a0), some (.int a1), some (.int a2), some (.int a3), some (.int v110)]) (st' := [.int a1, .ref v118]) (sg := [(.iload_n 1, 0)]) (lSa_ok dd36) rfl ?_
                refine Y.putf fl_M_44 (by decide) rfl rfl (lIa_ok dd37) h (fun G119 _ _ h => ?_)
                refine Y.blk (pc' := 107) (L' := [some (.ref a0), some (.int a1), some (.int a2), some (.int a3), some (.int v110)]) (st' := [.ref a0]) (sg := [(.aload_n 0, 0)]) (lSa_ok dd38) rfl ?_
                refine Y.getA fl_M_18 (lIa_ok dd39) h (fun v120 h => ?_)
                refine Y.blk (pc' := 112) (L' := [some (.ref a0), some (.int a1), some (.int a2), some (.int a3), some (.int v110)]) (st' := [.int v110, .ref v120]) (sg := [(.iload 4, 0)]) (lSa_ok dd40) rfl ?_
                refine Y.aald (t0 := 4) (lIa_ok dd41) rfl h (fun h => ?_) (fun v121 h => ?_)
                · refine Y.blk (pc' := 114) (L' := [some (.ref a0), some (.int a1), some (.int a2), some (.int a3), some (.int v110)]) (st' := [.int a2, .null]) (sg := [(.iload_n 2, 0)]) (lSa_ok dd42) rfl ?_
                  cases h
                · refine Y.blk (pc' := 114) (L' := [some (.ref a0), some (.int a1), some (.int a2), some (.int a3), some (.int v110)]) (st' := [.int a2, .ref v121]) (sg := [(.iload_n 2, 0)]) (lSa_ok dd42) rfl ?_
                  refine Y.putf fl_M_51 (by decide) rfl rfl (lIa_ok dd43) h (fun G122 _ _ h => ?_)
                  refine Y.blk (pc' := 118) (L' := [some (.ref a0), some (.int a1), some (.int a2), some (.int a3), some (.int v110)]) (st' := [.ref a0]) (sg := [(.aload_n 0, 0)]) (lSa_ok dd44) rfl ?_
                  refine Y.getA fl_M_18 (lIa_ok dd45) h (fun v123 h => ?_)
                  refine Y.blk (pc' := 123) (L' := [some (.ref a0), some (.int a1), some (.int a2), some (.int a3), some (.int v110)]) (st' := [.int v110, .ref v123]) (sg := [(.iload 4, 0)]) (lSa_ok dd46) rfl ?_
                  refine Y.aald (t0 := 4) (lIa_ok dd47) rfl h (fun h => ?_) (fun v124 h => ?_)
                  · refine Y.blk (pc' := 127) (L' := [some (.ref a0), some (.int a1), some (.int a2), some (.int a3), some (.int v110)]) (st' := [.int (a3 - a2), .null]) (sg := [(.iload_n 3, 0), (.iload_n 2, 0), (.isub, 0)]) (lSa_ok dd48) rfl ?_
                    cases h
                  · refine Y.blk (pc' := 127) (L' := [some (.ref a0), some (.int a1), some (.int a2), some (.int a3), some (.int v110)]) (st' := [.int (a3 - a2), .ref v124]) (sg := [(.iload_n 3, 0), (.iload_n 2, 0), (.isub, 0)]) (lSa_ok dd48) rfl ?_
                    refine Y.putf fl_M_65 (by decide) rfl rfl (lIa_ok dd49) h (fun G125 _ _ h => ?_)
                    refine Y.blk (pc' := 132) (L' := [some (.ref a0), some (.int a1), some (.int a2), some (.int a3), some (.int v110)]) (st' := [.int v110]) (sg := [(.iload 4, 0)]) (lSa_ok dd50) rfl ?_
                    exact Y.iret rfl (lIa_ok dd51) h
            · refine Y.blk (pc' := 74) (L' := [some (.ref a0), some (.int a1), some (.int a2), some (.int a3), none]) (st' := [.int (nI 0)]) (sg := [(.iconst 0, nI 0)]) (lSa_ok dd52) rfl ?_
              exact Y.iret rfl (lIa_ok dd53) h
          · refine Y.blk (pc' := 67) (L' := [some (.ref a0), some (.int a1), some (.int a2), some (.int a3), none]) (st' := [.int (nI 2), .int (nI 0), .ref a0]) (sg := [(.iconst 0, nI 0), (.iconst 2, nI 2)]) (lSa_ok dd54) rfl ?_
            obtain ⟨_, o128, e127, m129, h⟩ := gOb_inv h
            refine Y.callI (yC.Vi (b := a0) (As := [.int (nI 0), .int (nI 2)]) (st := []) (r := ("PartlisterModel", T_M, 9)) hV.1 cb_M_refuse lk_M_36 in_M_refuse rfl se_M_refuse (lIa_ok dd21) rfl rfl (Nat.le_of_ble_eq_true rfl) (by decide) e127 m129) (k_M_refuse hV G99 a0 (nI 0) (nI 2)) h (fun v131 G130 _ h => ?_)
            refine Y.if_eq (off := 5) (tgt := 75) (lIa_ok dd22) (by decide) h (fun c152 h => ?_) (fun c152 h => ?_)
            · refine Y.blk (pc' := 76) (L' := [some (.ref a0), some (.int a1), some (.int a2), some (.int a3), none]) (st' := [.ref a0]) (sg := [(.aload_n 0, 0)]) (lSa_ok dd23) rfl ?_
              obtain ⟨_, o133, e132, m134, h⟩ := gOb_inv h
              refine Y.callI (yC.Vi (b := a0) (As := []) (st := []) (r := ("PartlisterModel", T_M, 9)) hV.1 cb_M_freePart lk_M_197 in_M_freePart rfl se_M_freePart (lIa_ok dd24) rfl rfl (Nat.le_of_ble_eq_true rfl) (by decide) e132 m134) (k_M_freePart hV G130 a0) h (fun v136 G135 _ h => ?_)
              refine Y.blk (pc' := 82) (L' := [some (.ref a0), some (.int a1), some (.int a2), some (.int a3), some (.int v136)]) (st' := [.ref a0]) (sg := [(.istore 4, 0), (.aload_n 0, 0)]) (lSa_ok dd25) rfl ?_
              refine Y.getA fl_M_18 (lIa_ok dd26) h (fun v137 h => ?_)
              refine Y.blk (pc' := 87) (L' := [some (.ref a0), some (.int a1), some (.int a2), some (.int a3), some (.int v136)]) (st' := [.int v136, .ref v137]) (sg := [(.iload 4, 0)]) (lSa_ok dd27) rfl ?_
              refine Y.new nc_M_16 (by decide) bk_MP (lIa_ok dd28) h (fun q138 G139 h => ?_)
              refine Y.blk (pc' := 91) (L' := [some (.ref a0), some (.int a1), some (.int a2), some (.int a3), some (.int v136)]) (st' := [.ref q138, .ref q138, .int v136, .ref v137]) (sg := [(.dup, 0)]) (lSa_ok dd29) rfl ?_
              refine Y.callN (yC.IN (b := q138) (As := []) (st := [.ref q138, .int v136, .ref v137]) hV.1 cb_MP_init lk_M_200 in_MP_init rfl rfl (lIa_ok dd30) rfl rfl (Nat.le_of_ble_eq_true rfl) (by decide)) (k_MP_init hV G139 q138) h (fun G141 _ h => ?_)
              refine Y.aast (t0 := 4) (r := ("PartlisterModel$Part", T_MP, 3)) (lIa_ok dd31) rfl rfl (by decide) h (fun G142 _ _ h => ?_)
              refine Y.blk (pc' := 96) (L' := [some (.ref a0), some (.int a1), some (.int a2), some (.int a3), some (.int v136)]) (st' := [.ref a0]) (sg := [(.aload_n 0, 0)]) (lSa_ok dd32) rfl ?_
              refine Y.getA fl_M_18 (lIa_ok dd33) h (fun v143 h => ?_)
              refine Y.blk (pc' := 101) (L' := [some (.ref a0), some (.int a1), some (.int a2), some (.int a3), some (.int v136)]) (st' := [.int v136, .ref v143]) (sg := [(.iload 4, 0)]) (lSa_ok dd34) rfl ?_
              refine Y.aald (t0 := 4) (lIa_ok dd35) rfl h (fun h => ?_) (fun v144 h => ?_)
              · refine Y.blk (pc' := 103) (L' := [some (.ref a0), some (.int a1), some (.int a2), some (.int a3), some (.int v136)]) (st' := [.int a1, .null]) (sg := [(.iload_n 1, 0)]) (lSa_ok dd36) rfl ?_
                cases h
              · refine Y.blk (pc' := 103) (L' := [some (.ref a0), some (.int a1), some (.int a2), some (.int a3), some (.int v136)]) (st' := [.int a1, .ref v144]) (sg := [(.iload_n 1, 0)]) (lSa_ok dd36) rfl ?_
                refine Y.putf fl_M_44 (by decide) rfl rfl (lIa_ok dd37) h (fun G145 _ _ h => ?_)
                refine Y.blk (pc' := 107) (L' := [some (.ref a0), some (.int a1), some (.int a2), some (.int a3), some (.int v136)]) (st' := [.ref a0]) (sg := [(.aload_n 0, 0)]) (lSa_ok dd38) rfl ?_
                refine Y.getA fl_M_18 (lIa_ok dd39) h (fun v146 h => ?_)
                refine Y.blk (pc' := 112) (L' := [some (.ref a0), some (.int a1), some (.int a2), some (.int a3), some (.int v136)]) (st' := [.int v136, .ref v146]) (sg := [(.iload 4, 0)]) (lSa_ok dd40) rfl ?_
                refine Y.aald (t0 := 4) (lIa_ok dd41) rfl h (fun h => ?_) (fun v147 h => ?_)
                · refine Y.blk (pc' := 114) (L' := [some (.ref a0), some (.int a1), some (.int a2), some (.int a3), some (.int v136)]) (st' := [.int a2, .null]) (sg := [(.iload_n 2, 0)]) (lSa_ok dd42) rfl ?_
                  cases h
                · refine Y.blk (pc' := 114) (L' := [some (.ref a0), some (.int a1), some (.int a2), some (.int a3), some (.int v136)]) (st' := [.int a2, .ref v147]) (sg := [(.iload_n 2, 0)]) (lSa_ok dd42) rfl ?_
                  refine Y.putf fl_M_51 (by decide) rfl rfl (lIa_ok dd43) h (fun G148 _ _ h => ?_)
                  refine Y.blk (pc' := 118) (L' := [some (.ref a0), some (.int a1), some (.int a2), some (.int a3), some (.int v136)]) (st' := [.ref a0]) (sg := [(.aload_n 0, 0)]) (lSa_ok dd44) rfl ?_
                  refine Y.getA fl_M_18 (lIa_ok dd45) h (fun v149 h => ?_)
                  refine Y.blk (pc' := 123) (L' := [some (.ref a0), some (.int a1), some (.int a2), some (.int a3), some (.int v136)]) (st' := [.int v136, .ref v149]) (sg := [(.iload 4, 0)]) (lSa_ok dd46) rfl ?_
                  refine Y.aald (t0 := 4) (lIa_ok dd47) rfl h (fun h => ?_) (fun v150 h => ?_)
                  · refine Y.blk (pc' := 127) (L' := [some (.ref a0), some (.int a1), some (.int a2), some (.int a3), some (.int v136)]) (st' := [.int (a3 - a2), .null]) (sg := [(.iload_n 3, 0), (.iload_n 2, 0), (.isub, 0)]) (lSa_ok dd48) rfl ?_
                    cases h
                  · refine Y.blk (pc' := 127) (L' := [some (.ref a0), some (.int a1), some (.int a2), some (.int a3), some (.int v136)]) (st' := [.int (a3 - a2), .ref v150]) (sg := [(.iload_n 3, 0), (.iload_n 2, 0), (.isub, 0)]) (lSa_ok dd48) rfl ?_
                    refine Y.putf fl_M_65 (by decide) rfl rfl (lIa_ok dd49) h (fun G151 _ _ h => ?_)
                    refine Y.blk (pc' := 132) (L' := [some (.ref a0), some (.int a1), some (.int a2), some (.int a3), some (.int v136)]) (st' := [.int v136]) (sg := [(.iload 4, 0)]) (lSa_ok dd50) rfl ?_
                    exact Y.iret rfl (lIa_ok dd51) h
            · refine Y.blk (pc' := 74) (L' := [some (.ref a0), some (.int a1), some (.int a2), some (.int a3), none]) (st' := [.int (nI 0)]) (sg := [(.iconst 0, nI 0)]) (lSa_ok dd52) rfl ?_
              exact Y.iret rfl (lIa_ok dd53) h
        · refine Y.blk (pc' := 74) (L' := [some (.ref a0), some (.int a1), some (.int a2), some (.int a3), none]) (st' := [.int (nI 0)]) (sg := [(.iconst 0, nI 0)]) (lSa_ok dd52) rfl ?_
          exact Y.iret rfl (lIa_ok dd53) h
      · refine Y.blk (pc' := 46) (L' := [some (.ref a0), some (.int a1), some (.int a2), some (.int a3), none]) (st' := [.int (nI 1), .int (nI 0), .ref a0]) (sg := [(.iconst 0, nI 0), (.iconst 1, nI 1)]) (lSa_ok dd59) rfl ?_
        obtain ⟨_, o156, e155, m157, h⟩ := gOb_inv h
        refine Y.callI (yC.Vi (b := a0) (As := [.int (nI 0), .int (nI 1)]) (st := []) (r := ("PartlisterModel", T_M, 9)) hV.1 cb_M_refuse lk_M_36 in_M_refuse rfl se_M_refuse (lIa_ok dd12) rfl rfl (Nat.le_of_ble_eq_true rfl) (by decide) e155 m157) (k_M_refuse hV G89 a0 (nI 0) (nI 1)) h (fun v159 G158 _ h => ?_)
        refine Y.if_ne (off := 24) (tgt := 73) (lIa_ok dd13) (by decide) h (fun c218 h => ?_) (fun c218 h => ?_)
        · refine Y.blk (pc' := 54) (L' := [some (.ref a0), some (.int a1), some (.int a2), some (.int a3), none]) (st' := [.ref a0, .ref a0]) (sg := [(.aload_n 0, 0), (.aload_n 0, 0)]) (lSa_ok dd14) rfl ?_
          obtain ⟨_, o161, e160, m162, h⟩ := gOb_inv h
          refine Y.callI (yC.Vi (b := a0) (As := []) (st := [.ref a0]) (r := ("PartlisterModel", T_M, 9)) hV.1 cb_M_freePart lk_M_197 in_M_freePart rfl se_M_freePart (lIa_ok dd15) rfl rfl (Nat.le_of_ble_eq_true rfl) (by decide) e160 m162) (k_M_freePart hV G158 a0) h (fun v164 G163 _ h => ?_)
          refine Y.blk (pc' := 58) (L' := [some (.ref a0), some (.int a1), some (.int a2), some (.int a3), none]) (st' := [.int (-1), .int v164, .ref a0]) (sg := [(.iconst (-1), -1)]) (lSa_ok dd16) rfl ?_
          refine Y.ic_ne (off := 7) (tgt := 65) (lIa_ok dd17) (by decide) h (fun c217 h => ?_) (fun c217 h => ?_)
          · refine Y.blk (pc' := 62) (L' := [some (.ref a0), some (.int a1), some (.int a2), some (.int a3), none]) (st' := [.int (nI 1), .ref a0]) (sg := [(.iconst 1, nI 1)]) (lSa_ok dd18) rfl ?_
            refine Y.goto (off := 4) (tgt := 66) (lIa_ok dd19) (by decide) ?_
            refine Y.blk (pc' := 67) (L' := [some (.ref a0), some (.int a1), some (.int a2), some (.int a3), none]) (st' := [.int (nI 2), .int (nI 1), .ref a0]) (sg := [(.iconst 2, nI 2)]) (lSa_ok dd20) rfl ?_
            obtain ⟨_, o166, e165, m167, h⟩ := gOb_inv h
            refine Y.callI (yC.Vi (b := a0) (As := [.int (nI 1), .int (nI 2)]) (st := []) (r := ("PartlisterModel", T_M, 9)) hV.1 cb_M_refuse lk_M_36 in_M_refuse rfl se_M_refuse (lIa_ok dd21) rfl rfl (Nat.le_of_ble_eq_true rfl) (by decide) e165 m167) (k_M_refuse hV G163 a0 (nI 1) (nI 2)) h (fun v169 G168 _ h => ?_)
            refine Y.if_eq (off := 5) (tgt := 75) (lIa_ok dd22) (by decide) h (fun c190 h => ?_) (fun c190 h => ?_)
            · refine Y.blk (pc' := 76) (L' := [some (.ref a0), some (.int a1), some (.int a2), some (.int a3), none]) (st' := [.ref a0]) (sg := [(.aload_n 0, 0)]) (lSa_ok dd23) rfl ?_
              obtain ⟨_, o171, e170, m172, h⟩ := gOb_inv h
              refine Y.callI (yC.Vi (b := a0) (As := []) (st := []) (r := ("PartlisterModel", T_M, 9)) hV.1 cb_M_freePart lk_M_197 in_M_freePart rfl se_M_freePart (lIa_ok dd24) rfl rfl (Nat.le_of_ble_eq_true rfl) (by decide) e170 m172) (k_M_freePart hV G168 a0) h (fun v174 G173 _ h => ?_)
              refine Y.blk (pc' := 82) (L' := [some (.ref a0), some (.int a1), some (.int a2), some (.int a3), some (.int v174)]) (st' := [.ref a0]) (sg := [(.istore 4, 0), (.aload_n 0, 0)]) (lSa_ok dd25) rfl ?_
              refine Y.getA fl_M_18 (lIa_ok dd26) h (fun v175 h => ?_)
              refine Y.blk (pc' := 87) (L' := [some (.ref a0), some (.int a1), some (.int a2), some (.int a3), some (.int v174)]) (st' := [.int v174, .ref v175]) (sg := [(.iload 4, 0)]) (lSa_ok dd27) rfl ?_
              refine Y.new nc_M_16 (by decide) bk_MP (lIa_ok dd28) h (fun q176 G177 h => ?_)
              refine Y.blk (pc' := 91) (L' := [some (.ref a0), some (.int a1), some (.int a2), some (.int a3), some (.int v174)]) (st' := [.ref q176, .ref q176, .int v174, .ref v175]) (sg := [(.dup, 0)]) (lSa_ok dd29) rfl ?_
              refine Y.callN (yC.IN (b := q176) (As := []) (st := [.ref q176, .int v174, .ref v175]) hV.1 cb_MP_init lk_M_200 in_MP_init rfl rfl (lIa_ok dd30) rfl rfl (Nat.le_of_ble_eq_true rfl) (by decide)) (k_MP_init hV G177 q176) h (fun G179 _ h => ?_)
              refine Y.aast (t0 := 4) (r := ("PartlisterModel$Part", T_MP, 3)) (lIa_ok dd31) rfl rfl (by decide) h (fun G180 _ _ h => ?_)
              refine Y.blk (pc' := 96) (L' := [some (.ref a0), some (.int a1), some (.int a2), some (.int a3), some (.int v174)]) (st' := [.ref a0]) (sg := [(.aload_n 0, 0)]) (lSa_ok dd32) rfl ?_
              refine Y.getA fl_M_18 (lIa_ok dd33) h (fun v181 h => ?_)
              refine Y.blk (pc' := 101) (L' := [some (.ref a0), some (.int a1), some (.int a2), some (.int a3), some (.int v174)]) (st' := [.int v174, .ref v181]) (sg := [(.iload 4, 0)]) (lSa_ok dd34) rfl ?_
              refine Y.aald (t0 := 4) (lIa_ok dd35) rfl h (fun h => ?_) (fun v182 h => ?_)
              · refine Y.blk (pc' := 103) (L' := [some (.ref a0), some (.int a1), some (.int a2), some (.int a3), some (.int v174)]) (st' := [.int a1, .null]) (sg := [(.iload_n 1, 0)]) (lSa_ok dd36) rfl ?_
                cases h
              · refine Y.blk (pc' := 103) (L' := [some (.ref a0), some (.int a1), some (.int a2), some (.int a3), some (.int v174)]) (st' := [.int a1, .ref v182]) (sg := [(.iload_n 1, 0)]) (lSa_ok dd36) rfl ?_
                refine Y.putf fl_M_44 (by decide) rfl rfl (lIa_ok dd37) h (fun G183 _ _ h => ?_)
                refine Y.blk (pc' := 107) (L' := [some (.ref a0), some (.int a1), some (.int a2), some (.int a3), some (.int v174)]) (st' := [.ref a0]) (sg := [(.aload_n 0, 0)]) (lSa_ok dd38) rfl ?_
                refine Y.getA fl_M_18 (lIa_ok dd39) h (fun v184 h => ?_)
                refine Y.blk (pc' := 112) (L' := [some (.ref a0), some (.int a1), some (.int a2), some (.int a3), some (.int v174)]) (st' := [.int v174, .ref v184]) (sg := [(.iload 4, 0)]) (lSa_ok dd40) rfl ?_
                refine Y.aald (t0 := 4) (lIa_ok dd41) rfl h (fun h => ?_) (fun v185 h => ?_)
                · refine Y.blk (pc' := 114) (L' := [some (.ref a0), some (.int a1), some (.int a2), some (.int a3), some (.int v174)]) (st' := [.int a2, .null]) (sg := [(.iload_n 2, 0)]) (lSa_ok dd42) rfl ?_
                  cases h
                · refine Y.blk (pc' := 114) (L' := [some (.ref a0), some (.int a1), some (.int a2), some (.int a3), some (.int v174)]) (st' := [.int a2, .ref v185]) (sg := [(.iload_n 2, 0)]) (lSa_ok dd42) rfl ?_
                  refine Y.putf fl_M_51 (by decide) rfl rfl (lIa_ok dd43) h (fun G186 _ _ h => ?_)
                  refine Y.blk (pc' := 118) (L' := [some (.ref a0), some (.int a1), some (.int a2), some (.int a3), some (.int v174)]) (st' := [.ref a0]) (sg := [(.aload_n 0, 0)]) (lSa_ok dd44) rfl ?_
                  refine Y.getA fl_M_18 (lIa_ok dd45) h (fun v187 h => ?_)
                  refine Y.blk (pc' := 123) (L' := [some (.ref a0), some (.int a1), some (.int a2), some (.int a3), some (.int v174)]) (st' := [.int v174, .ref v187]) (sg := [(.iload 4, 0)]) (lSa_ok dd46) rfl ?_
                  refine Y.aald (t0 := 4) (lIa_ok dd47) rfl h (fun h => ?_) (fun v188 h => ?_)
                  · refine Y.blk (pc' := 127) (L' := [some (.ref a0), some (.int a1), some (.int a2), some (.int a3), some (.int v174)]) (st' := [.int (a3 - a2), .null]) (sg := [(.iload_n 3, 0), (.iload_n 2, 0), (.isub, 0)]) (lSa_ok dd48) rfl ?_
                    cases h
                  · refine Y.blk (pc' := 127) (L' := [some (.ref a0), some (.int a1), some (.int a2), some (.int a3), some (.int v174)]) (st' := [.int (a3 - a2), .ref v188]) (sg := [(.iload_n 3, 0), (.iload_n 2, 0), (.isub, 0)]) (lSa_ok dd48) rfl ?_
                    refine Y.putf fl_M_65 (by decide) rfl rfl (lIa_ok dd49) h (fun G189 _ _ h => ?_)
                    refine Y.blk (pc' := 132) (L' := [some (.ref a0), some (.int a1), some (.int a2), some (.int a3), some (.int v174)]) (st' := [.int v174]) (sg := [(.iload 4, 0)]) (lSa_ok dd50) rfl ?_
                    exact Y.iret rfl (lIa_ok dd51) h
            · refine Y.blk (pc' := 74) (L' := [some (.ref a0), some (.int a1), some (.int a2), some (.int a3), none]) (st' := [.int (nI 0)]) (sg := [(.iconst 0, nI 0)]) (lSa_ok dd52) rfl ?_
              exact Y.iret rfl (lIa_ok dd53) h
          · refine Y.blk (pc' := 67) (L' := [some (.ref a0), some (.int a1), some (.int a2), some (.int a3), none]) (st' := [.int (nI 2), .int (nI 0), .ref a0]) (sg := [(.iconst 0, nI 0), (.iconst 2, nI 2)]) (lSa_ok dd54) rfl ?_
            obtain ⟨_, o192, e191, m193, h⟩ := gOb_inv h
            refine Y.callI (yC.Vi (b := a0) (As := [.int (nI 0), .int (nI 2)]) (st := []) (r := ("PartlisterModel", T_M, 9)) hV.1 cb_M_refuse lk_M_36 in_M_refuse rfl se_M_refuse (lIa_ok dd21) rfl rfl (Nat.le_of_ble_eq_true rfl) (by decide) e191 m193) (k_M_refuse hV G163 a0 (nI 0) (nI 2)) h (fun v195 G194 _ h => ?_)
            refine Y.if_eq (off := 5) (tgt := 75) (lIa_ok dd22) (by decide) h (fun c216 h => ?_) (fun c216 h => ?_)
            · refine Y.blk (pc' := 76) (L' := [some (.ref a0), some (.int a1), some (.int a2), some (.int a3), none]) (st' := [.ref a0]) (sg := [(.aload_n 0, 0)]) (lSa_ok dd23) rfl ?_
              obtain ⟨_, o197, e196, m198, h⟩ := gOb_inv h
              refine Y.callI (yC.Vi (b := a0) (As := []) (st := []) (r := ("PartlisterModel", T_M, 9)) hV.1 cb_M_freePart lk_M_197 in_M_freePart rfl se_M_freePart (lIa_ok dd24) rfl rfl (Nat.le_of_ble_eq_true rfl) (by decide) e196 m198) (k_M_freePart hV G194 a0) h (fun v200 G199 _ h => ?_)
              refine Y.blk (pc' := 82) (L' := [some (.ref a0), some (.int a1), some (.int a2), some (.int a3), some (.int v200)]) (st' := [.ref a0]) (sg := [(.istore 4, 0), (.aload_n 0, 0)]) (lSa_ok dd25) rfl ?_
              refine Y.getA fl_M_18 (lIa_ok dd26) h (fun v201 h => ?_)
              refine Y.blk (pc' := 87) (L' := [some (.ref a0), some (.int a1), some (.int a2), some (.int a3), some (.int v200)]) (st' := [.int v200, .ref v201]) (sg := [(.iload 4, 0)]) (lSa_ok dd27) rfl ?_
              refine Y.new nc_M_16 (by decide) bk_MP (lIa_ok dd28) h (fun q202 G203 h => ?_)
              refine Y.blk (pc' := 91) (L' := [some (.ref a0), some (.int a1), some (.int a2), some (.int a3), some (.int v200)]) (st' := [.ref q202, .ref q202, .int v200, .ref v201]) (sg := [(.dup, 0)]) (lSa_ok dd29) rfl ?_
              refine Y.callN (yC.IN (b := q202) (As := []) (st := [.ref q202, .int v200, .ref v201]) hV.1 cb_MP_init lk_M_200 in_MP_init rfl rfl (lIa_ok dd30) rfl rfl (Nat.le_of_ble_eq_true rfl) (by decide)) (k_MP_init hV G203 q202) h (fun G205 _ h => ?_)
              refine Y.aast (t0 := 4) (r := ("PartlisterModel$Part", T_MP, 3)) (lIa_ok dd31) rfl rfl (by decide) h (fun G206 _ _ h => ?_)
              refine Y.blk (pc' := 96) (L' := [some (.ref a0), some (.int a1), some (.int a2), some (.int a3), some (.int v200)]) (st' := [.ref a0]) (sg := [(.aload_n 0, 0)]) (lSa_ok dd32) rfl ?_
              refine Y.getA fl_M_18 (lIa_ok dd33) h (fun v207 h => ?_)
              refine Y.blk (pc' := 101) (L' := [some (.ref a0), some (.int a1), some (.int a2), some (.int a3), some (.int v200)]) (st' := [.int v200, .ref v207]) (sg := [(.iload 4, 0)]) (lSa_ok dd34) rfl ?_
              refine Y.aald (t0 := 4) (lIa_ok dd35) rfl h (fun h => ?_) (fun v208 h => ?_)
              · refine Y.blk (pc' := 103) (L' := [some (.ref a0), some (.int a1), some (.int a2), some (.int a3), some (.int v200)]) (st' := [.int a1, .null]) (sg := [(.iload_n 1, 0)]) (lSa_ok dd36) rfl ?_
                cases h
              · refine Y.blk (pc' := 103) (L' := [some (.ref a0), some (.int a1), some (.int a2), some (.int a3), some (.int v200)]) (st' := [.int a1, .ref v208]) (sg := [(.iload_n 1, 0)]) (lSa_ok dd36) rfl ?_
                refine Y.putf fl_M_44 (by decide) rfl rfl (lIa_ok dd37) h (fun G209 _ _ h => ?_)
                refine Y.blk (pc' := 107) (L' := [some (.ref a0), some (.int a1), some (.int a2), some (.int a3), some (.int v200)]) (st' := [.ref a0]) (sg := [(.aload_n 0, 0)]) (lSa_ok dd38) rfl ?_
                refine Y.getA fl_M_18 (lIa_ok dd39) h (fun v210 h => ?_)
                refine Y.blk (pc' := 112) (L' := [some (.ref a0), some (.int a1), some (.int a2), some (.int a3), some (.int v200)]) (st' := [.int v200, .ref v210]) (sg := [(.iload 4, 0)]) (lSa_ok dd40) rfl ?_
                refine Y.aald (t0 := 4) (lIa_ok dd41) rfl h (fun h => ?_) (fun v211 h => ?_)
                · refine Y.blk (pc' := 114) (L' := [some (.ref a0), some (.int a1), some (.int a2), some (.int a3), some (.int v200)]) (st' := [.int a2, .null]) (sg := [(.iload_n 2, 0)]) (lSa_ok dd42) rfl ?_
                  cases h
                · refine Y.blk (pc' := 114) (L' := [some (.ref a0), some (.int a1), some (.int a2), some (.int a3), some (.int v200)]) (st' := [.int a2, .ref v211]) (sg := [(.iload_n 2, 0)]) (lSa_ok dd42) rfl ?_
                  refine Y.putf fl_M_51 (by decide) rfl rfl (lIa_ok dd43) h (fun G212 _ _ h => ?_)
                  refine Y.blk (pc' := 118) (L' := [some (.ref a0), some (.int a1), some (.int a2), some (.int a3), some (.int v200)]) (st' := [.ref a0]) (sg := [(.aload_n 0, 0)]) (lSa_ok dd44) rfl ?_
                  refine Y.getA fl_M_18 (lIa_ok dd45) h (fun v213 h => ?_)
                  refine Y.blk (pc' := 123) (L' := [some (.ref a0), some (.int a1), some (.int a2), some (.int a3), some (.int v200)]) (st' := [.int v200, .ref v213]) (sg := [(.iload 4, 0)]) (lSa_ok dd46) rfl ?_
                  refine Y.aald (t0 := 4) (lIa_ok dd47) rfl h (fun h => ?_) (fun v214 h => ?_)
                  · refine Y.blk (pc' := 127) (L' := [some (.ref a0), some (.int a1), some (.int a2), some (.int a3), some (.int v200)]) (st' := [.int (a3 - a2), .null]) (sg := [(.iload_n 3, 0), (.iload_n 2, 0), (.isub, 0)]) (lSa_ok dd48) rfl ?_
                    cases h
                  · refine Y.blk (pc' := 127) (L' := [some (.ref a0), some (.int a1), some (.int a2), some (.int a3), some (.int v200)]) (st' := [.int (a3 - a2), .ref v214]) (sg := [(.iload_n 3, 0), (.iload_n 2, 0), (.isub, 0)]) (lSa_ok dd48) rfl ?_
                    refine Y.putf fl_M_65 (by decide) rfl rfl (lIa_ok dd49) h (fun G215 _ _ h => ?_)
                    refine Y.blk (pc' := 132) (L' := [some (.ref a0), some (.int a1), some (.int a2), some (.int a3), some (.int v200)]) (st' := [.int v200]) (sg := [(.iload 4, 0)]) (lSa_ok dd50) rfl ?_
                    exact Y.iret rfl (lIa_ok dd51) h
            · refine Y.blk (pc' := 74) (L' := [some (.ref a0), some (.int a1), some (.int a2), some (.int a3), none]) (st' := [.int (nI 0)]) (sg := [(.iconst 0, nI 0)]) (lSa_ok dd52) rfl ?_
              exact Y.iret rfl (lIa_ok dd53) h
        · refine Y.blk (pc' := 74) (L' := [some (.ref a0), some (.int a1), some (.int a2), some (.int a3), none]) (st' := [.int (nI 0)]) (sg := [(.iconst 0, nI 0)]) (lSa_ok dd52) rfl ?_
          exact Y.iret rfl (lIa_ok dd53) h
  · refine Y.blk (pc' := 74) (L' := [some (.ref a0), some (.int a1), some (.int a2), some (.int a3), none]) (st' := [.int (nI 0)]) (sg := [(.iconst 0, nI 0)]) (lSa_ok dd52) rfl ?_
    exact Y.iret rfl (lIa_ok dd53) h
end
section
def f_M_previous (G : gH) (a0 : Nat) (a1 : Int32) : gR :=
  gOb G a0 6 fun o2 => bI (f_M_isNoCursor G a0 a1) fun v5 G4 => gOb G4 a0 6 fun o7 => bI (f_M_start G4 a0 v5 (nI 1)) fun v10 G9 => if v10 = 0 then (gFA G9 a0 6 3 fun v11 => gLdq G9 v11 105 a1 (none) fun v12 => gFI G9 v12 4 3 fun v13 => if v13 = 0 then (gFI G9 v12 4 1 fun v14 => if v14 = 0 then gOb G9 a0 6 fun o16 => bI (f_M_fault G9 a0 (-8)) fun v19 G18 => rI v19 G18
        else gFI G9 v12 4 1 fun v20 => gPut G9 v12 4 1 (.int (v20 - (nI 1))) fun G21 => gFI G21 v12 4 1 fun v22 => gPut G21 v12 4 2 (.int v22) fun G23 => gFI G23 v12 4 0 fun v24 => gFI G23 v12 4 2 fun v25 => gOb G23 a0 6 fun o27 => bA (f_M_at G23 a0 v24 v25) fun v30 G29 => gLd G29 v30 100 (nI 1) fun v31 => rI v31 G29)
      else gOb G9 a0 6 fun o34 => bI (f_M_fault G9 a0 (-9)) fun v37 G36 => rI v37 G36)
  else rI (nI 0) G9
theorem k_M_previous {l : Launch} {D : va_G} {B : Nat} {O : State → Heap → Prop} (hV : zG l D B O) (G : gH) (a0 : Nat) (a1 : Int32) : gMet (zVm l D B O) m_M_previous 13 [.ref a0, .int a1] G (f_M_previous G a0 a1) := by
  have hdd : lSa m_M_previous 0 [(.aload_n 0, 0), (.aload_n 0, 0), (.iload_n 1, 0)] = true ∧ lIa m_M_previous 3 (.invokevirtual 214) 3 = true ∧ lSa m_M_previous 6 [(.iconst 1, nI 1)] = true ∧ lIa m_M_previous 7 (.invokevirtual 114) 3 = true ∧ lIa m_M_previous 10 (.ifCond .eq 5) 3 = true ∧ lSa m_M_previous 15 [(.aload_n 0, 0)] = true ∧ lIa m_M_previous 16 (.getfield 24) 3 = true ∧ lSa m_M_previous 19 [(.iload_n 1, 0)] = true ∧ lIa m_M_previous 20 (.aaload) 1 = true ∧ lSa m_M_previous 21 [(.astore_n 2, 0), (.aload_n 2, 0)] = true ∧ lIa m_M_previous 23 (.getfield 99) 3 = true ∧ lIa m_M_previous 26 (.ifCond .eq 10) 3 = true ∧ lSa m_M_previous 36 [(.aload_n 2, 0)] = true ∧ lIa m_M_previous 37 (.getfield 208) 3 = true ∧ lIa m_M_previous 40 (.ifCond .ne 10) 3 = true ∧ lSa m_M_previous 43 [(.aload_n 0, 0), (.bipush (-8), -8)] = true ∧ lIa m_M_previous 46 (.invokevirtual 217) 3 = true ∧ lIa m_M_previous 49 (.ireturn) 1 = true ∧ lSa m_M_previous 50 [(.aload_n 2, 0), (.dup, 0)] = true ∧ lIa m_M_previous 52 (.getfield 208) 3 = true ∧ lSa m_M_previous 55 [(.iconst 1, nI 1), (.isub, 0)] = true ∧ lIa m_M_previous 57 (.putfield 208) 3 = true ∧ lSa m_M_previous 60 [(.aload_n 2, 0), (.aload_n 2, 0)] = true ∧ lIa m_M_previous 62 (.getfield 208) 3 = true ∧ lIa m_M_previous 65 (.putfield 220) 3 = true ∧ lSa m_M_previous 68 [(.aload_n 0, 0), (.aload_n 2, 0)] = true ∧ lIa m_M_previous 70 (.getfield 89) 3 = true ∧ lSa m_M_previous 73 [(.aload_n 2, 0)] = true ∧ lIa m_M_previous 74 (.getfield 220) 3 = true ∧ lIa m_M_previous 77 (.invokevirtual 132) 3 = true ∧ lSa m_M_previous 80 [(.iconst 1, nI 1)] = true ∧ lIa m_M_previous 81 (.iaload) 1 = true ∧ lIa m_M_previous 82 (.ireturn) 1 = true ∧ lSa m_M_previous 29 [(.aload_n 0, 0), (.bipush (-9), -9)] = true ∧ lIa m_M_previous 32 (.invokevirtual 217) 3 = true ∧ lIa m_M_previous 35 (.ireturn) 1 = true ∧ lSa m_M_previous 13 [(.iconst 0, nI 0)] = true ∧ lIa m_M_previous 14 (.ireturn) 1 = true := by decide +kernel
  refine lA8 hdd (fun dd0 dd1 dd2 dd3 dd4 dd5 dd6 dd7 hdd => ?_)
  refine lA8 hdd (fun dd8 dd9 dd10 dd11 dd12 dd13 dd14 dd15 hdd => ?_)
  refine lA8 hdd (fun dd16 dd17 dd18 dd19 dd20 dd21 dd22 dd23 hdd => ?_)
  refine lA8 hdd (fun dd24 dd25 dd26 dd27 dd28 dd29 dd30 dd31 hdd => ?_)
  obtain ⟨dd32, dd33, dd34, dd35, dd36, dd37⟩ := hdd
  refine gMet.of (by decide +kernel) (Nat.le_of_ble_eq_true rfl) [some (.ref a0), some (.int a1), none] (fun ls h => zEn_ok (n := 3) h) ?_
  intro o Gf h
  unfold f_M_previous at h
  refine Y.blk (pc' := 3) (L' := [some (.ref a0), some (.int a1), none]) (st' := [.int a1, .ref a0, .ref a0]) (sg := [(.aload_n 0, 0), (.aload_n 0, 0), (.iload_n 1, 0)]) (lSa_ok dd0) rfl ?_
  obtain ⟨_, o2, e1, m3, h⟩ := gOb_inv h
  refine Y.callI (yC.Vi (b := a0) (As := [.int a1]) (st := [.ref a0]) (r := ("PartlisterModel", T_M, 9)) hV.1 cb_M_isNoCursor lk_M_214 in_M_isNoCursor rfl se_M_isNoCursor (lIa_ok dd1) rfl rfl (Nat.le_of_ble_eq_true rfl) (by decide) e1 m3) (k_M_isNoCursor hV G a0 a1) h (fun v5 G4 _ h => ?_)
  refine Y.blk (pc' := 7) (L' := [some (.ref a0), some (.int a1), none]) (st' := [.int (nI 1), .int v5, .ref a0]) (sg := [(.iconst 1, nI 1)]) (lSa_ok dd2) rfl ?_
  obtain ⟨_, o7, e6, m8, h⟩ := gOb_inv h
  refine Y.callI (yC.Vi (b := a0) (As := [.int v5, .int (nI 1)]) (st := []) (r := ("PartlisterModel", T_M, 9)) hV.1 cb_M_start lk_M_114 in_M_start rfl se_M_start (lIa_ok dd3) rfl rfl (Nat.le_of_ble_eq_true rfl) (by decide) e6 m8) (k_M_start hV G4 a0 v5 (nI 1)) h (fun v10 G9 _ h => ?_)
  refine Y.if_eq (off := 5) (tgt := 15) (lIa_ok dd4) (by decide) h (fun c39 h => ?_) (fun c39 h => ?_)
  · refine Y.blk (pc' := 16) (L' := [some (.ref a0), some (.int a1), none]) (st' := [.ref a0]) (sg := [(.aload_n 0, 0)]) (lSa_ok dd5) rfl ?_
    refine Y.getA fl_M_24 (lIa_ok dd6) h (fun v11 h => ?_)
    refine Y.blk (pc' := 20) (L' := [some (.ref a0), some (.int a1), none]) (st' := [.int a1, .ref v11]) (sg := [(.iload_n 1, 0)]) (lSa_ok dd7) rfl ?_
    refine Y.aald (t0 := 5) (lIa_ok dd8) rfl h (fun h => ?_) (fun v12 h => ?_)
    · refine Y.blk (pc' := 23) (L' := [some (.ref a0), some (.int a1), some (.null)]) (st' := [.null]) (sg := [(.astore_n 2, 0), (.aload_n 2, 0)]) (lSa_ok dd9) rfl ?_
      cases h
    · refine Y.blk (pc' := 23) (L' := [some (.ref a0), some (.int a1), some (.ref v12)]) (st' := [.ref v12]) (sg := [(.astore_n 2, 0), (.aload_n 2, 0)]) (lSa_ok dd9) rfl ?_
      refine Y.getI fl_M_99 (lIa_ok dd10) h (fun v13 h => ?_)
      refine Y.if_eq (off := 10) (tgt := 36) (lIa_ok dd11) (by decide) h (fun c38 h => ?_) (fun c38 h => ?_)
      · refine Y.blk (pc' := 37) (L' := [some (.ref a0), some (.int a1), some (.ref v12)]) (st' := [.ref v12]) (sg := [(.aload_n 2, 0)]) (lSa_ok dd12) rfl ?_
        refine Y.getI fl_M_208 (lIa_ok dd13) h (fun v14 h => ?_)
        refine Y.if_ne (off := 10) (tgt := 50) (lIa_ok dd14) (by decide) h (fun c32 h => ?_) (fun c32 h => ?_)
        · refine Y.blk (pc' := 46) (L' := [some (.ref a0), some (.int a1), some (.ref v12)]) (st' := [.int (-8), .ref a0]) (sg := [(.aload_n 0, 0), (.bipush (-8), -8)]) (lSa_ok dd15) rfl ?_
          obtain ⟨_, o16, e15, m17, h⟩ := gOb_inv h
          refine Y.callI (yC.Vi (b := a0) (As := [.int (-8)]) (st := []) (r := ("PartlisterModel", T_M, 9)) hV.1 cb_M_fault lk_M_217 in_M_fault rfl se_M_fault (lIa_ok dd16) rfl rfl (Nat.le_of_ble_eq_true rfl) (by decide) e15 m17) (k_M_fault hV G9 a0 (-8)) h (fun v19 G18 _ h => ?_)
          exact Y.iret rfl (lIa_ok dd17) h
        · refine Y.blk (pc' := 52) (L' := [some (.ref a0), some (.int a1), some (.ref v12)]) (st' := [.ref v12, .ref v12]) (sg := [(.aload_n 2, 0), (.dup, 0)]) (lSa_ok dd18) rfl ?_
          refine Y.getI fl_M_208 (lIa_ok dd19) h (fun v20 h => ?_)
          refine Y.blk (pc' := 57) (L' := [some (.ref a0), some (.int a1), some (.ref v12)]) (st' := [.int (v20 - (nI 1)), .ref v12]) (sg := [(.iconst 1, nI 1), (.isub, 0)]) (lSa_ok dd20) rfl ?_
          refine Y.putf fl_M_208 (by decide) rfl rfl (lIa_ok dd21) h (fun G21 _ _ h => ?_)
          refine Y.blk (pc' := 62) (L' := [some (.ref a0), some (.int a1), some (.ref v12)]) (st' := [.ref v12, .ref v12]) (sg := [(.aload_n 2, 0), (.aload_n 2, 0)]) (lSa_ok dd22) rfl ?_
          refine Y.getI fl_M_208 (lIa_ok dd23) h (fun v22 h => ?_)
          refine Y.putf fl_M_220 (by decide) rfl rfl (lIa_ok dd24) h (fun G23 _ _ h => ?_)
          refine Y.blk (pc' := 70) (L' := [some (.ref a0), some (.int a1), some (.ref v12)]) (st' := [.ref v12, .ref a0]) (sg := [(.aload_n 0, 0), (.aload_n 2, 0)]) (lSa_ok dd25) rfl ?_
          refine Y.getI fl_M_89 (lIa_ok dd26) h (fun v24 h => ?_)
          refine Y.blk (pc' := 74) (L' := [some (.ref a0), some (.int a1), some (.ref v12)]) (st' := [.ref v12, .int v24, .ref a0]) (sg := [(.aload_n 2, 0)]) (lSa_ok dd27) rfl ?_
          refine Y.getI fl_M_220 (lIa_ok dd28) h (fun v25 h => ?_)
          obtain ⟨_, o27, e26, m28, h⟩ := gOb_inv h
          refine Y.callA (yC.Vi (b := a0) (As := [.int v24, .int v25]) (st := []) (r := ("PartlisterModel", T_M, 9)) hV.1 cb_M_at lk_M_132 in_M_at rfl se_M_at (lIa_ok dd29) rfl rfl (Nat.le_of_ble_eq_true rfl) (by decide) e26 m28) (k_M_at hV G23 a0 v24 v25) h (fun v30 G29 _ h => ?_)
          refine Y.blk (pc' := 81) (L' := [some (.ref a0), some (.int a1), some (.ref v12)]) (st' := [.int (nI 1), .ref v30]) (sg := [(.iconst 1, nI 1)]) (lSa_ok dd30) rfl ?_
          refine Y.iald (t0 := 0) (lIa_ok dd31) rfl h (fun v31 h => ?_)
          exact Y.iret rfl (lIa_ok dd32) h
      · refine Y.blk (pc' := 32) (L' := [some (.ref a0), some (.int a1), some (.ref v12)]) (st' := [.int (-9), .ref a0]) (sg := [(.aload_n 0, 0), (.bipush (-9), -9)]) (lSa_ok dd33) rfl ?_
        obtain ⟨_, o34, e33, m35, h⟩ := gOb_inv h
        refine Y.callI (yC.Vi (b := a0) (As := [.int (-9)]) (st := []) (r := ("PartlisterModel", T_M, 9)) hV.1 cb_M_fault lk_M_217 in_M_fault rfl se_M_fault (lIa_ok dd34) rfl rfl (Nat.le_of_ble_eq_true rfl) (by decide) e33 m35) (k_M_fault hV G9 a0 (-9)) h (fun v37 G36 _ h => ?_)
        exact Y.iret rfl (lIa_ok dd35) h
  · refine Y.blk (pc' := 14) (L' := [some (.ref a0), some (.int a1), none]) (st' := [.int (nI 0)]) (sg := [(.iconst 0, nI 0)]) (lSa_ok dd36) rfl ?_
    exact Y.iret rfl (lIa_ok dd37) h

def f_M_put (G : gH) (a0 : Nat) (a1 : Int32) (a2 : Int32) : gR :=
  gOb G a0 6 fun o2 => bI (f_M_isNoCursor G a0 a1) fun v5 G4 => gOb G4 a0 6 fun o7 => bI (f_M_start G4 a0 v5 (nI 1)) fun v10 G9 => if v10 = 0 then (gOb G9 a0 6 fun o12 => bI (f_M_isNoKey G9 a0 a2) fun v15 G14 => gOb G14 a0 6 fun o17 => bI (f_M_refuse G14 a0 v15 (nI 2)) fun v20 G19 => if v20 = 0 then (gFA G19 a0 6 3 fun v21 => gLdq G19 v21 105 a1 (none) fun v22 => gFI G19 v22 4 3 fun v23 => if v23 = 0 then (gFI G19 v22 4 2 fun v24 => if v24 = (-1) then gOb G19 a0 6 fun o26 => bI (f_M_fault G19 a0 (-7)) fun v29 G28 => rI v29 G28
          else gFI G19 v22 4 0 fun v30 => gFI G19 v22 4 2 fun v31 => gOb G19 a0 6 fun o33 => bA (f_M_make G19 a0 a2) fun v36 G35 => gOb G35 a0 6 fun o38 => bA (f_M_write G35 a0 v30 v31 v36) fun v41 G40 => gFI G40 a0 6 4 fun v42 => rI (v42 - (nI 1)) G40)
        else gOb G19 a0 6 fun o45 => bI (f_M_fault G19 a0 (-9)) fun v48 G47 => rI v48 G47)
    else rI (nI 0) G19)
  else rI (nI 0) G9
theorem k_M_put {l : Launch} {D : va_G} {B : Nat} {O : State → Heap → Prop} (hV : zG l D B O) (G : gH) (a0 : Nat) (a1 : Int32) (a2 : Int32) : gMet (zVm l D B O) m_M_put 13 [.ref a0, .int a1, .int a2] G (f_M_put G a0 a1 a2) := by
  have hdd : lSa m_M_put 0 [(.aload_n 0, 0), (.aload_n 0, 0), (.iload_n 1, 0)] = true ∧ lIa m_M_put 3 (.invokevirtual 214) 3 = true ∧ lSa m_M_put 6 [(.iconst 1, nI 1)] = true ∧ lIa m_M_put 7 (.invokevirtual 114) 3 = true ∧ lIa m_M_put 10 (.ifCond .ne 16) 3 = true ∧ lSa m_M_put 13 [(.aload_n 0, 0), (.aload_n 0, 0), (.iload_n 2, 0)] = true ∧ lIa m_M_put 16 (.invokevirtual 160) 3 = true ∧ lSa m_M_put 19 [(.iconst 2, nI 2)] = true ∧ lIa m_M_put 20 (.invokevirtual 36) 3 = true ∧ lIa m_M_put 23 (.ifCond .eq 5) 3 = true ∧ lSa m_M_put 28 [(.aload_n 0, 0)] = true ∧ lIa m_M_put 29 (.getfield 24) 3 = true ∧ lSa m_M_put 32 [(.iload_n 1, 0)] = true ∧ lIa m_M_put 33 (.aaload) 1 = true ∧ lSa m_M_put 34 [(.astore_n 3, 0), (.aload_n 3, 0)] = true ∧ lIa m_M_put 36 (.getfield 99) 3 = true ∧ lIa m_M_put 39 (.ifCond .eq 10) 3 = true ∧ lSa m_M_put 49 [(.aload_n 3, 0)] = true ∧ lIa m_M_put 50 (.getfield 220) 3 = true ∧ lSa m_M_put 53 [(.iconst (-1), -1)] = true ∧ lIa m_M_put 54 (.if_icmp .ne 10) 3 = true ∧ lSa m_M_put 57 [(.aload_n 0, 0), (.bipush (-7), -7)] = true ∧ lIa m_M_put 60 (.invokevirtual 217) 3 = true ∧ lIa m_M_put 63 (.ireturn) 1 = true ∧ lSa m_M_put 64 [(.aload_n 0, 0), (.aload_n 3, 0)] = true ∧ lIa m_M_put 66 (.getfield 89) 3 = true ∧ lSa m_M_put 69 [(.aload_n 3, 0)] = true ∧ lIa m_M_put 70 (.getfield 220) 3 = true ∧ lSa m_M_put 73 [(.aload_n 0, 0), (.iload_n 2, 0)] = true ∧ lIa m_M_put 75 (.invokevirtual 120) 3 = true ∧ lIa m_M_put 78 (.invokevirtual 150) 3 = true ∧ lSa m_M_put 81 [(.pop, 0), (.aload_n 0, 0)] = true ∧ lIa m_M_put 83 (.getfield 76) 3 = true ∧ lSa m_M_put 86 [(.iconst 1, nI 1), (.isub, 0)] = true ∧ lIa m_M_put 88 (.ireturn) 1 = true ∧ lSa m_M_put 42 [(.aload_n 0, 0), (.bipush (-9), -9)] = true ∧ lIa m_M_put 45 (.invokevirtual 217) 3 = true ∧ lIa m_M_put 48 (.ireturn) 1 = true ∧ lSa m_M_put 26 [(.iconst 0, nI 0)] = true ∧ lIa m_M_put 27 (.ireturn) 1 = true := by decide +kernel
  refine lA8 hdd (fun dd0 dd1 dd2 dd3 dd4 dd5 dd6 dd7 hdd => ?_)
  refine lA8 hdd (fun dd8 dd9 dd10 dd11 dd12 dd13 dd14 dd15 hdd => ?_)
  refine lA8 hdd (fun dd16 dd17 dd18 dd19 dd20 dd21 dd22 dd23 hdd => ?_)
  refine lA8 hdd (fun dd24 dd25 dd26 dd27 dd28 dd29 dd30 dd31 hdd => ?_)
  obtain ⟨dd32, dd33, dd34, dd35, dd36, dd37, dd38, dd39⟩ := hdd
  refine gMet.of (by decide +kernel) (Nat.le_of_ble_eq_true rfl) [some (.ref a0), some (.int a1), some (.int a2), none] (fun ls h => zEn_ok (n := 4) h) ?_
  intro o Gf h
  unfold f_M_put at h
  refine Y.blk (pc' := 3) (L' := [some (.ref a0), some (.int a1), some (.int a2), none]) (st' := [.int a1, .ref a0, .ref a0]) (sg := [(.aload_n 0, 0), (.aload_n 0, 0), (.iload_n 1, 0)]) (lSa_ok dd0) rfl ?_
  obtain ⟨_, o2, e1, m3, h⟩ := gOb_inv h
  refine Y.callI (yC.Vi (b := a0) (As := [.int a1]) (st := [.ref a0]) (r := ("PartlisterModel", T_M, 9)) hV.1 cb_M_isNoCursor lk_M_214 in_M_isNoCursor rfl se_M_isNoCursor (lIa_ok dd1) rfl rfl (Nat.le_of_ble_eq_true rfl) (by decide) e1 m3) (k_M_isNoCursor hV G a0 a1) h (fun v5 G4 _ h => ?_)
  refine Y.blk (pc' := 7) (L' := [some (.ref a0), some (.int a1), some (.int a2), none]) (st' := [.int (nI 1), .int v5, .ref a0]) (sg := [(.iconst 1, nI 1)]) (lSa_ok dd2) rfl ?_
  obtain ⟨_, o7, e6, m8, h⟩ := gOb_inv h
  refine Y.callI (yC.Vi (b := a0) (As := [.int v5, .int (nI 1)]) (st := []) (r := ("PartlisterModel", T_M, 9)) hV.1 cb_M_start lk_M_114 in_M_start rfl se_M_start (lIa_ok dd3) rfl rfl (Nat.le_of_ble_eq_true rfl) (by decide) e6 m8) (k_M_start hV G4 a0 v5 (nI 1)) h (fun v10 G9 _ h => ?_)
  refine Y.if_ne (off := 16) (tgt := 26) (lIa_ok dd4) (by decide) h (fun c51 h => ?_) (fun c51 h => ?_)
  · refine Y.blk (pc' := 16) (L' := [some (.ref a0), some (.int a1), some (.int a2), none]) (st' := [.int a2, .ref a0, .ref a0]) (sg := [(.aload_n 0, 0), (.aload_n 0, 0), (.iload_n 2, 0)]) (lSa_ok dd5) rfl ?_
    obtain ⟨_, o12, e11, m13, h⟩ := gOb_inv h
    refine Y.callI (yC.Vi (b := a0) (As := [.int a2]) (st := [.ref a0]) (r := ("PartlisterModel", T_M, 9)) hV.1 cb_M_isNoKey lk_M_160 in_M_isNoKey rfl se_M_isNoKey (lIa_ok dd6) rfl rfl (Nat.le_of_ble_eq_true rfl) (by decide) e11 m13) (k_M_isNoKey hV G9 a0 a2) h (fun v15 G14 _ h => ?_)
    refine Y.blk (pc' := 20) (L' := [some (.ref a0), some (.int a1), some (.int a2), none]) (st' := [.int (nI 2), .int v15, .ref a0]) (sg := [(.iconst 2, nI 2)]) (lSa_ok dd7) rfl ?_
    obtain ⟨_, o17, e16, m18, h⟩ := gOb_inv h
    refine Y.callI (yC.Vi (b := a0) (As := [.int v15, .int (nI 2)]) (st := []) (r := ("PartlisterModel", T_M, 9)) hV.1 cb_M_refuse lk_M_36 in_M_refuse rfl se_M_refuse (lIa_ok dd8) rfl rfl (Nat.le_of_ble_eq_true rfl) (by decide) e16 m18) (k_M_refuse hV G14 a0 v15 (nI 2)) h (fun v20 G19 _ h => ?_)
    refine Y.if_eq (off := 5) (tgt := 28) (lIa_ok dd9) (by decide) h (fun c50 h => ?_) (fun c50 h => ?_)
    · refine Y.blk (pc' := 29) (L' := [some (.ref a0), some (.int a1), some (.int a2), none]) (st' := [.ref a0]) (sg := [(.aload_n 0, 0)]) (lSa_ok dd10) rfl ?_
      refine Y.getA fl_M_24 (lIa_ok dd11) h (fun v21 h => ?_)
      refine Y.blk (pc' := 33) (L' := [some (.ref a0), some (.int a1), some (.int a2), none]) (st' := [.int a1, .ref v21]) (sg := [(.iload_n 1, 0)]) (lSa_ok dd12) rfl ?_
      refine Y.aald (t0 := 5) (lIa_ok dd13) rfl h (fun h => ?_) (fun v22 h => ?_)
      · refine Y.blk (pc' := 36) (L' := [some (.ref a0), some (.int a1), some (.int a2), some (.null)]) (st' := [.null]) (sg := [(.astore_n 3, 0), (.aload_n 3, 0)]) (lSa_ok dd14) rfl ?_
        cases h
      · refine Y.blk (pc' := 36) (L' := [some (.ref a0), some (.int a1), some (.int a2), some (.ref v22)]) (st' := [.ref v22]) (sg := [(.astore_n 3, 0), (.aload_n 3, 0)]) (lSa_ok dd14) rfl ?_
        refine Y.getI fl_M_99 (lIa_ok dd15) h (fun v23 h => ?_)
        refine Y.if_eq (off := 10) (tgt := 49) (lIa_ok dd16) (by decide) h (fun c49 h => ?_) (fun c49 h => ?_)
        · refine Y.blk (pc' := 50) (L' := [some (.ref a0), some (.int a1), some (.int a2), some (.ref v22)]) (st' := [.ref v22]) (sg := [(.aload_n 3, 0)]) (lSa_ok dd17) rfl ?_
          refine Y.getI fl_M_220 (lIa_ok dd18) h (fun v24 h => ?_)
          refine Y.blk (pc' := 54) (L' := [some (.ref a0), some (.int a1), some (.int a2), some (.ref v22)]) (st' := [.int (-1), .int v24]) (sg := [(.iconst (-1), -1)]) (lSa_ok dd19) rfl ?_
          refine Y.ic_ne (off := 10) (tgt := 64) (lIa_ok dd20) (by decide) h (fun c43 h => ?_) (fun c43 h => ?_)
          · refine Y.blk (pc' := 60) (L' := [some (.ref a0), some (.int a1), some (.int a2), some (.ref v22)]) (st' := [.int (-7), .ref a0]) (sg := [(.aload_n 0, 0), (.bipush (-7), -7)]) (lSa_ok dd21) rfl ?_
            obtain ⟨_, o26, e25, m27, h⟩ := gOb_inv h
            refine Y.callI (yC.Vi (b := a0) (As := [.int (-7)]) (st := []) (r := ("PartlisterModel", T_M, 9)) hV.1 cb_M_fault lk_M_217 in_M_fault rfl se_M_fault (lIa_ok dd22) rfl rfl (Nat.le_of_ble_eq_true rfl) (by decide) e25 m27) (k_M_fault hV G19 a0 (-7)) h (fun v29 G28 _ h => ?_)
            exact Y.iret rfl (lIa_ok dd23) h
          · refine Y.blk (pc' := 66) (L' := [some (.ref a0), some (.int a1), some (.int a2), some (.ref v22)]) (st' := [.ref v22, .ref a0]) (sg := [(.aload_n 0, 0), (.aload_n 3, 0)]) (lSa_ok dd24) rfl ?_
            refine Y.getI fl_M_89 (lIa_ok dd25) h (fun v30 h => ?_)
            refine Y.blk (pc' := 70) (L' := [some (.ref a0), some (.int a1), some (.int a2), some (.ref v22)]) (st' := [.ref v22, .int v30, .ref a0]) (sg := [(.aload_n 3, 0)]) (lSa_ok dd26) rfl ?_
            refine Y.getI fl_M_220 (lIa_ok dd27) h (fun v31 h => ?_)
            refine Y.blk (pc' := 75) (L' := [some (.ref a0), some (.int a1), some (.int a2), some (.ref v22)]) (st' := [.int a2, .ref a0, .int v31, .int v30, .ref a0]) (sg := [(.aload_n 0, 0), (.iload_n 2, 0)]) (lSa_ok dd28) rfl ?_
            obtain ⟨_, o33, e32, m34, h⟩ := gOb_inv h
            refine Y.callA (yC.Vi (b := a0) (As := [.int a2]) (st := [.int v31, .int v30, .ref a0]) (r := ("PartlisterModel", T_M, 9)) hV.1 cb_M_make lk_M_120 in_M_make rfl se_M_make (lIa_ok dd29) rfl rfl (Nat.le_of_ble_eq_true rfl) (by decide) e32 m34) (k_M_make hV G19 a0 a2) h (fun v36 G35 _ h => ?_)
            obtain ⟨_, o38, e37, m39, h⟩ := gOb_inv h
            refine Y.callA (yC.Vi (b := a0) (As := [.int v30, .int v31, .ref v36]) (st := []) (r := ("PartlisterModel", T_M, 9)) hV.1 cb_M_write lk_M_150 in_M_write rfl se_M_write (lIa_ok dd30) rfl rfl (Nat.le_of_ble_eq_true rfl) (by decide) e37 m39) (k_M_write hV G35 a0 v30 v31 v36) h (fun v41 G40 _ h => ?_)
            refine Y.blk (pc' := 83) (L' := [some (.ref a0), some (.int a1), some (.int a2), some (.ref v22)]) (st' := [.ref a0]) (sg := [(.pop, 0), (.aload_n 0, 0)]) (lSa_ok dd31) rfl ?_
            refine Y.getI fl_M_76 (lIa_ok dd32) h (fun v42 h => ?_)
            refine Y.blk (pc' := 88) (L' := [some (.ref a0), some (.int a1), some (.int a2), some (.ref v22)]) (st' := [.int (v42 - (nI 1))]) (sg := [(.iconst 1, nI 1), (.isub, 0)]) (lSa_ok dd33) rfl ?_
            exact Y.iret rfl (lIa_ok dd34) h
        · refine Y.blk (pc' := 45) (L' := [some (.ref a0), some (.int a1), some (.int a2), some (.ref v22)]) (st' := [.int (-9), .ref a0]) (sg := [(.aload_n 0, 0), (.bipush (-9), -9)]) (lSa_ok dd35) rfl ?_
          obtain ⟨_, o45, e44, m46, h⟩ := gOb_inv h
          refine Y.callI (yC.Vi (b := a0) (As := [.int (-9)]) (st := []) (r := ("PartlisterModel", T_M, 9)) hV.1 cb_M_fault lk_M_217 in_M_fault rfl se_M_fault (lIa_ok dd36) rfl rfl (Nat.le_of_ble_eq_true rfl) (by decide) e44 m46) (k_M_fault hV G19 a0 (-9)) h (fun v48 G47 _ h => ?_)
          exact Y.iret rfl (lIa_ok dd37) h
    · refine Y.blk (pc' := 27) (L' := [some (.ref a0), some (.int a1), some (.int a2), none]) (st' := [.int (nI 0)]) (sg := [(.iconst 0, nI 0)]) (lSa_ok dd38) rfl ?_
      exact Y.iret rfl (lIa_ok dd39) h
  · refine Y.blk (pc' := 27) (L' := [some (.ref a0), some (.int a1), some (.int a2), none]) (st' := [.int (nI 0)]) (sg := [(.iconst 0, nI 0)]) (lSa_ok dd38) rfl ?_
    exact Y.iret rfl (lIa_ok dd39) h

def f_M_remove (G : gH) (a0 : Nat) (a1 : Int32) (a2 : Int32) : gR :=
  gOb G a0 6 fun o2 => bI (f_M_isNoList G a0 a1) fun v5 G4 => gOb G4 a0 6 fun o7 => bI (f_M_start G4 a0 v5 (nI 1)) fun v10 G9 => if v10 = 0 then (gOb G9 a0 6 fun o12 => bI (f_M_isNoKey G9 a0 a2) fun v15 G14 => gOb G14 a0 6 fun o17 => bI (f_M_refuse G14 a0 v15 (nI 2)) fun v20 G19 => if v20 = 0 then (gOb G19 a0 6 fun o22 => bI (f_M_firstOf G19 a0 a1 a2) fun v25 G24 => if v25 = (-1) then rZ (nI 0) G24
      else gOb G24 a0 6 fun o27 => bA (f_M_take G24 a0 a1 v25) fun v30 G29 => gOb G29 a0 6 fun o32 => bV (f_M_change G29 a0 a1 (-1) (-1)) fun G34 => rZ (nI 1) G34)
    else rZ (nI 0) G19)
  else rZ (nI 0) G9
theorem k_M_remove {l : Launch} {D : va_G} {B : Nat} {O : State → Heap → Prop} (hV : zG l D B O) (G : gH) (a0 : Nat) (a1 : Int32) (a2 : Int32) : gMet (zVm l D B O) m_M_remove 14 [.ref a0, .int a1, .int a2] G (f_M_remove G a0 a1 a2) := by
  have hdd : lSa m_M_remove 0 [(.aload_n 0, 0), (.aload_n 0, 0), (.iload_n 1, 0)] = true ∧ lIa m_M_remove 3 (.invokevirtual 110) 3 = true ∧ lSa m_M_remove 6 [(.iconst 1, nI 1)] = true ∧ lIa m_M_remove 7 (.invokevirtual 114) 3 = true ∧ lIa m_M_remove 10 (.ifCond .ne 16) 3 = true ∧ lSa m_M_remove 13 [(.aload_n 0, 0), (.aload_n 0, 0), (.iload_n 2, 0)] = true ∧ lIa m_M_remove 16 (.invokevirtual 160) 3 = true ∧ lSa m_M_remove 19 [(.iconst 2, nI 2)] = true ∧ lIa m_M_remove 20 (.invokevirtual 36) 3 = true ∧ lIa m_M_remove 23 (.ifCond .eq 5) 3 = true ∧ lSa m_M_remove 28 [(.aload_n 0, 0), (.iload_n 1, 0), (.iload_n 2, 0)] = true ∧ lIa m_M_remove 31 (.invokevirtual 163) 3 = true ∧ lSa m_M_remove 34 [(.istore_n 3, 0), (.iload_n 3, 0), (.iconst (-1), -1)] = true ∧ lIa m_M_remove 37 (.if_icmp .ne 5) 3 = true ∧ lSa m_M_remove 40 [(.iconst 0, nI 0)] = true ∧ lIa m_M_remove 41 (.ireturn) 1 = true ∧ lSa m_M_remove 42 [(.aload_n 0, 0), (.iload_n 1, 0), (.iload_n 3, 0)] = true ∧ lIa m_M_remove 45 (.invokevirtual 157) 3 = true ∧ lSa m_M_remove 48 [(.pop, 0), (.aload_n 0, 0), (.iload_n 1, 0), (.iconst (-1), -1), (.iconst (-1), -1)] = true ∧ lIa m_M_remove 53 (.invokevirtual 128) 3 = true ∧ lSa m_M_remove 56 [(.iconst 1, nI 1)] = true ∧ lIa m_M_remove 57 (.ireturn) 1 = true ∧ lSa m_M_remove 26 [(.iconst 0, nI 0)] = true ∧ lIa m_M_remove 27 (.ireturn) 1 = true := by decide +kernel
  refine lA8 hdd (fun dd0 dd1 dd2 dd3 dd4 dd5 dd6 dd7 hdd => ?_)
  refine lA8 hdd (fun dd8 dd9 dd10 dd11 dd12 dd13 dd14 dd15 hdd => ?_)
  obtain ⟨dd16, dd17, dd18, dd19, dd20, dd21, dd22, dd23⟩ := hdd
  refine gMet.of (by decide +kernel) (Nat.le_of_ble_eq_true rfl) [some (.ref a0), some (.int a1), some (.int a2), none] (fun ls h => zEn_ok (n := 4) h) ?_
  intro o Gf h
  unfold f_M_remove at h
  refine Y.blk (pc' := 3) (L' := [some (.ref a0), some (.int a1), some (.int a2), none]) (st' := [.int a1, .ref a0, .ref a0]) (sg := [(.aload_n 0, 0), (.aload_n 0, 0), (.iload_n 1, 0)]) (lSa_ok dd0) rfl ?_
  obtain ⟨_, o2, e1, m3, h⟩ := gOb_inv h
  refine Y.callI (yC.Vi (b := a0) (As := [.int a1]) (st := [.ref a0]) (r := ("PartlisterModel", T_M, 9)) hV.1 cb_M_isNoList lk_M_110 in_M_isNoList rfl se_M_isNoList (lIa_ok dd1) rfl rfl (Nat.le_of_ble_eq_true rfl) (by decide) e1 m3) (k_M_isNoList hV G a0 a1) h (fun v5 G4 _ h => ?_)
  refine Y.blk (pc' := 7) (L' := [some (.ref a0), some (.int a1), some (.int a2), none]) (st' := [.int (nI 1), .int v5, .ref a0]) (sg := [(.iconst 1, nI 1)]) (lSa_ok dd2) rfl ?_
  obtain ⟨_, o7, e6, m8, h⟩ := gOb_inv h
  refine Y.callI (yC.Vi (b := a0) (As := [.int v5, .int (nI 1)]) (st := []) (r := ("PartlisterModel", T_M, 9)) hV.1 cb_M_start lk_M_114 in_M_start rfl se_M_start (lIa_ok dd3) rfl rfl (Nat.le_of_ble_eq_true rfl) (by decide) e6 m8) (k_M_start hV G4 a0 v5 (nI 1)) h (fun v10 G9 _ h => ?_)
  refine Y.if_ne (off := 16) (tgt := 26) (lIa_ok dd4) (by decide) h (fun c37 h => ?_) (fun c37 h => ?_)
  · refine Y.blk (pc' := 16) (L' := [some (.ref a0), some (.int a1), some (.int a2), none]) (st' := [.int a2, .ref a0, .ref a0]) (sg := [(.aload_n 0, 0), (.aload_n 0, 0), (.iload_n 2, 0)]) (lSa_ok dd5) rfl ?_
    obtain ⟨_, o12, e11, m13, h⟩ := gOb_inv h
    refine Y.callI (yC.Vi (b := a0) (As := [.int a2]) (st := [.ref a0]) (r := ("PartlisterModel", T_M, 9)) hV.1 cb_M_isNoKey lk_M_160 in_M_isNoKey rfl se_M_isNoKey (lIa_ok dd6) rfl rfl (Nat.le_of_ble_eq_true rfl) (by decide) e11 m13) (k_M_isNoKey hV G9 a0 a2) h (fun v15 G14 _ h => ?_)
    refine Y.blk (pc' := 20) (L' := [some (.ref a0), some (.int a1), some (.int a2), none]) (st' := [.int (nI 2), .int v15, .ref a0]) (sg := [(.iconst 2, nI 2)]) (lSa_ok dd7) rfl ?_
    obtain ⟨_, o17, e16, m18, h⟩ := gOb_inv h
    refine Y.callI (yC.Vi (b := a0) (As := [.int v15, .int (nI 2)]) (st := []) (r := ("PartlisterModel", T_M, 9)) hV.1 cb_M_refuse lk_M_36 in_M_refuse rfl se_M_refuse (lIa_ok dd8) rfl rfl (Nat.le_of_ble_eq_true rfl) (by decide) e16 m18) (k_M_refuse hV G14 a0 v15 (nI 2)) h (fun v20 G19 _ h => ?_)
    refine Y.if_eq (off := 5) (tgt := 28) (lIa_ok dd9) (by decide) h (fun c36 h => ?_) (fun c36 h => ?_)
    · refine Y.blk (pc' := 31) (L' := [some (.ref a0), some (.int a1), some (.int a2), none]) (st' := [.int a2, .int a1, .ref a0]) (sg := [(.aload_n 0, 0), (.iload_n 1, 0), (.iload_n 2, 0)]) (lSa_ok dd10) rfl ?_
      obtain ⟨_, o22, e21, m23, h⟩ := gOb_inv h
      refine Y.callI (yC.Vi (b := a0) (As := [.int a1, .int a2]) (st := []) (r := ("PartlisterModel", T_M, 9)) hV.1 cb_M_firstOf lk_M_163 in_M_firstOf rfl se_M_firstOf (lIa_ok dd11) rfl rfl (Nat.le_of_ble_eq_true rfl) (by decide) e21 m23) (k_M_firstOf hV G19 a0 a1 a2) h (fun v25 G24 _ h => ?_)
      refine Y.blk (pc' := 37) (L' := [some (.ref a0), some (.int a1), some (.int a2), some (.int v25)]) (st' := [.int (-1), .int v25]) (sg := [(.istore_n 3, 0), (.iload_n 3, 0), (.iconst (-1), -1)]) (lSa_ok dd12) rfl ?_
      refine Y.ic_ne (off := 5) (tgt := 42) (lIa_ok dd13) (by decide) h (fun c35 h => ?_) (fun c35 h => ?_)
      · refine Y.blk (pc' := 41) (L' := [some (.ref a0), some (.int a1), some (.int a2), some (.int v25)]) (st' := [.int (nI 0)]) (sg := [(.iconst 0, nI 0)]) (lSa_ok dd14) rfl ?_
        exact Y.zret rfl (lIa_ok dd15) h
      · refine Y.blk (pc' := 45) (L' := [some (.ref a0), some (.int a1), some (.int a2), some (.int v25)]) (st' := [.int v25, .int a1, .ref a0]) (sg := [(.aload_n 0, 0), (.iload_n 1, 0), (.iload_n 3, 0)]) (lSa_ok dd16) rfl ?_
        obtain ⟨_, o27, e26, m28, h⟩ := gOb_inv h
        refine Y.callA (yC.Vi (b := a0) (As := [.int a1, .int v25]) (st := []) (r := ("PartlisterModel", T_M, 9)) hV.1 cb_M_take lk_M_157 in_M_take rfl se_M_take (lIa_ok dd17) rfl rfl (Nat.le_of_ble_eq_true rfl) (by decide) e26 m28) (k_M_take hV G24 a0 a1 v25) h (fun v30 G29 _ h => ?_)
        refine Y.blk (pc' := 53) (L' := [some (.ref a0), some (.int a1), some (.int a2), some (.int v25)]) (st' := [.int (-1), .int (-1), .int a1, .ref a0]) (sg := [(.pop, 0), (.aload_n 0, 0), (.iload_n 1, 0), (.iconst (-1), -1), (.iconst (-1), -1)]) (lSa_ok dd18) rfl ?_
        obtain ⟨_, o32, e31, m33, h⟩ := gOb_inv h
        refine Y.callN (yC.Vi (b := a0) (As := [.int a1, .int (-1), .int (-1)]) (st := []) (r := ("PartlisterModel", T_M, 9)) hV.1 cb_M_change lk_M_128 in_M_change rfl se_M_change (lIa_ok dd19) rfl rfl (Nat.le_of_ble_eq_true rfl) (by decide) e31 m33) (k_M_change hV G29 a0 a1 (-1) (-1)) h (fun G34 _ h => ?_)
        refine Y.blk (pc' := 57) (L' := [some (.ref a0), some (.int a1), some (.int a2), some (.int v25)]) (st' := [.int (nI 1)]) (sg := [(.iconst 1, nI 1)]) (lSa_ok dd20) rfl ?_
        exact Y.zret rfl (lIa_ok dd21) h
    · refine Y.blk (pc' := 27) (L' := [some (.ref a0), some (.int a1), some (.int a2), none]) (st' := [.int (nI 0)]) (sg := [(.iconst 0, nI 0)]) (lSa_ok dd22) rfl ?_
      exact Y.zret rfl (lIa_ok dd23) h
  · refine Y.blk (pc' := 27) (L' := [some (.ref a0), some (.int a1), some (.int a2), none]) (st' := [.int (nI 0)]) (sg := [(.iconst 0, nI 0)]) (lSa_ok dd22) rfl ?_
    exact Y.zret rfl (lIa_ok dd23) h

def f_M_takeAll_L11 (K47 : gH → Nat → Int32 → Int32 → gR) : Nat → gH → Nat → Int32 → Nat → Int32 → Int32 → gR
  | 0, _, _, _, _, _, _ => none
  | n + 1, G, x0, x1, x2, x3, x4 =>
    if x4 < 0 then K47 G x0 x1 x3
    else gOb G x0 6 fun o7 => bA (f_M_at G x0 x1 x4) fun v10 G9 => gLd G9 v10 100 (nI 0) fun v11 => gLd G9 x2 102 v11 fun v12 => if v12 = 0 then f_M_takeAll_L11 K47 n G9 x0 x1 x2 x3 (x4 + (-1))
      else gOb G9 x0 6 fun o14 => bA (f_M_take G9 x0 x1 x4) fun v17 G16 => f_M_takeAll_L11 K47 n G16 x0 x1 x2 (x3 + (nI 1)) (x4 + (-1))
def f_M_takeAll (G : gH) (a0 : Nat) (a1 : Int32) (a2 : Nat) : gR :=
  gOb G a0 6 fun o2 => bI (f_M_length G a0 a1) fun v5 G4 => f_M_takeAll_L11 (fun G23 x20 x21 x22 => gOb G23 x20 6 fun o25 => bV (f_M_change G23 x20 x21 (-x22) (-1)) fun G27 => rI x22 G27) zFu G4 a0 a1 a2 (nI 0) (v5 - (nI 1))
theorem k_M_takeAll_L11 {l : Launch} {D : va_G} {B : Nat} {O : State → Heap → Prop} (hV : zG l D B O) {o : gO} {Gf : gH} (K47 : gH → Nat → Int32 → Int32 → gR) (hK47 : ∀ (G : gH) (x0 : Nat) (x1 : Int32) (x3 : Int32), K47 G x0 x1 x3 = some (o, Gf) → Y (zVm l D B O) m_M_takeAll 14 o Gf 47 [some (.ref x0), some (.int x1), none, some (.int x3), none] [] G) : ∀ (n : Nat) (G : gH) (x0 : Nat) (x1 : Int32) (x2 : Nat) (x3 : Int32) (x4 : Int32), f_M_takeAll_L11 K47 n G x0 x1 x2 x3 x4 = some (o, Gf) → Y (zVm l D B O) m_M_takeAll 14 o Gf 11 [some (.ref x0), some (.int x1), some (.ref x2), some (.int x3), some (.int x4)] [] G := by
  have hdd : lSa m_M_takeAll 11 [(.iload 4, 0)] = true ∧ lIa m_M_takeAll 13 (.ifCond .lt 34) 3 = true ∧ lSa m_M_takeAll 16 [(.aload_n 2, 0), (.aload_n 0, 0), (.iload_n 1, 0), (.iload 4, 0)] = true ∧ lIa m_M_takeAll 21 (.invokevirtual 132) 3 = true ∧ lSa m_M_takeAll 24 [(.iconst 0, nI 0)] = true ∧ lIa m_M_takeAll 25 (.iaload) 1 = true ∧ lIa m_M_takeAll 26 (.baload) 1 = true ∧ lIa m_M_takeAll 27 (.ifCond .eq 14) 3 = true ∧ lSa m_M_takeAll 41 [(.iinc 4 (-1), -1)] = true ∧ lIa m_M_takeAll 44 (.goto (-33)) 3 = true ∧ lSa m_M_takeAll 30 [(.aload_n 0, 0), (.iload_n 1, 0), (.iload 4, 0)] = true ∧ lIa m_M_takeAll 34 (.invokevirtual 157) 3 = true ∧ lSa m_M_takeAll 37 [(.pop, 0), (.iinc 3 1, nI 1), (.iinc 4 (-1), -1)] = true := by decide +kernel
  refine lA8 hdd (fun dd0 dd1 dd2 dd3 dd4 dd5 dd6 dd7 hdd => ?_)
  obtain ⟨dd8, dd9, dd10, dd11, dd12⟩ := hdd
  intro n
  induction n with
  | zero => intro G x0 x1 x2 x3 x4 h; cases h
  | succ n ih =>
    intro G x0 x1 x2 x3 x4 h
    unfold f_M_takeAll_L11 at h
    refine Y.blk (pc' := 13) (L' := [some (.ref x0), some (.int x1), some (.ref x2), some (.int x3), some (.int x4)]) (st' := [.int x4]) (sg := [(.iload 4, 0)]) (lSa_ok dd0) rfl ?_
    refine Y.if_lt (off := 34) (tgt := 47) (lIa_ok dd1) (by decide) h (fun c19 h => ?_) (fun c19 h => ?_)
    · refine Y.less (L' := [some (.ref x0), some (.int x1), none, some (.int x3), none]) (zLe_some (zLe_some (zLe_none (zLe_some (zLe_none (zLe_nil)))))) ?_
      exact hK47 G x0 x1 x3 h
    · refine Y.blk (pc' := 21) (L' := [some (.ref x0), some (.int x1), some (.ref x2), some (.int x3), some (.int x4)]) (st' := [.int x4, .int x1, .ref x0, .ref x2]) (sg := [(.aload_n 2, 0), (.aload_n 0, 0), (.iload_n 1, 0), (.iload 4, 0)]) (lSa_ok dd2) rfl ?_
      obtain ⟨_, o7, e6, m8, h⟩ := gOb_inv h
      refine Y.callA (yC.Vi (b := x0) (As := [.int x1, .int x4]) (st := [.ref x2]) (r := ("PartlisterModel", T_M, 9)) hV.1 cb_M_at lk_M_132 in_M_at rfl se_M_at (lIa_ok dd3) rfl rfl (Nat.le_of_ble_eq_true rfl) (by decide) e6 m8) (k_M_at hV G x0 x1 x4) h (fun v10 G9 _ h => ?_)
      refine Y.blk (pc' := 25) (L' := [some (.ref x0), some (.int x1), some (.ref x2), some (.int x3), some (.int x4)]) (st' := [.int (nI 0), .ref v10, .ref x2]) (sg := [(.iconst 0, nI 0)]) (lSa_ok dd4) rfl ?_
      refine Y.iald (t0 := 0) (lIa_ok dd5) rfl h (fun v11 h => ?_)
      refine Y.zald (t0 := 2) (lIa_ok dd6) rfl h (fun v12 h => ?_)
      refine Y.if_eq (off := 14) (tgt := 41) (lIa_ok dd7) (by decide) h (fun c18 h => ?_) (fun c18 h => ?_)
      · refine Y.blk (pc' := 44) (L' := [some (.ref x0), some (.int x1), some (.ref x2), some (.int x3), some (.int (x4 + (-1)))]) (st' := []) (sg := [(.iinc 4 (-1), -1)]) (lSa_ok dd8) rfl ?_
        refine Y.goto (off := -33) (tgt := 11) (lIa_ok dd9) (by decide) ?_
        exact ih G9 x0 x1 x2 x3 (x4 + (-1)) h
      · refine Y.blk (pc' := 34) (L' := [some (.ref x0), some (.int x1), some (.ref x2), some (.int x3), some (.int x4)]) (st' := [.int x4, .int x1, .ref x0]) (sg := [(.aload_n 0, 0), (.iload_n 1, 0), (.iload 4, 0)]) (lSa_ok dd10) rfl ?_
        obtain ⟨_, o14, e13, m15, h⟩ := gOb_inv h
        refine Y.callA (yC.Vi (b := x0) (As := [.int x1, .int x4]) (st := []) (r := ("PartlisterModel", T_M, 9)) hV.1 cb_M_take lk_M_157 in_M_take rfl se_M_take (lIa_ok dd11) rfl rfl (Nat.le_of_ble_eq_true rfl) (by decide) e13 m15) (k_M_take hV G9 x0 x1 x4) h (fun v17 G16 _ h => ?_)
        refine Y.blk (pc' := 44) (L' := [some (.ref x0), some (.int x1), some (.ref x2), some (.int (x3 + (nI 1))), some (.int (x4 + (-1)))]) (st' := []) (sg := [(.pop, 0), (.iinc 3 1, nI 1), (.iinc 4 (-1), -1)]) (lSa_ok dd12) rfl ?_
        refine Y.goto (off := -33) (tgt := 11) (lIa_ok dd9) (by decide) ?_
        exact ih G16 x0 x1 x2 (x3 + (nI 1)) (x4 + (-1)) h
theorem k_M_takeAll {l : Launch} {D : va_G} {B : Nat} {O : State → Heap → Prop} (hV : zG l D B O) (G : gH) (a0 : Nat) (a1 : Int32) (a2 : Nat) : gMet (zVm l D B O) m_M_takeAll 14 [.ref a0, .int a1, .ref a2] G (f_M_takeAll G a0 a1 a2) := by
  have hdd : lSa m_M_takeAll 0 [(.iconst 0, nI 0), (.istore_n 3, 0), (.aload_n 0, 0), (.iload_n 1, 0)] = true ∧ lIa m_M_takeAll 4 (.invokevirtual 74) 3 = true ∧ lSa m_M_takeAll 7 [(.iconst 1, nI 1), (.isub, 0), (.istore 4, 0)] = true ∧ lSa m_M_takeAll 47 [(.aload_n 0, 0), (.iload_n 1, 0), (.iload_n 3, 0), (.ineg, 0), (.iconst (-1), -1)] = true ∧ lIa m_M_takeAll 52 (.invokevirtual 128) 3 = true ∧ lSa m_M_takeAll 55 [(.iload_n 3, 0)] = true ∧ lIa m_M_takeAll 56 (.ireturn) 1 = true := by decide +kernel
  obtain ⟨dd0, dd1, dd2, dd3, dd4, dd5, dd6⟩ := hdd
  refine gMet.of (by decide +kernel) (Nat.le_of_ble_eq_true rfl) [some (.ref a0), some (.int a1), some (.ref a2), none, none] (fun ls h => zEn_ok (n := 5) h) ?_
  intro o Gf h
  unfold f_M_takeAll at h
  refine Y.blk (pc' := 4) (L' := [some (.ref a0), some (.int a1), some (.ref a2), some (.int (nI 0)), none]) (st' := [.int a1, .ref a0]) (sg := [(.iconst 0, nI 0), (.istore_n 3, 0), (.aload_n 0, 0), (.iload_n 1, 0)]) (lSa_ok dd0) rfl ?_
  obtain ⟨_, o2, e1, m3, h⟩ := gOb_inv h
  refine Y.callI (yC.Vi (b := a0) (As := [.int a1]) (st := []) (r := ("PartlisterModel", T_M, 9)) hV.1 cb_M_length lk_M_74 in_M_length rfl se_M_length (lIa_ok dd1) rfl rfl (Nat.le_of_ble_eq_true rfl) (by decide) e1 m3) (k_M_length hV G a0 a1) h (fun v5 G4 _ h => ?_)
  refine Y.blk (pc' := 11) (L' := [some (.ref a0), some (.int a1), some (.ref a2), some (.int (nI 0)), some (.int (v5 - (nI 1)))]) (st' := []) (sg := [(.iconst 1, nI 1), (.isub, 0), (.istore 4, 0)]) (lSa_ok dd2) rfl ?_
  refine k_M_takeAll_L11 hV _ ?_  zFu G4 a0 a1 a2 (nI 0) (v5 - (nI 1)) h
  · intro G23 x20 x21 x22 h
    refine Y.blk (pc' := 52) (L' := [some (.ref x20), some (.int x21), none, some (.int x22), none]) (st' := [.int (-1), .int (-x22), .int x21, .ref x20]) (sg := [(.aload_n 0, 0), (.iload_n 1, 0), (.iload_n 3, 0), (.ineg, 0), (.iconst (-1), -1)]) (lSa_ok dd3) rfl ?_
    obtain ⟨_, o25, e24, m26, h⟩ := gOb_inv h
    refine Y.callN (yC.Vi (b := x20) (As := [.int x21, .int (-x22), .int (-1)]) (st := []) (r := ("PartlisterModel", T_M, 9)) hV.1 cb_M_change lk_M_128 in_M_change rfl se_M_change (lIa_ok dd4) rfl rfl (Nat.le_of_ble_eq_true rfl) (by decide) e24 m26) (k_M_change hV G23 x20 x21 (-x22) (-1)) h (fun G27 _ h => ?_)
    refine Y.blk (pc' := 56) (L' := [some (.ref x20), some (.int x21), none, some (.int x22), none]) (st' := [.int x22]) (sg := [(.iload_n 3, 0)]) (lSa_ok dd5) rfl ?_
    exact Y.iret rfl (lIa_ok dd6) h

def f_M_removeAll (G : gH) (a0 : Nat) (a1 : Int32) (a2 : Int32) : gR :=
  gOb G a0 6 fun o2 => bI (f_M_areOne G a0 a1 a2) fun v5 G4 => if v5 = 0 then gOb G4 a0 6 fun o7 => bA (f_M_keys G4 a0 a2 (nI 1)) fun v10 G9 => gOb G9 a0 6 fun o12 => bI (f_M_takeAll G9 a0 a1 v10) fun v15 G14 => rI v15 G14
  else rI (nI 0) G4
theorem k_M_removeAll {l : Launch} {D : va_G} {B : Nat} {O : State → Heap → Prop} (hV : zG l D B O) (G : gH) (a0 : Nat) (a1 : Int32) (a2 : Int32) : gMet (zVm l D B O) m_M_removeAll 15 [.ref a0, .int a1, .int a2] G (f_M_removeAll G a0 a1 a2) := by
  have hdd : lSa m_M_removeAll 0 [(.aload_n 0, 0), (.iload_n 1, 0), (.iload_n 2, 0)] = true ∧ lIa m_M_removeAll 3 (.invokevirtual 166) 3 = true ∧ lIa m_M_removeAll 6 (.ifCond .eq 7) 3 = true ∧ lSa m_M_removeAll 13 [(.aload_n 0, 0), (.iload_n 1, 0), (.aload_n 0, 0), (.iload_n 2, 0), (.iconst 1, nI 1)] = true ∧ lIa m_M_removeAll 18 (.invokevirtual 169) 3 = true ∧ lIa m_M_removeAll 21 (.invokevirtual 173) 3 = true ∧ lIa m_M_removeAll 24 (.ireturn) 1 = true ∧ lSa m_M_removeAll 9 [(.iconst 0, nI 0)] = true ∧ lIa m_M_removeAll 10 (.goto 14) 3 = true := by decide +kernel
  refine lA8 hdd (fun dd0 dd1 dd2 dd3 dd4 dd5 dd6 dd7 hdd => ?_)
  have dd8 := hdd
  refine gMet.of (by decide +kernel) (Nat.le_of_ble_eq_true rfl) [some (.ref a0), some (.int a1), some (.int a2)] (fun ls h => zEn_ok (n := 3) h) ?_
  intro o Gf h
  unfold f_M_removeAll at h
  refine Y.blk (pc' := 3) (L' := [some (.ref a0), some (.int a1), some (.int a2)]) (st' := [.int a2, .int a1, .ref a0]) (sg := [(.aload_n 0, 0), (.iload_n 1, 0), (.iload_n 2, 0)]) (lSa_ok dd0) rfl ?_
  obtain ⟨_, o2, e1, m3, h⟩ := gOb_inv h
  refine Y.callI (yC.Vi (b := a0) (As := [.int a1, .int a2]) (st := []) (r := ("PartlisterModel", T_M, 9)) hV.1 cb_M_areOne lk_M_166 in_M_areOne rfl se_M_areOne (lIa_ok dd1) rfl rfl (Nat.le_of_ble_eq_true rfl) (by decide) e1 m3) (k_M_areOne hV G a0 a1 a2) h (fun v5 G4 _ h => ?_)
  refine Y.if_eq (off := 7) (tgt := 13) (lIa_ok dd2) (by decide) h (fun c16 h => ?_) (fun c16 h => ?_)
  · refine Y.blk (pc' := 18) (L' := [some (.ref a0), some (.int a1), some (.int a2)]) (st' := [.int (nI 1), .int a2, .ref a0, .int a1, .ref a0]) (sg := [(.aload_n 0, 0), (.iload_n 1, 0), (.aload_n 0, 0), (.iload_n 2, 0), (.iconst 1, nI 1)]) (lSa_ok dd3) rfl ?_
    obtain ⟨_, o7, e6, m8, h⟩ := gOb_inv h
    refine Y.callA (yC.Vi (b := a0) (As := [.int a2, .int (nI 1)]) (st := [.int a1, .ref a0]) (r := ("PartlisterModel", T_M, 9)) hV.1 cb_M_keys lk_M_169 in_M_keys rfl se_M_keys (lIa_ok dd4) rfl rfl (Nat.le_of_ble_eq_true rfl) (by decide) e6 m8) (k_M_keys hV G4 a0 a2 (nI 1)) h (fun v10 G9 _ h => ?_)
    obtain ⟨_, o12, e11, m13, h⟩ := gOb_inv h
    refine Y.callI (yC.Vi (b := a0) (As := [.int a1, .ref v10]) (st := []) (r := ("PartlisterModel", T_M, 9)) hV.1 cb_M_takeAll lk_M_173 in_M_takeAll rfl se_M_takeAll (lIa_ok dd5) rfl rfl (Nat.le_of_ble_eq_true rfl) (by decide) e11 m13) (k_M_takeAll hV G9 a0 a1 v10) h (fun v15 G14 _ h => ?_)
    exact Y.iret rfl (lIa_ok dd6) h
  · refine Y.blk (pc' := 10) (L' := [some (.ref a0), some (.int a1), some (.int a2)]) (st' := [.int (nI 0)]) (sg := [(.iconst 0, nI 0)]) (lSa_ok dd7) rfl ?_
    refine Y.goto (off := 14) (tgt := 24) (lIa_ok dd8) (by decide) ?_
    exact Y.iret rfl (lIa_ok dd6) h

def f_M_removeAt (G : gH) (a0 : Nat) (a1 : Int32) (a2 : Int32) : gR :=
  gOb G a0 6 fun o2 => bI (f_M_isNoList G a0 a1) fun v5 G4 => if v5 = 0 then (gOb G4 a0 6 fun o7 => bI (f_M_isNoPlace G4 a0 a1 a2) fun v10 G9 => if v10 = 0 then (gOb G9 a0 6 fun o12 => bI (f_M_start G9 a0 (nI 0) (nI 1)) fun v15 G14 => if v15 = 0 then gOb G14 a0 6 fun o17 => bA (f_M_take G14 a0 a1 a2) fun v20 G19 => gLd G19 v20 100 (nI 1) fun v21 => gOb G19 a0 6 fun o23 => bV (f_M_change G19 a0 a1 (-1) (-1)) fun G25 => rI v21 G25
      else rI (nI 0) G14)
    else gOb G9 a0 6 fun o28 => bI (f_M_start G9 a0 (nI 1) (nI 1)) fun v31 G30 => if v31 = 0 then gOb G30 a0 6 fun o33 => bA (f_M_take G30 a0 a1 a2) fun v36 G35 => gLd G35 v36 100 (nI 1) fun v37 => gOb G35 a0 6 fun o39 => bV (f_M_change G35 a0 a1 (-1) (-1)) fun G41 => rI v37 G41
      else rI (nI 0) G30)
  else gOb G4 a0 6 fun o45 => bI (f_M_start G4 a0 (nI 1) (nI 1)) fun v48 G47 => if v48 = 0 then gOb G47 a0 6 fun o50 => bA (f_M_take G47 a0 a1 a2) fun v53 G52 => gLd G52 v53 100 (nI 1) fun v54 => gOb G52 a0 6 fun o56 => bV (f_M_change G52 a0 a1 (-1) (-1)) fun G58 => rI v54 G58
    else rI (nI 0) G47
theorem k_M_removeAt {l : Launch} {D : va_G} {B : Nat} {O : State → Heap → Prop} (hV : zG l D B O) (G : gH) (a0 : Nat) (a1 : Int32) (a2 : Int32) : gMet (zVm l D B O) m_M_removeAt 14 [.ref a0, .int a1, .int a2] G (f_M_removeAt G a0 a1 a2) := by
  have hdd : lSa m_M_removeAt 0 [(.aload_n 0, 0), (.aload_n 0, 0), (.iload_n 1, 0)] = true ∧ lIa m_M_removeAt 3 (.invokevirtual 110) 3 = true ∧ lIa m_M_removeAt 6 (.ifCond .ne 12) 3 = true ∧ lSa m_M_removeAt 9 [(.aload_n 0, 0), (.iload_n 1, 0), (.iload_n 2, 0)] = true ∧ lIa m_M_removeAt 12 (.invokevirtual 147) 3 = true ∧ lIa m_M_removeAt 15 (.ifCond .eq 7) 3 = true ∧ lSa m_M_removeAt 22 [(.iconst 0, nI 0), (.iconst 1, nI 1)] = true ∧ lIa m_M_removeAt 24 (.invokevirtual 114) 3 = true ∧ lIa m_M_removeAt 27 (.ifCond .eq 5) 3 = true ∧ lSa m_M_removeAt 32 [(.aload_n 0, 0), (.iload_n 1, 0), (.iload_n 2, 0)] = true ∧ lIa m_M_removeAt 35 (.invokevirtual 157) 3 = true ∧ lSa m_M_removeAt 38 [(.iconst 1, nI 1)] = true ∧ lIa m_M_removeAt 39 (.iaload) 1 = true ∧ lSa m_M_removeAt 40 [(.istore_n 3, 0), (.aload_n 0, 0), (.iload_n 1, 0), (.iconst (-1), -1), (.iconst (-1), -1)] = true ∧ lIa m_M_removeAt 45 (.invokevirtual 128) 3 = true ∧ lSa m_M_removeAt 48 [(.iload_n 3, 0)] = true ∧ lIa m_M_removeAt 49 (.ireturn) 1 = true ∧ lSa m_M_removeAt 30 [(.iconst 0, nI 0)] = true ∧ lIa m_M_removeAt 31 (.ireturn) 1 = true ∧ lSa m_M_removeAt 18 [(.iconst 1, nI 1)] = true ∧ lIa m_M_removeAt 19 (.goto 4) 3 = true ∧ lSa m_M_removeAt 23 [(.iconst 1, nI 1)] = true := by decide +kernel
  refine lA8 hdd (fun dd0 dd1 dd2 dd3 dd4 dd5 dd6 dd7 hdd => ?_)
  refine lA8 hdd (fun dd8 dd9 dd10 dd11 dd12 dd13 dd14 dd15 hdd => ?_)
  obtain ⟨dd16, dd17, dd18, dd19, dd20, dd21⟩ := hdd
  refine gMet.of (by decide +kernel) (Nat.le_of_ble_eq_true rfl) [some (.ref a0), some (.int a1), some (.int a2), none] (fun ls h => zEn_ok (n := 4) h) ?_
  intro o Gf h
  unfold f_M_removeAt at h
  refine Y.blk (pc' := 3) (L' := [some (.ref a0), some (.int a1), some (.int a2), none]) (st' := [.int a1, .ref a0, .ref a0]) (sg := [(.aload_n 0, 0), (.aload_n 0, 0), (.iload_n 1, 0)]) (lSa_ok dd0) rfl ?_
  obtain ⟨_, o2, e1, m3, h⟩ := gOb_inv h
  refine Y.callI (yC.Vi (b := a0) (As := [.int a1]) (st := [.ref a0]) (r := ("PartlisterModel", T_M, 9)) hV.1 cb_M_isNoList lk_M_110 in_M_isNoList rfl se_M_isNoList (lIa_ok dd1) rfl rfl (Nat.le_of_ble_eq_true rfl) (by decide) e1 m3) (k_M_isNoList hV G a0 a1) h (fun v5 G4 _ h => ?_)
  refine Y.if_ne (off := 12) (tgt := 18) (lIa_ok dd2) (by decide) h (fun c60 h => ?_) (fun c60 h => ?_)
  · refine Y.blk (pc' := 12) (L' := [some (.ref a0), some (.int a1), some (.int a2), none]) (st' := [.int a2, .int a1, .ref a0, .ref a0]) (sg := [(.aload_n 0, 0), (.iload_n 1, 0), (.iload_n 2, 0)]) (lSa_ok dd3) rfl ?_
    obtain ⟨_, o7, e6, m8, h⟩ := gOb_inv h
    refine Y.callI (yC.Vi (b := a0) (As := [.int a1, .int a2]) (st := [.ref a0]) (r := ("PartlisterModel", T_M, 9)) hV.1 cb_M_isNoPlace lk_M_147 in_M_isNoPlace rfl se_M_isNoPlace (lIa_ok dd4) rfl rfl (Nat.le_of_ble_eq_true rfl) (by decide) e6 m8) (k_M_isNoPlace hV G4 a0 a1 a2) h (fun v10 G9 _ h => ?_)
    refine Y.if_eq (off := 7) (tgt := 22) (lIa_ok dd5) (by decide) h (fun c43 h => ?_) (fun c43 h => ?_)
    · refine Y.blk (pc' := 24) (L' := [some (.ref a0), some (.int a1), some (.int a2), none]) (st' := [.int (nI 1), .int (nI 0), .ref a0]) (sg := [(.iconst 0, nI 0), (.iconst 1, nI 1)]) (lSa_ok dd6) rfl ?_
      obtain ⟨_, o12, e11, m13, h⟩ := gOb_inv h
      refine Y.callI (yC.Vi (b := a0) (As := [.int (nI 0), .int (nI 1)]) (st := []) (r := ("PartlisterModel", T_M, 9)) hV.1 cb_M_start lk_M_114 in_M_start rfl se_M_start (lIa_ok dd7) rfl rfl (Nat.le_of_ble_eq_true rfl) (by decide) e11 m13) (k_M_start hV G9 a0 (nI 0) (nI 1)) h (fun v15 G14 _ h => ?_)
      refine Y.if_eq (off := 5) (tgt := 32) (lIa_ok dd8) (by decide) h (fun c26 h => ?_) (fun c26 h => ?_)
      · refine Y.blk (pc' := 35) (L' := [some (.ref a0), some (.int a1), some (.int a2), none]) (st' := [.int a2, .int a1, .ref a0]) (sg := [(.aload_n 0, 0), (.iload_n 1, 0), (.iload_n 2, 0)]) (lSa_ok dd9) rfl ?_
        obtain ⟨_, o17, e16, m18, h⟩ := gOb_inv h
        refine Y.callA (yC.Vi (b := a0) (As := [.int a1, .int a2]) (st := []) (r := ("PartlisterModel", T_M, 9)) hV.1 cb_M_take lk_M_157 in_M_take rfl se_M_take (lIa_ok dd10) rfl rfl (Nat.le_of_ble_eq_true rfl) (by decide) e16 m18) (k_M_take hV G14 a0 a1 a2) h (fun v20 G19 _ h => ?_)
        refine Y.blk (pc' := 39) (L' := [some (.ref a0), some (.int a1), some (.int a2), none]) (st' := [.int (nI 1), .ref v20]) (sg := [(.iconst 1, nI 1)]) (lSa_ok dd11) rfl ?_
        refine Y.iald (t0 := 0) (lIa_ok dd12) rfl h (fun v21 h => ?_)
        refine Y.blk (pc' := 45) (L' := [some (.ref a0), some (.int a1), some (.int a2), some (.int v21)]) (st' := [.int (-1), .int (-1), .int a1, .ref a0]) (sg := [(.istore_n 3, 0), (.aload_n 0, 0), (.iload_n 1, 0), (.iconst (-1), -1), (.iconst (-1), -1)]) (lSa_ok dd13) rfl ?_
        obtain ⟨_, o23, e22, m24, h⟩ := gOb_inv h
        refine Y.callN (yC.Vi (b := a0) (As := [.int a1, .int (-1), .int (-1)]) (st := []) (r := ("PartlisterModel", T_M, 9)) hV.1 cb_M_change lk_M_128 in_M_change rfl se_M_change (lIa_ok dd14) rfl rfl (Nat.le_of_ble_eq_true rfl) (by decide) e22 m24) (k_M_change hV G19 a0 a1 (-1) (-1)) h (fun G25 _ h => ?_)
        refine Y.blk (pc' := 49) (L' := [some (.ref a0), some (.int a1), some (.int a2), some (.int v21)]) (st' := [.int v21]) (sg := [(.iload_n 3, 0)]) (lSa_ok dd15) rfl ?_
        exact Y.iret rfl (lIa_ok dd16) h
      · refine Y.blk (pc' := 31) (L' := [some (.ref a0), some (.int a1), some (.int a2), none]) (st' := [.int (nI 0)]) (sg := [(.iconst 0, nI 0)]) (lSa_ok dd17) rfl ?_
        exact Y.iret rfl (lIa_ok dd18) h
    · refine Y.blk (pc' := 19) (L' := [some (.ref a0), some (.int a1), some (.int a2), none]) (st' := [.int (nI 1), .ref a0]) (sg := [(.iconst 1, nI 1)]) (lSa_ok dd19) rfl ?_
      refine Y.goto (off := 4) (tgt := 23) (lIa_ok dd20) (by decide) ?_
      refine Y.blk (pc' := 24) (L' := [some (.ref a0), some (.int a1), some (.int a2), none]) (st' := [.int (nI 1), .int (nI 1), .ref a0]) (sg := [(.iconst 1, nI 1)]) (lSa_ok dd21) rfl ?_
      obtain ⟨_, o28, e27, m29, h⟩ := gOb_inv h
      refine Y.callI (yC.Vi (b := a0) (As := [.int (nI 1), .int (nI 1)]) (st := []) (r := ("PartlisterModel", T_M, 9)) hV.1 cb_M_start lk_M_114 in_M_start rfl se_M_start (lIa_ok dd7) rfl rfl (Nat.le_of_ble_eq_true rfl) (by decide) e27 m29) (k_M_start hV G9 a0 (nI 1) (nI 1)) h (fun v31 G30 _ h => ?_)
      refine Y.if_eq (off := 5) (tgt := 32) (lIa_ok dd8) (by decide) h (fun c42 h => ?_) (fun c42 h => ?_)
      · refine Y.blk (pc' := 35) (L' := [some (.ref a0), some (.int a1), some (.int a2), none]) (st' := [.int a2, .int a1, .ref a0]) (sg := [(.aload_n 0, 0), (.iload_n 1, 0), (.iload_n 2, 0)]) (lSa_ok dd9) rfl ?_
        obtain ⟨_, o33, e32, m34, h⟩ := gOb_inv h
        refine Y.callA (yC.Vi (b := a0) (As := [.int a1, .int a2]) (st := []) (r := ("PartlisterModel", T_M, 9)) hV.1 cb_M_take lk_M_157 in_M_take rfl se_M_take (lIa_ok dd10) rfl rfl (Nat.le_of_ble_eq_true rfl) (by decide) e32 m34) (k_M_take hV G30 a0 a1 a2) h (fun v36 G35 _ h => ?_)
        refine Y.blk (pc' := 39) (L' := [some (.ref a0), some (.int a1), some (.int a2), none]) (st' := [.int (nI 1), .ref v36]) (sg := [(.iconst 1, nI 1)]) (lSa_ok dd11) rfl ?_
        refine Y.iald (t0 := 0) (lIa_ok dd12) rfl h (fun v37 h => ?_)
        refine Y.blk (pc' := 45) (L' := [some (.ref a0), some (.int a1), some (.int a2), some (.int v37)]) (st' := [.int (-1), .int (-1), .int a1, .ref a0]) (sg := [(.istore_n 3, 0), (.aload_n 0, 0), (.iload_n 1, 0), (.iconst (-1), -1), (.iconst (-1), -1)]) (lSa_ok dd13) rfl ?_
        obtain ⟨_, o39, e38, m40, h⟩ := gOb_inv h
        refine Y.callN (yC.Vi (b := a0) (As := [.int a1, .int (-1), .int (-1)]) (st := []) (r := ("PartlisterModel", T_M, 9)) hV.1 cb_M_change lk_M_128 in_M_change rfl se_M_change (lIa_ok dd14) rfl rfl (Nat.le_of_ble_eq_true rfl) (by decide) e38 m40) (k_M_change hV G35 a0 a1 (-1) (-1)) h (fun G41 _ h => ?_)
        refine Y.blk (pc' := 49) (L' := [some (.ref a0), some (.int a1), some (.int a2), some (.int v37)]) (st' := [.int v37]) (sg := [(.iload_n 3, 0)]) (lSa_ok dd15) rfl ?_
        exact Y.iret rfl (lIa_ok dd16) h
      · refine Y.blk (pc' := 31) (L' := [some (.ref a0), some (.int a1), some (.int a2), none]) (st' := [.int (nI 0)]) (sg := [(.iconst 0, nI 0)]) (lSa_ok dd17) rfl ?_
        exact Y.iret rfl (lIa_ok dd18) h
  · refine Y.blk (pc' := 19) (L' := [some (.ref a0), some (.int a1), some (.int a2), none]) (st' := [.int (nI 1), .ref a0]) (sg := [(.iconst 1, nI 1)]) (lSa_ok dd19) rfl ?_
    refine Y.goto (off := 4) (tgt := 23) (lIa_ok dd20) (by decide) ?_
    refine Y.blk (pc' := 24) (L' := [some (.ref a0), some (.int a1), some (.int a2), none]) (st' := [.int (nI 1), .int (nI 1), .ref a0]) (sg := [(.iconst 1, nI 1)]) (lSa_ok dd21) rfl ?_
    obtain ⟨_, o45, e44, m46, h⟩ := gOb_inv h
    refine Y.callI (yC.Vi (b := a0) (As := [.int (nI 1), .int (nI 1)]) (st := []) (r := ("PartlisterModel", T_M, 9)) hV.1 cb_M_start lk_M_114 in_M_start rfl se_M_start (lIa_ok dd7) rfl rfl (Nat.le_of_ble_eq_true rfl) (by decide) e44 m46) (k_M_start hV G4 a0 (nI 1) (nI 1)) h (fun v48 G47 _ h => ?_)
    refine Y.if_eq (off := 5) (tgt := 32) (lIa_ok dd8) (by decide) h (fun c59 h => ?_) (fun c59 h => ?_)
    · refine Y.blk (pc' := 35) (L' := [some (.ref a0), some (.int a1), some (.int a2), none]) (st' := [.int a2, .int a1, .ref a0]) (sg := [(.aload_n 0, 0), (.iload_n 1, 0), (.iload_n 2, 0)]) (lSa_ok dd9) rfl ?_
      obtain ⟨_, o50, e49, m51, h⟩ := gOb_inv h
      refine Y.callA (yC.Vi (b := a0) (As := [.int a1, .int a2]) (st := []) (r := ("PartlisterModel", T_M, 9)) hV.1 cb_M_take lk_M_157 in_M_take rfl se_M_take (lIa_ok dd10) rfl rfl (Nat.le_of_ble_eq_true rfl) (by decide) e49 m51) (k_M_take hV G47 a0 a1 a2) h (fun v53 G52 _ h => ?_)
      refine Y.blk (pc' := 39) (L' := [some (.ref a0), some (.int a1), some (.int a2), none]) (st' := [.int (nI 1), .ref v53]) (sg := [(.iconst 1, nI 1)]) (lSa_ok dd11) rfl ?_
      refine Y.iald (t0 := 0) (lIa_ok dd12) rfl h (fun v54 h => ?_)
      refine Y.blk (pc' := 45) (L' := [some (.ref a0), some (.int a1), some (.int a2), some (.int v54)]) (st' := [.int (-1), .int (-1), .int a1, .ref a0]) (sg := [(.istore_n 3, 0), (.aload_n 0, 0), (.iload_n 1, 0), (.iconst (-1), -1), (.iconst (-1), -1)]) (lSa_ok dd13) rfl ?_
      obtain ⟨_, o56, e55, m57, h⟩ := gOb_inv h
      refine Y.callN (yC.Vi (b := a0) (As := [.int a1, .int (-1), .int (-1)]) (st := []) (r := ("PartlisterModel", T_M, 9)) hV.1 cb_M_change lk_M_128 in_M_change rfl se_M_change (lIa_ok dd14) rfl rfl (Nat.le_of_ble_eq_true rfl) (by decide) e55 m57) (k_M_change hV G52 a0 a1 (-1) (-1)) h (fun G58 _ h => ?_)
      refine Y.blk (pc' := 49) (L' := [some (.ref a0), some (.int a1), some (.int a2), some (.int v54)]) (st' := [.int v54]) (sg := [(.iload_n 3, 0)]) (lSa_ok dd15) rfl ?_
      exact Y.iret rfl (lIa_ok dd16) h
    · refine Y.blk (pc' := 31) (L' := [some (.ref a0), some (.int a1), some (.int a2), none]) (st' := [.int (nI 0)]) (sg := [(.iconst 0, nI 0)]) (lSa_ok dd17) rfl ?_
      exact Y.iret rfl (lIa_ok dd18) h

def f_M_removeIf_L58 (K89 : gH → Nat → Int32 → Nat → gR) : Nat → gH → Nat → Int32 → Int32 → Int32 → Nat → Int32 → gR
  | 0, _, _, _, _, _, _, _ => none
  | n + 1, G, x0, x1, x2, x3, x4, x5 =>
    if (nI 31) ≤ x5 then K89 G x0 x1 x4
    else gRem x5 x2 fun v21 => if v21 = x3 then gSt G x4 102 x5 (vp_nar .boolean (nI 1)) fun G22 => f_M_removeIf_L58 K89 n G22 x0 x1 x2 x3 x4 (x5 + (nI 1))
      else gSt G x4 102 x5 (vp_nar .boolean (nI 0)) fun G23 => f_M_removeIf_L58 K89 n G23 x0 x1 x2 x3 x4 (x5 + (nI 1))
def f_M_removeIf (G : gH) (a0 : Nat) (a1 : Int32) (a2 : Int32) (a3 : Int32) : gR :=
  gOb G a0 6 fun o2 => bI (f_M_isNoList G a0 a1) fun v5 G4 => gOb G4 a0 6 fun o7 => bI (f_M_start G4 a0 v5 (nI 1)) fun v10 G9 => if v10 = 0 then (bI (f_M_isIn G9 a2 (nI 1) (nI 9)) fun v13 G12 => if v13 = 0 then (gOb G12 a0 6 fun o15 => bI (f_M_refuse G12 a0 (nI 1) (nI 2)) fun v18 G17 => if v18 = 0 then gNewA G17 102 (nI 31) fun q19 G20 => f_M_removeIf_L58 (fun G29 x26 x27 x28 => gOb G29 x26 6 fun o31 => bI (f_M_takeAll G29 x26 x27 x28) fun v34 G33 => rI v34 G33) zFu G20 a0 a1 a2 a3 q19 (nI 0)
      else rI (nI 0) G17)
    else bI (f_M_isIn G12 a3 (nI 0) (a2 - (nI 1))) fun v38 G37 => if v38 = 0 then (gOb G37 a0 6 fun o40 => bI (f_M_refuse G37 a0 (nI 1) (nI 2)) fun v43 G42 => if v43 = 0 then gNewA G42 102 (nI 31) fun q44 G45 => f_M_removeIf_L58 (fun G49 x46 x47 x48 => gOb G49 x46 6 fun o51 => bI (f_M_takeAll G49 x46 x47 x48) fun v54 G53 => rI v54 G53) zFu G45 a0 a1 a2 a3 q44 (nI 0)
        else rI (nI 0) G42)
      else gOb G37 a0 6 fun o57 => bI (f_M_refuse G37 a0 (nI 0) (nI 2)) fun v60 G59 => if v60 = 0 then gNewA G59 102 (nI 31) fun q61 G62 => f_M_removeIf_L58 (fun G66 x63 x64 x65 => gOb G66 x63 6 fun o68 => bI (f_M_takeAll G66 x63 x64 x65) fun v71 G70 => rI v71 G70) zFu G62 a0 a1 a2 a3 q61 (nI 0)
        else rI (nI 0) G59)
  else rI (nI 0) G9
theorem k_M_removeIf_L58 {l : Launch} {D : va_G} {B : Nat} {O : State → Heap → Prop} (hV : zG l D B O) {o : gO} {Gf : gH} (K89 : gH → Nat → Int32 → Nat → gR) (hK89 : ∀ (G : gH) (x0 : Nat) (x1 : Int32) (x4 : Nat), K89 G x0 x1 x4 = some (o, Gf) → Y (zVm l D B O) m_M_removeIf 15 o Gf 89 [some (.ref x0), some (.int x1), none, none, some (.ref x4), none] [] G) : ∀ (n : Nat) (G : gH) (x0 : Nat) (x1 : Int32) (x2 : Int32) (x3 : Int32) (x4 : Nat) (x5 : Int32), f_M_removeIf_L58 K89 n G x0 x1 x2 x3 x4 x5 = some (o, Gf) → Y (zVm l D B O) m_M_removeIf 15 o Gf 58 [some (.ref x0), some (.int x1), some (.int x2), some (.int x3), some (.ref x4), some (.int x5)] [] G := by
  have hdd : lSa m_M_removeIf 58 [(.iload 5, 0), (.bipush 31, nI 31)] = true ∧ lIa m_M_removeIf 62 (.if_icmp .ge 27) 3 = true ∧ lSa m_M_removeIf 65 [(.aload 4, 0), (.iload 5, 0), (.iload 5, 0), (.iload_n 2, 0)] = true ∧ lIa m_M_removeIf 72 (.irem) 1 = true ∧ lSa m_M_removeIf 73 [(.iload_n 3, 0)] = true ∧ lIa m_M_removeIf 74 (.if_icmp .ne 7) 3 = true ∧ lSa m_M_removeIf 77 [(.iconst 1, nI 1)] = true ∧ lIa m_M_removeIf 78 (.goto 4) 3 = true ∧ lIa m_M_removeIf 82 (.bastore) 1 = true ∧ lSa m_M_removeIf 83 [(.iinc 5 1, nI 1)] = true ∧ lIa m_M_removeIf 86 (.goto (-28)) 3 = true ∧ lSa m_M_removeIf 81 [(.iconst 0, nI 0)] = true := by decide +kernel
  refine lA8 hdd (fun dd0 dd1 dd2 dd3 dd4 dd5 dd6 dd7 hdd => ?_)
  obtain ⟨dd8, dd9, dd10, dd11⟩ := hdd
  intro n
  induction n with
  | zero => intro G x0 x1 x2 x3 x4 x5 h; cases h
  | succ n ih =>
    intro G x0 x1 x2 x3 x4 x5 h
    unfold f_M_removeIf_L58 at h
    refine Y.blk (pc' := 62) (L' := [some (.ref x0), some (.int x1), some (.int x2), some (.int x3), some (.ref x4), some (.int x5)]) (st' := [.int (nI 31), .int x5]) (sg := [(.iload 5, 0), (.bipush 31, nI 31)]) (lSa_ok dd0) rfl ?_
    refine Y.ic_ge (off := 27) (tgt := 89) (lIa_ok dd1) (by decide) h (fun c25 h => ?_) (fun c25 h => ?_)
    · refine Y.less (L' := [some (.ref x0), some (.int x1), none, none, some (.ref x4), none]) (zLe_some (zLe_some (zLe_none (zLe_none (zLe_some (zLe_none (zLe_nil))))))) ?_
      exact hK89 G x0 x1 x4 h
    · refine Y.blk (pc' := 72) (L' := [some (.ref x0), some (.int x1), some (.int x2), some (.int x3), some (.ref x4), some (.int x5)]) (st' := [.int x2, .int x5, .int x5, .ref x4]) (sg := [(.aload 4, 0), (.iload 5, 0), (.iload 5, 0), (.iload_n 2, 0)]) (lSa_ok dd2) rfl ?_
      refine Y.irem (lIa_ok dd3) h (fun v21 h => ?_)
      refine Y.blk (pc' := 74) (L' := [some (.ref x0), some (.int x1), some (.int x2), some (.int x3), some (.ref x4), some (.int x5)]) (st' := [.int x3, .int v21, .int x5, .ref x4]) (sg := [(.iload_n 3, 0)]) (lSa_ok dd4) rfl ?_
      refine Y.ic_ne (off := 7) (tgt := 81) (lIa_ok dd5) (by decide) h (fun c24 h => ?_) (fun c24 h => ?_)
      · refine Y.blk (pc' := 78) (L' := [some (.ref x0), some (.int x1), some (.int x2), some (.int x3), some (.ref x4), some (.int x5)]) (st' := [.int (nI 1), .int x5, .ref x4]) (sg := [(.iconst 1, nI 1)]) (lSa_ok dd6) rfl ?_
        refine Y.goto (off := 4) (tgt := 82) (lIa_ok dd7) (by decide) ?_
        refine Y.zast (t0 := 2) (lIa_ok dd8) rfl (by decide) h (fun G22 _ _ h => ?_)
        refine Y.blk (pc' := 86) (L' := [some (.ref x0), some (.int x1), some (.int x2), some (.int x3), some (.ref x4), some (.int (x5 + (nI 1)))]) (st' := []) (sg := [(.iinc 5 1, nI 1)]) (lSa_ok dd9) rfl ?_
        refine Y.goto (off := -28) (tgt := 58) (lIa_ok dd10) (by decide) ?_
        exact ih G22 x0 x1 x2 x3 x4 (x5 + (nI 1)) h
      · refine Y.blk (pc' := 82) (L' := [some (.ref x0), some (.int x1), some (.int x2), some (.int x3), some (.ref x4), some (.int x5)]) (st' := [.int (nI 0), .int x5, .ref x4]) (sg := [(.iconst 0, nI 0)]) (lSa_ok dd11) rfl ?_
        refine Y.zast (t0 := 2) (lIa_ok dd8) rfl (by decide) h (fun G23 _ _ h => ?_)
        refine Y.blk (pc' := 86) (L' := [some (.ref x0), some (.int x1), some (.int x2), some (.int x3), some (.ref x4), some (.int (x5 + (nI 1)))]) (st' := []) (sg := [(.iinc 5 1, nI 1)]) (lSa_ok dd9) rfl ?_
        refine Y.goto (off := -28) (tgt := 58) (lIa_ok dd10) (by decide) ?_
        exact ih G23 x0 x1 x2 x3 x4 (x5 + (nI 1)) h
theorem k_M_removeIf {l : Launch} {D : va_G} {B : Nat} {O : State → Heap → Prop} (hV : zG l D B O) (G : gH) (a0 : Nat) (a1 : Int32) (a2 : Int32) (a3 : Int32) : gMet (zVm l D B O) m_M_removeIf 15 [.ref a0, .int a1, .int a2, .int a3] G (f_M_removeIf G a0 a1 a2 a3) := by
  have hdd : lSa m_M_removeIf 0 [(.aload_n 0, 0), (.aload_n 0, 0), (.iload_n 1, 0)] = true ∧ lIa m_M_removeIf 3 (.invokevirtual 110) 3 = true ∧ lSa m_M_removeIf 6 [(.iconst 1, nI 1)] = true ∧ lIa m_M_removeIf 7 (.invokevirtual 114) 3 = true ∧ lIa m_M_removeIf 10 (.ifCond .ne 37) 3 = true ∧ lSa m_M_removeIf 13 [(.aload_n 0, 0), (.iload_n 2, 0), (.iconst 1, nI 1), (.bipush 9, nI 9)] = true ∧ lIa m_M_removeIf 18 (.invokestatic 40) 3 = true ∧ lIa m_M_removeIf 21 (.ifCond .eq 14) 3 = true ∧ lSa m_M_removeIf 35 [(.iconst 1, nI 1)] = true ∧ lIa m_M_removeIf 36 (.goto 4) 3 = true ∧ lSa m_M_removeIf 40 [(.iconst 2, nI 2)] = true ∧ lIa m_M_removeIf 41 (.invokevirtual 36) 3 = true ∧ lIa m_M_removeIf 44 (.ifCond .eq 5) 3 = true ∧ lSa m_M_removeIf 49 [(.bipush 31, nI 31)] = true ∧ lSa m_M_removeIf 53 [(.astore 4, 0), (.iconst 0, nI 0), (.istore 5, 0)] = true ∧ lSa m_M_removeIf 89 [(.aload_n 0, 0), (.iload_n 1, 0), (.aload 4, 0)] = true ∧ lIa m_M_removeIf 93 (.invokevirtual 173) 3 = true ∧ lIa m_M_removeIf 96 (.ireturn) 1 = true ∧ lSa m_M_removeIf 47 [(.iconst 0, nI 0)] = true ∧ lIa m_M_removeIf 48 (.ireturn) 1 = true ∧ lSa m_M_removeIf 24 [(.iload_n 3, 0), (.iconst 0, nI 0), (.iload_n 2, 0), (.iconst 1, nI 1), (.isub, 0)] = true ∧ lIa m_M_removeIf 29 (.invokestatic 40) 3 = true ∧ lIa m_M_removeIf 32 (.ifCond .ne 7) 3 = true ∧ lSa m_M_removeIf 39 [(.iconst 0, nI 0), (.iconst 2, nI 2)] = true := by decide +kernel
  refine lA8 hdd (fun dd0 dd1 dd2 dd3 dd4 dd5 dd6 dd7 hdd => ?_)
  refine lA8 hdd (fun dd8 dd9 dd10 dd11 dd12 dd13 dd14 dd15 hdd => ?_)
  obtain ⟨dd16, dd17, dd18, dd19, dd20, dd21, dd22, dd23⟩ := hdd
  refine gMet.of (by decide +kernel) (Nat.le_of_ble_eq_true rfl) [some (.ref a0), some (.int a1), some (.int a2), some (.int a3), none, none] (fun ls h => zEn_ok (n := 6) h) ?_
  intro o Gf h
  unfold f_M_removeIf at h
  refine Y.blk (pc' := 3) (L' := [some (.ref a0), some (.int a1), some (.int a2), some (.int a3), none, none]) (st' := [.int a1, .ref a0, .ref a0]) (sg := [(.aload_n 0, 0), (.aload_n 0, 0), (.iload_n 1, 0)]) (lSa_ok dd0) rfl ?_
  obtain ⟨_, o2, e1, m3, h⟩ := gOb_inv h
  refine Y.callI (yC.Vi (b := a0) (As := [.int a1]) (st := [.ref a0]) (r := ("PartlisterModel", T_M, 9)) hV.1 cb_M_isNoList lk_M_110 in_M_isNoList rfl se_M_isNoList (lIa_ok dd1) rfl rfl (Nat.le_of_ble_eq_true rfl) (by decide) e1 m3) (k_M_isNoList hV G a0 a1) h (fun v5 G4 _ h => ?_)
  refine Y.blk (pc' := 7) (L' := [some (.ref a0), some (.int a1), some (.int a2), some (.int a3), none, none]) (st' := [.int (nI 1), .int v5, .ref a0]) (sg := [(.iconst 1, nI 1)]) (lSa_ok dd2) rfl ?_
  obtain ⟨_, o7, e6, m8, h⟩ := gOb_inv h
  refine Y.callI (yC.Vi (b := a0) (As := [.int v5, .int (nI 1)]) (st := []) (r := ("PartlisterModel", T_M, 9)) hV.1 cb_M_start lk_M_114 in_M_start rfl se_M_start (lIa_ok dd3) rfl rfl (Nat.le_of_ble_eq_true rfl) (by decide) e6 m8) (k_M_start hV G4 a0 v5 (nI 1)) h (fun v10 G9 _ h => ?_)
  refine Y.if_ne (off := 37) (tgt := 47) (lIa_ok dd4) (by decide) h (fun c75 h => ?_) (fun c75 h => ?_)
  · refine Y.blk (pc' := 18) (L' := [some (.ref a0), some (.int a1), some (.int a2), some (.int a3), none, none]) (st' := [.int (nI 9), .int (nI 1), .int a2, .ref a0]) (sg := [(.aload_n 0, 0), (.iload_n 2, 0), (.iconst 1, nI 1), (.bipush 9, nI 9)]) (lSa_ok dd5) rfl ?_
    refine Y.callI (yC.S (As := [.int a2, .int (nI 1), .int (nI 9)]) (st := [.ref a0]) hV.1 cb_M_isIn lk_M_40 st_M_isIn (lIa_ok dd6) rfl rfl (Nat.le_of_ble_eq_true rfl) (by decide)) (k_M_isIn hV G9 a2 (nI 1) (nI 9)) h (fun v13 G12 _ h => ?_)
    refine Y.if_eq (off := 14) (tgt := 35) (lIa_ok dd7) (by decide) h (fun c74 h => ?_) (fun c74 h => ?_)
    · refine Y.blk (pc' := 36) (L' := [some (.ref a0), some (.int a1), some (.int a2), some (.int a3), none, none]) (st' := [.int (nI 1), .ref a0]) (sg := [(.iconst 1, nI 1)]) (lSa_ok dd8) rfl ?_
      refine Y.goto (off := 4) (tgt := 40) (lIa_ok dd9) (by decide) ?_
      refine Y.blk (pc' := 41) (L' := [some (.ref a0), some (.int a1), some (.int a2), some (.int a3), none, none]) (st' := [.int (nI 2), .int (nI 1), .ref a0]) (sg := [(.iconst 2, nI 2)]) (lSa_ok dd10) rfl ?_
      obtain ⟨_, o15, e14, m16, h⟩ := gOb_inv h
      refine Y.callI (yC.Vi (b := a0) (As := [.int (nI 1), .int (nI 2)]) (st := []) (r := ("PartlisterModel", T_M, 9)) hV.1 cb_M_refuse lk_M_36 in_M_refuse rfl se_M_refuse (lIa_ok dd11) rfl rfl (Nat.le_of_ble_eq_true rfl) (by decide) e14 m16) (k_M_refuse hV G12 a0 (nI 1) (nI 2)) h (fun v18 G17 _ h => ?_)
      refine Y.if_eq (off := 5) (tgt := 49) (lIa_ok dd12) (by decide) h (fun c35 h => ?_) (fun c35 h => ?_)
      · refine Y.blk (pc' := 51) (L' := [some (.ref a0), some (.int a1), some (.int a2), some (.int a3), none, none]) (st' := [.int (nI 31)]) (sg := [(.bipush 31, nI 31)]) (lSa_ok dd13) rfl ?_
        refine Y.newa (at_ := .boolean) (t0 := 2) ac_z rfl (by decide) rfl (by decide) (by decide +kernel) h (fun q19 G20 h => ?_)
        refine Y.blk (pc' := 58) (L' := [some (.ref a0), some (.int a1), some (.int a2), some (.int a3), some (.ref q19), some (.int (nI 0))]) (st' := []) (sg := [(.astore 4, 0), (.iconst 0, nI 0), (.istore 5, 0)]) (lSa_ok dd14) rfl ?_
        refine k_M_removeIf_L58 hV _ ?_  zFu G20 a0 a1 a2 a3 q19 (nI 0) h
        · intro G29 x26 x27 x28 h
          refine Y.blk (pc' := 93) (L' := [some (.ref x26), some (.int x27), none, none, some (.ref x28), none]) (st' := [.ref x28, .int x27, .ref x26]) (sg := [(.aload_n 0, 0), (.iload_n 1, 0), (.aload 4, 0)]) (lSa_ok dd15) rfl ?_
          obtain ⟨_, o31, e30, m32, h⟩ := gOb_inv h
          refine Y.callI (yC.Vi (b := x26) (As := [.int x27, .ref x28]) (st := []) (r := ("PartlisterModel", T_M, 9)) hV.1 cb_M_takeAll lk_M_173 in_M_takeAll rfl se_M_takeAll (lIa_ok dd16) rfl rfl (Nat.le_of_ble_eq_true rfl) (by decide) e30 m32) (k_M_takeAll hV G29 x26 x27 x28) h (fun v34 G33 _ h => ?_)
          exact Y.iret rfl (lIa_ok dd17) h
      · refine Y.blk (pc' := 48) (L' := [some (.ref a0), some (.int a1), some (.int a2), some (.int a3), none, none]) (st' := [.int (nI 0)]) (sg := [(.iconst 0, nI 0)]) (lSa_ok dd18) rfl ?_
        exact Y.iret rfl (lIa_ok dd19) h
    · refine Y.blk (pc' := 29) (L' := [some (.ref a0), some (.int a1), some (.int a2), some (.int a3), none, none]) (st' := [.int (a2 - (nI 1)), .int (nI 0), .int a3, .ref a0]) (sg := [(.iload_n 3, 0), (.iconst 0, nI 0), (.iload_n 2, 0), (.iconst 1, nI 1), (.isub, 0)]) (lSa_ok dd20) rfl ?_
      refine Y.callI (yC.S (As := [.int a3, .int (nI 0), .int (a2 - (nI 1))]) (st := [.ref a0]) hV.1 cb_M_isIn lk_M_40 st_M_isIn (lIa_ok dd21) rfl rfl (Nat.le_of_ble_eq_true rfl) (by decide)) (k_M_isIn hV G12 a3 (nI 0) (a2 - (nI 1))) h (fun v38 G37 _ h => ?_)
      refine Y.if_ne (off := 7) (tgt := 39) (lIa_ok dd22) (by decide) h (fun c73 h => ?_) (fun c73 h => ?_)
      · refine Y.blk (pc' := 36) (L' := [some (.ref a0), some (.int a1), some (.int a2), some (.int a3), none, none]) (st' := [.int (nI 1), .ref a0]) (sg := [(.iconst 1, nI 1)]) (lSa_ok dd8) rfl ?_
        refine Y.goto (off := 4) (tgt := 40) (lIa_ok dd9) (by decide) ?_
        refine Y.blk (pc' := 41) (L' := [some (.ref a0), some (.int a1), some (.int a2), some (.int a3), none, none]) (st' := [.int (nI 2), .int (nI 1), .ref a0]) (sg := [(.iconst 2, nI 2)]) (lSa_ok dd10) rfl ?_
        obtain ⟨_, o40, e39, m41, h⟩ := gOb_inv h
        refine Y.callI (yC.Vi (b := a0) (As := [.int (nI 1), .int (nI 2)]) (st := []) (r := ("PartlisterModel", T_M, 9)) hV.1 cb_M_refuse lk_M_36 in_M_refuse rfl se_M_refuse (lIa_ok dd11) rfl rfl (Nat.le_of_ble_eq_true rfl) (by decide) e39 m41) (k_M_refuse hV G37 a0 (nI 1) (nI 2)) h (fun v43 G42 _ h => ?_)
        refine Y.if_eq (off := 5) (tgt := 49) (lIa_ok dd12) (by decide) h (fun c55 h => ?_) (fun c55 h => ?_)
        · refine Y.blk (pc' := 51) (L' := [some (.ref a0), some (.int a1), some (.int a2), some (.int a3), none, none]) (st' := [.int (nI 31)]) (sg := [(.bipush 31, nI 31)]) (lSa_ok dd13) rfl ?_
          refine Y.newa (at_ := .boolean) (t0 := 2) ac_z rfl (by decide) rfl (by decide) (by decide +kernel) h (fun q44 G45 h => ?_)
          refine Y.blk (pc' := 58) (L' := [some (.ref a0), some (.int a1), some (.int a2), some (.int a3), some (.ref q44), some (.int (nI 0))]) (st' := []) (sg := [(.astore 4, 0), (.iconst 0, nI 0), (.istore 5, 0)]) (lSa_ok dd14) rfl ?_
          refine k_M_removeIf_L58 hV _ ?_  zFu G45 a0 a1 a2 a3 q44 (nI 0) h
          · intro G49 x46 x47 x48 h
            refine Y.blk (pc' := 93) (L' := [some (.ref x46), some (.int x47), none, none, some (.ref x48), none]) (st' := [.ref x48, .int x47, .ref x46]) (sg := [(.aload_n 0, 0), (.iload_n 1, 0), (.aload 4, 0)]) (lSa_ok dd15) rfl ?_
            obtain ⟨_, o51, e50, m52, h⟩ := gOb_inv h
            refine Y.callI (yC.Vi (b := x46) (As := [.int x47, .ref x48]) (st := []) (r := ("PartlisterModel", T_M, 9)) hV.1 cb_M_takeAll lk_M_173 in_M_takeAll rfl se_M_takeAll (lIa_ok dd16) rfl rfl (Nat.le_of_ble_eq_true rfl) (by decide) e50 m52) (k_M_takeAll hV G49 x46 x47 x48) h (fun v54 G53 _ h => ?_)
            exact Y.iret rfl (lIa_ok dd17) h
        · refine Y.blk (pc' := 48) (L' := [some (.ref a0), some (.int a1), some (.int a2), some (.int a3), none, none]) (st' := [.int (nI 0)]) (sg := [(.iconst 0, nI 0)]) (lSa_ok dd18) rfl ?_
          exact Y.iret rfl (lIa_ok dd19) h
      · refine Y.blk (pc' := 41) (L' := [some (.ref a0), some (.int a1), some (.int a2), some (.int a3), none, none]) (st' := [.int (nI 2), .int (nI 0), .ref a0]) (sg := [(.iconst 0, nI 0), (.iconst 2, nI 2)]) (lSa_ok dd23) rfl ?_
        obtain ⟨_, o57, e56, m58, h⟩ := gOb_inv h
        refine Y.callI (yC.Vi (b := a0) (As := [.int (nI 0), .int (nI 2)]) (st := []) (r := ("PartlisterModel", T_M, 9)) hV.1 cb_M_refuse lk_M_36 in_M_refuse rfl se_M_refuse (lIa_ok dd11) rfl rfl (Nat.le_of_ble_eq_true rfl) (by decide) e56 m58) (k_M_refuse hV G37 a0 (nI 0) (nI 2)) h (fun v60 G59 _ h => ?_)
        refine Y.if_eq (off := 5) (tgt := 49) (lIa_ok dd12) (by decide) h (fun c72 h => ?_) (fun c72 h => ?_)
        · refine Y.blk (pc' := 51) (L' := [some (.ref a0), some (.int a1), some (.int a2), some (.int a3), none, none]) (st' := [.int (nI 31)]) (sg := [(.bipush 31, nI 31)]) (lSa_ok dd13) rfl ?_
          refine Y.newa (at_ := .boolean) (t0 := 2) ac_z rfl (by decide) rfl (by decide) (by decide +kernel) h (fun q61 G62 h => ?_)
          refine Y.blk (pc' := 58) (L' := [some (.ref a0), some (.int a1), some (.int a2), some (.int a3), some (.ref q61), some (.int (nI 0))]) (st' := []) (sg := [(.astore 4, 0), (.iconst 0, nI 0), (.istore 5, 0)]) (lSa_ok dd14) rfl ?_
          refine k_M_removeIf_L58 hV _ ?_  zFu G62 a0 a1 a2 a3 q61 (nI 0) h
          · intro G66 x63 x64 x65 h
            refine Y.blk (pc' := 93) (L' := [some (.ref x63), some (.int x64), none, none, some (.ref x65), none]) (st' := [.ref x65, .int x64, .ref x63]) (sg := [(.aload_n 0, 0), (.iload_n 1, 0), (.aload 4, 0)]) (lSa_ok dd15) rfl ?_
            obtain ⟨_, o68, e67, m69, h⟩ := gOb_inv h
            refine Y.callI (yC.Vi (b := x63) (As := [.int x64, .ref x65]) (st := []) (r := ("PartlisterModel", T_M, 9)) hV.1 cb_M_takeAll lk_M_173 in_M_takeAll rfl se_M_takeAll (lIa_ok dd16) rfl rfl (Nat.le_of_ble_eq_true rfl) (by decide) e67 m69) (k_M_takeAll hV G66 x63 x64 x65) h (fun v71 G70 _ h => ?_)
            exact Y.iret rfl (lIa_ok dd17) h
        · refine Y.blk (pc' := 48) (L' := [some (.ref a0), some (.int a1), some (.int a2), some (.int a3), none, none]) (st' := [.int (nI 0)]) (sg := [(.iconst 0, nI 0)]) (lSa_ok dd18) rfl ?_
          exact Y.iret rfl (lIa_ok dd19) h
  · refine Y.blk (pc' := 48) (L' := [some (.ref a0), some (.int a1), some (.int a2), some (.int a3), none, none]) (st' := [.int (nI 0)]) (sg := [(.iconst 0, nI 0)]) (lSa_ok dd18) rfl ?_
    exact Y.iret rfl (lIa_ok dd19) h

def f_M_replaceAll_L47 (K105 : gH → Nat → Int32 → gR) : Nat → gH → Nat → Int32 → Int32 → Int32 → Int32 → gR
  | 0, _, _, _, _, _, _ => none
  | n + 1, G, x0, x1, x2, x3, x4 =>
    gOb G x0 6 fun o27 => bI (f_M_length G x0 x1) fun v30 G29 => if v30 ≤ x4 then K105 G29 x0 x1
    else gNewA G29 100 (nI 2) fun q31 G32 => gOb G32 x0 6 fun o34 => bA (f_M_at G32 x0 x1 x4) fun v37 G36 => gLd G36 v37 100 (nI 0) fun v38 => gRem ((v38 * x2) + x3) (nI 31) fun v39 => gSt G36 q31 100 (nI 0) v39 fun G40 => gOb G40 x0 6 fun o42 => bA (f_M_at G40 x0 x1 x4) fun v45 G44 => gLd G44 v45 100 (nI 1) fun v46 => gSt G44 q31 100 (nI 1) v46 fun G47 => gOb G47 x0 6 fun o49 => bA (f_M_write G47 x0 x1 x4 q31) fun v52 G51 => f_M_replaceAll_L47 K105 n G51 x0 x1 x2 x3 (x4 + (nI 1))
def f_M_replaceAll (G : gH) (a0 : Nat) (a1 : Int32) (a2 : Int32) (a3 : Int32) : gR :=
  gOb G a0 6 fun o2 => bI (f_M_isNoList G a0 a1) fun v5 G4 => gOb G4 a0 6 fun o7 => bI (f_M_start G4 a0 v5 (nI 1)) fun v10 G9 => if v10 = 0 then (gOb G9 a0 6 fun o12 => bI (f_M_isNoKey G9 a0 a2) fun v15 G14 => if v15 = 0 then (gOb G14 a0 6 fun o17 => bI (f_M_isNoKey G14 a0 a3) fun v20 G19 => if v20 = 0 then (gOb G19 a0 6 fun o22 => bI (f_M_refuse G19 a0 (nI 0) (nI 2)) fun v25 G24 => if v25 = 0 then f_M_replaceAll_L47 (fun G56 x54 x55 => gOb G56 x54 6 fun o58 => bI (f_M_rowOf zDp G56 x54 x55) fun v61 G60 => gOb G60 x54 6 fun o63 => bI (f_M_endParts G60 x54 v61 x55) fun v66 G65 => gOb G65 x54 6 fun o68 => bI (f_M_rowOf zDp G65 x54 x55) fun v71 G70 => gOb G70 x54 6 fun o73 => bV (f_M_endCursors G70 x54 v71) fun G75 => gOb G75 x54 6 fun o77 => bI (f_M_length G75 x54 x55) fun v80 G79 => rI v80 G79) zFu G24 a0 a1 a2 a3 (nI 0)
        else rI (nI 0) G24)
      else gOb G19 a0 6 fun o83 => bI (f_M_refuse G19 a0 (nI 1) (nI 2)) fun v86 G85 => if v86 = 0 then f_M_replaceAll_L47 (fun G89 x87 x88 => gOb G89 x87 6 fun o91 => bI (f_M_rowOf zDp G89 x87 x88) fun v94 G93 => gOb G93 x87 6 fun o96 => bI (f_M_endParts G93 x87 v94 x88) fun v99 G98 => gOb G98 x87 6 fun o101 => bI (f_M_rowOf zDp G98 x87 x88) fun v104 G103 => gOb G103 x87 6 fun o106 => bV (f_M_endCursors G103 x87 v104) fun G108 => gOb G108 x87 6 fun o110 => bI (f_M_length G108 x87 x88) fun v113 G112 => rI v113 G112) zFu G85 a0 a1 a2 a3 (nI 0)
        else rI (nI 0) G85)
    else gOb G14 a0 6 fun o117 => bI (f_M_refuse G14 a0 (nI 1) (nI 2)) fun v120 G119 => if v120 = 0 then f_M_replaceAll_L47 (fun G123 x121 x122 => gOb G123 x121 6 fun o125 => bI (f_M_rowOf zDp G123 x121 x122) fun v128 G127 => gOb G127 x121 6 fun o130 => bI (f_M_endParts G127 x121 v128 x122) fun v133 G132 => gOb G132 x121 6 fun o135 => bI (f_M_rowOf zDp G132 x121 x122) fun v138 G137 => gOb G137 x121 6 fun o140 => bV (f_M_endCursors G137 x121 v138) fun G142 => gOb G142 x121 6 fun o144 => bI (f_M_length G142 x121 x122) fun v147 G146 => rI v147 G146) zFu G119 a0 a1 a2 a3 (nI 0)
      else rI (nI 0) G119)
  else rI (nI 0) G9
theorem k_M_replaceAll_L47 {l : Launch} {D : va_G} {B : Nat} {O : State → Heap → Prop} (hV : zG l D B O) {o : gO} {Gf : gH} (K105 : gH → Nat → Int32 → gR) (hK105 : ∀ (G : gH) (x0 : Nat) (x1 : Int32), K105 G x0 x1 = some (o, Gf) → Y (zVm l D B O) m_M_replaceAll 13 o Gf 105 [some (.ref x0), some (.int x1), none, none, none] [] G) : ∀ (n : Nat) (G : gH) (x0 : Nat) (x1 : Int32) (x2 : Int32) (x3 : Int32) (x4 : Int32), f_M_replaceAll_L47 K105 n G x0 x1 x2 x3 x4 = some (o, Gf) → Y (zVm l D B O) m_M_replaceAll 13 o Gf 47 [some (.ref x0), some (.int x1), some (.int x2), some (.int x3), some (.int x4)] [] G := by
  have hdd : lSa m_M_replaceAll 47 [(.iload 4, 0), (.aload_n 0, 0), (.iload_n 1, 0)] = true ∧ lIa m_M_replaceAll 51 (.invokevirtual 74) 3 = true ∧ lIa m_M_replaceAll 54 (.if_icmp .ge 51) 3 = true ∧ lSa m_M_replaceAll 57 [(.aload_n 0, 0), (.iload_n 1, 0), (.iload 4, 0), (.iconst 2, nI 2)] = true ∧ lSa m_M_replaceAll 64 [(.dup, 0), (.iconst 0, nI 0), (.aload_n 0, 0), (.iload_n 1, 0), (.iload 4, 0)] = true ∧ lIa m_M_replaceAll 70 (.invokevirtual 132) 3 = true ∧ lSa m_M_replaceAll 73 [(.iconst 0, nI 0)] = true ∧ lIa m_M_replaceAll 74 (.iaload) 1 = true ∧ lSa m_M_replaceAll 75 [(.iload_n 2, 0), (.imul, 0), (.iload_n 3, 0), (.iadd, 0), (.bipush 31, nI 31)] = true ∧ lIa m_M_replaceAll 81 (.irem) 1 = true ∧ lIa m_M_replaceAll 82 (.iastore) 1 = true ∧ lSa m_M_replaceAll 83 [(.dup, 0), (.iconst 1, nI 1), (.aload_n 0, 0), (.iload_n 1, 0), (.iload 4, 0)] = true ∧ lIa m_M_replaceAll 89 (.invokevirtual 132) 3 = true ∧ lSa m_M_replaceAll 92 [(.iconst 1, nI 1)] = true ∧ lIa m_M_replaceAll 93 (.iaload) 1 = true ∧ lIa m_M_replaceAll 94 (.iastore) 1 = true ∧ lIa m_M_replaceAll 95 (.invokevirtual 150) 3 = true ∧ lSa m_M_replaceAll 98 [(.pop, 0), (.iinc 4 1, nI 1)] = true ∧ lIa m_M_replaceAll 102 (.goto (-55)) 3 = true := by decide +kernel
  refine lA8 hdd (fun dd0 dd1 dd2 dd3 dd4 dd5 dd6 dd7 hdd => ?_)
  refine lA8 hdd (fun dd8 dd9 dd10 dd11 dd12 dd13 dd14 dd15 hdd => ?_)
  obtain ⟨dd16, dd17, dd18⟩ := hdd
  intro n
  induction n with
  | zero => intro G x0 x1 x2 x3 x4 h; cases h
  | succ n ih =>
    intro G x0 x1 x2 x3 x4 h
    unfold f_M_replaceAll_L47 at h
    refine Y.blk (pc' := 51) (L' := [some (.ref x0), some (.int x1), some (.int x2), some (.int x3), some (.int x4)]) (st' := [.int x1, .ref x0, .int x4]) (sg := [(.iload 4, 0), (.aload_n 0, 0), (.iload_n 1, 0)]) (lSa_ok dd0) rfl ?_
    obtain ⟨_, o27, e26, m28, h⟩ := gOb_inv h
    refine Y.callI (yC.Vi (b := x0) (As := [.int x1]) (st := [.int x4]) (r := ("PartlisterModel", T_M, 9)) hV.1 cb_M_length lk_M_74 in_M_length rfl se_M_length (lIa_ok dd1) rfl rfl (Nat.le_of_ble_eq_true rfl) (by decide) e26 m28) (k_M_length hV G x0 x1) h (fun v30 G29 _ h => ?_)
    refine Y.ic_ge (off := 51) (tgt := 105) (lIa_ok dd2) (by decide) h (fun c53 h => ?_) (fun c53 h => ?_)
    · refine Y.less (L' := [some (.ref x0), some (.int x1), none, none, none]) (zLe_some (zLe_some (zLe_none (zLe_none (zLe_none (zLe_nil)))))) ?_
      exact hK105 G29 x0 x1 h
    · refine Y.blk (pc' := 62) (L' := [some (.ref x0), some (.int x1), some (.int x2), some (.int x3), some (.int x4)]) (st' := [.int (nI 2), .int x4, .int x1, .ref x0]) (sg := [(.aload_n 0, 0), (.iload_n 1, 0), (.iload 4, 0), (.iconst 2, nI 2)]) (lSa_ok dd3) rfl ?_
      refine Y.newa (at_ := .int) (t0 := 0) ac_i rfl (by decide) rfl (by decide) (by decide +kernel) h (fun q31 G32 h => ?_)
      refine Y.blk (pc' := 70) (L' := [some (.ref x0), some (.int x1), some (.int x2), some (.int x3), some (.int x4)]) (st' := [.int x4, .int x1, .ref x0, .int (nI 0), .ref q31, .ref q31, .int x4, .int x1, .ref x0]) (sg := [(.dup, 0), (.iconst 0, nI 0), (.aload_n 0, 0), (.iload_n 1, 0), (.iload 4, 0)]) (lSa_ok dd4) rfl ?_
      obtain ⟨_, o34, e33, m35, h⟩ := gOb_inv h
      refine Y.callA (yC.Vi (b := x0) (As := [.int x1, .int x4]) (st := [.int (nI 0), .ref q31, .ref q31, .int x4, .int x1, .ref x0]) (r := ("PartlisterModel", T_M, 9)) hV.1 cb_M_at lk_M_132 in_M_at rfl se_M_at (lIa_ok dd5) rfl rfl (Nat.le_of_ble_eq_true rfl) (by decide) e33 m35) (k_M_at hV G32 x0 x1 x4) h (fun v37 G36 _ h => ?_)
      refine Y.blk (pc' := 74) (L' := [some (.ref x0), some (.int x1), some (.int x2), some (.int x3), some (.int x4)]) (st' := [.int (nI 0), .ref v37, .int (nI 0), .ref q31, .ref q31, .int x4, .int x1, .ref x0]) (sg := [(.iconst 0, nI 0)]) (lSa_ok dd6) rfl ?_
      refine Y.iald (t0 := 0) (lIa_ok dd7) rfl h (fun v38 h => ?_)
      refine Y.blk (pc' := 81) (L' := [some (.ref x0), some (.int x1), some (.int x2), some (.int x3), some (.int x4)]) (st' := [.int (nI 31), .int ((v38 * x2) + x3), .int (nI 0), .ref q31, .ref q31, .int x4, .int x1, .ref x0]) (sg := [(.iload_n 2, 0), (.imul, 0), (.iload_n 3, 0), (.iadd, 0), (.bipush 31, nI 31)]) (lSa_ok dd8) rfl ?_
      refine Y.irem (lIa_ok dd9) h (fun v39 h => ?_)
      refine Y.iast (t0 := 0) (lIa_ok dd10) rfl (by decide) h (fun G40 _ _ h => ?_)
      refine Y.blk (pc' := 89) (L' := [some (.ref x0), some (.int x1), some (.int x2), some (.int x3), some (.int x4)]) (st' := [.int x4, .int x1, .ref x0, .int (nI 1), .ref q31, .ref q31, .int x4, .int x1, .ref x0]) (sg := [(.dup, 0), (.iconst 1, nI 1), (.aload_n 0, 0), (.iload_n 1, 0), (.iload 4, 0)]) (lSa_ok dd11) rfl ?_
      obtain ⟨_, o42, e41, m43, h⟩ := gOb_inv h
      refine Y.callA (yC.Vi (b := x0) (As := [.int x1, .int x4]) (st := [.int (nI 1), .ref q31, .ref q31, .int x4, .int x1, .ref x0]) (r := ("PartlisterModel", T_M, 9)) hV.1 cb_M_at lk_M_132 in_M_at rfl se_M_at (lIa_ok dd12) rfl rfl (Nat.le_of_ble_eq_true rfl) (by decide) e41 m43) (k_M_at hV G40 x0 x1 x4) h (fun v45 G44 _ h => ?_)
      refine Y.blk (pc' := 93) (L' := [some (.ref x0), some (.int x1), some (.int x2), some (.int x3), some (.int x4)]) (st' := [.int (nI 1), .ref v45, .int (nI 1), .ref q31, .ref q31, .int x4, .int x1, .ref x0]) (sg := [(.iconst 1, nI 1)]) (lSa_ok dd13) rfl ?_
      refine Y.iald (t0 := 0) (lIa_ok dd14) rfl h (fun v46 h => ?_)
      refine Y.iast (t0 := 0) (lIa_ok dd15) rfl (by decide) h (fun G47 _ _ h => ?_)
      obtain ⟨_, o49, e48, m50, h⟩ := gOb_inv h
      refine Y.callA (yC.Vi (b := x0) (As := [.int x1, .int x4, .ref q31]) (st := []) (r := ("PartlisterModel", T_M, 9)) hV.1 cb_M_write lk_M_150 in_M_write rfl se_M_write (lIa_ok dd16) rfl rfl (Nat.le_of_ble_eq_true rfl) (by decide) e48 m50) (k_M_write hV G47 x0 x1 x4 q31) h (fun v52 G51 _ h => ?_)
      refine Y.blk (pc' := 102) (L' := [some (.ref x0), some (.int x1), some (.int x2), some (.int x3), some (.int (x4 + (nI 1)))]) (st' := []) (sg := [(.pop, 0), (.iinc 4 1, nI 1)]) (lSa_ok dd17) rfl ?_
      refine Y.goto (off := -55) (tgt := 47) (lIa_ok dd18) (by decide) ?_
      exact ih G51 x0 x1 x2 x3 (x4 + (nI 1)) h
theorem k_M_replaceAll {l : Launch} {D : va_G} {B : Nat} {O : State → Heap → Prop} (hV : zG l D B O) (G : gH) (a0 : Nat) (a1 : Int32) (a2 : Int32) (a3 : Int32) : gMet (zVm l D B O) m_M_replaceAll 13 [.ref a0, .int a1, .int a2, .int a3] G (f_M_replaceAll G a0 a1 a2 a3) := by
  have hdd : lSa m_M_replaceAll 0 [(.aload_n 0, 0), (.aload_n 0, 0), (.iload_n 1, 0)] = true ∧ lIa m_M_replaceAll 3 (.invokevirtual 110) 3 = true ∧ lSa m_M_replaceAll 6 [(.iconst 1, nI 1)] = true ∧ lIa m_M_replaceAll 7 (.invokevirtual 114) 3 = true ∧ lIa m_M_replaceAll 10 (.ifCond .ne 32) 3 = true ∧ lSa m_M_replaceAll 13 [(.aload_n 0, 0), (.aload_n 0, 0), (.iload_n 2, 0)] = true ∧ lIa m_M_replaceAll 16 (.invokevirtual 160) 3 = true ∧ lIa m_M_replaceAll 19 (.ifCond .ne 11) 3 = true ∧ lSa m_M_replaceAll 22 [(.aload_n 0, 0), (.iload_n 3, 0)] = true ∧ lIa m_M_replaceAll 24 (.invokevirtual 160) 3 = true ∧ lIa m_M_replaceAll 27 (.ifCond .eq 7) 3 = true ∧ lSa m_M_replaceAll 34 [(.iconst 0, nI 0), (.iconst 2, nI 2)] = true ∧ lIa m_M_replaceAll 36 (.invokevirtual 36) 3 = true ∧ lIa m_M_replaceAll 39 (.ifCond .eq 5) 3 = true ∧ lSa m_M_replaceAll 44 [(.iconst 0, nI 0), (.istore 4, 0)] = true ∧ lSa m_M_replaceAll 105 [(.aload_n 0, 0), (.aload_n 0, 0), (.iload_n 1, 0)] = true ∧ lIa m_M_replaceAll 108 (.invokevirtual 47) 3 = true ∧ lSa m_M_replaceAll 111 [(.iload_n 1, 0)] = true ∧ lIa m_M_replaceAll 112 (.invokevirtual 103) 3 = true ∧ lSa m_M_replaceAll 115 [(.pop, 0), (.aload_n 0, 0), (.aload_n 0, 0), (.iload_n 1, 0)] = true ∧ lIa m_M_replaceAll 119 (.invokevirtual 47) 3 = true ∧ lIa m_M_replaceAll 122 (.invokevirtual 177) 3 = true ∧ lSa m_M_replaceAll 125 [(.aload_n 0, 0), (.iload_n 1, 0)] = true ∧ lIa m_M_replaceAll 127 (.invokevirtual 74) 3 = true ∧ lIa m_M_replaceAll 130 (.ireturn) 1 = true ∧ lSa m_M_replaceAll 42 [(.iconst 0, nI 0)] = true ∧ lIa m_M_replaceAll 43 (.ireturn) 1 = true ∧ lSa m_M_replaceAll 30 [(.iconst 1, nI 1)] = true ∧ lIa m_M_replaceAll 31 (.goto 4) 3 = true ∧ lSa m_M_replaceAll 35 [(.iconst 2, nI 2)] = true := by decide +kernel
  refine lA8 hdd (fun dd0 dd1 dd2 dd3 dd4 dd5 dd6 dd7 hdd => ?_)
  refine lA8 hdd (fun dd8 dd9 dd10 dd11 dd12 dd13 dd14 dd15 hdd => ?_)
  refine lA8 hdd (fun dd16 dd17 dd18 dd19 dd20 dd21 dd22 dd23 hdd => ?_)
  obtain ⟨dd24, dd25, dd26, dd27, dd28, dd29⟩ := hdd
  refine gMet.of (by decide +kernel) (Nat.le_of_ble_eq_true rfl) [some (.ref a0), some (.int a1), some (.int a2), some (.int a3), none] (fun ls h => zEn_ok (n := 5) h) ?_
  intro o Gf h
  unfold f_M_replaceAll at h
  refine Y.blk (pc' := 3) (L' := [some (.ref a0), some (.int a1), some (.int a2), some (.int a3), none]) (st' := [.int a1, .ref a0, .ref a0]) (sg := [(.aload_n 0, 0), (.aload_n 0, 0), (.iload_n 1, 0)]) (lSa_ok dd0) rfl ?_
  obtain ⟨_, o2, e1, m3, h⟩ := gOb_inv h
  refine Y.callI (yC.Vi (b := a0) (As := [.int a1]) (st := [.ref a0]) (r := ("PartlisterModel", T_M, 9)) hV.1 cb_M_isNoList lk_M_110 in_M_isNoList rfl se_M_isNoList (lIa_ok dd1) rfl rfl (Nat.le_of_ble_eq_true rfl) (by decide) e1 m3) (k_M_isNoList hV G a0 a1) h (fun v5 G4 _ h => ?_)
  refine Y.blk (pc' := 7) (L' := [some (.ref a0), some (.int a1), some (.int a2), some (.int a3), none]) (st' := [.int (nI 1), .int v5, .ref a0]) (sg := [(.iconst 1, nI 1)]) (lSa_ok dd2) rfl ?_
  obtain ⟨_, o7, e6, m8, h⟩ := gOb_inv h
  refine Y.callI (yC.Vi (b := a0) (As := [.int v5, .int (nI 1)]) (st := []) (r := ("PartlisterModel", T_M, 9)) hV.1 cb_M_start lk_M_114 in_M_start rfl se_M_start (lIa_ok dd3) rfl rfl (Nat.le_of_ble_eq_true rfl) (by decide) e6 m8) (k_M_start hV G4 a0 v5 (nI 1)) h (fun v10 G9 _ h => ?_)
  refine Y.if_ne (off := 32) (tgt := 42) (lIa_ok dd4) (by decide) h (fun c150 h => ?_) (fun c150 h => ?_)
  · refine Y.blk (pc' := 16) (L' := [some (.ref a0), some (.int a1), some (.int a2), some (.int a3), none]) (st' := [.int a2, .ref a0, .ref a0]) (sg := [(.aload_n 0, 0), (.aload_n 0, 0), (.iload_n 2, 0)]) (lSa_ok dd5) rfl ?_
    obtain ⟨_, o12, e11, m13, h⟩ := gOb_inv h
    refine Y.callI (yC.Vi (b := a0) (As := [.int a2]) (st := [.ref a0]) (r := ("PartlisterModel", T_M, 9)) hV.1 cb_M_isNoKey lk_M_160 in_M_isNoKey rfl se_M_isNoKey (lIa_ok dd6) rfl rfl (Nat.le_of_ble_eq_true rfl) (by decide) e11 m13) (k_M_isNoKey hV G9 a0 a2) h (fun v15 G14 _ h => ?_)
    refine Y.if_ne (off := 11) (tgt := 30) (lIa_ok dd7) (by decide) h (fun c149 h => ?_) (fun c149 h => ?_)
    · refine Y.blk (pc' := 24) (L' := [some (.ref a0), some (.int a1), some (.int a2), some (.int a3), none]) (st' := [.int a3, .ref a0, .ref a0]) (sg := [(.aload_n 0, 0), (.iload_n 3, 0)]) (lSa_ok dd8) rfl ?_
      obtain ⟨_, o17, e16, m18, h⟩ := gOb_inv h
      refine Y.callI (yC.Vi (b := a0) (As := [.int a3]) (st := [.ref a0]) (r := ("PartlisterModel", T_M, 9)) hV.1 cb_M_isNoKey lk_M_160 in_M_isNoKey rfl se_M_isNoKey (lIa_ok dd9) rfl rfl (Nat.le_of_ble_eq_true rfl) (by decide) e16 m18) (k_M_isNoKey hV G14 a0 a3) h (fun v20 G19 _ h => ?_)
      refine Y.if_eq (off := 7) (tgt := 34) (lIa_ok dd10) (by decide) h (fun c115 h => ?_) (fun c115 h => ?_)
      · refine Y.blk (pc' := 36) (L' := [some (.ref a0), some (.int a1), some (.int a2), some (.int a3), none]) (st' := [.int (nI 2), .int (nI 0), .ref a0]) (sg := [(.iconst 0, nI 0), (.iconst 2, nI 2)]) (lSa_ok dd11) rfl ?_
        obtain ⟨_, o22, e21, m23, h⟩ := gOb_inv h
        refine Y.callI (yC.Vi (b := a0) (As := [.int (nI 0), .int (nI 2)]) (st := []) (r := ("PartlisterModel", T_M, 9)) hV.1 cb_M_refuse lk_M_36 in_M_refuse rfl se_M_refuse (lIa_ok dd12) rfl rfl (Nat.le_of_ble_eq_true rfl) (by decide) e21 m23) (k_M_refuse hV G19 a0 (nI 0) (nI 2)) h (fun v25 G24 _ h => ?_)
        refine Y.if_eq (off := 5) (tgt := 44) (lIa_ok dd13) (by decide) h (fun c81 h => ?_) (fun c81 h => ?_)
        · refine Y.blk (pc' := 47) (L' := [some (.ref a0), some (.int a1), some (.int a2), some (.int a3), some (.int (nI 0))]) (st' := []) (sg := [(.iconst 0, nI 0), (.istore 4, 0)]) (lSa_ok dd14) rfl ?_
          refine k_M_replaceAll_L47 hV _ ?_  zFu G24 a0 a1 a2 a3 (nI 0) h
          · intro G56 x54 x55 h
            refine Y.blk (pc' := 108) (L' := [some (.ref x54), some (.int x55), none, none, none]) (st' := [.int x55, .ref x54, .ref x54]) (sg := [(.aload_n 0, 0), (.aload_n 0, 0), (.iload_n 1, 0)]) (lSa_ok dd15) rfl ?_
            obtain ⟨_, o58, e57, m59, h⟩ := gOb_inv h
            refine Y.callI (yC.Vi (b := x54) (As := [.int x55]) (st := [.ref x54]) (r := ("PartlisterModel", T_M, 9)) hV.1 cb_M_rowOf lk_M_47 in_M_rowOf rfl se_M_rowOf (lIa_ok dd16) rfl rfl (Nat.le_of_ble_eq_true rfl) (by decide) e57 m59) (k_M_rowOf zDp hV G56 x54 x55) h (fun v61 G60 _ h => ?_)
            refine Y.blk (pc' := 112) (L' := [some (.ref x54), some (.int x55), none, none, none]) (st' := [.int x55, .int v61, .ref x54]) (sg := [(.iload_n 1, 0)]) (lSa_ok dd17) rfl ?_
            obtain ⟨_, o63, e62, m64, h⟩ := gOb_inv h
            refine Y.callI (yC.Vi (b := x54) (As := [.int v61, .int x55]) (st := []) (r := ("PartlisterModel", T_M, 9)) hV.1 cb_M_endParts lk_M_103 in_M_endParts rfl se_M_endParts (lIa_ok dd18) rfl rfl (Nat.le_of_ble_eq_true rfl) (by decide) e62 m64) (k_M_endParts hV G60 x54 v61 x55) h (fun v66 G65 _ h => ?_)
            refine Y.blk (pc' := 119) (L' := [some (.ref x54), some (.int x55), none, none, none]) (st' := [.int x55, .ref x54, .ref x54]) (sg := [(.pop, 0), (.aload_n 0, 0), (.aload_n 0, 0), (.iload_n 1, 0)]) (lSa_ok dd19) rfl ?_
            obtain ⟨_, o68, e67, m69, h⟩ := gOb_inv h
            refine Y.callI (yC.Vi (b := x54) (As := [.int x55]) (st := [.ref x54]) (r := ("PartlisterModel", T_M, 9)) hV.1 cb_M_rowOf lk_M_47 in_M_rowOf rfl se_M_rowOf (lIa_ok dd20) rfl rfl (Nat.le_of_ble_eq_true rfl) (by decide) e67 m69) (k_M_rowOf zDp hV G65 x54 x55) h (fun v71 G70 _ h => ?_)
            obtain ⟨_, o73, e72, m74, h⟩ := gOb_inv h
            refine Y.callN (yC.Vi (b := x54) (As := [.int v71]) (st := []) (r := ("PartlisterModel", T_M, 9)) hV.1 cb_M_endCursors lk_M_177 in_M_endCursors rfl se_M_endCursors (lIa_ok dd21) rfl rfl (Nat.le_of_ble_eq_true rfl) (by decide) e72 m74) (k_M_endCursors hV G70 x54 v71) h (fun G75 _ h => ?_)
            refine Y.blk (pc' := 127) (L' := [some (.ref x54), some (.int x55), none, none, none]) (st' := [.int x55, .ref x54]) (sg := [(.aload_n 0, 0), (.iload_n 1, 0)]) (lSa_ok dd22) rfl ?_
            obtain ⟨_, o77, e76, m78, h⟩ := gOb_inv h
            refine Y.callI (yC.Vi (b := x54) (As := [.int x55]) (st := []) (r := ("PartlisterModel", T_M, 9)) hV.1 cb_M_length lk_M_74 in_M_length rfl se_M_length (lIa_ok dd23) rfl rfl (Nat.le_of_ble_eq_true rfl) (by decide) e76 m78) (k_M_length hV G75 x54 x55) h (fun v80 G79 _ h => ?_)
            exact Y.iret rfl (lIa_ok dd24) h
        · refine Y.blk (pc' := 43) (L' := [some (.ref a0), some (.int a1), some (.int a2), some (.int a3), none]) (st' := [.int (nI 0)]) (sg := [(.iconst 0, nI 0)]) (lSa_ok dd25) rfl ?_
          exact Y.iret rfl (lIa_ok dd26) h
      · refine Y.blk (pc' := 31) (L' := [some (.ref a0), some (.int a1), some (.int a2), some (.int a3), none]) (st' := [.int (nI 1), .ref a0]) (sg := [(.iconst 1, nI 1)]) (lSa_ok dd27) rfl ?_
        refine Y.goto (off := 4) (tgt := 35) (lIa_ok dd28) (by decide) ?_
        refine Y.blk (pc' := 36) (L' := [some (.ref a0), some (.int a1), some (.int a2), some (.int a3), none]) (st' := [.int (nI 2), .int (nI 1), .ref a0]) (sg := [(.iconst 2, nI 2)]) (lSa_ok dd29) rfl ?_
        obtain ⟨_, o83, e82, m84, h⟩ := gOb_inv h
        refine Y.callI (yC.Vi (b := a0) (As := [.int (nI 1), .int (nI 2)]) (st := []) (r := ("PartlisterModel", T_M, 9)) hV.1 cb_M_refuse lk_M_36 in_M_refuse rfl se_M_refuse (lIa_ok dd12) rfl rfl (Nat.le_of_ble_eq_true rfl) (by decide) e82 m84) (k_M_refuse hV G19 a0 (nI 1) (nI 2)) h (fun v86 G85 _ h => ?_)
        refine Y.if_eq (off := 5) (tgt := 44) (lIa_ok dd13) (by decide) h (fun c114 h => ?_) (fun c114 h => ?_)
        · refine Y.blk (pc' := 47) (L' := [some (.ref a0), some (.int a1), some (.int a2), some (.int a3), some (.int (nI 0))]) (st' := []) (sg := [(.iconst 0, nI 0), (.istore 4, 0)]) (lSa_ok dd14) rfl ?_
          refine k_M_replaceAll_L47 hV _ ?_  zFu G85 a0 a1 a2 a3 (nI 0) h
          · intro G89 x87 x88 h
            refine Y.blk (pc' := 108) (L' := [some (.ref x87), some (.int x88), none, none, none]) (st' := [.int x88, .ref x87, .ref x87]) (sg := [(.aload_n 0, 0), (.aload_n 0, 0), (.iload_n 1, 0)]) (lSa_ok dd15) rfl ?_
            obtain ⟨_, o91, e90, m92, h⟩ := gOb_inv h
            refine Y.callI (yC.Vi (b := x87) (As := [.int x88]) (st := [.ref x87]) (r := ("PartlisterModel", T_M, 9)) hV.1 cb_M_rowOf lk_M_47 in_M_rowOf rfl se_M_rowOf (lIa_ok dd16) rfl rfl (Nat.le_of_ble_eq_true rfl) (by decide) e90 m92) (k_M_rowOf zDp hV G89 x87 x88) h (fun v94 G93 _ h => ?_)
            refine Y.blk (pc' := 112) (L' := [some (.ref x87), some (.int x88), none, none, none]) (st' := [.int x88, .int v94, .ref x87]) (sg := [(.iload_n 1, 0)]) (lSa_ok dd17) rfl ?_
            obtain ⟨_, o96, e95, m97, h⟩ := gOb_inv h
            refine Y.callI (yC.Vi (b := x87) (As := [.int v94, .int x88]) (st := []) (r := ("PartlisterModel", T_M, 9)) hV.1 cb_M_endParts lk_M_103 in_M_endParts rfl se_M_endParts (lIa_ok dd18) rfl rfl (Nat.le_of_ble_eq_true rfl) (by decide) e95 m97) (k_M_endParts hV G93 x87 v94 x88) h (fun v99 G98 _ h => ?_)
            refine Y.blk (pc' := 119) (L' := [some (.ref x87), some (.int x88), none, none, none]) (st' := [.int x88, .ref x87, .ref x87]) (sg := [(.pop, 0), (.aload_n 0, 0), (.aload_n 0, 0), (.iload_n 1, 0)]) (lSa_ok dd19) rfl ?_
            obtain ⟨_, o101, e100, m102, h⟩ := gOb_inv h
            refine Y.callI (yC.Vi (b := x87) (As := [.int x88]) (st := [.ref x87]) (r := ("PartlisterModel", T_M, 9)) hV.1 cb_M_rowOf lk_M_47 in_M_rowOf rfl se_M_rowOf (lIa_ok dd20) rfl rfl (Nat.le_of_ble_eq_true rfl) (by decide) e100 m102) (k_M_rowOf zDp hV G98 x87 x88) h (fun v104 G103 _ h => ?_)
            obtain ⟨_, o106, e105, m107, h⟩ := gOb_inv h
            refine Y.callN (yC.Vi (b := x87) (As := [.int v104]) (st := []) (r := ("PartlisterModel", T_M, 9)) hV.1 cb_M_endCursors lk_M_177 in_M_endCursors rfl se_M_endCursors (lIa_ok dd21) rfl rfl (Nat.le_of_ble_eq_true rfl) (by decide) e105 m107) (k_M_endCursors hV G103 x87 v104) h (fun G108 _ h => ?_)
            refine Y.blk (pc' := 127) (L' := [some (.ref x87), some (.int x88), none, none, none]) (st' := [.int x88, .ref x87]) (sg := [(.aload_n 0, 0), (.iload_n 1, 0)]) (lSa_ok dd22) rfl ?_
            obtain ⟨_, o110, e109, m111, h⟩ := gOb_inv h
            refine Y.callI (yC.Vi (b := x87) (As := [.int x88]) (st := []) (r := ("PartlisterModel", T_M, 9)) hV.1 cb_M_length lk_M_74 in_M_length rfl se_M_length (lIa_ok dd23) rfl rfl (Nat.le_of_ble_eq_true rfl) (by decide) e109 m111) (k_M_length hV G108 x87 x88) h (fun v113 G112 _ h => ?_)
            exact Y.iret rfl (lIa_ok dd24) h
        · refine Y.blk (pc' := 43) (L' := [some (.ref a0), some (.int a1), some (.int a2), some (.int a3), none]) (st' := [.int (nI 0)]) (sg := [(.iconst 0, nI 0)]) (lSa_ok dd25) rfl ?_
          exact Y.iret rfl (lIa_ok dd26) h
    · refine Y.blk (pc' := 31) (L' := [some (.ref a0), some (.int a1), some (.int a2), some (.int a3), none]) (st' := [.int (nI 1), .ref a0]) (sg := [(.iconst 1, nI 1)]) (lSa_ok dd27) rfl ?_
      refine Y.goto (off := 4) (tgt := 35) (lIa_ok dd28) (by decide) ?_
      refine Y.blk (pc' := 36) (L' := [some (.ref a0), some (.int a1), some (.int a2), some (.int a3), none]) (st' := [.int (nI 2), .int (nI 1), .ref a0]) (sg := [(.iconst 2, nI 2)]) (lSa_ok dd29) rfl ?_
      obtain ⟨_, o117, e116, m118, h⟩ := gOb_inv h
      refine Y.callI (yC.Vi (b := a0) (As := [.int (nI 1), .int (nI 2)]) (st := []) (r := ("PartlisterModel", T_M, 9)) hV.1 cb_M_refuse lk_M_36 in_M_refuse rfl se_M_refuse (lIa_ok dd12) rfl rfl (Nat.le_of_ble_eq_true rfl) (by decide) e116 m118) (k_M_refuse hV G14 a0 (nI 1) (nI 2)) h (fun v120 G119 _ h => ?_)
      refine Y.if_eq (off := 5) (tgt := 44) (lIa_ok dd13) (by decide) h (fun c148 h => ?_) (fun c148 h => ?_)
      · refine Y.blk (pc' := 47) (L' := [some (.ref a0), some (.int a1), some (.int a2), some (.int a3), some (.int (nI 0))]) (st' := []) (sg := [(.iconst 0, nI 0), (.istore 4, 0)]) (lSa_ok dd14) rfl ?_
        refine k_M_replaceAll_L47 hV _ ?_  zFu G119 a0 a1 a2 a3 (nI 0) h
        · intro G123 x121 x122 h
          refine Y.blk (pc' := 108) (L' := [some (.ref x121), some (.int x122), none, none, none]) (st' := [.int x122, .ref x121, .ref x121]) (sg := [(.aload_n 0, 0), (.aload_n 0, 0), (.iload_n 1, 0)]) (lSa_ok dd15) rfl ?_
          obtain ⟨_, o125, e124, m126, h⟩ := gOb_inv h
          refine Y.callI (yC.Vi (b := x121) (As := [.int x122]) (st := [.ref x121]) (r := ("PartlisterModel", T_M, 9)) hV.1 cb_M_rowOf lk_M_47 in_M_rowOf rfl se_M_rowOf (lIa_ok dd16) rfl rfl (Nat.le_of_ble_eq_true rfl) (by decide) e124 m126) (k_M_rowOf zDp hV G123 x121 x122) h (fun v128 G127 _ h => ?_)
          refine Y.blk (pc' := 112) (L' := [some (.ref x121), some (.int x122), none, none, none]) (st' := [.int x122, .int v128, .ref x121]) (sg := [(.iload_n 1, 0)]) (lSa_ok dd17) rfl ?_
          obtain ⟨_, o130, e129, m131, h⟩ := gOb_inv h
          refine Y.callI (yC.Vi (b := x121) (As := [.int v128, .int x122]) (st := []) (r := ("PartlisterModel", T_M, 9)) hV.1 cb_M_endParts lk_M_103 in_M_endParts rfl se_M_endParts (lIa_ok dd18) rfl rfl (Nat.le_of_ble_eq_true rfl) (by decide) e129 m131) (k_M_endParts hV G127 x121 v128 x122) h (fun v133 G132 _ h => ?_)
          refine Y.blk (pc' := 119) (L' := [some (.ref x121), some (.int x122), none, none, none]) (st' := [.int x122, .ref x121, .ref x121]) (sg := [(.pop, 0), (.aload_n 0, 0), (.aload_n 0, 0), (.iload_n 1, 0)]) (lSa_ok dd19) rfl ?_
          obtain ⟨_, o135, e134, m136, h⟩ := gOb_inv h
          refine Y.callI (yC.Vi (b := x121) (As := [.int x122]) (st := [.ref x121]) (r := ("PartlisterModel", T_M, 9)) hV.1 cb_M_rowOf lk_M_47 in_M_rowOf rfl se_M_rowOf (lIa_ok dd20) rfl rfl (Nat.le_of_ble_eq_true rfl) (by decide) e134 m136) (k_M_rowOf zDp hV G132 x121 x122) h (fun v138 G137 _ h => ?_)
          obtain ⟨_, o140, e139, m141, h⟩ := gOb_inv h
          refine Y.callN (yC.Vi (b := x121) (As := [.int v138]) (st := []) (r := ("PartlisterModel", T_M, 9)) hV.1 cb_M_endCursors lk_M_177 in_M_endCursors rfl se_M_endCursors (lIa_ok dd21) rfl rfl (Nat.le_of_ble_eq_true rfl) (by decide) e139 m141) (k_M_endCursors hV G137 x121 v138) h (fun G142 _ h => ?_)
          refine Y.blk (pc' := 127) (L' := [some (.ref x121), some (.int x122), none, none, none]) (st' := [.int x122, .ref x121]) (sg := [(.aload_n 0, 0), (.iload_n 1, 0)]) (lSa_ok dd22) rfl ?_
          obtain ⟨_, o144, e143, m145, h⟩ := gOb_inv h
          refine Y.callI (yC.Vi (b := x121) (As := [.int x122]) (st := []) (r := ("PartlisterModel", T_M, 9)) hV.1 cb_M_length lk_M_74 in_M_length rfl se_M_length (lIa_ok dd23) rfl rfl (Nat.le_of_ble_eq_true rfl) (by decide) e143 m145) (k_M_length hV G142 x121 x122) h (fun v147 G146 _ h => ?_)
          exact Y.iret rfl (lIa_ok dd24) h
      · refine Y.blk (pc' := 43) (L' := [some (.ref a0), some (.int a1), some (.int a2), some (.int a3), none]) (st' := [.int (nI 0)]) (sg := [(.iconst 0, nI 0)]) (lSa_ok dd25) rfl ?_
        exact Y.iret rfl (lIa_ok dd26) h
  · refine Y.blk (pc' := 43) (L' := [some (.ref a0), some (.int a1), some (.int a2), some (.int a3), none]) (st' := [.int (nI 0)]) (sg := [(.iconst 0, nI 0)]) (lSa_ok dd25) rfl ?_
    exact Y.iret rfl (lIa_ok dd26) h
end
section
def f_M_retainAll (G : gH) (a0 : Nat) (a1 : Int32) (a2 : Int32) : gR :=
  gOb G a0 6 fun o2 => bI (f_M_areOne G a0 a1 a2) fun v5 G4 => if v5 = 0 then gOb G4 a0 6 fun o7 => bA (f_M_keys G4 a0 a2 (nI 0)) fun v10 G9 => gOb G9 a0 6 fun o12 => bI (f_M_takeAll G9 a0 a1 v10) fun v15 G14 => rI v15 G14
  else rI (nI 0) G4
theorem k_M_retainAll {l : Launch} {D : va_G} {B : Nat} {O : State → Heap → Prop} (hV : zG l D B O) (G : gH) (a0 : Nat) (a1 : Int32) (a2 : Int32) : gMet (zVm l D B O) m_M_retainAll 15 [.ref a0, .int a1, .int a2] G (f_M_retainAll G a0 a1 a2) := by
  have hdd : lSa m_M_retainAll 0 [(.aload_n 0, 0), (.iload_n 1, 0), (.iload_n 2, 0)] = true ∧ lIa m_M_retainAll 3 (.invokevirtual 166) 3 = true ∧ lIa m_M_retainAll 6 (.ifCond .eq 7) 3 = true ∧ lSa m_M_retainAll 13 [(.aload_n 0, 0), (.iload_n 1, 0), (.aload_n 0, 0), (.iload_n 2, 0), (.iconst 0, nI 0)] = true ∧ lIa m_M_retainAll 18 (.invokevirtual 169) 3 = true ∧ lIa m_M_retainAll 21 (.invokevirtual 173) 3 = true ∧ lIa m_M_retainAll 24 (.ireturn) 1 = true ∧ lSa m_M_retainAll 9 [(.iconst 0, nI 0)] = true ∧ lIa m_M_retainAll 10 (.goto 14) 3 = true := by decide +kernel
  refine lA8 hdd (fun dd0 dd1 dd2 dd3 dd4 dd5 dd6 dd7 hdd => ?_)
  have dd8 := hdd
  refine gMet.of (by decide +kernel) (Nat.le_of_ble_eq_true rfl) [some (.ref a0), some (.int a1), some (.int a2)] (fun ls h => zEn_ok (n := 3) h) ?_
  intro o Gf h
  unfold f_M_retainAll at h
  refine Y.blk (pc' := 3) (L' := [some (.ref a0), some (.int a1), some (.int a2)]) (st' := [.int a2, .int a1, .ref a0]) (sg := [(.aload_n 0, 0), (.iload_n 1, 0), (.iload_n 2, 0)]) (lSa_ok dd0) rfl ?_
  obtain ⟨_, o2, e1, m3, h⟩ := gOb_inv h
  refine Y.callI (yC.Vi (b := a0) (As := [.int a1, .int a2]) (st := []) (r := ("PartlisterModel", T_M, 9)) hV.1 cb_M_areOne lk_M_166 in_M_areOne rfl se_M_areOne (lIa_ok dd1) rfl rfl (Nat.le_of_ble_eq_true rfl) (by decide) e1 m3) (k_M_areOne hV G a0 a1 a2) h (fun v5 G4 _ h => ?_)
  refine Y.if_eq (off := 7) (tgt := 13) (lIa_ok dd2) (by decide) h (fun c16 h => ?_) (fun c16 h => ?_)
  · refine Y.blk (pc' := 18) (L' := [some (.ref a0), some (.int a1), some (.int a2)]) (st' := [.int (nI 0), .int a2, .ref a0, .int a1, .ref a0]) (sg := [(.aload_n 0, 0), (.iload_n 1, 0), (.aload_n 0, 0), (.iload_n 2, 0), (.iconst 0, nI 0)]) (lSa_ok dd3) rfl ?_
    obtain ⟨_, o7, e6, m8, h⟩ := gOb_inv h
    refine Y.callA (yC.Vi (b := a0) (As := [.int a2, .int (nI 0)]) (st := [.int a1, .ref a0]) (r := ("PartlisterModel", T_M, 9)) hV.1 cb_M_keys lk_M_169 in_M_keys rfl se_M_keys (lIa_ok dd4) rfl rfl (Nat.le_of_ble_eq_true rfl) (by decide) e6 m8) (k_M_keys hV G4 a0 a2 (nI 0)) h (fun v10 G9 _ h => ?_)
    obtain ⟨_, o12, e11, m13, h⟩ := gOb_inv h
    refine Y.callI (yC.Vi (b := a0) (As := [.int a1, .ref v10]) (st := []) (r := ("PartlisterModel", T_M, 9)) hV.1 cb_M_takeAll lk_M_173 in_M_takeAll rfl se_M_takeAll (lIa_ok dd5) rfl rfl (Nat.le_of_ble_eq_true rfl) (by decide) e11 m13) (k_M_takeAll hV G9 a0 a1 v10) h (fun v15 G14 _ h => ?_)
    exact Y.iret rfl (lIa_ok dd6) h
  · refine Y.blk (pc' := 10) (L' := [some (.ref a0), some (.int a1), some (.int a2)]) (st' := [.int (nI 0)]) (sg := [(.iconst 0, nI 0)]) (lSa_ok dd7) rfl ?_
    refine Y.goto (off := 14) (tgt := 24) (lIa_ok dd8) (by decide) ?_
    exact Y.iret rfl (lIa_ok dd6) h

def f_M_run (G : gH) (a0 : Nat) (a1 : Int32) (a2 : Int32) : gR :=
  gOb G a0 6 fun o2 => bI (f_M_isNoCursor G a0 a1) fun v5 G4 => gOb G4 a0 6 fun o7 => bI (f_M_start G4 a0 v5 (nI 1)) fun v10 G9 => if v10 = 0 then (gFA G9 a0 6 3 fun v11 => gLdq G9 v11 105 a1 (none) fun v12 => gFI G9 v12 4 3 fun v13 => if v13 = 0 then (if a2 = 0 then (gFI G9 v12 4 0 fun v14 => gOb G9 a0 6 fun o16 => bI (f_M_length G9 a0 v14) fun v19 G18 => gFI G18 v12 4 1 fun v20 => if (v19 - v20) ≤ 0 then (if a2 = 0 then gFI G18 v12 4 0 fun v21 => gOb G18 a0 6 fun o23 => bI (f_M_length G18 a0 v21) fun v26 G25 => gPut G25 v12 4 1 (.int v26) fun G27 => rI (v19 - v20) G27
            else gPut G18 v12 4 1 (.int (nI 0)) fun G28 => rI (v19 - v20) G28)
          else if a2 = 0 then (gFI G18 v12 4 0 fun v30 => gOb G18 a0 6 fun o32 => bI (f_M_length G18 a0 v30) fun v35 G34 => gPut G34 v12 4 2 (.int (v35 - (nI 1))) fun G36 => if a2 = 0 then gFI G36 v12 4 0 fun v37 => gOb G36 a0 6 fun o39 => bI (f_M_length G36 a0 v37) fun v42 G41 => gPut G41 v12 4 1 (.int v42) fun G43 => rI (v19 - v20) G43
              else gPut G36 v12 4 1 (.int (nI 0)) fun G44 => rI (v19 - v20) G44)
            else gPut G18 v12 4 2 (.int (nI 0)) fun G46 => if a2 = 0 then gFI G46 v12 4 0 fun v47 => gOb G46 a0 6 fun o49 => bI (f_M_length G46 a0 v47) fun v52 G51 => gPut G51 v12 4 1 (.int v52) fun G53 => rI (v19 - v20) G53
              else gPut G46 v12 4 1 (.int (nI 0)) fun G54 => rI (v19 - v20) G54)
        else gFI G9 v12 4 1 fun v58 => if v58 ≤ 0 then (if a2 = 0 then gFI G9 v12 4 0 fun v59 => gOb G9 a0 6 fun o61 => bI (f_M_length G9 a0 v59) fun v64 G63 => gPut G63 v12 4 1 (.int v64) fun G65 => rI v58 G65
            else gPut G9 v12 4 1 (.int (nI 0)) fun G66 => rI v58 G66)
          else if a2 = 0 then (gFI G9 v12 4 0 fun v68 => gOb G9 a0 6 fun o70 => bI (f_M_length G9 a0 v68) fun v73 G72 => gPut G72 v12 4 2 (.int (v73 - (nI 1))) fun G74 => if a2 = 0 then gFI G74 v12 4 0 fun v75 => gOb G74 a0 6 fun o77 => bI (f_M_length G74 a0 v75) fun v80 G79 => gPut G79 v12 4 1 (.int v80) fun G81 => rI v58 G81
              else gPut G74 v12 4 1 (.int (nI 0)) fun G82 => rI v58 G82)
            else gPut G9 v12 4 2 (.int (nI 0)) fun G84 => if a2 = 0 then gFI G84 v12 4 0 fun v85 => gOb G84 a0 6 fun o87 => bI (f_M_length G84 a0 v85) fun v90 G89 => gPut G89 v12 4 1 (.int v90) fun G91 => rI v58 G91
              else gPut G84 v12 4 1 (.int (nI 0)) fun G92 => rI v58 G92)
      else gOb G9 a0 6 fun o98 => bI (f_M_fault G9 a0 (-9)) fun v101 G100 => rI v101 G100)
  else rI (nI 0) G9
theorem k_M_run {l : Launch} {D : va_G} {B : Nat} {O : State → Heap → Prop} (hV : zG l D B O) (G : gH) (a0 : Nat) (a1 : Int32) (a2 : Int32) : gMet (zVm l D B O) m_M_run 6 [.ref a0, .int a1, .int a2] G (f_M_run G a0 a1 a2) := by
  have hdd : lSa m_M_run 0 [(.aload_n 0, 0), (.aload_n 0, 0), (.iload_n 1, 0)] = true ∧ lIa m_M_run 3 (.invokevirtual 214) 3 = true ∧ lSa m_M_run 6 [(.iconst 1, nI 1)] = true ∧ lIa m_M_run 7 (.invokevirtual 114) 3 = true ∧ lIa m_M_run 10 (.ifCond .eq 5) 3 = true ∧ lSa m_M_run 15 [(.aload_n 0, 0)] = true ∧ lIa m_M_run 16 (.getfield 24) 3 = true ∧ lSa m_M_run 19 [(.iload_n 1, 0)] = true ∧ lIa m_M_run 20 (.aaload) 1 = true ∧ lSa m_M_run 21 [(.astore_n 3, 0), (.aload_n 3, 0)] = true ∧ lIa m_M_run 23 (.getfield 99) 3 = true ∧ lIa m_M_run 26 (.ifCond .eq 10) 3 = true ∧ lSa m_M_run 36 [(.iload_n 2, 0)] = true ∧ lIa m_M_run 37 (.ifCond .eq 10) 3 = true ∧ lSa m_M_run 47 [(.aload_n 0, 0), (.aload_n 3, 0)] = true ∧ lIa m_M_run 49 (.getfield 89) 3 = true ∧ lIa m_M_run 52 (.invokevirtual 74) 3 = true ∧ lSa m_M_run 55 [(.aload_n 3, 0)] = true ∧ lIa m_M_run 56 (.getfield 208) 3 = true ∧ lSa m_M_run 59 [(.isub, 0), (.istore 4, 0), (.iload 4, 0)] = true ∧ lIa m_M_run 64 (.ifCond .le 25) 3 = true ∧ lSa m_M_run 89 [(.aload_n 3, 0), (.iload_n 2, 0)] = true ∧ lIa m_M_run 91 (.ifCond .eq 7) 3 = true ∧ lSa m_M_run 98 [(.aload_n 0, 0), (.aload_n 3, 0)] = true ∧ lIa m_M_run 100 (.getfield 89) 3 = true ∧ lIa m_M_run 103 (.invokevirtual 74) 3 = true ∧ lIa m_M_run 106 (.putfield 208) 3 = true ∧ lSa m_M_run 109 [(.iload 4, 0)] = true ∧ lIa m_M_run 111 (.ireturn) 1 = true ∧ lSa m_M_run 94 [(.iconst 0, nI 0)] = true ∧ lIa m_M_run 95 (.goto 11) 3 = true ∧ lSa m_M_run 67 [(.aload_n 3, 0), (.iload_n 2, 0)] = true ∧ lIa m_M_run 69 (.ifCond .eq 7) 3 = true ∧ lSa m_M_run 76 [(.aload_n 0, 0), (.aload_n 3, 0)] = true ∧ lIa m_M_run 78 (.getfield 89) 3 = true ∧ lIa m_M_run 81 (.invokevirtual 74) 3 = true ∧ lSa m_M_run 84 [(.iconst 1, nI 1), (.isub, 0)] = true ∧ lIa m_M_run 86 (.putfield 220) 3 = true ∧ lSa m_M_run 72 [(.iconst 0, nI 0)] = true ∧ lIa m_M_run 73 (.goto 13) 3 = true ∧ lSa m_M_run 40 [(.aload_n 3, 0)] = true ∧ lIa m_M_run 41 (.getfield 208) 3 = true ∧ lIa m_M_run 44 (.goto 16) 3 = true ∧ lSa m_M_run 60 [(.istore 4, 0), (.iload 4, 0)] = true ∧ lSa m_M_run 29 [(.aload_n 0, 0), (.bipush (-9), -9)] = true ∧ lIa m_M_run 32 (.invokevirtual 217) 3 = true ∧ lIa m_M_run 35 (.ireturn) 1 = true ∧ lSa m_M_run 13 [(.iconst 0, nI 0)] = true ∧ lIa m_M_run 14 (.ireturn) 1 = true := by decide +kernel
  refine lA8 hdd (fun dd0 dd1 dd2 dd3 dd4 dd5 dd6 dd7 hdd => ?_)
  refine lA8 hdd (fun dd8 dd9 dd10 dd11 dd12 dd13 dd14 dd15 hdd => ?_)
  refine lA8 hdd (fun dd16 dd17 dd18 dd19 dd20 dd21 dd22 dd23 hdd => ?_)
  refine lA8 hdd (fun dd24 dd25 dd26 dd27 dd28 dd29 dd30 dd31 hdd => ?_)
  refine lA8 hdd (fun dd32 dd33 dd34 dd35 dd36 dd37 dd38 dd39 hdd => ?_)
  refine lA8 hdd (fun dd40 dd41 dd42 dd43 dd44 dd45 dd46 dd47 hdd => ?_)
  have dd48 := hdd
  refine gMet.of (by decide +kernel) (Nat.le_of_ble_eq_true rfl) [some (.ref a0), some (.int a1), some (.int a2), none, none] (fun ls h => zEn_ok (n := 5) h) ?_
  intro o Gf h
  unfold f_M_run at h
  refine Y.blk (pc' := 3) (L' := [some (.ref a0), some (.int a1), some (.int a2), none, none]) (st' := [.int a1, .ref a0, .ref a0]) (sg := [(.aload_n 0, 0), (.aload_n 0, 0), (.iload_n 1, 0)]) (lSa_ok dd0) rfl ?_
  obtain ⟨_, o2, e1, m3, h⟩ := gOb_inv h
  refine Y.callI (yC.Vi (b := a0) (As := [.int a1]) (st := [.ref a0]) (r := ("PartlisterModel", T_M, 9)) hV.1 cb_M_isNoCursor lk_M_214 in_M_isNoCursor rfl se_M_isNoCursor (lIa_ok dd1) rfl rfl (Nat.le_of_ble_eq_true rfl) (by decide) e1 m3) (k_M_isNoCursor hV G a0 a1) h (fun v5 G4 _ h => ?_)
  refine Y.blk (pc' := 7) (L' := [some (.ref a0), some (.int a1), some (.int a2), none, none]) (st' := [.int (nI 1), .int v5, .ref a0]) (sg := [(.iconst 1, nI 1)]) (lSa_ok dd2) rfl ?_
  obtain ⟨_, o7, e6, m8, h⟩ := gOb_inv h
  refine Y.callI (yC.Vi (b := a0) (As := [.int v5, .int (nI 1)]) (st := []) (r := ("PartlisterModel", T_M, 9)) hV.1 cb_M_start lk_M_114 in_M_start rfl se_M_start (lIa_ok dd3) rfl rfl (Nat.le_of_ble_eq_true rfl) (by decide) e6 m8) (k_M_start hV G4 a0 v5 (nI 1)) h (fun v10 G9 _ h => ?_)
  refine Y.if_eq (off := 5) (tgt := 15) (lIa_ok dd4) (by decide) h (fun c103 h => ?_) (fun c103 h => ?_)
  · refine Y.blk (pc' := 16) (L' := [some (.ref a0), some (.int a1), some (.int a2), none, none]) (st' := [.ref a0]) (sg := [(.aload_n 0, 0)]) (lSa_ok dd5) rfl ?_
    refine Y.getA fl_M_24 (lIa_ok dd6) h (fun v11 h => ?_)
    refine Y.blk (pc' := 20) (L' := [some (.ref a0), some (.int a1), some (.int a2), none, none]) (st' := [.int a1, .ref v11]) (sg := [(.iload_n 1, 0)]) (lSa_ok dd7) rfl ?_
    refine Y.aald (t0 := 5) (lIa_ok dd8) rfl h (fun h => ?_) (fun v12 h => ?_)
    · refine Y.blk (pc' := 23) (L' := [some (.ref a0), some (.int a1), some (.int a2), some (.null), none]) (st' := [.null]) (sg := [(.astore_n 3, 0), (.aload_n 3, 0)]) (lSa_ok dd9) rfl ?_
      cases h
    · refine Y.blk (pc' := 23) (L' := [some (.ref a0), some (.int a1), some (.int a2), some (.ref v12), none]) (st' := [.ref v12]) (sg := [(.astore_n 3, 0), (.aload_n 3, 0)]) (lSa_ok dd9) rfl ?_
      refine Y.getI fl_M_99 (lIa_ok dd10) h (fun v13 h => ?_)
      refine Y.if_eq (off := 10) (tgt := 36) (lIa_ok dd11) (by decide) h (fun c102 h => ?_) (fun c102 h => ?_)
      · refine Y.blk (pc' := 37) (L' := [some (.ref a0), some (.int a1), some (.int a2), some (.ref v12), none]) (st' := [.int a2]) (sg := [(.iload_n 2, 0)]) (lSa_ok dd12) rfl ?_
        refine Y.if_eq (off := 10) (tgt := 47) (lIa_ok dd13) (by decide) h (fun c96 h => ?_) (fun c96 h => ?_)
        · refine Y.blk (pc' := 49) (L' := [some (.ref a0), some (.int a1), some (.int a2), some (.ref v12), none]) (st' := [.ref v12, .ref a0]) (sg := [(.aload_n 0, 0), (.aload_n 3, 0)]) (lSa_ok dd14) rfl ?_
          refine Y.getI fl_M_89 (lIa_ok dd15) h (fun v14 h => ?_)
          obtain ⟨_, o16, e15, m17, h⟩ := gOb_inv h
          refine Y.callI (yC.Vi (b := a0) (As := [.int v14]) (st := []) (r := ("PartlisterModel", T_M, 9)) hV.1 cb_M_length lk_M_74 in_M_length rfl se_M_length (lIa_ok dd16) rfl rfl (Nat.le_of_ble_eq_true rfl) (by decide) e15 m17) (k_M_length hV G9 a0 v14) h (fun v19 G18 _ h => ?_)
          refine Y.blk (pc' := 56) (L' := [some (.ref a0), some (.int a1), some (.int a2), some (.ref v12), none]) (st' := [.ref v12, .int v19]) (sg := [(.aload_n 3, 0)]) (lSa_ok dd17) rfl ?_
          refine Y.getI fl_M_208 (lIa_ok dd18) h (fun v20 h => ?_)
          refine Y.blk (pc' := 64) (L' := [some (.ref a0), some (.int a1), some (.int a2), some (.ref v12), some (.int (v19 - v20))]) (st' := [.int (v19 - v20)]) (sg := [(.isub, 0), (.istore 4, 0), (.iload 4, 0)]) (lSa_ok dd19) rfl ?_
          refine Y.if_le (off := 25) (tgt := 89) (lIa_ok dd20) (by decide) h (fun c57 h => ?_) (fun c57 h => ?_)
          · refine Y.blk (pc' := 91) (L' := [some (.ref a0), some (.int a1), some (.int a2), some (.ref v12), some (.int (v19 - v20))]) (st' := [.int a2, .ref v12]) (sg := [(.aload_n 3, 0), (.iload_n 2, 0)]) (lSa_ok dd21) rfl ?_
            refine Y.if_eq (off := 7) (tgt := 98) (lIa_ok dd22) (by decide) h (fun c29 h => ?_) (fun c29 h => ?_)
            · refine Y.blk (pc' := 100) (L' := [some (.ref a0), some (.int a1), some (.int a2), some (.ref v12), some (.int (v19 - v20))]) (st' := [.ref v12, .ref a0, .ref v12]) (sg := [(.aload_n 0, 0), (.aload_n 3, 0)]) (lSa_ok dd23) rfl ?_
              refine Y.getI fl_M_89 (lIa_ok dd24) h (fun v21 h => ?_)
              obtain ⟨_, o23, e22, m24, h⟩ := gOb_inv h
              refine Y.callI (yC.Vi (b := a0) (As := [.int v21]) (st := [.ref v12]) (r := ("PartlisterModel", T_M, 9)) hV.1 cb_M_length lk_M_74 in_M_length rfl se_M_length (lIa_ok dd25) rfl rfl (Nat.le_of_ble_eq_true rfl) (by decide) e22 m24) (k_M_length hV G18 a0 v21) h (fun v26 G25 _ h => ?_)
              refine Y.putf fl_M_208 (by decide) rfl rfl (lIa_ok dd26) h (fun G27 _ _ h => ?_)
              refine Y.blk (pc' := 111) (L' := [some (.ref a0), some (.int a1), some (.int a2), some (.ref v12), some (.int (v19 - v20))]) (st' := [.int (v19 - v20)]) (sg := [(.iload 4, 0)]) (lSa_ok dd27) rfl ?_
              exact Y.iret rfl (lIa_ok dd28) h
            · refine Y.blk (pc' := 95) (L' := [some (.ref a0), some (.int a1), some (.int a2), some (.ref v12), some (.int (v19 - v20))]) (st' := [.int (nI 0), .ref v12]) (sg := [(.iconst 0, nI 0)]) (lSa_ok dd29) rfl ?_
              refine Y.goto (off := 11) (tgt := 106) (lIa_ok dd30) (by decide) ?_
              refine Y.putf fl_M_208 (by decide) rfl rfl (lIa_ok dd26) h (fun G28 _ _ h => ?_)
              refine Y.blk (pc' := 111) (L' := [some (.ref a0), some (.int a1), some (.int a2), some (.ref v12), some (.int (v19 - v20))]) (st' := [.int (v19 - v20)]) (sg := [(.iload 4, 0)]) (lSa_ok dd27) rfl ?_
              exact Y.iret rfl (lIa_ok dd28) h
          · refine Y.blk (pc' := 69) (L' := [some (.ref a0), some (.int a1), some (.int a2), some (.ref v12), some (.int (v19 - v20))]) (st' := [.int a2, .ref v12]) (sg := [(.aload_n 3, 0), (.iload_n 2, 0)]) (lSa_ok dd31) rfl ?_
            refine Y.if_eq (off := 7) (tgt := 76) (lIa_ok dd32) (by decide) h (fun c56 h => ?_) (fun c56 h => ?_)
            · refine Y.blk (pc' := 78) (L' := [some (.ref a0), some (.int a1), some (.int a2), some (.ref v12), some (.int (v19 - v20))]) (st' := [.ref v12, .ref a0, .ref v12]) (sg := [(.aload_n 0, 0), (.aload_n 3, 0)]) (lSa_ok dd33) rfl ?_
              refine Y.getI fl_M_89 (lIa_ok dd34) h (fun v30 h => ?_)
              obtain ⟨_, o32, e31, m33, h⟩ := gOb_inv h
              refine Y.callI (yC.Vi (b := a0) (As := [.int v30]) (st := [.ref v12]) (r := ("PartlisterModel", T_M, 9)) hV.1 cb_M_length lk_M_74 in_M_length rfl se_M_length (lIa_ok dd35) rfl rfl (Nat.le_of_ble_eq_true rfl) (by decide) e31 m33) (k_M_length hV G18 a0 v30) h (fun v35 G34 _ h => ?_)
              refine Y.blk (pc' := 86) (L' := [some (.ref a0), some (.int a1), some (.int a2), some (.ref v12), some (.int (v19 - v20))]) (st' := [.int (v35 - (nI 1)), .ref v12]) (sg := [(.iconst 1, nI 1), (.isub, 0)]) (lSa_ok dd36) rfl ?_
              refine Y.putf fl_M_220 (by decide) rfl rfl (lIa_ok dd37) h (fun G36 _ _ h => ?_)
              refine Y.blk (pc' := 91) (L' := [some (.ref a0), some (.int a1), some (.int a2), some (.ref v12), some (.int (v19 - v20))]) (st' := [.int a2, .ref v12]) (sg := [(.aload_n 3, 0), (.iload_n 2, 0)]) (lSa_ok dd21) rfl ?_
              refine Y.if_eq (off := 7) (tgt := 98) (lIa_ok dd22) (by decide) h (fun c45 h => ?_) (fun c45 h => ?_)
              · refine Y.blk (pc' := 100) (L' := [some (.ref a0), some (.int a1), some (.int a2), some (.ref v12), some (.int (v19 - v20))]) (st' := [.ref v12, .ref a0, .ref v12]) (sg := [(.aload_n 0, 0), (.aload_n 3, 0)]) (lSa_ok dd23) rfl ?_
                refine Y.getI fl_M_89 (lIa_ok dd24) h (fun v37 h => ?_)
                obtain ⟨_, o39, e38, m40, h⟩ := gOb_inv h
                refine Y.callI (yC.Vi (b := a0) (As := [.int v37]) (st := [.ref v12]) (r := ("PartlisterModel", T_M, 9)) hV.1 cb_M_length lk_M_74 in_M_length rfl se_M_length (lIa_ok dd25) rfl rfl (Nat.le_of_ble_eq_true rfl) (by decide) e38 m40) (k_M_length hV G36 a0 v37) h (fun v42 G41 _ h => ?_)
                refine Y.putf fl_M_208 (by decide) rfl rfl (lIa_ok dd26) h (fun G43 _ _ h => ?_)
                refine Y.blk (pc' := 111) (L' := [some (.ref a0), some (.int a1), some (.int a2), some (.ref v12), some (.int (v19 - v20))]) (st' := [.int (v19 - v20)]) (sg := [(.iload 4, 0)]) (lSa_ok dd27) rfl ?_
                exact Y.iret rfl (lIa_ok dd28) h
              · refine Y.blk (pc' := 95) (L' := [some (.ref a0), some (.int a1), some (.int a2), some (.ref v12), some (.int (v19 - v20))]) (st' := [.int (nI 0), .ref v12]) (sg := [(.iconst 0, nI 0)]) (lSa_ok dd29) rfl ?_
                refine Y.goto (off := 11) (tgt := 106) (lIa_ok dd30) (by decide) ?_
                refine Y.putf fl_M_208 (by decide) rfl rfl (lIa_ok dd26) h (fun G44 _ _ h => ?_)
                refine Y.blk (pc' := 111) (L' := [some (.ref a0), some (.int a1), some (.int a2), some (.ref v12), some (.int (v19 - v20))]) (st' := [.int (v19 - v20)]) (sg := [(.iload 4, 0)]) (lSa_ok dd27) rfl ?_
                exact Y.iret rfl (lIa_ok dd28) h
            · refine Y.blk (pc' := 73) (L' := [some (.ref a0), some (.int a1), some (.int a2), some (.ref v12), some (.int (v19 - v20))]) (st' := [.int (nI 0), .ref v12]) (sg := [(.iconst 0, nI 0)]) (lSa_ok dd38) rfl ?_
              refine Y.goto (off := 13) (tgt := 86) (lIa_ok dd39) (by decide) ?_
              refine Y.putf fl_M_220 (by decide) rfl rfl (lIa_ok dd37) h (fun G46 _ _ h => ?_)
              refine Y.blk (pc' := 91) (L' := [some (.ref a0), some (.int a1), some (.int a2), some (.ref v12), some (.int (v19 - v20))]) (st' := [.int a2, .ref v12]) (sg := [(.aload_n 3, 0), (.iload_n 2, 0)]) (lSa_ok dd21) rfl ?_
              refine Y.if_eq (off := 7) (tgt := 98) (lIa_ok dd22) (by decide) h (fun c55 h => ?_) (fun c55 h => ?_)
              · refine Y.blk (pc' := 100) (L' := [some (.ref a0), some (.int a1), some (.int a2), some (.ref v12), some (.int (v19 - v20))]) (st' := [.ref v12, .ref a0, .ref v12]) (sg := [(.aload_n 0, 0), (.aload_n 3, 0)]) (lSa_ok dd23) rfl ?_
                refine Y.getI fl_M_89 (lIa_ok dd24) h (fun v47 h => ?_)
                obtain ⟨_, o49, e48, m50, h⟩ := gOb_inv h
                refine Y.callI (yC.Vi (b := a0) (As := [.int v47]) (st := [.ref v12]) (r := ("PartlisterModel", T_M, 9)) hV.1 cb_M_length lk_M_74 in_M_length rfl se_M_length (lIa_ok dd25) rfl rfl (Nat.le_of_ble_eq_true rfl) (by decide) e48 m50) (k_M_length hV G46 a0 v47) h (fun v52 G51 _ h => ?_)
                refine Y.putf fl_M_208 (by decide) rfl rfl (lIa_ok dd26) h (fun G53 _ _ h => ?_)
                refine Y.blk (pc' := 111) (L' := [some (.ref a0), some (.int a1), some (.int a2), some (.ref v12), some (.int (v19 - v20))]) (st' := [.int (v19 - v20)]) (sg := [(.iload 4, 0)]) (lSa_ok dd27) rfl ?_
                exact Y.iret rfl (lIa_ok dd28) h
              · refine Y.blk (pc' := 95) (L' := [some (.ref a0), some (.int a1), some (.int a2), some (.ref v12), some (.int (v19 - v20))]) (st' := [.int (nI 0), .ref v12]) (sg := [(.iconst 0, nI 0)]) (lSa_ok dd29) rfl ?_
                refine Y.goto (off := 11) (tgt := 106) (lIa_ok dd30) (by decide) ?_
                refine Y.putf fl_M_208 (by decide) rfl rfl (lIa_ok dd26) h (fun G54 _ _ h => ?_)
                refine Y.blk (pc' := 111) (L' := [some (.ref a0), some (.int a1), some (.int a2), some (.ref v12), some (.int (v19 - v20))]) (st' := [.int (v19 - v20)]) (sg := [(.iload 4, 0)]) (lSa_ok dd27) rfl ?_
                exact Y.iret rfl (lIa_ok dd28) h
        · refine Y.blk (pc' := 41) (L' := [some (.ref a0), some (.int a1), some (.int a2), some (.ref v12), none]) (st' := [.ref v12]) (sg := [(.aload_n 3, 0)]) (lSa_ok dd40) rfl ?_
          refine Y.getI fl_M_208 (lIa_ok dd41) h (fun v58 h => ?_)
          refine Y.goto (off := 16) (tgt := 60) (lIa_ok dd42) (by decide) ?_
          refine Y.blk (pc' := 64) (L' := [some (.ref a0), some (.int a1), some (.int a2), some (.ref v12), some (.int v58)]) (st' := [.int v58]) (sg := [(.istore 4, 0), (.iload 4, 0)]) (lSa_ok dd43) rfl ?_
          refine Y.if_le (off := 25) (tgt := 89) (lIa_ok dd20) (by decide) h (fun c95 h => ?_) (fun c95 h => ?_)
          · refine Y.blk (pc' := 91) (L' := [some (.ref a0), some (.int a1), some (.int a2), some (.ref v12), some (.int v58)]) (st' := [.int a2, .ref v12]) (sg := [(.aload_n 3, 0), (.iload_n 2, 0)]) (lSa_ok dd21) rfl ?_
            refine Y.if_eq (off := 7) (tgt := 98) (lIa_ok dd22) (by decide) h (fun c67 h => ?_) (fun c67 h => ?_)
            · refine Y.blk (pc' := 100) (L' := [some (.ref a0), some (.int a1), some (.int a2), some (.ref v12), some (.int v58)]) (st' := [.ref v12, .ref a0, .ref v12]) (sg := [(.aload_n 0, 0), (.aload_n 3, 0)]) (lSa_ok dd23) rfl ?_
              refine Y.getI fl_M_89 (lIa_ok dd24) h (fun v59 h => ?_)
              obtain ⟨_, o61, e60, m62, h⟩ := gOb_inv h
              refine Y.callI (yC.Vi (b := a0) (As := [.int v59]) (st := [.ref v12]) (r := ("PartlisterModel", T_M, 9)) hV.1 cb_M_length lk_M_74 in_M_length rfl se_M_length (lIa_ok dd25) rfl rfl (Nat.le_of_ble_eq_true rfl) (by decide) e60 m62) (k_M_length hV G9 a0 v59) h (fun v64 G63 _ h => ?_)
              refine Y.putf fl_M_208 (by decide) rfl rfl (lIa_ok dd26) h (fun G65 _ _ h => ?_)
              refine Y.blk (pc' := 111) (L' := [some (.ref a0), some (.int a1), some (.int a2), some (.ref v12), some (.int v58)]) (st' := [.int v58]) (sg := [(.iload 4, 0)]) (lSa_ok dd27) rfl ?_
              exact Y.iret rfl (lIa_ok dd28) h
            · refine Y.blk (pc' := 95) (L' := [some (.ref a0), some (.int a1), some (.int a2), some (.ref v12), some (.int v58)]) (st' := [.int (nI 0), .ref v12]) (sg := [(.iconst 0, nI 0)]) (lSa_ok dd29) rfl ?_
              refine Y.goto (off := 11) (tgt := 106) (lIa_ok dd30) (by decide) ?_
              refine Y.putf fl_M_208 (by decide) rfl rfl (lIa_ok dd26) h (fun G66 _ _ h => ?_)
              refine Y.blk (pc' := 111) (L' := [some (.ref a0), some (.int a1), some (.int a2), some (.ref v12), some (.int v58)]) (st' := [.int v58]) (sg := [(.iload 4, 0)]) (lSa_ok dd27) rfl ?_
              exact Y.iret rfl (lIa_ok dd28) h
          · refine Y.blk (pc' := 69) (L' := [some (.ref a0), some (.int a1), some (.int a2), some (.ref v12), some (.int v58)]) (st' := [.int a2, .ref v12]) (sg := [(.aload_n 3, 0), (.iload_n 2, 0)]) (lSa_ok dd31) rfl ?_
            refine Y.if_eq (off := 7) (tgt := 76) (lIa_ok dd32) (by decide) h (fun c94 h => ?_) (fun c94 h => ?_)
            · refine Y.blk (pc' := 78) (L' := [some (.ref a0), some (.int a1), some (.int a2), some (.ref v12), some (.int v58)]) (st' := [.ref v12, .ref a0, .ref v12]) (sg := [(.aload_n 0, 0), (.aload_n 3, 0)]) (lSa_ok dd33) rfl ?_
              refine Y.getI fl_M_89 (lIa_ok dd34) h (fun v68 h => ?_)
              obtain ⟨_, o70, e69, m71, h⟩ := gOb_inv h
              refine Y.callI (yC.Vi (b := a0) (As := [.int v68]) (st := [.ref v12]) (r := ("PartlisterModel", T_M, 9)) hV.1 cb_M_length lk_M_74 in_M_length rfl se_M_length (lIa_ok dd35) rfl rfl (Nat.le_of_ble_eq_true rfl) (by decide) e69 m71) (k_M_length hV G9 a0 v68) h (fun v73 G72 _ h => ?_)
              refine Y.blk (pc' := 86) (L' := [some (.ref a0), some (.int a1), some (.int a2), some (.ref v12), some (.int v58)]) (st' := [.int (v73 - (nI 1)), .ref v12]) (sg := [(.iconst 1, nI 1), (.isub, 0)]) (lSa_ok dd36) rfl ?_
              refine Y.putf fl_M_220 (by decide) rfl rfl (lIa_ok dd37) h (fun G74 _ _ h => ?_)
              refine Y.blk (pc' := 91) (L' := [some (.ref a0), some (.int a1), some (.int a2), some (.ref v12), some (.int v58)]) (st' := [.int a2, .ref v12]) (sg := [(.aload_n 3, 0), (.iload_n 2, 0)]) (lSa_ok dd21) rfl ?_
              refine Y.if_eq (off := 7) (tgt := 98) (lIa_ok dd22) (by decide) h (fun c83 h => ?_) (fun c83 h => ?_)
              · refine Y.blk (pc' := 100) (L' := [some (.ref a0), some (.int a1), some (.int a2), some (.ref v12), some (.int v58)]) (st' := [.ref v12, .ref a0, .ref v12]) (sg := [(.aload_n 0, 0), (.aload_n 3, 0)]) (lSa_ok dd23) rfl ?_
                refine Y.getI fl_M_89 (lIa_ok dd24) h (fun v75 h => ?_)
                obtain ⟨_, o77, e76, m78, h⟩ := gOb_inv h
                refine Y.callI (yC.Vi (b := a0) (As := [.int v75]) (st := [.ref v12]) (r := ("PartlisterModel", T_M, 9)) hV.1 cb_M_length lk_M_74 in_M_length rfl se_M_length (lIa_ok dd25) rfl rfl (Nat.le_of_ble_eq_true rfl) (by decide) e76 m78) (k_M_length hV G74 a0 v75) h (fun v80 G79 _ h => ?_)
                refine Y.putf fl_M_208 (by decide) rfl rfl (lIa_ok dd26) h (fun G81 _ _ h => ?_)
                refine Y.blk (pc' := 111) (L' := [some (.ref a0), some (.int a1), some (.int a2), some (.ref v12), some (.int v58)]) (st' := [.int v58]) (sg := [(.iload 4, 0)]) (lSa_ok dd27) rfl ?_
                exact Y.iret rfl (lIa_ok dd28) h
              · refine Y.blk (pc' := 95) (L' := [some (.ref a0), some (.int a1), some (.int a2), some (.ref v12), some (.int v58)]) (st' := [.int (nI 0), .ref v12]) (sg := [(.iconst 0, nI 0)]) (lSa_ok dd29) rfl ?_
                refine Y.goto (off := 11) (tgt := 106) (lIa_ok dd30) (by decide) ?_
                refine Y.putf fl_M_208 (by decide) rfl rfl (lIa_ok dd26) h (fun G82 _ _ h => ?_)
                refine Y.blk (pc' := 111) (L' := [some (.ref a0), some (.int a1), some (.int a2), some (.ref v12), some (.int v58)]) (st' := [.int v58]) (sg := [(.iload 4, 0)]) (lSa_ok dd27) rfl ?_
                exact Y.iret rfl (lIa_ok dd28) h
            · refine Y.blk (pc' := 73) (L' := [some (.ref a0), some (.int a1), some (.int a2), some (.ref v12), some (.int v58)]) (st' := [.int (nI 0), .ref v12]) (sg := [(.iconst 0, nI 0)]) (lSa_ok dd38) rfl ?_
              refine Y.goto (off := 13) (tgt := 86) (lIa_ok dd39) (by decide) ?_
              refine Y.putf fl_M_220 (by decide) rfl rfl (lIa_ok dd37) h (fun G84 _ _ h => ?_)
              refine Y.blk (pc' := 91) (L' := [some (.ref a0), some (.int a1), some (.int a2), some (.ref v12), some (.int v58)]) (st' := [.int a2, .ref v12]) (sg := [(.aload_n 3, 0), (.iload_n 2, 0)]) (lSa_ok dd21) rfl ?_
              refine Y.if_eq (off := 7) (tgt := 98) (lIa_ok dd22) (by decide) h (fun c93 h => ?_) (fun c93 h => ?_)
              · refine Y.blk (pc' := 100) (L' := [some (.ref a0), some (.int a1), some (.int a2), some (.ref v12), some (.int v58)]) (st' := [.ref v12, .ref a0, .ref v12]) (sg := [(.aload_n 0, 0), (.aload_n 3, 0)]) (lSa_ok dd23) rfl ?_
                refine Y.getI fl_M_89 (lIa_ok dd24) h (fun v85 h => ?_)
                obtain ⟨_, o87, e86, m88, h⟩ := gOb_inv h
                refine Y.callI (yC.Vi (b := a0) (As := [.int v85]) (st := [.ref v12]) (r := ("PartlisterModel", T_M, 9)) hV.1 cb_M_length lk_M_74 in_M_length rfl se_M_length (lIa_ok dd25) rfl rfl (Nat.le_of_ble_eq_true rfl) (by decide) e86 m88) (k_M_length hV G84 a0 v85) h (fun v90 G89 _ h => ?_)
                refine Y.putf fl_M_208 (by decide) rfl rfl (lIa_ok dd26) h (fun G91 _ _ h => ?_)
                refine Y.blk (pc' := 111) (L' := [some (.ref a0), some (.int a1), some (.int a2), some (.ref v12), some (.int v58)]) (st' := [.int v58]) (sg := [(.iload 4, 0)]) (lSa_ok dd27) rfl ?_
                exact Y.iret rfl (lIa_ok dd28) h
              · refine Y.blk (pc' := 95) (L' := [some (.ref a0), some (.int a1), some (.int a2), some (.ref v12), some (.int v58)]) (st' := [.int (nI 0), .ref v12]) (sg := [(.iconst 0, nI 0)]) (lSa_ok dd29) rfl ?_
                refine Y.goto (off := 11) (tgt := 106) (lIa_ok dd30) (by decide) ?_
                refine Y.putf fl_M_208 (by decide) rfl rfl (lIa_ok dd26) h (fun G92 _ _ h => ?_)
                refine Y.blk (pc' := 111) (L' := [some (.ref a0), some (.int a1), some (.int a2), some (.ref v12), some (.int v58)]) (st' := [.int v58]) (sg := [(.iload 4, 0)]) (lSa_ok dd27) rfl ?_
                exact Y.iret rfl (lIa_ok dd28) h
      · refine Y.blk (pc' := 32) (L' := [some (.ref a0), some (.int a1), some (.int a2), some (.ref v12), none]) (st' := [.int (-9), .ref a0]) (sg := [(.aload_n 0, 0), (.bipush (-9), -9)]) (lSa_ok dd44) rfl ?_
        obtain ⟨_, o98, e97, m99, h⟩ := gOb_inv h
        refine Y.callI (yC.Vi (b := a0) (As := [.int (-9)]) (st := []) (r := ("PartlisterModel", T_M, 9)) hV.1 cb_M_fault lk_M_217 in_M_fault rfl se_M_fault (lIa_ok dd45) rfl rfl (Nat.le_of_ble_eq_true rfl) (by decide) e97 m99) (k_M_fault hV G9 a0 (-9)) h (fun v101 G100 _ h => ?_)
        exact Y.iret rfl (lIa_ok dd46) h
  · refine Y.blk (pc' := 14) (L' := [some (.ref a0), some (.int a1), some (.int a2), none, none]) (st' := [.int (nI 0)]) (sg := [(.iconst 0, nI 0)]) (lSa_ok dd47) rfl ?_
    exact Y.iret rfl (lIa_ok dd48) h

def f_M_set (G : gH) (a0 : Nat) (a1 : Int32) (a2 : Int32) (a3 : Int32) : gR :=
  gOb G a0 6 fun o2 => bI (f_M_isNoList G a0 a1) fun v5 G4 => if v5 = 0 then (gOb G4 a0 6 fun o7 => bI (f_M_isNoPlace G4 a0 a1 a2) fun v10 G9 => if v10 = 0 then (gOb G9 a0 6 fun o12 => bI (f_M_start G9 a0 (nI 0) (nI 1)) fun v15 G14 => if v15 = 0 then (bI (f_M_isIn G14 a3 (nI 0) (nI 30)) fun v18 G17 => if v18 = 0 then (gOb G17 a0 6 fun o20 => bI (f_M_refuse G17 a0 (nI 1) (nI 2)) fun v23 G22 => if v23 = 0 then gOb G22 a0 6 fun o25 => bA (f_M_make G22 a0 a3) fun v28 G27 => gOb G27 a0 6 fun o30 => bA (f_M_write G27 a0 a1 a2 v28) fun v33 G32 => gLd G32 v33 100 (nI 0) fun v34 => rI v34 G32
          else rI (nI 0) G22)
        else gOb G17 a0 6 fun o37 => bI (f_M_refuse G17 a0 (nI 0) (nI 2)) fun v40 G39 => if v40 = 0 then gOb G39 a0 6 fun o42 => bA (f_M_make G39 a0 a3) fun v45 G44 => gOb G44 a0 6 fun o47 => bA (f_M_write G44 a0 a1 a2 v45) fun v50 G49 => gLd G49 v50 100 (nI 0) fun v51 => rI v51 G49
          else rI (nI 0) G39)
      else rI (nI 0) G14)
    else gOb G9 a0 6 fun o56 => bI (f_M_start G9 a0 (nI 1) (nI 1)) fun v59 G58 => if v59 = 0 then (bI (f_M_isIn G58 a3 (nI 0) (nI 30)) fun v62 G61 => if v62 = 0 then (gOb G61 a0 6 fun o64 => bI (f_M_refuse G61 a0 (nI 1) (nI 2)) fun v67 G66 => if v67 = 0 then gOb G66 a0 6 fun o69 => bA (f_M_make G66 a0 a3) fun v72 G71 => gOb G71 a0 6 fun o74 => bA (f_M_write G71 a0 a1 a2 v72) fun v77 G76 => gLd G76 v77 100 (nI 0) fun v78 => rI v78 G76
          else rI (nI 0) G66)
        else gOb G61 a0 6 fun o81 => bI (f_M_refuse G61 a0 (nI 0) (nI 2)) fun v84 G83 => if v84 = 0 then gOb G83 a0 6 fun o86 => bA (f_M_make G83 a0 a3) fun v89 G88 => gOb G88 a0 6 fun o91 => bA (f_M_write G88 a0 a1 a2 v89) fun v94 G93 => gLd G93 v94 100 (nI 0) fun v95 => rI v95 G93
          else rI (nI 0) G83)
      else rI (nI 0) G58)
  else gOb G4 a0 6 fun o101 => bI (f_M_start G4 a0 (nI 1) (nI 1)) fun v104 G103 => if v104 = 0 then (bI (f_M_isIn G103 a3 (nI 0) (nI 30)) fun v107 G106 => if v107 = 0 then (gOb G106 a0 6 fun o109 => bI (f_M_refuse G106 a0 (nI 1) (nI 2)) fun v112 G111 => if v112 = 0 then gOb G111 a0 6 fun o114 => bA (f_M_make G111 a0 a3) fun v117 G116 => gOb G116 a0 6 fun o119 => bA (f_M_write G116 a0 a1 a2 v117) fun v122 G121 => gLd G121 v122 100 (nI 0) fun v123 => rI v123 G121
        else rI (nI 0) G111)
      else gOb G106 a0 6 fun o126 => bI (f_M_refuse G106 a0 (nI 0) (nI 2)) fun v129 G128 => if v129 = 0 then gOb G128 a0 6 fun o131 => bA (f_M_make G128 a0 a3) fun v134 G133 => gOb G133 a0 6 fun o136 => bA (f_M_write G133 a0 a1 a2 v134) fun v139 G138 => gLd G138 v139 100 (nI 0) fun v140 => rI v140 G138
        else rI (nI 0) G128)
    else rI (nI 0) G103
theorem k_M_set {l : Launch} {D : va_G} {B : Nat} {O : State → Heap → Prop} (hV : zG l D B O) (G : gH) (a0 : Nat) (a1 : Int32) (a2 : Int32) (a3 : Int32) : gMet (zVm l D B O) m_M_set 13 [.ref a0, .int a1, .int a2, .int a3] G (f_M_set G a0 a1 a2 a3) := by
  have hdd : lSa m_M_set 0 [(.aload_n 0, 0), (.aload_n 0, 0), (.iload_n 1, 0)] = true ∧ lIa m_M_set 3 (.invokevirtual 110) 3 = true ∧ lIa m_M_set 6 (.ifCond .ne 12) 3 = true ∧ lSa m_M_set 9 [(.aload_n 0, 0), (.iload_n 1, 0), (.iload_n 2, 0)] = true ∧ lIa m_M_set 12 (.invokevirtual 147) 3 = true ∧ lIa m_M_set 15 (.ifCond .eq 7) 3 = true ∧ lSa m_M_set 22 [(.iconst 0, nI 0), (.iconst 1, nI 1)] = true ∧ lIa m_M_set 24 (.invokevirtual 114) 3 = true ∧ lIa m_M_set 27 (.ifCond .ne 26) 3 = true ∧ lSa m_M_set 30 [(.aload_n 0, 0), (.iload_n 3, 0), (.iconst 0, nI 0), (.bipush 30, nI 30)] = true ∧ lIa m_M_set 35 (.invokestatic 40) 3 = true ∧ lIa m_M_set 38 (.ifCond .ne 7) 3 = true ∧ lSa m_M_set 41 [(.iconst 1, nI 1)] = true ∧ lIa m_M_set 42 (.goto 4) 3 = true ∧ lSa m_M_set 46 [(.iconst 2, nI 2)] = true ∧ lIa m_M_set 47 (.invokevirtual 36) 3 = true ∧ lIa m_M_set 50 (.ifCond .eq 5) 3 = true ∧ lSa m_M_set 55 [(.aload_n 0, 0), (.iload_n 1, 0), (.iload_n 2, 0), (.aload_n 0, 0), (.iload_n 3, 0)] = true ∧ lIa m_M_set 60 (.invokevirtual 120) 3 = true ∧ lIa m_M_set 63 (.invokevirtual 150) 3 = true ∧ lSa m_M_set 66 [(.iconst 0, nI 0)] = true ∧ lIa m_M_set 67 (.iaload) 1 = true ∧ lIa m_M_set 68 (.ireturn) 1 = true ∧ lSa m_M_set 53 [(.iconst 0, nI 0)] = true ∧ lIa m_M_set 54 (.ireturn) 1 = true ∧ lSa m_M_set 45 [(.iconst 0, nI 0), (.iconst 2, nI 2)] = true ∧ lSa m_M_set 18 [(.iconst 1, nI 1)] = true ∧ lIa m_M_set 19 (.goto 4) 3 = true ∧ lSa m_M_set 23 [(.iconst 1, nI 1)] = true := by decide +kernel
  refine lA8 hdd (fun dd0 dd1 dd2 dd3 dd4 dd5 dd6 dd7 hdd => ?_)
  refine lA8 hdd (fun dd8 dd9 dd10 dd11 dd12 dd13 dd14 dd15 hdd => ?_)
  refine lA8 hdd (fun dd16 dd17 dd18 dd19 dd20 dd21 dd22 dd23 hdd => ?_)
  obtain ⟨dd24, dd25, dd26, dd27, dd28⟩ := hdd
  refine gMet.of (by decide +kernel) (Nat.le_of_ble_eq_true rfl) [some (.ref a0), some (.int a1), some (.int a2), some (.int a3)] (fun ls h => zEn_ok (n := 4) h) ?_
  intro o Gf h
  unfold f_M_set at h
  refine Y.blk (pc' := 3) (L' := [some (.ref a0), some (.int a1), some (.int a2), some (.int a3)]) (st' := [.int a1, .ref a0, .ref a0]) (sg := [(.aload_n 0, 0), (.aload_n 0, 0), (.iload_n 1, 0)]) (lSa_ok dd0) rfl ?_
  obtain ⟨_, o2, e1, m3, h⟩ := gOb_inv h
  refine Y.callI (yC.Vi (b := a0) (As := [.int a1]) (st := [.ref a0]) (r := ("PartlisterModel", T_M, 9)) hV.1 cb_M_isNoList lk_M_110 in_M_isNoList rfl se_M_isNoList (lIa_ok dd1) rfl rfl (Nat.le_of_ble_eq_true rfl) (by decide) e1 m3) (k_M_isNoList hV G a0 a1) h (fun v5 G4 _ h => ?_)
  refine Y.if_ne (off := 12) (tgt := 18) (lIa_ok dd2) (by decide) h (fun c144 h => ?_) (fun c144 h => ?_)
  · refine Y.blk (pc' := 12) (L' := [some (.ref a0), some (.int a1), some (.int a2), some (.int a3)]) (st' := [.int a2, .int a1, .ref a0, .ref a0]) (sg := [(.aload_n 0, 0), (.iload_n 1, 0), (.iload_n 2, 0)]) (lSa_ok dd3) rfl ?_
    obtain ⟨_, o7, e6, m8, h⟩ := gOb_inv h
    refine Y.callI (yC.Vi (b := a0) (As := [.int a1, .int a2]) (st := [.ref a0]) (r := ("PartlisterModel", T_M, 9)) hV.1 cb_M_isNoPlace lk_M_147 in_M_isNoPlace rfl se_M_isNoPlace (lIa_ok dd4) rfl rfl (Nat.le_of_ble_eq_true rfl) (by decide) e6 m8) (k_M_isNoPlace hV G4 a0 a1 a2) h (fun v10 G9 _ h => ?_)
    refine Y.if_eq (off := 7) (tgt := 22) (lIa_ok dd5) (by decide) h (fun c99 h => ?_) (fun c99 h => ?_)
    · refine Y.blk (pc' := 24) (L' := [some (.ref a0), some (.int a1), some (.int a2), some (.int a3)]) (st' := [.int (nI 1), .int (nI 0), .ref a0]) (sg := [(.iconst 0, nI 0), (.iconst 1, nI 1)]) (lSa_ok dd6) rfl ?_
      obtain ⟨_, o12, e11, m13, h⟩ := gOb_inv h
      refine Y.callI (yC.Vi (b := a0) (As := [.int (nI 0), .int (nI 1)]) (st := []) (r := ("PartlisterModel", T_M, 9)) hV.1 cb_M_start lk_M_114 in_M_start rfl se_M_start (lIa_ok dd7) rfl rfl (Nat.le_of_ble_eq_true rfl) (by decide) e11 m13) (k_M_start hV G9 a0 (nI 0) (nI 1)) h (fun v15 G14 _ h => ?_)
      refine Y.if_ne (off := 26) (tgt := 53) (lIa_ok dd8) (by decide) h (fun c54 h => ?_) (fun c54 h => ?_)
      · refine Y.blk (pc' := 35) (L' := [some (.ref a0), some (.int a1), some (.int a2), some (.int a3)]) (st' := [.int (nI 30), .int (nI 0), .int a3, .ref a0]) (sg := [(.aload_n 0, 0), (.iload_n 3, 0), (.iconst 0, nI 0), (.bipush 30, nI 30)]) (lSa_ok dd9) rfl ?_
        refine Y.callI (yC.S (As := [.int a3, .int (nI 0), .int (nI 30)]) (st := [.ref a0]) hV.1 cb_M_isIn lk_M_40 st_M_isIn (lIa_ok dd10) rfl rfl (Nat.le_of_ble_eq_true rfl) (by decide)) (k_M_isIn hV G14 a3 (nI 0) (nI 30)) h (fun v18 G17 _ h => ?_)
        refine Y.if_ne (off := 7) (tgt := 45) (lIa_ok dd11) (by decide) h (fun c53 h => ?_) (fun c53 h => ?_)
        · refine Y.blk (pc' := 42) (L' := [some (.ref a0), some (.int a1), some (.int a2), some (.int a3)]) (st' := [.int (nI 1), .ref a0]) (sg := [(.iconst 1, nI 1)]) (lSa_ok dd12) rfl ?_
          refine Y.goto (off := 4) (tgt := 46) (lIa_ok dd13) (by decide) ?_
          refine Y.blk (pc' := 47) (L' := [some (.ref a0), some (.int a1), some (.int a2), some (.int a3)]) (st' := [.int (nI 2), .int (nI 1), .ref a0]) (sg := [(.iconst 2, nI 2)]) (lSa_ok dd14) rfl ?_
          obtain ⟨_, o20, e19, m21, h⟩ := gOb_inv h
          refine Y.callI (yC.Vi (b := a0) (As := [.int (nI 1), .int (nI 2)]) (st := []) (r := ("PartlisterModel", T_M, 9)) hV.1 cb_M_refuse lk_M_36 in_M_refuse rfl se_M_refuse (lIa_ok dd15) rfl rfl (Nat.le_of_ble_eq_true rfl) (by decide) e19 m21) (k_M_refuse hV G17 a0 (nI 1) (nI 2)) h (fun v23 G22 _ h => ?_)
          refine Y.if_eq (off := 5) (tgt := 55) (lIa_ok dd16) (by decide) h (fun c35 h => ?_) (fun c35 h => ?_)
          · refine Y.blk (pc' := 60) (L' := [some (.ref a0), some (.int a1), some (.int a2), some (.int a3)]) (st' := [.int a3, .ref a0, .int a2, .int a1, .ref a0]) (sg := [(.aload_n 0, 0), (.iload_n 1, 0), (.iload_n 2, 0), (.aload_n 0, 0), (.iload_n 3, 0)]) (lSa_ok dd17) rfl ?_
            obtain ⟨_, o25, e24, m26, h⟩ := gOb_inv h
            refine Y.callA (yC.Vi (b := a0) (As := [.int a3]) (st := [.int a2, .int a1, .ref a0]) (r := ("PartlisterModel", T_M, 9)) hV.1 cb_M_make lk_M_120 in_M_make rfl se_M_make (lIa_ok dd18) rfl rfl (Nat.le_of_ble_eq_true rfl) (by decide) e24 m26) (k_M_make hV G22 a0 a3) h (fun v28 G27 _ h => ?_)
            obtain ⟨_, o30, e29, m31, h⟩ := gOb_inv h
            refine Y.callA (yC.Vi (b := a0) (As := [.int a1, .int a2, .ref v28]) (st := []) (r := ("PartlisterModel", T_M, 9)) hV.1 cb_M_write lk_M_150 in_M_write rfl se_M_write (lIa_ok dd19) rfl rfl (Nat.le_of_ble_eq_true rfl) (by decide) e29 m31) (k_M_write hV G27 a0 a1 a2 v28) h (fun v33 G32 _ h => ?_)
            refine Y.blk (pc' := 67) (L' := [some (.ref a0), some (.int a1), some (.int a2), some (.int a3)]) (st' := [.int (nI 0), .ref v33]) (sg := [(.iconst 0, nI 0)]) (lSa_ok dd20) rfl ?_
            refine Y.iald (t0 := 0) (lIa_ok dd21) rfl h (fun v34 h => ?_)
            exact Y.iret rfl (lIa_ok dd22) h
          · refine Y.blk (pc' := 54) (L' := [some (.ref a0), some (.int a1), some (.int a2), some (.int a3)]) (st' := [.int (nI 0)]) (sg := [(.iconst 0, nI 0)]) (lSa_ok dd23) rfl ?_
            exact Y.iret rfl (lIa_ok dd24) h
        · refine Y.blk (pc' := 47) (L' := [some (.ref a0), some (.int a1), some (.int a2), some (.int a3)]) (st' := [.int (nI 2), .int (nI 0), .ref a0]) (sg := [(.iconst 0, nI 0), (.iconst 2, nI 2)]) (lSa_ok dd25) rfl ?_
          obtain ⟨_, o37, e36, m38, h⟩ := gOb_inv h
          refine Y.callI (yC.Vi (b := a0) (As := [.int (nI 0), .int (nI 2)]) (st := []) (r := ("PartlisterModel", T_M, 9)) hV.1 cb_M_refuse lk_M_36 in_M_refuse rfl se_M_refuse (lIa_ok dd15) rfl rfl (Nat.le_of_ble_eq_true rfl) (by decide) e36 m38) (k_M_refuse hV G17 a0 (nI 0) (nI 2)) h (fun v40 G39 _ h => ?_)
          refine Y.if_eq (off := 5) (tgt := 55) (lIa_ok dd16) (by decide) h (fun c52 h => ?_) (fun c52 h => ?_)
          · refine Y.blk (pc' := 60) (L' := [some (.ref a0), some (.int a1), some (.int a2), some (.int a3)]) (st' := [.int a3, .ref a0, .int a2, .int a1, .ref a0]) (sg := [(.aload_n 0, 0), (.iload_n 1, 0), (.iload_n 2, 0), (.aload_n 0, 0), (.iload_n 3, 0)]) (lSa_ok dd17) rfl ?_
            obtain ⟨_, o42, e41, m43, h⟩ := gOb_inv h
            refine Y.callA (yC.Vi (b := a0) (As := [.int a3]) (st := [.int a2, .int a1, .ref a0]) (r := ("PartlisterModel", T_M, 9)) hV.1 cb_M_make lk_M_120 in_M_make rfl se_M_make (lIa_ok dd18) rfl rfl (Nat.le_of_ble_eq_true rfl) (by decide) e41 m43) (k_M_make hV G39 a0 a3) h (fun v45 G44 _ h => ?_)
            obtain ⟨_, o47, e46, m48, h⟩ := gOb_inv h
            refine Y.callA (yC.Vi (b := a0) (As := [.int a1, .int a2, .ref v45]) (st := []) (r := ("PartlisterModel", T_M, 9)) hV.1 cb_M_write lk_M_150 in_M_write rfl se_M_write (lIa_ok dd19) rfl rfl (Nat.le_of_ble_eq_true rfl) (by decide) e46 m48) (k_M_write hV G44 a0 a1 a2 v45) h (fun v50 G49 _ h => ?_)
            refine Y.blk (pc' := 67) (L' := [some (.ref a0), some (.int a1), some (.int a2), some (.int a3)]) (st' := [.int (nI 0), .ref v50]) (sg := [(.iconst 0, nI 0)]) (lSa_ok dd20) rfl ?_
            refine Y.iald (t0 := 0) (lIa_ok dd21) rfl h (fun v51 h => ?_)
            exact Y.iret rfl (lIa_ok dd22) h
          · refine Y.blk (pc' := 54) (L' := [some (.ref a0), some (.int a1), some (.int a2), some (.int a3)]) (st' := [.int (nI 0)]) (sg := [(.iconst 0, nI 0)]) (lSa_ok dd23) rfl ?_
            exact Y.iret rfl (lIa_ok dd24) h
      · refine Y.blk (pc' := 54) (L' := [some (.ref a0), some (.int a1), some (.int a2), some (.int a3)]) (st' := [.int (nI 0)]) (sg := [(.iconst 0, nI 0)]) (lSa_ok dd23) rfl ?_
        exact Y.iret rfl (lIa_ok dd24) h
    · refine Y.blk (pc' := 19) (L' := [some (.ref a0), some (.int a1), some (.int a2), some (.int a3)]) (st' := [.int (nI 1), .ref a0]) (sg := [(.iconst 1, nI 1)]) (lSa_ok dd26) rfl ?_
      refine Y.goto (off := 4) (tgt := 23) (lIa_ok dd27) (by decide) ?_
      refine Y.blk (pc' := 24) (L' := [some (.ref a0), some (.int a1), some (.int a2), some (.int a3)]) (st' := [.int (nI 1), .int (nI 1), .ref a0]) (sg := [(.iconst 1, nI 1)]) (lSa_ok dd28) rfl ?_
      obtain ⟨_, o56, e55, m57, h⟩ := gOb_inv h
      refine Y.callI (yC.Vi (b := a0) (As := [.int (nI 1), .int (nI 1)]) (st := []) (r := ("PartlisterModel", T_M, 9)) hV.1 cb_M_start lk_M_114 in_M_start rfl se_M_start (lIa_ok dd7) rfl rfl (Nat.le_of_ble_eq_true rfl) (by decide) e55 m57) (k_M_start hV G9 a0 (nI 1) (nI 1)) h (fun v59 G58 _ h => ?_)
      refine Y.if_ne (off := 26) (tgt := 53) (lIa_ok dd8) (by decide) h (fun c98 h => ?_) (fun c98 h => ?_)
      · refine Y.blk (pc' := 35) (L' := [some (.ref a0), some (.int a1), some (.int a2), some (.int a3)]) (st' := [.int (nI 30), .int (nI 0), .int a3, .ref a0]) (sg := [(.aload_n 0, 0), (.iload_n 3, 0), (.iconst 0, nI 0), (.bipush 30, nI 30)]) (lSa_ok dd9) rfl ?_
        refine Y.callI (yC.S (As := [.int a3, .int (nI 0), .int (nI 30)]) (st := [.ref a0]) hV.1 cb_M_isIn lk_M_40 st_M_isIn (lIa_ok dd10) rfl rfl (Nat.le_of_ble_eq_true rfl) (by decide)) (k_M_isIn hV G58 a3 (nI 0) (nI 30)) h (fun v62 G61 _ h => ?_)
        refine Y.if_ne (off := 7) (tgt := 45) (lIa_ok dd11) (by decide) h (fun c97 h => ?_) (fun c97 h => ?_)
        · refine Y.blk (pc' := 42) (L' := [some (.ref a0), some (.int a1), some (.int a2), some (.int a3)]) (st' := [.int (nI 1), .ref a0]) (sg := [(.iconst 1, nI 1)]) (lSa_ok dd12) rfl ?_
          refine Y.goto (off := 4) (tgt := 46) (lIa_ok dd13) (by decide) ?_
          refine Y.blk (pc' := 47) (L' := [some (.ref a0), some (.int a1), some (.int a2), some (.int a3)]) (st' := [.int (nI 2), .int (nI 1), .ref a0]) (sg := [(.iconst 2, nI 2)]) (lSa_ok dd14) rfl ?_
          obtain ⟨_, o64, e63, m65, h⟩ := gOb_inv h
          refine Y.callI (yC.Vi (b := a0) (As := [.int (nI 1), .int (nI 2)]) (st := []) (r := ("PartlisterModel", T_M, 9)) hV.1 cb_M_refuse lk_M_36 in_M_refuse rfl se_M_refuse (lIa_ok dd15) rfl rfl (Nat.le_of_ble_eq_true rfl) (by decide) e63 m65) (k_M_refuse hV G61 a0 (nI 1) (nI 2)) h (fun v67 G66 _ h => ?_)
          refine Y.if_eq (off := 5) (tgt := 55) (lIa_ok dd16) (by decide) h (fun c79 h => ?_) (fun c79 h => ?_)
          · refine Y.blk (pc' := 60) (L' := [some (.ref a0), some (.int a1), some (.int a2), some (.int a3)]) (st' := [.int a3, .ref a0, .int a2, .int a1, .ref a0]) (sg := [(.aload_n 0, 0), (.iload_n 1, 0), (.iload_n 2, 0), (.aload_n 0, 0), (.iload_n 3, 0)]) (lSa_ok dd17) rfl ?_
            obtain ⟨_, o69, e68, m70, h⟩ := gOb_inv h
            refine Y.callA (yC.Vi (b := a0) (As := [.int a3]) (st := [.int a2, .int a1, .ref a0]) (r := ("PartlisterModel", T_M, 9)) hV.1 cb_M_make lk_M_120 in_M_make rfl se_M_make (lIa_ok dd18) rfl rfl (Nat.le_of_ble_eq_true rfl) (by decide) e68 m70) (k_M_make hV G66 a0 a3) h (fun v72 G71 _ h => ?_)
            obtain ⟨_, o74, e73, m75, h⟩ := gOb_inv h
            refine Y.callA (yC.Vi (b := a0) (As := [.int a1, .int a2, .ref v72]) (st := []) (r := ("PartlisterModel", T_M, 9)) hV.1 cb_M_write lk_M_150 in_M_write rfl se_M_write (lIa_ok dd19) rfl rfl (Nat.le_of_ble_eq_true rfl) (by decide) e73 m75) (k_M_write hV G71 a0 a1 a2 v72) h (fun v77 G76 _ h => ?_)
            refine Y.blk (pc' := 67) (L' := [some (.ref a0), some (.int a1), some (.int a2), some (.int a3)]) (st' := [.int (nI 0), .ref v77]) (sg := [(.iconst 0, nI 0)]) (lSa_ok dd20) rfl ?_
            refine Y.iald (t0 := 0) (lIa_ok dd21) rfl h (fun v78 h => ?_)
            exact Y.iret rfl (lIa_ok dd22) h
          · refine Y.blk (pc' := 54) (L' := [some (.ref a0), some (.int a1), some (.int a2), some (.int a3)]) (st' := [.int (nI 0)]) (sg := [(.iconst 0, nI 0)]) (lSa_ok dd23) rfl ?_
            exact Y.iret rfl (lIa_ok dd24) h
        · refine Y.blk (pc' := 47) (L' := [some (.ref a0), some (.int a1), some (.int a2), some (.int a3)]) (st' := [.int (nI 2), .int (nI 0), .ref a0]) (sg := [(.iconst 0, nI 0), (.iconst 2, nI 2)]) (lSa_ok dd25) rfl ?_
          obtain ⟨_, o81, e80, m82, h⟩ := gOb_inv h
          refine Y.callI (yC.Vi (b := a0) (As := [.int (nI 0), .int (nI 2)]) (st := []) (r := ("PartlisterModel", T_M, 9)) hV.1 cb_M_refuse lk_M_36 in_M_refuse rfl se_M_refuse (lIa_ok dd15) rfl rfl (Nat.le_of_ble_eq_true rfl) (by decide) e80 m82) (k_M_refuse hV G61 a0 (nI 0) (nI 2)) h (fun v84 G83 _ h => ?_)
          refine Y.if_eq (off := 5) (tgt := 55) (lIa_ok dd16) (by decide) h (fun c96 h => ?_) (fun c96 h => ?_)
          · refine Y.blk (pc' := 60) (L' := [some (.ref a0), some (.int a1), some (.int a2), some (.int a3)]) (st' := [.int a3, .ref a0, .int a2, .int a1, .ref a0]) (sg := [(.aload_n 0, 0), (.iload_n 1, 0), (.iload_n 2, 0), (.aload_n 0, 0), (.iload_n 3, 0)]) (lSa_ok dd17) rfl ?_
            obtain ⟨_, o86, e85, m87, h⟩ := gOb_inv h
            refine Y.callA (yC.Vi (b := a0) (As := [.int a3]) (st := [.int a2, .int a1, .ref a0]) (r := ("PartlisterModel", T_M, 9)) hV.1 cb_M_make lk_M_120 in_M_make rfl se_M_make (lIa_ok dd18) rfl rfl (Nat.le_of_ble_eq_true rfl) (by decide) e85 m87) (k_M_make hV G83 a0 a3) h (fun v89 G88 _ h => ?_)
            obtain ⟨_, o91, e90, m92, h⟩ := gOb_inv h
            refine Y.callA (yC.Vi (b := a0) (As := [.int a1, .int a2, .ref v89]) (st := []) (r := ("PartlisterModel", T_M, 9)) hV.1 cb_M_write lk_M_150 in_M_write rfl se_M_write (lIa_ok dd19) rfl rfl (Nat.le_of_ble_eq_true rfl) (by decide) e90 m92) (k_M_write hV G88 a0 a1 a2 v89) h (fun v94 G93 _ h => ?_)
            refine Y.blk (pc' := 67) (L' := [some (.ref a0), some (.int a1), some (.int a2), some (.int a3)]) (st' := [.int (nI 0), .ref v94]) (sg := [(.iconst 0, nI 0)]) (lSa_ok dd20) rfl ?_
            refine Y.iald (t0 := 0) (lIa_ok dd21) rfl h (fun v95 h => ?_)
            exact Y.iret rfl (lIa_ok dd22) h
          · refine Y.blk (pc' := 54) (L' := [some (.ref a0), some (.int a1), some (.int a2), some (.int a3)]) (st' := [.int (nI 0)]) (sg := [(.iconst 0, nI 0)]) (lSa_ok dd23) rfl ?_
            exact Y.iret rfl (lIa_ok dd24) h
      · refine Y.blk (pc' := 54) (L' := [some (.ref a0), some (.int a1), some (.int a2), some (.int a3)]) (st' := [.int (nI 0)]) (sg := [(.iconst 0, nI 0)]) (lSa_ok dd23) rfl ?_
        exact Y.iret rfl (lIa_ok dd24) h
  · refine Y.blk (pc' := 19) (L' := [some (.ref a0), some (.int a1), some (.int a2), some (.int a3)]) (st' := [.int (nI 1), .ref a0]) (sg := [(.iconst 1, nI 1)]) (lSa_ok dd26) rfl ?_
    refine Y.goto (off := 4) (tgt := 23) (lIa_ok dd27) (by decide) ?_
    refine Y.blk (pc' := 24) (L' := [some (.ref a0), some (.int a1), some (.int a2), some (.int a3)]) (st' := [.int (nI 1), .int (nI 1), .ref a0]) (sg := [(.iconst 1, nI 1)]) (lSa_ok dd28) rfl ?_
    obtain ⟨_, o101, e100, m102, h⟩ := gOb_inv h
    refine Y.callI (yC.Vi (b := a0) (As := [.int (nI 1), .int (nI 1)]) (st := []) (r := ("PartlisterModel", T_M, 9)) hV.1 cb_M_start lk_M_114 in_M_start rfl se_M_start (lIa_ok dd7) rfl rfl (Nat.le_of_ble_eq_true rfl) (by decide) e100 m102) (k_M_start hV G4 a0 (nI 1) (nI 1)) h (fun v104 G103 _ h => ?_)
    refine Y.if_ne (off := 26) (tgt := 53) (lIa_ok dd8) (by decide) h (fun c143 h => ?_) (fun c143 h => ?_)
    · refine Y.blk (pc' := 35) (L' := [some (.ref a0), some (.int a1), some (.int a2), some (.int a3)]) (st' := [.int (nI 30), .int (nI 0), .int a3, .ref a0]) (sg := [(.aload_n 0, 0), (.iload_n 3, 0), (.iconst 0, nI 0), (.bipush 30, nI 30)]) (lSa_ok dd9) rfl ?_
      refine Y.callI (yC.S (As := [.int a3, .int (nI 0), .int (nI 30)]) (st := [.ref a0]) hV.1 cb_M_isIn lk_M_40 st_M_isIn (lIa_ok dd10) rfl rfl (Nat.le_of_ble_eq_true rfl) (by decide)) (k_M_isIn hV G103 a3 (nI 0) (nI 30)) h (fun v107 G106 _ h => ?_)
      refine Y.if_ne (off := 7) (tgt := 45) (lIa_ok dd11) (by decide) h (fun c142 h => ?_) (fun c142 h => ?_)
      · refine Y.blk (pc' := 42) (L' := [some (.ref a0), some (.int a1), some (.int a2), some (.int a3)]) (st' := [.int (nI 1), .ref a0]) (sg := [(.iconst 1, nI 1)]) (lSa_ok dd12) rfl ?_
        refine Y.goto (off := 4) (tgt := 46) (lIa_ok dd13) (by decide) ?_
        refine Y.blk (pc' := 47) (L' := [some (.ref a0), some (.int a1), some (.int a2), some (.int a3)]) (st' := [.int (nI 2), .int (nI 1), .ref a0]) (sg := [(.iconst 2, nI 2)]) (lSa_ok dd14) rfl ?_
        obtain ⟨_, o109, e108, m110, h⟩ := gOb_inv h
        refine Y.callI (yC.Vi (b := a0) (As := [.int (nI 1), .int (nI 2)]) (st := []) (r := ("PartlisterModel", T_M, 9)) hV.1 cb_M_refuse lk_M_36 in_M_refuse rfl se_M_refuse (lIa_ok dd15) rfl rfl (Nat.le_of_ble_eq_true rfl) (by decide) e108 m110) (k_M_refuse hV G106 a0 (nI 1) (nI 2)) h (fun v112 G111 _ h => ?_)
        refine Y.if_eq (off := 5) (tgt := 55) (lIa_ok dd16) (by decide) h (fun c124 h => ?_) (fun c124 h => ?_)
        · refine Y.blk (pc' := 60) (L' := [some (.ref a0), some (.int a1), some (.int a2), some (.int a3)]) (st' := [.int a3, .ref a0, .int a2, .int a1, .ref a0]) (sg := [(.aload_n 0, 0), (.iload_n 1, 0), (.iload_n 2, 0), (.aload_n 0, 0), (.iload_n 3, 0)]) (lSa_ok dd17) rfl ?_
          obtain ⟨_, o114, e113, m115, h⟩ := gOb_inv h
          refine Y.callA (yC.Vi (b := a0) (As := [.int a3]) (st := [.int a2, .int a1, .ref a0]) (r := ("PartlisterModel", T_M, 9)) hV.1 cb_M_make lk_M_120 in_M_make rfl se_M_make (lIa_ok dd18) rfl rfl (Nat.le_of_ble_eq_true rfl) (by decide) e113 m115) (k_M_make hV G111 a0 a3) h (fun v117 G116 _ h => ?_)
          obtain ⟨_, o119, e118, m120, h⟩ := gOb_inv h
          refine Y.callA (yC.Vi (b := a0) (As := [.int a1, .int a2, .ref v117]) (st := []) (r := ("PartlisterModel", T_M, 9)) hV.1 cb_M_write lk_M_150 in_M_write rfl se_M_write (lIa_ok dd19) rfl rfl (Nat.le_of_ble_eq_true rfl) (by decide) e118 m120) (k_M_write hV G116 a0 a1 a2 v117) h (fun v122 G121 _ h => ?_)
          refine Y.blk (pc' := 67) (L' := [some (.ref a0), some (.int a1), some (.int a2), some (.int a3)]) (st' := [.int (nI 0), .ref v122]) (sg := [(.iconst 0, nI 0)]) (lSa_ok dd20) rfl ?_
          refine Y.iald (t0 := 0) (lIa_ok dd21) rfl h (fun v123 h => ?_)
          exact Y.iret rfl (lIa_ok dd22) h
        · refine Y.blk (pc' := 54) (L' := [some (.ref a0), some (.int a1), some (.int a2), some (.int a3)]) (st' := [.int (nI 0)]) (sg := [(.iconst 0, nI 0)]) (lSa_ok dd23) rfl ?_
          exact Y.iret rfl (lIa_ok dd24) h
      · refine Y.blk (pc' := 47) (L' := [some (.ref a0), some (.int a1), some (.int a2), some (.int a3)]) (st' := [.int (nI 2), .int (nI 0), .ref a0]) (sg := [(.iconst 0, nI 0), (.iconst 2, nI 2)]) (lSa_ok dd25) rfl ?_
        obtain ⟨_, o126, e125, m127, h⟩ := gOb_inv h
        refine Y.callI (yC.Vi (b := a0) (As := [.int (nI 0), .int (nI 2)]) (st := []) (r := ("PartlisterModel", T_M, 9)) hV.1 cb_M_refuse lk_M_36 in_M_refuse rfl se_M_refuse (lIa_ok dd15) rfl rfl (Nat.le_of_ble_eq_true rfl) (by decide) e125 m127) (k_M_refuse hV G106 a0 (nI 0) (nI 2)) h (fun v129 G128 _ h => ?_)
        refine Y.if_eq (off := 5) (tgt := 55) (lIa_ok dd16) (by decide) h (fun c141 h => ?_) (fun c141 h => ?_)
        · refine Y.blk (pc' := 60) (L' := [some (.ref a0), some (.int a1), some (.int a2), some (.int a3)]) (st' := [.int a3, .ref a0, .int a2, .int a1, .ref a0]) (sg := [(.aload_n 0, 0), (.iload_n 1, 0), (.iload_n 2, 0), (.aload_n 0, 0), (.iload_n 3, 0)]) (lSa_ok dd17) rfl ?_
          obtain ⟨_, o131, e130, m132, h⟩ := gOb_inv h
          refine Y.callA (yC.Vi (b := a0) (As := [.int a3]) (st := [.int a2, .int a1, .ref a0]) (r := ("PartlisterModel", T_M, 9)) hV.1 cb_M_make lk_M_120 in_M_make rfl se_M_make (lIa_ok dd18) rfl rfl (Nat.le_of_ble_eq_true rfl) (by decide) e130 m132) (k_M_make hV G128 a0 a3) h (fun v134 G133 _ h => ?_)
          obtain ⟨_, o136, e135, m137, h⟩ := gOb_inv h
          refine Y.callA (yC.Vi (b := a0) (As := [.int a1, .int a2, .ref v134]) (st := []) (r := ("PartlisterModel", T_M, 9)) hV.1 cb_M_write lk_M_150 in_M_write rfl se_M_write (lIa_ok dd19) rfl rfl (Nat.le_of_ble_eq_true rfl) (by decide) e135 m137) (k_M_write hV G133 a0 a1 a2 v134) h (fun v139 G138 _ h => ?_)
          refine Y.blk (pc' := 67) (L' := [some (.ref a0), some (.int a1), some (.int a2), some (.int a3)]) (st' := [.int (nI 0), .ref v139]) (sg := [(.iconst 0, nI 0)]) (lSa_ok dd20) rfl ?_
          refine Y.iald (t0 := 0) (lIa_ok dd21) rfl h (fun v140 h => ?_)
          exact Y.iret rfl (lIa_ok dd22) h
        · refine Y.blk (pc' := 54) (L' := [some (.ref a0), some (.int a1), some (.int a2), some (.int a3)]) (st' := [.int (nI 0)]) (sg := [(.iconst 0, nI 0)]) (lSa_ok dd23) rfl ?_
          exact Y.iret rfl (lIa_ok dd24) h
    · refine Y.blk (pc' := 54) (L' := [some (.ref a0), some (.int a1), some (.int a2), some (.int a3)]) (st' := [.int (nI 0)]) (sg := [(.iconst 0, nI 0)]) (lSa_ok dd23) rfl ?_
      exact Y.iret rfl (lIa_ok dd24) h

def f_M_size (G : gH) (a0 : Nat) (a1 : Int32) : gR :=
  bI (f_M_isIn G a1 (nI 0) (nI 5)) fun v3 G2 => if v3 = 0 then (gOb G2 a0 6 fun o5 => bI (f_M_start G2 a0 (nI 1) (nI 1)) fun v8 G7 => if v8 = 0 then gOb G7 a0 6 fun o10 => bI (f_M_sizeOf G7 a0 a1) fun v13 G12 => rI v13 G12
    else rI (nI 0) G7)
  else gOb G2 a0 6 fun o16 => bI (f_M_start G2 a0 (nI 0) (nI 1)) fun v19 G18 => if v19 = 0 then gOb G18 a0 6 fun o21 => bI (f_M_sizeOf G18 a0 a1) fun v24 G23 => rI v24 G23
    else rI (nI 0) G18
theorem k_M_size {l : Launch} {D : va_G} {B : Nat} {O : State → Heap → Prop} (hV : zG l D B O) (G : gH) (a0 : Nat) (a1 : Int32) : gMet (zVm l D B O) m_M_size 7 [.ref a0, .int a1] G (f_M_size G a0 a1) := by
  have hdd : lSa m_M_size 0 [(.aload_n 0, 0), (.iload_n 1, 0), (.iconst 0, nI 0), (.iconst 5, nI 5)] = true ∧ lIa m_M_size 4 (.invokestatic 40) 3 = true ∧ lIa m_M_size 7 (.ifCond .ne 7) 3 = true ∧ lSa m_M_size 10 [(.iconst 1, nI 1)] = true ∧ lIa m_M_size 11 (.goto 4) 3 = true ∧ lSa m_M_size 15 [(.iconst 1, nI 1)] = true ∧ lIa m_M_size 16 (.invokevirtual 114) 3 = true ∧ lIa m_M_size 19 (.ifCond .eq 7) 3 = true ∧ lSa m_M_size 26 [(.aload_n 0, 0), (.iload_n 1, 0)] = true ∧ lIa m_M_size 28 (.invokevirtual 223) 3 = true ∧ lIa m_M_size 31 (.ireturn) 1 = true ∧ lSa m_M_size 22 [(.iconst 0, nI 0)] = true ∧ lIa m_M_size 23 (.goto 8) 3 = true ∧ lSa m_M_size 14 [(.iconst 0, nI 0), (.iconst 1, nI 1)] = true := by decide +kernel
  refine lA8 hdd (fun dd0 dd1 dd2 dd3 dd4 dd5 dd6 dd7 hdd => ?_)
  obtain ⟨dd8, dd9, dd10, dd11, dd12, dd13⟩ := hdd
  refine gMet.of (by decide +kernel) (Nat.le_of_ble_eq_true rfl) [some (.ref a0), some (.int a1)] (fun ls h => zEn_ok (n := 2) h) ?_
  intro o Gf h
  unfold f_M_size at h
  refine Y.blk (pc' := 4) (L' := [some (.ref a0), some (.int a1)]) (st' := [.int (nI 5), .int (nI 0), .int a1, .ref a0]) (sg := [(.aload_n 0, 0), (.iload_n 1, 0), (.iconst 0, nI 0), (.iconst 5, nI 5)]) (lSa_ok dd0) rfl ?_
  refine Y.callI (yC.S (As := [.int a1, .int (nI 0), .int (nI 5)]) (st := [.ref a0]) hV.1 cb_M_isIn lk_M_40 st_M_isIn (lIa_ok dd1) rfl rfl (Nat.le_of_ble_eq_true rfl) (by decide)) (k_M_isIn hV G a1 (nI 0) (nI 5)) h (fun v3 G2 _ h => ?_)
  refine Y.if_ne (off := 7) (tgt := 14) (lIa_ok dd2) (by decide) h (fun c26 h => ?_) (fun c26 h => ?_)
  · refine Y.blk (pc' := 11) (L' := [some (.ref a0), some (.int a1)]) (st' := [.int (nI 1), .ref a0]) (sg := [(.iconst 1, nI 1)]) (lSa_ok dd3) rfl ?_
    refine Y.goto (off := 4) (tgt := 15) (lIa_ok dd4) (by decide) ?_
    refine Y.blk (pc' := 16) (L' := [some (.ref a0), some (.int a1)]) (st' := [.int (nI 1), .int (nI 1), .ref a0]) (sg := [(.iconst 1, nI 1)]) (lSa_ok dd5) rfl ?_
    obtain ⟨_, o5, e4, m6, h⟩ := gOb_inv h
    refine Y.callI (yC.Vi (b := a0) (As := [.int (nI 1), .int (nI 1)]) (st := []) (r := ("PartlisterModel", T_M, 9)) hV.1 cb_M_start lk_M_114 in_M_start rfl se_M_start (lIa_ok dd6) rfl rfl (Nat.le_of_ble_eq_true rfl) (by decide) e4 m6) (k_M_start hV G2 a0 (nI 1) (nI 1)) h (fun v8 G7 _ h => ?_)
    refine Y.if_eq (off := 7) (tgt := 26) (lIa_ok dd7) (by decide) h (fun c14 h => ?_) (fun c14 h => ?_)
    · refine Y.blk (pc' := 28) (L' := [some (.ref a0), some (.int a1)]) (st' := [.int a1, .ref a0]) (sg := [(.aload_n 0, 0), (.iload_n 1, 0)]) (lSa_ok dd8) rfl ?_
      obtain ⟨_, o10, e9, m11, h⟩ := gOb_inv h
      refine Y.callI (yC.Vi (b := a0) (As := [.int a1]) (st := []) (r := ("PartlisterModel", T_M, 9)) hV.1 cb_M_sizeOf lk_M_223 in_M_sizeOf rfl se_M_sizeOf (lIa_ok dd9) rfl rfl (Nat.le_of_ble_eq_true rfl) (by decide) e9 m11) (k_M_sizeOf hV G7 a0 a1) h (fun v13 G12 _ h => ?_)
      exact Y.iret rfl (lIa_ok dd10) h
    · refine Y.blk (pc' := 23) (L' := [some (.ref a0), some (.int a1)]) (st' := [.int (nI 0)]) (sg := [(.iconst 0, nI 0)]) (lSa_ok dd11) rfl ?_
      refine Y.goto (off := 8) (tgt := 31) (lIa_ok dd12) (by decide) ?_
      exact Y.iret rfl (lIa_ok dd10) h
  · refine Y.blk (pc' := 16) (L' := [some (.ref a0), some (.int a1)]) (st' := [.int (nI 1), .int (nI 0), .ref a0]) (sg := [(.iconst 0, nI 0), (.iconst 1, nI 1)]) (lSa_ok dd13) rfl ?_
    obtain ⟨_, o16, e15, m17, h⟩ := gOb_inv h
    refine Y.callI (yC.Vi (b := a0) (As := [.int (nI 0), .int (nI 1)]) (st := []) (r := ("PartlisterModel", T_M, 9)) hV.1 cb_M_start lk_M_114 in_M_start rfl se_M_start (lIa_ok dd6) rfl rfl (Nat.le_of_ble_eq_true rfl) (by decide) e15 m17) (k_M_start hV G2 a0 (nI 0) (nI 1)) h (fun v19 G18 _ h => ?_)
    refine Y.if_eq (off := 7) (tgt := 26) (lIa_ok dd7) (by decide) h (fun c25 h => ?_) (fun c25 h => ?_)
    · refine Y.blk (pc' := 28) (L' := [some (.ref a0), some (.int a1)]) (st' := [.int a1, .ref a0]) (sg := [(.aload_n 0, 0), (.iload_n 1, 0)]) (lSa_ok dd8) rfl ?_
      obtain ⟨_, o21, e20, m22, h⟩ := gOb_inv h
      refine Y.callI (yC.Vi (b := a0) (As := [.int a1]) (st := []) (r := ("PartlisterModel", T_M, 9)) hV.1 cb_M_sizeOf lk_M_223 in_M_sizeOf rfl se_M_sizeOf (lIa_ok dd9) rfl rfl (Nat.le_of_ble_eq_true rfl) (by decide) e20 m22) (k_M_sizeOf hV G18 a0 a1) h (fun v24 G23 _ h => ?_)
      exact Y.iret rfl (lIa_ok dd10) h
    · refine Y.blk (pc' := 23) (L' := [some (.ref a0), some (.int a1)]) (st' := [.int (nI 0)]) (sg := [(.iconst 0, nI 0)]) (lSa_ok dd11) rfl ?_
      refine Y.goto (off := 8) (tgt := 31) (lIa_ok dd12) (by decide) ?_
      exact Y.iret rfl (lIa_ok dd10) h

def f_M_sort_L54 (w : Nat → Nat) (K114 : gH → Nat → Int32 → Int32 → gR) : Nat → gH → Nat → Int32 → Nat → Int32 → Int32 → gR
  | 0, _, _, _, _, _, _ => none
  | n + 1, G, x0, x1, x3, x4, x5 =>
    gOb G x3 9 fun o27 => bI (f_AL_size G x3) fun v30 G29 => if v30 ≤ x5 then K114 G29 x0 x1 x4
    else gOb G29 x3 9 fun o32 => bA (f_AL_get G29 x3 x5) fun v35 G34 => gCaA G34 v35 100 (gOb G34 x0 6 fun o37 => bA (f_M_write G34 x0 x1 x5 v35) fun v40 G39 => gLd G39 v40 100 (nI 1) fun v41 => gOb G39 x3 9 fun o43 => bA (f_AL_get G39 x3 x5) fun v46 G45 => gCaA G45 v46 100 (gLd G45 v46 100 (nI 1) fun v47 => if v41 = v47 then bI (f_M_one G45 (nI 0)) fun v50 G49 => f_M_sort_L54 w K114 n G49 x0 x1 x3 (x4 + v50) (x5 + (nI 1))
      else bI (f_M_one G45 (nI 1)) fun v53 G52 => f_M_sort_L54 w K114 n G52 x0 x1 x3 (x4 + v53) (x5 + (nI 1))))
def f_M_sort (w : Nat → Nat) (G : gH) (a0 : Nat) (a1 : Int32) (a2 : Int32) : gR :=
  gOb G a0 6 fun o2 => bI (f_M_isNoList G a0 a1) fun v5 G4 => gOb G4 a0 6 fun o7 => bI (f_M_start G4 a0 v5 (nI 1)) fun v10 G9 => if v10 = 0 then (bI (f_M_isIn G9 a2 (nI 0) (nI 4)) fun v13 G12 => if v13 = 0 then (gOb G12 a0 6 fun o15 => bI (f_M_refuse G12 a0 (nI 1) (nI 2)) fun v18 G17 => if v18 = 0 then gOb G17 a0 6 fun o20 => bA (f_M_copy w G17 a0 a1) fun v23 G22 => bV (f_M_order G22 v23 a2) fun G25 => f_M_sort_L54 w (fun G59 x56 x57 x58 => gOb G59 x56 6 fun o61 => bI (f_M_rowOf zDp G59 x56 x57) fun v64 G63 => gOb G63 x56 6 fun o66 => bI (f_M_endParts G63 x56 v64 x57) fun v69 G68 => gOb G68 x56 6 fun o71 => bI (f_M_rowOf zDp G68 x56 x57) fun v74 G73 => gOb G73 x56 6 fun o76 => bV (f_M_endCursors G73 x56 v74) fun G78 => rI x58 G78) zFu G25 a0 a1 v23 (nI 0) (nI 0)
      else rI (nI 0) G17)
    else gOb G12 a0 6 fun o81 => bI (f_M_refuse G12 a0 (nI 0) (nI 2)) fun v84 G83 => if v84 = 0 then gOb G83 a0 6 fun o86 => bA (f_M_copy w G83 a0 a1) fun v89 G88 => bV (f_M_order G88 v89 a2) fun G91 => f_M_sort_L54 w (fun G95 x92 x93 x94 => gOb G95 x92 6 fun o97 => bI (f_M_rowOf zDp G95 x92 x93) fun v100 G99 => gOb G99 x92 6 fun o102 => bI (f_M_endParts G99 x92 v100 x93) fun v105 G104 => gOb G104 x92 6 fun o107 => bI (f_M_rowOf zDp G104 x92 x93) fun v110 G109 => gOb G109 x92 6 fun o112 => bV (f_M_endCursors G109 x92 v110) fun G114 => rI x94 G114) zFu G91 a0 a1 v89 (nI 0) (nI 0)
      else rI (nI 0) G83)
  else rI (nI 0) G9
theorem k_M_sort_L54 {l : Launch} {D : va_G} {B : Nat} {O : State → Heap → Prop} {w : Nat → Nat} (hV : zGw l D B O w) {o : gO} {Gf : gH} (K114 : gH → Nat → Int32 → Int32 → gR) (hK114 : ∀ (G : gH) (x0 : Nat) (x1 : Int32) (x4 : Int32), K114 G x0 x1 x4 = some (o, Gf) → Y (zVm l D B O) m_M_sort 14 o Gf 114 [some (.ref x0), some (.int x1), none, none, some (.int x4), none] [] G) : ∀ (n : Nat) (G : gH) (x0 : Nat) (x1 : Int32) (x3 : Nat) (x4 : Int32) (x5 : Int32), f_M_sort_L54 w K114 n G x0 x1 x3 x4 x5 = some (o, Gf) → Y (zVm l D B O) m_M_sort 14 o Gf 54 [some (.ref x0), some (.int x1), none, some (.ref x3), some (.int x4), some (.int x5)] [] G := by
  have hdd : lSa m_M_sort 54 [(.iload 5, 0), (.aload_n 3, 0)] = true ∧ lIa m_M_sort 57 (.invokevirtual 61) 3 = true ∧ lIa m_M_sort 60 (.if_icmp .ge 54) 3 = true ∧ lSa m_M_sort 63 [(.iload 4, 0), (.aload_n 0, 0), (.iload_n 1, 0), (.iload 5, 0), (.aload_n 3, 0), (.iload 5, 0)] = true ∧ lIa m_M_sort 72 (.invokevirtual 57) 3 = true ∧ lIa m_M_sort 75 (.checkcast 72) 3 = true ∧ lIa m_M_sort 78 (.invokevirtual 150) 3 = true ∧ lSa m_M_sort 81 [(.iconst 1, nI 1)] = true ∧ lIa m_M_sort 82 (.iaload) 1 = true ∧ lSa m_M_sort 83 [(.aload_n 3, 0), (.iload 5, 0)] = true ∧ lIa m_M_sort 86 (.invokevirtual 57) 3 = true ∧ lIa m_M_sort 89 (.checkcast 72) 3 = true ∧ lSa m_M_sort 92 [(.iconst 1, nI 1)] = true ∧ lIa m_M_sort 93 (.iaload) 1 = true ∧ lIa m_M_sort 94 (.if_icmp .eq 7) 3 = true ∧ lSa m_M_sort 101 [(.iconst 0, nI 0)] = true ∧ lIa m_M_sort 102 (.invokestatic 188) 3 = true ∧ lSa m_M_sort 105 [(.iadd, 0), (.istore 4, 0), (.iinc 5 1, nI 1)] = true ∧ lIa m_M_sort 111 (.goto (-57)) 3 = true ∧ lSa m_M_sort 97 [(.iconst 1, nI 1)] = true ∧ lIa m_M_sort 98 (.goto 4) 3 = true := by decide +kernel
  refine lA8 hdd (fun dd0 dd1 dd2 dd3 dd4 dd5 dd6 dd7 hdd => ?_)
  refine lA8 hdd (fun dd8 dd9 dd10 dd11 dd12 dd13 dd14 dd15 hdd => ?_)
  obtain ⟨dd16, dd17, dd18, dd19, dd20⟩ := hdd
  intro n
  induction n with
  | zero => intro G x0 x1 x3 x4 x5 h; cases h
  | succ n ih =>
    intro G x0 x1 x3 x4 x5 h
    unfold f_M_sort_L54 at h
    refine Y.blk (pc' := 57) (L' := [some (.ref x0), some (.int x1), none, some (.ref x3), some (.int x4), some (.int x5)]) (st' := [.ref x3, .int x5]) (sg := [(.iload 5, 0), (.aload_n 3, 0)]) (lSa_ok dd0) rfl ?_
    obtain ⟨_, o27, e26, m28, h⟩ := gOb_inv h
    refine Y.callI (yC.Vi (b := x3) (As := []) (st := [.int x5]) (r := ("java/util/ArrayList", T_AL, 3)) hV.1.1 cb_AL_size lk_M_61 in_AL_size rfl se_AL_size (lIa_ok dd1) rfl rfl (Nat.le_of_ble_eq_true rfl) (by decide) e26 m28) (k_AL_size hV.1 G x3) h (fun v30 G29 _ h => ?_)
    refine Y.ic_ge (off := 54) (tgt := 114) (lIa_ok dd2) (by decide) h (fun c55 h => ?_) (fun c55 h => ?_)
    · refine Y.less (L' := [some (.ref x0), some (.int x1), none, none, some (.int x4), none]) (zLe_some (zLe_some (zLe_some (zLe_none (zLe_some (zLe_none (zLe_nil))))))) ?_
      exact hK114 G29 x0 x1 x4 h
    · refine Y.blk (pc' := 72) (L' := [some (.ref x0), some (.int x1), none, some (.ref x3), some (.int x4), some (.int x5)]) (st' := [.int x5, .ref x3, .int x5, .int x1, .ref x0, .int x4]) (sg := [(.iload 4, 0), (.aload_n 0, 0), (.iload_n 1, 0), (.iload 5, 0), (.aload_n 3, 0), (.iload 5, 0)]) (lSa_ok dd3) rfl ?_
      obtain ⟨_, o32, e31, m33, h⟩ := gOb_inv h
      refine Y.callA (yC.Vi (b := x3) (As := [.int x5]) (st := [.int x5, .int x1, .ref x0, .int x4]) (r := ("java/util/ArrayList", T_AL, 3)) hV.1.1 cb_AL_get lk_M_57 in_AL_get rfl se_AL_get (lIa_ok dd4) rfl rfl (Nat.le_of_ble_eq_true rfl) (by decide) e31 m33) (k_AL_get hV.1 G29 x3 x5) h (fun v35 G34 _ h => ?_)
      refine Y.castA (t0 := 0) (nm := "[I") (lIa_ok dd5) rfl (by decide) ck_M_72 h (fun h => ?_)
      obtain ⟨_, o37, e36, m38, h⟩ := gOb_inv h
      refine Y.callA (yC.Vi (b := x0) (As := [.int x1, .int x5, .ref v35]) (st := [.int x4]) (r := ("PartlisterModel", T_M, 9)) hV.1.1 cb_M_write lk_M_150 in_M_write rfl se_M_write (lIa_ok dd6) rfl rfl (Nat.le_of_ble_eq_true rfl) (by decide) e36 m38) (k_M_write hV.1 G34 x0 x1 x5 v35) h (fun v40 G39 _ h => ?_)
      refine Y.blk (pc' := 82) (L' := [some (.ref x0), some (.int x1), none, some (.ref x3), some (.int x4), some (.int x5)]) (st' := [.int (nI 1), .ref v40, .int x4]) (sg := [(.iconst 1, nI 1)]) (lSa_ok dd7) rfl ?_
      refine Y.iald (t0 := 0) (lIa_ok dd8) rfl h (fun v41 h => ?_)
      refine Y.blk (pc' := 86) (L' := [some (.ref x0), some (.int x1), none, some (.ref x3), some (.int x4), some (.int x5)]) (st' := [.int x5, .ref x3, .int v41, .int x4]) (sg := [(.aload_n 3, 0), (.iload 5, 0)]) (lSa_ok dd9) rfl ?_
      obtain ⟨_, o43, e42, m44, h⟩ := gOb_inv h
      refine Y.callA (yC.Vi (b := x3) (As := [.int x5]) (st := [.int v41, .int x4]) (r := ("java/util/ArrayList", T_AL, 3)) hV.1.1 cb_AL_get lk_M_57 in_AL_get rfl se_AL_get (lIa_ok dd10) rfl rfl (Nat.le_of_ble_eq_true rfl) (by decide) e42 m44) (k_AL_get hV.1 G39 x3 x5) h (fun v46 G45 _ h => ?_)
      refine Y.castA (t0 := 0) (nm := "[I") (lIa_ok dd11) rfl (by decide) ck_M_72 h (fun h => ?_)
      refine Y.blk (pc' := 93) (L' := [some (.ref x0), some (.int x1), none, some (.ref x3), some (.int x4), some (.int x5)]) (st' := [.int (nI 1), .ref v46, .int v41, .int x4]) (sg := [(.iconst 1, nI 1)]) (lSa_ok dd12) rfl ?_
      refine Y.iald (t0 := 0) (lIa_ok dd13) rfl h (fun v47 h => ?_)
      refine Y.ic_eq (off := 7) (tgt := 101) (lIa_ok dd14) (by decide) h (fun c54 h => ?_) (fun c54 h => ?_)
      · refine Y.blk (pc' := 102) (L' := [some (.ref x0), some (.int x1), none, some (.ref x3), some (.int x4), some (.int x5)]) (st' := [.int (nI 0), .int x4]) (sg := [(.iconst 0, nI 0)]) (lSa_ok dd15) rfl ?_
        refine Y.callI (yC.S (As := [.int (nI 0)]) (st := [.int x4]) hV.1.1 cb_M_one lk_M_188 st_M_one (lIa_ok dd16) rfl rfl (Nat.le_of_ble_eq_true rfl) (by decide)) (k_M_one hV.1 G45 (nI 0)) h (fun v50 G49 _ h => ?_)
        refine Y.blk (pc' := 111) (L' := [some (.ref x0), some (.int x1), none, some (.ref x3), some (.int (x4 + v50)), some (.int (x5 + (nI 1)))]) (st' := []) (sg := [(.iadd, 0), (.istore 4, 0), (.iinc 5 1, nI 1)]) (lSa_ok dd17) rfl ?_
        refine Y.goto (off := -57) (tgt := 54) (lIa_ok dd18) (by decide) ?_
        exact ih G49 x0 x1 x3 (x4 + v50) (x5 + (nI 1)) h
      · refine Y.blk (pc' := 98) (L' := [some (.ref x0), some (.int x1), none, some (.ref x3), some (.int x4), some (.int x5)]) (st' := [.int (nI 1), .int x4]) (sg := [(.iconst 1, nI 1)]) (lSa_ok dd19) rfl ?_
        refine Y.goto (off := 4) (tgt := 102) (lIa_ok dd20) (by decide) ?_
        refine Y.callI (yC.S (As := [.int (nI 1)]) (st := [.int x4]) hV.1.1 cb_M_one lk_M_188 st_M_one (lIa_ok dd16) rfl rfl (Nat.le_of_ble_eq_true rfl) (by decide)) (k_M_one hV.1 G45 (nI 1)) h (fun v53 G52 _ h => ?_)
        refine Y.blk (pc' := 111) (L' := [some (.ref x0), some (.int x1), none, some (.ref x3), some (.int (x4 + v53)), some (.int (x5 + (nI 1)))]) (st' := []) (sg := [(.iadd, 0), (.istore 4, 0), (.iinc 5 1, nI 1)]) (lSa_ok dd17) rfl ?_
        refine Y.goto (off := -57) (tgt := 54) (lIa_ok dd18) (by decide) ?_
        exact ih G52 x0 x1 x3 (x4 + v53) (x5 + (nI 1)) h
theorem k_M_sort {l : Launch} {D : va_G} {B : Nat} {O : State → Heap → Prop} {w : Nat → Nat} (hV : zGw l D B O w) (G : gH) (a0 : Nat) (a1 : Int32) (a2 : Int32) : gMet (zVm l D B O) m_M_sort 14 [.ref a0, .int a1, .int a2] G (f_M_sort w G a0 a1 a2) := by
  have hdd : lSa m_M_sort 0 [(.aload_n 0, 0), (.aload_n 0, 0), (.iload_n 1, 0)] = true ∧ lIa m_M_sort 3 (.invokevirtual 110) 3 = true ∧ lSa m_M_sort 6 [(.iconst 1, nI 1)] = true ∧ lIa m_M_sort 7 (.invokevirtual 114) 3 = true ∧ lIa m_M_sort 10 (.ifCond .ne 25) 3 = true ∧ lSa m_M_sort 13 [(.aload_n 0, 0), (.iload_n 2, 0), (.iconst 0, nI 0), (.iconst 4, nI 4)] = true ∧ lIa m_M_sort 17 (.invokestatic 40) 3 = true ∧ lIa m_M_sort 20 (.ifCond .ne 7) 3 = true ∧ lSa m_M_sort 23 [(.iconst 1, nI 1)] = true ∧ lIa m_M_sort 24 (.goto 4) 3 = true ∧ lSa m_M_sort 28 [(.iconst 2, nI 2)] = true ∧ lIa m_M_sort 29 (.invokevirtual 36) 3 = true ∧ lIa m_M_sort 32 (.ifCond .eq 5) 3 = true ∧ lSa m_M_sort 37 [(.aload_n 0, 0), (.iload_n 1, 0)] = true ∧ lIa m_M_sort 39 (.invokevirtual 136) 3 = true ∧ lSa m_M_sort 42 [(.astore_n 3, 0), (.aload_n 3, 0), (.iload_n 2, 0)] = true ∧ lIa m_M_sort 45 (.invokestatic 184) 3 = true ∧ lSa m_M_sort 48 [(.iconst 0, nI 0), (.istore 4, 0), (.iconst 0, nI 0), (.istore 5, 0)] = true ∧ lSa m_M_sort 114 [(.aload_n 0, 0), (.aload_n 0, 0), (.iload_n 1, 0)] = true ∧ lIa m_M_sort 117 (.invokevirtual 47) 3 = true ∧ lSa m_M_sort 120 [(.iload_n 1, 0)] = true ∧ lIa m_M_sort 121 (.invokevirtual 103) 3 = true ∧ lSa m_M_sort 124 [(.pop, 0), (.aload_n 0, 0), (.aload_n 0, 0), (.iload_n 1, 0)] = true ∧ lIa m_M_sort 128 (.invokevirtual 47) 3 = true ∧ lIa m_M_sort 131 (.invokevirtual 177) 3 = true ∧ lSa m_M_sort 134 [(.iload 4, 0)] = true ∧ lIa m_M_sort 136 (.ireturn) 1 = true ∧ lSa m_M_sort 35 [(.iconst 0, nI 0)] = true ∧ lIa m_M_sort 36 (.ireturn) 1 = true ∧ lSa m_M_sort 27 [(.iconst 0, nI 0), (.iconst 2, nI 2)] = true := by decide +kernel
  refine lA8 hdd (fun dd0 dd1 dd2 dd3 dd4 dd5 dd6 dd7 hdd => ?_)
  refine lA8 hdd (fun dd8 dd9 dd10 dd11 dd12 dd13 dd14 dd15 hdd => ?_)
  refine lA8 hdd (fun dd16 dd17 dd18 dd19 dd20 dd21 dd22 dd23 hdd => ?_)
  obtain ⟨dd24, dd25, dd26, dd27, dd28, dd29⟩ := hdd
  refine gMet.of (by decide +kernel) (Nat.le_of_ble_eq_true rfl) [some (.ref a0), some (.int a1), some (.int a2), none, none, none] (fun ls h => zEn_ok (n := 6) h) ?_
  intro o Gf h
  unfold f_M_sort at h
  refine Y.blk (pc' := 3) (L' := [some (.ref a0), some (.int a1), some (.int a2), none, none, none]) (st' := [.int a1, .ref a0, .ref a0]) (sg := [(.aload_n 0, 0), (.aload_n 0, 0), (.iload_n 1, 0)]) (lSa_ok dd0) rfl ?_
  obtain ⟨_, o2, e1, m3, h⟩ := gOb_inv h
  refine Y.callI (yC.Vi (b := a0) (As := [.int a1]) (st := [.ref a0]) (r := ("PartlisterModel", T_M, 9)) hV.1.1 cb_M_isNoList lk_M_110 in_M_isNoList rfl se_M_isNoList (lIa_ok dd1) rfl rfl (Nat.le_of_ble_eq_true rfl) (by decide) e1 m3) (k_M_isNoList hV.1 G a0 a1) h (fun v5 G4 _ h => ?_)
  refine Y.blk (pc' := 7) (L' := [some (.ref a0), some (.int a1), some (.int a2), none, none, none]) (st' := [.int (nI 1), .int v5, .ref a0]) (sg := [(.iconst 1, nI 1)]) (lSa_ok dd2) rfl ?_
  obtain ⟨_, o7, e6, m8, h⟩ := gOb_inv h
  refine Y.callI (yC.Vi (b := a0) (As := [.int v5, .int (nI 1)]) (st := []) (r := ("PartlisterModel", T_M, 9)) hV.1.1 cb_M_start lk_M_114 in_M_start rfl se_M_start (lIa_ok dd3) rfl rfl (Nat.le_of_ble_eq_true rfl) (by decide) e6 m8) (k_M_start hV.1 G4 a0 v5 (nI 1)) h (fun v10 G9 _ h => ?_)
  refine Y.if_ne (off := 25) (tgt := 35) (lIa_ok dd4) (by decide) h (fun c117 h => ?_) (fun c117 h => ?_)
  · refine Y.blk (pc' := 17) (L' := [some (.ref a0), some (.int a1), some (.int a2), none, none, none]) (st' := [.int (nI 4), .int (nI 0), .int a2, .ref a0]) (sg := [(.aload_n 0, 0), (.iload_n 2, 0), (.iconst 0, nI 0), (.iconst 4, nI 4)]) (lSa_ok dd5) rfl ?_
    refine Y.callI (yC.S (As := [.int a2, .int (nI 0), .int (nI 4)]) (st := [.ref a0]) hV.1.1 cb_M_isIn lk_M_40 st_M_isIn (lIa_ok dd6) rfl rfl (Nat.le_of_ble_eq_true rfl) (by decide)) (k_M_isIn hV.1 G9 a2 (nI 0) (nI 4)) h (fun v13 G12 _ h => ?_)
    refine Y.if_ne (off := 7) (tgt := 27) (lIa_ok dd7) (by decide) h (fun c116 h => ?_) (fun c116 h => ?_)
    · refine Y.blk (pc' := 24) (L' := [some (.ref a0), some (.int a1), some (.int a2), none, none, none]) (st' := [.int (nI 1), .ref a0]) (sg := [(.iconst 1, nI 1)]) (lSa_ok dd8) rfl ?_
      refine Y.goto (off := 4) (tgt := 28) (lIa_ok dd9) (by decide) ?_
      refine Y.blk (pc' := 29) (L' := [some (.ref a0), some (.int a1), some (.int a2), none, none, none]) (st' := [.int (nI 2), .int (nI 1), .ref a0]) (sg := [(.iconst 2, nI 2)]) (lSa_ok dd10) rfl ?_
      obtain ⟨_, o15, e14, m16, h⟩ := gOb_inv h
      refine Y.callI (yC.Vi (b := a0) (As := [.int (nI 1), .int (nI 2)]) (st := []) (r := ("PartlisterModel", T_M, 9)) hV.1.1 cb_M_refuse lk_M_36 in_M_refuse rfl se_M_refuse (lIa_ok dd11) rfl rfl (Nat.le_of_ble_eq_true rfl) (by decide) e14 m16) (k_M_refuse hV.1 G12 a0 (nI 1) (nI 2)) h (fun v18 G17 _ h => ?_)
      refine Y.if_eq (off := 5) (tgt := 37) (lIa_ok dd12) (by decide) h (fun c79 h => ?_) (fun c79 h => ?_)
      · refine Y.blk (pc' := 39) (L' := [some (.ref a0), some (.int a1), some (.int a2), none, none, none]) (st' := [.int a1, .ref a0]) (sg := [(.aload_n 0, 0), (.iload_n 1, 0)]) (lSa_ok dd13) rfl ?_
        obtain ⟨_, o20, e19, m21, h⟩ := gOb_inv h
        refine Y.callA (yC.Vi (b := a0) (As := [.int a1]) (st := []) (r := ("PartlisterModel", T_M, 9)) hV.1.1 cb_M_copy lk_M_136 in_M_copy rfl se_M_copy (lIa_ok dd14) rfl rfl (Nat.le_of_ble_eq_true rfl) (by decide) e19 m21) (k_M_copy hV G17 a0 a1) h (fun v23 G22 _ h => ?_)
        refine Y.blk (pc' := 45) (L' := [some (.ref a0), some (.int a1), some (.int a2), some (.ref v23), none, none]) (st' := [.int a2, .ref v23]) (sg := [(.astore_n 3, 0), (.aload_n 3, 0), (.iload_n 2, 0)]) (lSa_ok dd15) rfl ?_
        refine Y.callN (yC.S (As := [.ref v23, .int a2]) (st := []) hV.1.1 cb_M_order lk_M_184 st_M_order (lIa_ok dd16) rfl rfl (Nat.le_of_ble_eq_true rfl) (by decide)) (k_M_order hV.1 G22 v23 a2) h (fun G25 _ h => ?_)
        refine Y.blk (pc' := 54) (L' := [some (.ref a0), some (.int a1), some (.int a2), some (.ref v23), some (.int (nI 0)), some (.int (nI 0))]) (st' := []) (sg := [(.iconst 0, nI 0), (.istore 4, 0), (.iconst 0, nI 0), (.istore 5, 0)]) (lSa_ok dd17) rfl ?_
        refine Y.less (L' := [some (.ref a0), some (.int a1), none, some (.ref v23), some (.int (nI 0)), some (.int (nI 0))]) (zLe_some (zLe_some (zLe_none (zLe_some (zLe_some (zLe_some (zLe_nil))))))) ?_
        refine k_M_sort_L54 hV _ ?_  zFu G25 a0 a1 v23 (nI 0) (nI 0) h
        · intro G59 x56 x57 x58 h
          refine Y.blk (pc' := 117) (L' := [some (.ref x56), some (.int x57), none, none, some (.int x58), none]) (st' := [.int x57, .ref x56, .ref x56]) (sg := [(.aload_n 0, 0), (.aload_n 0, 0), (.iload_n 1, 0)]) (lSa_ok dd18) rfl ?_
          obtain ⟨_, o61, e60, m62, h⟩ := gOb_inv h
          refine Y.callI (yC.Vi (b := x56) (As := [.int x57]) (st := [.ref x56]) (r := ("PartlisterModel", T_M, 9)) hV.1.1 cb_M_rowOf lk_M_47 in_M_rowOf rfl se_M_rowOf (lIa_ok dd19) rfl rfl (Nat.le_of_ble_eq_true rfl) (by decide) e60 m62) (k_M_rowOf zDp hV.1 G59 x56 x57) h (fun v64 G63 _ h => ?_)
          refine Y.blk (pc' := 121) (L' := [some (.ref x56), some (.int x57), none, none, some (.int x58), none]) (st' := [.int x57, .int v64, .ref x56]) (sg := [(.iload_n 1, 0)]) (lSa_ok dd20) rfl ?_
          obtain ⟨_, o66, e65, m67, h⟩ := gOb_inv h
          refine Y.callI (yC.Vi (b := x56) (As := [.int v64, .int x57]) (st := []) (r := ("PartlisterModel", T_M, 9)) hV.1.1 cb_M_endParts lk_M_103 in_M_endParts rfl se_M_endParts (lIa_ok dd21) rfl rfl (Nat.le_of_ble_eq_true rfl) (by decide) e65 m67) (k_M_endParts hV.1 G63 x56 v64 x57) h (fun v69 G68 _ h => ?_)
          refine Y.blk (pc' := 128) (L' := [some (.ref x56), some (.int x57), none, none, some (.int x58), none]) (st' := [.int x57, .ref x56, .ref x56]) (sg := [(.pop, 0), (.aload_n 0, 0), (.aload_n 0, 0), (.iload_n 1, 0)]) (lSa_ok dd22) rfl ?_
          obtain ⟨_, o71, e70, m72, h⟩ := gOb_inv h
          refine Y.callI (yC.Vi (b := x56) (As := [.int x57]) (st := [.ref x56]) (r := ("PartlisterModel", T_M, 9)) hV.1.1 cb_M_rowOf lk_M_47 in_M_rowOf rfl se_M_rowOf (lIa_ok dd23) rfl rfl (Nat.le_of_ble_eq_true rfl) (by decide) e70 m72) (k_M_rowOf zDp hV.1 G68 x56 x57) h (fun v74 G73 _ h => ?_)
          obtain ⟨_, o76, e75, m77, h⟩ := gOb_inv h
          refine Y.callN (yC.Vi (b := x56) (As := [.int v74]) (st := []) (r := ("PartlisterModel", T_M, 9)) hV.1.1 cb_M_endCursors lk_M_177 in_M_endCursors rfl se_M_endCursors (lIa_ok dd24) rfl rfl (Nat.le_of_ble_eq_true rfl) (by decide) e75 m77) (k_M_endCursors hV.1 G73 x56 v74) h (fun G78 _ h => ?_)
          refine Y.blk (pc' := 136) (L' := [some (.ref x56), some (.int x57), none, none, some (.int x58), none]) (st' := [.int x58]) (sg := [(.iload 4, 0)]) (lSa_ok dd25) rfl ?_
          exact Y.iret rfl (lIa_ok dd26) h
      · refine Y.blk (pc' := 36) (L' := [some (.ref a0), some (.int a1), some (.int a2), none, none, none]) (st' := [.int (nI 0)]) (sg := [(.iconst 0, nI 0)]) (lSa_ok dd27) rfl ?_
        exact Y.iret rfl (lIa_ok dd28) h
    · refine Y.blk (pc' := 29) (L' := [some (.ref a0), some (.int a1), some (.int a2), none, none, none]) (st' := [.int (nI 2), .int (nI 0), .ref a0]) (sg := [(.iconst 0, nI 0), (.iconst 2, nI 2)]) (lSa_ok dd29) rfl ?_
      obtain ⟨_, o81, e80, m82, h⟩ := gOb_inv h
      refine Y.callI (yC.Vi (b := a0) (As := [.int (nI 0), .int (nI 2)]) (st := []) (r := ("PartlisterModel", T_M, 9)) hV.1.1 cb_M_refuse lk_M_36 in_M_refuse rfl se_M_refuse (lIa_ok dd11) rfl rfl (Nat.le_of_ble_eq_true rfl) (by decide) e80 m82) (k_M_refuse hV.1 G12 a0 (nI 0) (nI 2)) h (fun v84 G83 _ h => ?_)
      refine Y.if_eq (off := 5) (tgt := 37) (lIa_ok dd12) (by decide) h (fun c115 h => ?_) (fun c115 h => ?_)
      · refine Y.blk (pc' := 39) (L' := [some (.ref a0), some (.int a1), some (.int a2), none, none, none]) (st' := [.int a1, .ref a0]) (sg := [(.aload_n 0, 0), (.iload_n 1, 0)]) (lSa_ok dd13) rfl ?_
        obtain ⟨_, o86, e85, m87, h⟩ := gOb_inv h
        refine Y.callA (yC.Vi (b := a0) (As := [.int a1]) (st := []) (r := ("PartlisterModel", T_M, 9)) hV.1.1 cb_M_copy lk_M_136 in_M_copy rfl se_M_copy (lIa_ok dd14) rfl rfl (Nat.le_of_ble_eq_true rfl) (by decide) e85 m87) (k_M_copy hV G83 a0 a1) h (fun v89 G88 _ h => ?_)
        refine Y.blk (pc' := 45) (L' := [some (.ref a0), some (.int a1), some (.int a2), some (.ref v89), none, none]) (st' := [.int a2, .ref v89]) (sg := [(.astore_n 3, 0), (.aload_n 3, 0), (.iload_n 2, 0)]) (lSa_ok dd15) rfl ?_
        refine Y.callN (yC.S (As := [.ref v89, .int a2]) (st := []) hV.1.1 cb_M_order lk_M_184 st_M_order (lIa_ok dd16) rfl rfl (Nat.le_of_ble_eq_true rfl) (by decide)) (k_M_order hV.1 G88 v89 a2) h (fun G91 _ h => ?_)
        refine Y.blk (pc' := 54) (L' := [some (.ref a0), some (.int a1), some (.int a2), some (.ref v89), some (.int (nI 0)), some (.int (nI 0))]) (st' := []) (sg := [(.iconst 0, nI 0), (.istore 4, 0), (.iconst 0, nI 0), (.istore 5, 0)]) (lSa_ok dd17) rfl ?_
        refine Y.less (L' := [some (.ref a0), some (.int a1), none, some (.ref v89), some (.int (nI 0)), some (.int (nI 0))]) (zLe_some (zLe_some (zLe_none (zLe_some (zLe_some (zLe_some (zLe_nil))))))) ?_
        refine k_M_sort_L54 hV _ ?_  zFu G91 a0 a1 v89 (nI 0) (nI 0) h
        · intro G95 x92 x93 x94 h
          refine Y.blk (pc' := 117) (L' := [some (.ref x92), some (.int x93), none, none, some (.int x94), none]) (st' := [.int x93, .ref x92, .ref x92]) (sg := [(.aload_n 0, 0), (.aload_n 0, 0), (.iload_n 1, 0)]) (lSa_ok dd18) rfl ?_
          obtain ⟨_, o97, e96, m98, h⟩ := gOb_inv h
          refine Y.callI (yC.Vi (b := x92) (As := [.int x93]) (st := [.ref x92]) (r := ("PartlisterModel", T_M, 9)) hV.1.1 cb_M_rowOf lk_M_47 in_M_rowOf rfl se_M_rowOf (lIa_ok dd19) rfl rfl (Nat.le_of_ble_eq_true rfl) (by decide) e96 m98) (k_M_rowOf zDp hV.1 G95 x92 x93) h (fun v100 G99 _ h => ?_)
          refine Y.blk (pc' := 121) (L' := [some (.ref x92), some (.int x93), none, none, some (.int x94), none]) (st' := [.int x93, .int v100, .ref x92]) (sg := [(.iload_n 1, 0)]) (lSa_ok dd20) rfl ?_
          obtain ⟨_, o102, e101, m103, h⟩ := gOb_inv h
          refine Y.callI (yC.Vi (b := x92) (As := [.int v100, .int x93]) (st := []) (r := ("PartlisterModel", T_M, 9)) hV.1.1 cb_M_endParts lk_M_103 in_M_endParts rfl se_M_endParts (lIa_ok dd21) rfl rfl (Nat.le_of_ble_eq_true rfl) (by decide) e101 m103) (k_M_endParts hV.1 G99 x92 v100 x93) h (fun v105 G104 _ h => ?_)
          refine Y.blk (pc' := 128) (L' := [some (.ref x92), some (.int x93), none, none, some (.int x94), none]) (st' := [.int x93, .ref x92, .ref x92]) (sg := [(.pop, 0), (.aload_n 0, 0), (.aload_n 0, 0), (.iload_n 1, 0)]) (lSa_ok dd22) rfl ?_
          obtain ⟨_, o107, e106, m108, h⟩ := gOb_inv h
          refine Y.callI (yC.Vi (b := x92) (As := [.int x93]) (st := [.ref x92]) (r := ("PartlisterModel", T_M, 9)) hV.1.1 cb_M_rowOf lk_M_47 in_M_rowOf rfl se_M_rowOf (lIa_ok dd23) rfl rfl (Nat.le_of_ble_eq_true rfl) (by decide) e106 m108) (k_M_rowOf zDp hV.1 G104 x92 x93) h (fun v110 G109 _ h => ?_)
          obtain ⟨_, o112, e111, m113, h⟩ := gOb_inv h
          refine Y.callN (yC.Vi (b := x92) (As := [.int v110]) (st := []) (r := ("PartlisterModel", T_M, 9)) hV.1.1 cb_M_endCursors lk_M_177 in_M_endCursors rfl se_M_endCursors (lIa_ok dd24) rfl rfl (Nat.le_of_ble_eq_true rfl) (by decide) e111 m113) (k_M_endCursors hV.1 G109 x92 v110) h (fun G114 _ h => ?_)
          refine Y.blk (pc' := 136) (L' := [some (.ref x92), some (.int x93), none, none, some (.int x94), none]) (st' := [.int x94]) (sg := [(.iload 4, 0)]) (lSa_ok dd25) rfl ?_
          exact Y.iret rfl (lIa_ok dd26) h
      · refine Y.blk (pc' := 36) (L' := [some (.ref a0), some (.int a1), some (.int a2), none, none, none]) (st' := [.int (nI 0)]) (sg := [(.iconst 0, nI 0)]) (lSa_ok dd27) rfl ?_
        exact Y.iret rfl (lIa_ok dd28) h
  · refine Y.blk (pc' := 36) (L' := [some (.ref a0), some (.int a1), some (.int a2), none, none, none]) (st' := [.int (nI 0)]) (sg := [(.iconst 0, nI 0)]) (lSa_ok dd27) rfl ?_
    exact Y.iret rfl (lIa_ok dd28) h
end
section
def f_M_spot_L51 (K78 : gH → Nat → Int32 → Int32 → Int32 → gR) : Nat → gH → Nat → Int32 → Int32 → Int32 → gR
  | 0, _, _, _, _, _ => none
  | n + 1, G, x0, x1, x2, x3 =>
    gOb G x0 6 fun o32 => bI (f_M_length G x0 x1) fun v35 G34 => if v35 ≤ x3 then K78 G34 x0 x1 x2 x3
    else gOb G34 x0 6 fun o37 => bA (f_M_at G34 x0 x1 x3) fun v40 G39 => gLd G39 v40 100 (nI 0) fun v41 => if x2 ≤ v41 then K78 G39 x0 x1 x2 x3
      else f_M_spot_L51 K78 n G39 x0 x1 x2 (x3 + (nI 1))
def f_M_spot (G : gH) (a0 : Nat) (a1 : Int32) (a2 : Int32) : gR :=
  gOb G a0 6 fun o2 => bI (f_M_isNoList G a0 a1) fun v5 G4 => gOb G4 a0 6 fun o7 => bI (f_M_start G4 a0 v5 (nI 1)) fun v10 G9 => if v10 = 0 then (gOb G9 a0 6 fun o12 => bI (f_M_isNoKey G9 a0 a2) fun v15 G14 => gOb G14 a0 6 fun o17 => bI (f_M_refuse G14 a0 v15 (nI 2)) fun v20 G19 => if v20 = 0 then (gOb G19 a0 6 fun o22 => bI (f_M_isSorted G19 a0 a1) fun v25 G24 => if v25 = 0 then (gOb G24 a0 6 fun o27 => bI (f_M_refuse G24 a0 (nI 1) (nI 3)) fun v30 G29 => if v30 = 0 then (f_M_spot_L51 (fun G48 x44 x45 x46 x47 => gOb G48 x44 6 fun o50 => bI (f_M_firstOf G48 x44 x45 x46) fun v53 G52 => if v53 = (-1) then rI x47 G52
            else rI (nI 99) G52) zFu G29 a0 a1 a2 (nI 0))
        else rI (nI 0) G29)
      else gOb G24 a0 6 fun o57 => bI (f_M_refuse G24 a0 (nI 0) (nI 3)) fun v60 G59 => if v60 = 0 then (f_M_spot_L51 (fun G65 x61 x62 x63 x64 => gOb G65 x61 6 fun o67 => bI (f_M_firstOf G65 x61 x62 x63) fun v70 G69 => if v70 = (-1) then rI x64 G69
            else rI (nI 99) G69) zFu G59 a0 a1 a2 (nI 0))
        else rI (nI 0) G59)
    else rI (nI 0) G19)
  else rI (nI 0) G9
theorem k_M_spot_L51 {l : Launch} {D : va_G} {B : Nat} {O : State → Heap → Prop} (hV : zG l D B O) {o : gO} {Gf : gH} (K78 : gH → Nat → Int32 → Int32 → Int32 → gR) (hK78 : ∀ (G : gH) (x0 : Nat) (x1 : Int32) (x2 : Int32) (x3 : Int32), K78 G x0 x1 x2 x3 = some (o, Gf) → Y (zVm l D B O) m_M_spot 14 o Gf 78 [some (.ref x0), some (.int x1), some (.int x2), some (.int x3)] [] G) : ∀ (n : Nat) (G : gH) (x0 : Nat) (x1 : Int32) (x2 : Int32) (x3 : Int32), f_M_spot_L51 K78 n G x0 x1 x2 x3 = some (o, Gf) → Y (zVm l D B O) m_M_spot 14 o Gf 51 [some (.ref x0), some (.int x1), some (.int x2), some (.int x3)] [] G := by
  have hdd : lSa m_M_spot 51 [(.iload_n 3, 0), (.aload_n 0, 0), (.iload_n 1, 0)] = true ∧ lIa m_M_spot 54 (.invokevirtual 74) 3 = true ∧ lIa m_M_spot 57 (.if_icmp .ge 21) 3 = true ∧ lSa m_M_spot 60 [(.aload_n 0, 0), (.iload_n 1, 0), (.iload_n 3, 0)] = true ∧ lIa m_M_spot 63 (.invokevirtual 132) 3 = true ∧ lSa m_M_spot 66 [(.iconst 0, nI 0)] = true ∧ lIa m_M_spot 67 (.iaload) 1 = true ∧ lSa m_M_spot 68 [(.iload_n 2, 0)] = true ∧ lIa m_M_spot 69 (.if_icmp .ge 9) 3 = true ∧ lSa m_M_spot 72 [(.iinc 3 1, nI 1)] = true ∧ lIa m_M_spot 75 (.goto (-24)) 3 = true := by decide +kernel
  refine lA8 hdd (fun dd0 dd1 dd2 dd3 dd4 dd5 dd6 dd7 hdd => ?_)
  obtain ⟨dd8, dd9, dd10⟩ := hdd
  intro n
  induction n with
  | zero => intro G x0 x1 x2 x3 h; cases h
  | succ n ih =>
    intro G x0 x1 x2 x3 h
    unfold f_M_spot_L51 at h
    refine Y.blk (pc' := 54) (L' := [some (.ref x0), some (.int x1), some (.int x2), some (.int x3)]) (st' := [.int x1, .ref x0, .int x3]) (sg := [(.iload_n 3, 0), (.aload_n 0, 0), (.iload_n 1, 0)]) (lSa_ok dd0) rfl ?_
    obtain ⟨_, o32, e31, m33, h⟩ := gOb_inv h
    refine Y.callI (yC.Vi (b := x0) (As := [.int x1]) (st := [.int x3]) (r := ("PartlisterModel", T_M, 9)) hV.1 cb_M_length lk_M_74 in_M_length rfl se_M_length (lIa_ok dd1) rfl rfl (Nat.le_of_ble_eq_true rfl) (by decide) e31 m33) (k_M_length hV G x0 x1) h (fun v35 G34 _ h => ?_)
    refine Y.ic_ge (off := 21) (tgt := 78) (lIa_ok dd2) (by decide) h (fun c43 h => ?_) (fun c43 h => ?_)
    · exact hK78 G34 x0 x1 x2 x3 h
    · refine Y.blk (pc' := 63) (L' := [some (.ref x0), some (.int x1), some (.int x2), some (.int x3)]) (st' := [.int x3, .int x1, .ref x0]) (sg := [(.aload_n 0, 0), (.iload_n 1, 0), (.iload_n 3, 0)]) (lSa_ok dd3) rfl ?_
      obtain ⟨_, o37, e36, m38, h⟩ := gOb_inv h
      refine Y.callA (yC.Vi (b := x0) (As := [.int x1, .int x3]) (st := []) (r := ("PartlisterModel", T_M, 9)) hV.1 cb_M_at lk_M_132 in_M_at rfl se_M_at (lIa_ok dd4) rfl rfl (Nat.le_of_ble_eq_true rfl) (by decide) e36 m38) (k_M_at hV G34 x0 x1 x3) h (fun v40 G39 _ h => ?_)
      refine Y.blk (pc' := 67) (L' := [some (.ref x0), some (.int x1), some (.int x2), some (.int x3)]) (st' := [.int (nI 0), .ref v40]) (sg := [(.iconst 0, nI 0)]) (lSa_ok dd5) rfl ?_
      refine Y.iald (t0 := 0) (lIa_ok dd6) rfl h (fun v41 h => ?_)
      refine Y.blk (pc' := 69) (L' := [some (.ref x0), some (.int x1), some (.int x2), some (.int x3)]) (st' := [.int x2, .int v41]) (sg := [(.iload_n 2, 0)]) (lSa_ok dd7) rfl ?_
      refine Y.ic_ge (off := 9) (tgt := 78) (lIa_ok dd8) (by decide) h (fun c42 h => ?_) (fun c42 h => ?_)
      · exact hK78 G39 x0 x1 x2 x3 h
      · refine Y.blk (pc' := 75) (L' := [some (.ref x0), some (.int x1), some (.int x2), some (.int (x3 + (nI 1)))]) (st' := []) (sg := [(.iinc 3 1, nI 1)]) (lSa_ok dd9) rfl ?_
        refine Y.goto (off := -24) (tgt := 51) (lIa_ok dd10) (by decide) ?_
        exact ih G39 x0 x1 x2 (x3 + (nI 1)) h
theorem k_M_spot {l : Launch} {D : va_G} {B : Nat} {O : State → Heap → Prop} (hV : zG l D B O) (G : gH) (a0 : Nat) (a1 : Int32) (a2 : Int32) : gMet (zVm l D B O) m_M_spot 14 [.ref a0, .int a1, .int a2] G (f_M_spot G a0 a1 a2) := by
  have hdd : lSa m_M_spot 0 [(.aload_n 0, 0), (.aload_n 0, 0), (.iload_n 1, 0)] = true ∧ lIa m_M_spot 3 (.invokevirtual 110) 3 = true ∧ lSa m_M_spot 6 [(.iconst 1, nI 1)] = true ∧ lIa m_M_spot 7 (.invokevirtual 114) 3 = true ∧ lIa m_M_spot 10 (.ifCond .ne 37) 3 = true ∧ lSa m_M_spot 13 [(.aload_n 0, 0), (.aload_n 0, 0), (.iload_n 2, 0)] = true ∧ lIa m_M_spot 16 (.invokevirtual 160) 3 = true ∧ lSa m_M_spot 19 [(.iconst 2, nI 2)] = true ∧ lIa m_M_spot 20 (.invokevirtual 36) 3 = true ∧ lIa m_M_spot 23 (.ifCond .ne 24) 3 = true ∧ lSa m_M_spot 26 [(.aload_n 0, 0), (.aload_n 0, 0), (.iload_n 1, 0)] = true ∧ lIa m_M_spot 29 (.invokevirtual 250) 3 = true ∧ lIa m_M_spot 32 (.ifCond .ne 7) 3 = true ∧ lSa m_M_spot 35 [(.iconst 1, nI 1)] = true ∧ lIa m_M_spot 36 (.goto 4) 3 = true ∧ lSa m_M_spot 40 [(.iconst 3, nI 3)] = true ∧ lIa m_M_spot 41 (.invokevirtual 36) 3 = true ∧ lIa m_M_spot 44 (.ifCond .eq 5) 3 = true ∧ lSa m_M_spot 49 [(.iconst 0, nI 0), (.istore_n 3, 0)] = true ∧ lSa m_M_spot 78 [(.aload_n 0, 0), (.iload_n 1, 0), (.iload_n 2, 0)] = true ∧ lIa m_M_spot 81 (.invokevirtual 163) 3 = true ∧ lSa m_M_spot 84 [(.iconst (-1), -1)] = true ∧ lIa m_M_spot 85 (.if_icmp .ne 7) 3 = true ∧ lSa m_M_spot 88 [(.iload_n 3, 0)] = true ∧ lIa m_M_spot 89 (.goto 5) 3 = true ∧ lIa m_M_spot 94 (.ireturn) 1 = true ∧ lSa m_M_spot 92 [(.bipush 99, nI 99)] = true ∧ lSa m_M_spot 47 [(.iconst 0, nI 0)] = true ∧ lIa m_M_spot 48 (.ireturn) 1 = true ∧ lSa m_M_spot 39 [(.iconst 0, nI 0), (.iconst 3, nI 3)] = true := by decide +kernel
  refine lA8 hdd (fun dd0 dd1 dd2 dd3 dd4 dd5 dd6 dd7 hdd => ?_)
  refine lA8 hdd (fun dd8 dd9 dd10 dd11 dd12 dd13 dd14 dd15 hdd => ?_)
  refine lA8 hdd (fun dd16 dd17 dd18 dd19 dd20 dd21 dd22 dd23 hdd => ?_)
  obtain ⟨dd24, dd25, dd26, dd27, dd28, dd29⟩ := hdd
  refine gMet.of (by decide +kernel) (Nat.le_of_ble_eq_true rfl) [some (.ref a0), some (.int a1), some (.int a2), none] (fun ls h => zEn_ok (n := 4) h) ?_
  intro o Gf h
  unfold f_M_spot at h
  refine Y.blk (pc' := 3) (L' := [some (.ref a0), some (.int a1), some (.int a2), none]) (st' := [.int a1, .ref a0, .ref a0]) (sg := [(.aload_n 0, 0), (.aload_n 0, 0), (.iload_n 1, 0)]) (lSa_ok dd0) rfl ?_
  obtain ⟨_, o2, e1, m3, h⟩ := gOb_inv h
  refine Y.callI (yC.Vi (b := a0) (As := [.int a1]) (st := [.ref a0]) (r := ("PartlisterModel", T_M, 9)) hV.1 cb_M_isNoList lk_M_110 in_M_isNoList rfl se_M_isNoList (lIa_ok dd1) rfl rfl (Nat.le_of_ble_eq_true rfl) (by decide) e1 m3) (k_M_isNoList hV G a0 a1) h (fun v5 G4 _ h => ?_)
  refine Y.blk (pc' := 7) (L' := [some (.ref a0), some (.int a1), some (.int a2), none]) (st' := [.int (nI 1), .int v5, .ref a0]) (sg := [(.iconst 1, nI 1)]) (lSa_ok dd2) rfl ?_
  obtain ⟨_, o7, e6, m8, h⟩ := gOb_inv h
  refine Y.callI (yC.Vi (b := a0) (As := [.int v5, .int (nI 1)]) (st := []) (r := ("PartlisterModel", T_M, 9)) hV.1 cb_M_start lk_M_114 in_M_start rfl se_M_start (lIa_ok dd3) rfl rfl (Nat.le_of_ble_eq_true rfl) (by decide) e6 m8) (k_M_start hV G4 a0 v5 (nI 1)) h (fun v10 G9 _ h => ?_)
  refine Y.if_ne (off := 37) (tgt := 47) (lIa_ok dd4) (by decide) h (fun c75 h => ?_) (fun c75 h => ?_)
  · refine Y.blk (pc' := 16) (L' := [some (.ref a0), some (.int a1), some (.int a2), none]) (st' := [.int a2, .ref a0, .ref a0]) (sg := [(.aload_n 0, 0), (.aload_n 0, 0), (.iload_n 2, 0)]) (lSa_ok dd5) rfl ?_
    obtain ⟨_, o12, e11, m13, h⟩ := gOb_inv h
    refine Y.callI (yC.Vi (b := a0) (As := [.int a2]) (st := [.ref a0]) (r := ("PartlisterModel", T_M, 9)) hV.1 cb_M_isNoKey lk_M_160 in_M_isNoKey rfl se_M_isNoKey (lIa_ok dd6) rfl rfl (Nat.le_of_ble_eq_true rfl) (by decide) e11 m13) (k_M_isNoKey hV G9 a0 a2) h (fun v15 G14 _ h => ?_)
    refine Y.blk (pc' := 20) (L' := [some (.ref a0), some (.int a1), some (.int a2), none]) (st' := [.int (nI 2), .int v15, .ref a0]) (sg := [(.iconst 2, nI 2)]) (lSa_ok dd7) rfl ?_
    obtain ⟨_, o17, e16, m18, h⟩ := gOb_inv h
    refine Y.callI (yC.Vi (b := a0) (As := [.int v15, .int (nI 2)]) (st := []) (r := ("PartlisterModel", T_M, 9)) hV.1 cb_M_refuse lk_M_36 in_M_refuse rfl se_M_refuse (lIa_ok dd8) rfl rfl (Nat.le_of_ble_eq_true rfl) (by decide) e16 m18) (k_M_refuse hV G14 a0 v15 (nI 2)) h (fun v20 G19 _ h => ?_)
    refine Y.if_ne (off := 24) (tgt := 47) (lIa_ok dd9) (by decide) h (fun c74 h => ?_) (fun c74 h => ?_)
    · refine Y.blk (pc' := 29) (L' := [some (.ref a0), some (.int a1), some (.int a2), none]) (st' := [.int a1, .ref a0, .ref a0]) (sg := [(.aload_n 0, 0), (.aload_n 0, 0), (.iload_n 1, 0)]) (lSa_ok dd10) rfl ?_
      obtain ⟨_, o22, e21, m23, h⟩ := gOb_inv h
      refine Y.callI (yC.Vi (b := a0) (As := [.int a1]) (st := [.ref a0]) (r := ("PartlisterModel", T_M, 9)) hV.1 cb_M_isSorted lk_M_250 in_M_isSorted rfl se_M_isSorted (lIa_ok dd11) rfl rfl (Nat.le_of_ble_eq_true rfl) (by decide) e21 m23) (k_M_isSorted hV G19 a0 a1) h (fun v25 G24 _ h => ?_)
      refine Y.if_ne (off := 7) (tgt := 39) (lIa_ok dd12) (by decide) h (fun c73 h => ?_) (fun c73 h => ?_)
      · refine Y.blk (pc' := 36) (L' := [some (.ref a0), some (.int a1), some (.int a2), none]) (st' := [.int (nI 1), .ref a0]) (sg := [(.iconst 1, nI 1)]) (lSa_ok dd13) rfl ?_
        refine Y.goto (off := 4) (tgt := 40) (lIa_ok dd14) (by decide) ?_
        refine Y.blk (pc' := 41) (L' := [some (.ref a0), some (.int a1), some (.int a2), none]) (st' := [.int (nI 3), .int (nI 1), .ref a0]) (sg := [(.iconst 3, nI 3)]) (lSa_ok dd15) rfl ?_
        obtain ⟨_, o27, e26, m28, h⟩ := gOb_inv h
        refine Y.callI (yC.Vi (b := a0) (As := [.int (nI 1), .int (nI 3)]) (st := []) (r := ("PartlisterModel", T_M, 9)) hV.1 cb_M_refuse lk_M_36 in_M_refuse rfl se_M_refuse (lIa_ok dd16) rfl rfl (Nat.le_of_ble_eq_true rfl) (by decide) e26 m28) (k_M_refuse hV G24 a0 (nI 1) (nI 3)) h (fun v30 G29 _ h => ?_)
        refine Y.if_eq (off := 5) (tgt := 49) (lIa_ok dd17) (by decide) h (fun c55 h => ?_) (fun c55 h => ?_)
        · refine Y.blk (pc' := 51) (L' := [some (.ref a0), some (.int a1), some (.int a2), some (.int (nI 0))]) (st' := []) (sg := [(.iconst 0, nI 0), (.istore_n 3, 0)]) (lSa_ok dd18) rfl ?_
          refine k_M_spot_L51 hV _ ?_  zFu G29 a0 a1 a2 (nI 0) h
          · intro G48 x44 x45 x46 x47 h
            refine Y.blk (pc' := 81) (L' := [some (.ref x44), some (.int x45), some (.int x46), some (.int x47)]) (st' := [.int x46, .int x45, .ref x44]) (sg := [(.aload_n 0, 0), (.iload_n 1, 0), (.iload_n 2, 0)]) (lSa_ok dd19) rfl ?_
            obtain ⟨_, o50, e49, m51, h⟩ := gOb_inv h
            refine Y.callI (yC.Vi (b := x44) (As := [.int x45, .int x46]) (st := []) (r := ("PartlisterModel", T_M, 9)) hV.1 cb_M_firstOf lk_M_163 in_M_firstOf rfl se_M_firstOf (lIa_ok dd20) rfl rfl (Nat.le_of_ble_eq_true rfl) (by decide) e49 m51) (k_M_firstOf hV G48 x44 x45 x46) h (fun v53 G52 _ h => ?_)
            refine Y.blk (pc' := 85) (L' := [some (.ref x44), some (.int x45), some (.int x46), some (.int x47)]) (st' := [.int (-1), .int v53]) (sg := [(.iconst (-1), -1)]) (lSa_ok dd21) rfl ?_
            refine Y.ic_ne (off := 7) (tgt := 92) (lIa_ok dd22) (by decide) h (fun c54 h => ?_) (fun c54 h => ?_)
            · refine Y.blk (pc' := 89) (L' := [some (.ref x44), some (.int x45), some (.int x46), some (.int x47)]) (st' := [.int x47]) (sg := [(.iload_n 3, 0)]) (lSa_ok dd23) rfl ?_
              refine Y.goto (off := 5) (tgt := 94) (lIa_ok dd24) (by decide) ?_
              exact Y.iret rfl (lIa_ok dd25) h
            · refine Y.blk (pc' := 94) (L' := [some (.ref x44), some (.int x45), some (.int x46), some (.int x47)]) (st' := [.int (nI 99)]) (sg := [(.bipush 99, nI 99)]) (lSa_ok dd26) rfl ?_
              exact Y.iret rfl (lIa_ok dd25) h
        · refine Y.blk (pc' := 48) (L' := [some (.ref a0), some (.int a1), some (.int a2), none]) (st' := [.int (nI 0)]) (sg := [(.iconst 0, nI 0)]) (lSa_ok dd27) rfl ?_
          exact Y.iret rfl (lIa_ok dd28) h
      · refine Y.blk (pc' := 41) (L' := [some (.ref a0), some (.int a1), some (.int a2), none]) (st' := [.int (nI 3), .int (nI 0), .ref a0]) (sg := [(.iconst 0, nI 0), (.iconst 3, nI 3)]) (lSa_ok dd29) rfl ?_
        obtain ⟨_, o57, e56, m58, h⟩ := gOb_inv h
        refine Y.callI (yC.Vi (b := a0) (As := [.int (nI 0), .int (nI 3)]) (st := []) (r := ("PartlisterModel", T_M, 9)) hV.1 cb_M_refuse lk_M_36 in_M_refuse rfl se_M_refuse (lIa_ok dd16) rfl rfl (Nat.le_of_ble_eq_true rfl) (by decide) e56 m58) (k_M_refuse hV G24 a0 (nI 0) (nI 3)) h (fun v60 G59 _ h => ?_)
        refine Y.if_eq (off := 5) (tgt := 49) (lIa_ok dd17) (by decide) h (fun c72 h => ?_) (fun c72 h => ?_)
        · refine Y.blk (pc' := 51) (L' := [some (.ref a0), some (.int a1), some (.int a2), some (.int (nI 0))]) (st' := []) (sg := [(.iconst 0, nI 0), (.istore_n 3, 0)]) (lSa_ok dd18) rfl ?_
          refine k_M_spot_L51 hV _ ?_  zFu G59 a0 a1 a2 (nI 0) h
          · intro G65 x61 x62 x63 x64 h
            refine Y.blk (pc' := 81) (L' := [some (.ref x61), some (.int x62), some (.int x63), some (.int x64)]) (st' := [.int x63, .int x62, .ref x61]) (sg := [(.aload_n 0, 0), (.iload_n 1, 0), (.iload_n 2, 0)]) (lSa_ok dd19) rfl ?_
            obtain ⟨_, o67, e66, m68, h⟩ := gOb_inv h
            refine Y.callI (yC.Vi (b := x61) (As := [.int x62, .int x63]) (st := []) (r := ("PartlisterModel", T_M, 9)) hV.1 cb_M_firstOf lk_M_163 in_M_firstOf rfl se_M_firstOf (lIa_ok dd20) rfl rfl (Nat.le_of_ble_eq_true rfl) (by decide) e66 m68) (k_M_firstOf hV G65 x61 x62 x63) h (fun v70 G69 _ h => ?_)
            refine Y.blk (pc' := 85) (L' := [some (.ref x61), some (.int x62), some (.int x63), some (.int x64)]) (st' := [.int (-1), .int v70]) (sg := [(.iconst (-1), -1)]) (lSa_ok dd21) rfl ?_
            refine Y.ic_ne (off := 7) (tgt := 92) (lIa_ok dd22) (by decide) h (fun c71 h => ?_) (fun c71 h => ?_)
            · refine Y.blk (pc' := 89) (L' := [some (.ref x61), some (.int x62), some (.int x63), some (.int x64)]) (st' := [.int x64]) (sg := [(.iload_n 3, 0)]) (lSa_ok dd23) rfl ?_
              refine Y.goto (off := 5) (tgt := 94) (lIa_ok dd24) (by decide) ?_
              exact Y.iret rfl (lIa_ok dd25) h
            · refine Y.blk (pc' := 94) (L' := [some (.ref x61), some (.int x62), some (.int x63), some (.int x64)]) (st' := [.int (nI 99)]) (sg := [(.bipush 99, nI 99)]) (lSa_ok dd26) rfl ?_
              exact Y.iret rfl (lIa_ok dd25) h
        · refine Y.blk (pc' := 48) (L' := [some (.ref a0), some (.int a1), some (.int a2), none]) (st' := [.int (nI 0)]) (sg := [(.iconst 0, nI 0)]) (lSa_ok dd27) rfl ?_
          exact Y.iret rfl (lIa_ok dd28) h
    · refine Y.blk (pc' := 48) (L' := [some (.ref a0), some (.int a1), some (.int a2), none]) (st' := [.int (nI 0)]) (sg := [(.iconst 0, nI 0)]) (lSa_ok dd27) rfl ?_
      exact Y.iret rfl (lIa_ok dd28) h
  · refine Y.blk (pc' := 48) (L' := [some (.ref a0), some (.int a1), some (.int a2), none]) (st' := [.int (nI 0)]) (sg := [(.iconst 0, nI 0)]) (lSa_ok dd27) rfl ?_
    exact Y.iret rfl (lIa_ok dd28) h

def f_M_tag (G : gH) (a0 : Nat) (a1 : Int32) (a2 : Int32) : gR :=
  gOb G a0 6 fun o2 => bI (f_M_isNoList G a0 a1) fun v5 G4 => if v5 = 0 then (gOb G4 a0 6 fun o7 => bI (f_M_isNoPlace G4 a0 a1 a2) fun v10 G9 => if v10 = 0 then (gOb G9 a0 6 fun o12 => bI (f_M_start G9 a0 (nI 0) (nI 1)) fun v15 G14 => if v15 = 0 then gOb G14 a0 6 fun o17 => bA (f_M_at G14 a0 a1 a2) fun v20 G19 => gLd G19 v20 100 (nI 1) fun v21 => rI v21 G19
      else rI (nI 0) G14)
    else gOb G9 a0 6 fun o24 => bI (f_M_start G9 a0 (nI 1) (nI 1)) fun v27 G26 => if v27 = 0 then gOb G26 a0 6 fun o29 => bA (f_M_at G26 a0 a1 a2) fun v32 G31 => gLd G31 v32 100 (nI 1) fun v33 => rI v33 G31
      else rI (nI 0) G26)
  else gOb G4 a0 6 fun o37 => bI (f_M_start G4 a0 (nI 1) (nI 1)) fun v40 G39 => if v40 = 0 then gOb G39 a0 6 fun o42 => bA (f_M_at G39 a0 a1 a2) fun v45 G44 => gLd G44 v45 100 (nI 1) fun v46 => rI v46 G44
    else rI (nI 0) G39
theorem k_M_tag {l : Launch} {D : va_G} {B : Nat} {O : State → Heap → Prop} (hV : zG l D B O) (G : gH) (a0 : Nat) (a1 : Int32) (a2 : Int32) : gMet (zVm l D B O) m_M_tag 13 [.ref a0, .int a1, .int a2] G (f_M_tag G a0 a1 a2) := by
  have hdd : lSa m_M_tag 0 [(.aload_n 0, 0), (.aload_n 0, 0), (.iload_n 1, 0)] = true ∧ lIa m_M_tag 3 (.invokevirtual 110) 3 = true ∧ lIa m_M_tag 6 (.ifCond .ne 12) 3 = true ∧ lSa m_M_tag 9 [(.aload_n 0, 0), (.iload_n 1, 0), (.iload_n 2, 0)] = true ∧ lIa m_M_tag 12 (.invokevirtual 147) 3 = true ∧ lIa m_M_tag 15 (.ifCond .eq 7) 3 = true ∧ lSa m_M_tag 22 [(.iconst 0, nI 0), (.iconst 1, nI 1)] = true ∧ lIa m_M_tag 24 (.invokevirtual 114) 3 = true ∧ lIa m_M_tag 27 (.ifCond .eq 7) 3 = true ∧ lSa m_M_tag 34 [(.aload_n 0, 0), (.iload_n 1, 0), (.iload_n 2, 0)] = true ∧ lIa m_M_tag 37 (.invokevirtual 132) 3 = true ∧ lSa m_M_tag 40 [(.iconst 1, nI 1)] = true ∧ lIa m_M_tag 41 (.iaload) 1 = true ∧ lIa m_M_tag 42 (.ireturn) 1 = true ∧ lSa m_M_tag 30 [(.iconst 0, nI 0)] = true ∧ lIa m_M_tag 31 (.goto 11) 3 = true ∧ lSa m_M_tag 18 [(.iconst 1, nI 1)] = true ∧ lIa m_M_tag 19 (.goto 4) 3 = true ∧ lSa m_M_tag 23 [(.iconst 1, nI 1)] = true := by decide +kernel
  refine lA8 hdd (fun dd0 dd1 dd2 dd3 dd4 dd5 dd6 dd7 hdd => ?_)
  refine lA8 hdd (fun dd8 dd9 dd10 dd11 dd12 dd13 dd14 dd15 hdd => ?_)
  obtain ⟨dd16, dd17, dd18⟩ := hdd
  refine gMet.of (by decide +kernel) (Nat.le_of_ble_eq_true rfl) [some (.ref a0), some (.int a1), some (.int a2)] (fun ls h => zEn_ok (n := 3) h) ?_
  intro o Gf h
  unfold f_M_tag at h
  refine Y.blk (pc' := 3) (L' := [some (.ref a0), some (.int a1), some (.int a2)]) (st' := [.int a1, .ref a0, .ref a0]) (sg := [(.aload_n 0, 0), (.aload_n 0, 0), (.iload_n 1, 0)]) (lSa_ok dd0) rfl ?_
  obtain ⟨_, o2, e1, m3, h⟩ := gOb_inv h
  refine Y.callI (yC.Vi (b := a0) (As := [.int a1]) (st := [.ref a0]) (r := ("PartlisterModel", T_M, 9)) hV.1 cb_M_isNoList lk_M_110 in_M_isNoList rfl se_M_isNoList (lIa_ok dd1) rfl rfl (Nat.le_of_ble_eq_true rfl) (by decide) e1 m3) (k_M_isNoList hV G a0 a1) h (fun v5 G4 _ h => ?_)
  refine Y.if_ne (off := 12) (tgt := 18) (lIa_ok dd2) (by decide) h (fun c48 h => ?_) (fun c48 h => ?_)
  · refine Y.blk (pc' := 12) (L' := [some (.ref a0), some (.int a1), some (.int a2)]) (st' := [.int a2, .int a1, .ref a0, .ref a0]) (sg := [(.aload_n 0, 0), (.iload_n 1, 0), (.iload_n 2, 0)]) (lSa_ok dd3) rfl ?_
    obtain ⟨_, o7, e6, m8, h⟩ := gOb_inv h
    refine Y.callI (yC.Vi (b := a0) (As := [.int a1, .int a2]) (st := [.ref a0]) (r := ("PartlisterModel", T_M, 9)) hV.1 cb_M_isNoPlace lk_M_147 in_M_isNoPlace rfl se_M_isNoPlace (lIa_ok dd4) rfl rfl (Nat.le_of_ble_eq_true rfl) (by decide) e6 m8) (k_M_isNoPlace hV G4 a0 a1 a2) h (fun v10 G9 _ h => ?_)
    refine Y.if_eq (off := 7) (tgt := 22) (lIa_ok dd5) (by decide) h (fun c35 h => ?_) (fun c35 h => ?_)
    · refine Y.blk (pc' := 24) (L' := [some (.ref a0), some (.int a1), some (.int a2)]) (st' := [.int (nI 1), .int (nI 0), .ref a0]) (sg := [(.iconst 0, nI 0), (.iconst 1, nI 1)]) (lSa_ok dd6) rfl ?_
      obtain ⟨_, o12, e11, m13, h⟩ := gOb_inv h
      refine Y.callI (yC.Vi (b := a0) (As := [.int (nI 0), .int (nI 1)]) (st := []) (r := ("PartlisterModel", T_M, 9)) hV.1 cb_M_start lk_M_114 in_M_start rfl se_M_start (lIa_ok dd7) rfl rfl (Nat.le_of_ble_eq_true rfl) (by decide) e11 m13) (k_M_start hV G9 a0 (nI 0) (nI 1)) h (fun v15 G14 _ h => ?_)
      refine Y.if_eq (off := 7) (tgt := 34) (lIa_ok dd8) (by decide) h (fun c22 h => ?_) (fun c22 h => ?_)
      · refine Y.blk (pc' := 37) (L' := [some (.ref a0), some (.int a1), some (.int a2)]) (st' := [.int a2, .int a1, .ref a0]) (sg := [(.aload_n 0, 0), (.iload_n 1, 0), (.iload_n 2, 0)]) (lSa_ok dd9) rfl ?_
        obtain ⟨_, o17, e16, m18, h⟩ := gOb_inv h
        refine Y.callA (yC.Vi (b := a0) (As := [.int a1, .int a2]) (st := []) (r := ("PartlisterModel", T_M, 9)) hV.1 cb_M_at lk_M_132 in_M_at rfl se_M_at (lIa_ok dd10) rfl rfl (Nat.le_of_ble_eq_true rfl) (by decide) e16 m18) (k_M_at hV G14 a0 a1 a2) h (fun v20 G19 _ h => ?_)
        refine Y.blk (pc' := 41) (L' := [some (.ref a0), some (.int a1), some (.int a2)]) (st' := [.int (nI 1), .ref v20]) (sg := [(.iconst 1, nI 1)]) (lSa_ok dd11) rfl ?_
        refine Y.iald (t0 := 0) (lIa_ok dd12) rfl h (fun v21 h => ?_)
        exact Y.iret rfl (lIa_ok dd13) h
      · refine Y.blk (pc' := 31) (L' := [some (.ref a0), some (.int a1), some (.int a2)]) (st' := [.int (nI 0)]) (sg := [(.iconst 0, nI 0)]) (lSa_ok dd14) rfl ?_
        refine Y.goto (off := 11) (tgt := 42) (lIa_ok dd15) (by decide) ?_
        exact Y.iret rfl (lIa_ok dd13) h
    · refine Y.blk (pc' := 19) (L' := [some (.ref a0), some (.int a1), some (.int a2)]) (st' := [.int (nI 1), .ref a0]) (sg := [(.iconst 1, nI 1)]) (lSa_ok dd16) rfl ?_
      refine Y.goto (off := 4) (tgt := 23) (lIa_ok dd17) (by decide) ?_
      refine Y.blk (pc' := 24) (L' := [some (.ref a0), some (.int a1), some (.int a2)]) (st' := [.int (nI 1), .int (nI 1), .ref a0]) (sg := [(.iconst 1, nI 1)]) (lSa_ok dd18) rfl ?_
      obtain ⟨_, o24, e23, m25, h⟩ := gOb_inv h
      refine Y.callI (yC.Vi (b := a0) (As := [.int (nI 1), .int (nI 1)]) (st := []) (r := ("PartlisterModel", T_M, 9)) hV.1 cb_M_start lk_M_114 in_M_start rfl se_M_start (lIa_ok dd7) rfl rfl (Nat.le_of_ble_eq_true rfl) (by decide) e23 m25) (k_M_start hV G9 a0 (nI 1) (nI 1)) h (fun v27 G26 _ h => ?_)
      refine Y.if_eq (off := 7) (tgt := 34) (lIa_ok dd8) (by decide) h (fun c34 h => ?_) (fun c34 h => ?_)
      · refine Y.blk (pc' := 37) (L' := [some (.ref a0), some (.int a1), some (.int a2)]) (st' := [.int a2, .int a1, .ref a0]) (sg := [(.aload_n 0, 0), (.iload_n 1, 0), (.iload_n 2, 0)]) (lSa_ok dd9) rfl ?_
        obtain ⟨_, o29, e28, m30, h⟩ := gOb_inv h
        refine Y.callA (yC.Vi (b := a0) (As := [.int a1, .int a2]) (st := []) (r := ("PartlisterModel", T_M, 9)) hV.1 cb_M_at lk_M_132 in_M_at rfl se_M_at (lIa_ok dd10) rfl rfl (Nat.le_of_ble_eq_true rfl) (by decide) e28 m30) (k_M_at hV G26 a0 a1 a2) h (fun v32 G31 _ h => ?_)
        refine Y.blk (pc' := 41) (L' := [some (.ref a0), some (.int a1), some (.int a2)]) (st' := [.int (nI 1), .ref v32]) (sg := [(.iconst 1, nI 1)]) (lSa_ok dd11) rfl ?_
        refine Y.iald (t0 := 0) (lIa_ok dd12) rfl h (fun v33 h => ?_)
        exact Y.iret rfl (lIa_ok dd13) h
      · refine Y.blk (pc' := 31) (L' := [some (.ref a0), some (.int a1), some (.int a2)]) (st' := [.int (nI 0)]) (sg := [(.iconst 0, nI 0)]) (lSa_ok dd14) rfl ?_
        refine Y.goto (off := 11) (tgt := 42) (lIa_ok dd15) (by decide) ?_
        exact Y.iret rfl (lIa_ok dd13) h
  · refine Y.blk (pc' := 19) (L' := [some (.ref a0), some (.int a1), some (.int a2)]) (st' := [.int (nI 1), .ref a0]) (sg := [(.iconst 1, nI 1)]) (lSa_ok dd16) rfl ?_
    refine Y.goto (off := 4) (tgt := 23) (lIa_ok dd17) (by decide) ?_
    refine Y.blk (pc' := 24) (L' := [some (.ref a0), some (.int a1), some (.int a2)]) (st' := [.int (nI 1), .int (nI 1), .ref a0]) (sg := [(.iconst 1, nI 1)]) (lSa_ok dd18) rfl ?_
    obtain ⟨_, o37, e36, m38, h⟩ := gOb_inv h
    refine Y.callI (yC.Vi (b := a0) (As := [.int (nI 1), .int (nI 1)]) (st := []) (r := ("PartlisterModel", T_M, 9)) hV.1 cb_M_start lk_M_114 in_M_start rfl se_M_start (lIa_ok dd7) rfl rfl (Nat.le_of_ble_eq_true rfl) (by decide) e36 m38) (k_M_start hV G4 a0 (nI 1) (nI 1)) h (fun v40 G39 _ h => ?_)
    refine Y.if_eq (off := 7) (tgt := 34) (lIa_ok dd8) (by decide) h (fun c47 h => ?_) (fun c47 h => ?_)
    · refine Y.blk (pc' := 37) (L' := [some (.ref a0), some (.int a1), some (.int a2)]) (st' := [.int a2, .int a1, .ref a0]) (sg := [(.aload_n 0, 0), (.iload_n 1, 0), (.iload_n 2, 0)]) (lSa_ok dd9) rfl ?_
      obtain ⟨_, o42, e41, m43, h⟩ := gOb_inv h
      refine Y.callA (yC.Vi (b := a0) (As := [.int a1, .int a2]) (st := []) (r := ("PartlisterModel", T_M, 9)) hV.1 cb_M_at lk_M_132 in_M_at rfl se_M_at (lIa_ok dd10) rfl rfl (Nat.le_of_ble_eq_true rfl) (by decide) e41 m43) (k_M_at hV G39 a0 a1 a2) h (fun v45 G44 _ h => ?_)
      refine Y.blk (pc' := 41) (L' := [some (.ref a0), some (.int a1), some (.int a2)]) (st' := [.int (nI 1), .ref v45]) (sg := [(.iconst 1, nI 1)]) (lSa_ok dd11) rfl ?_
      refine Y.iald (t0 := 0) (lIa_ok dd12) rfl h (fun v46 h => ?_)
      exact Y.iret rfl (lIa_ok dd13) h
    · refine Y.blk (pc' := 31) (L' := [some (.ref a0), some (.int a1), some (.int a2)]) (st' := [.int (nI 0)]) (sg := [(.iconst 0, nI 0)]) (lSa_ok dd14) rfl ?_
      refine Y.goto (off := 11) (tgt := 42) (lIa_ok dd15) (by decide) ?_
      exact Y.iret rfl (lIa_ok dd13) h

def f_M_text (w : Nat → Nat) (G : gH) (a0 : Nat) (a1 : Int32) : gR :=
  gOb G a0 6 fun o2 => bI (f_M_isNoList G a0 a1) fun v5 G4 => gOb G4 a0 6 fun o7 => bI (f_M_start G4 a0 v5 (nI 1)) fun v10 G9 => if v10 = 0 then gOb G9 a0 6 fun o12 => bA (f_M_textOf w G9 a0 a1) fun v15 G14 => rA v15 G14
  else rA (w 5) G9
theorem k_M_text {l : Launch} {D : va_G} {B : Nat} {O : State → Heap → Prop} {w : Nat → Nat} (hV : zGw l D B O w) (G : gH) (a0 : Nat) (a1 : Int32) : gMet (zVm l D B O) m_M_text 14 [.ref a0, .int a1] G (f_M_text w G a0 a1) := by
  have hdd : lSa m_M_text 0 [(.aload_n 0, 0), (.aload_n 0, 0), (.iload_n 1, 0)] = true ∧ lIa m_M_text 3 (.invokevirtual 110) 3 = true ∧ lSa m_M_text 6 [(.iconst 1, nI 1)] = true ∧ lIa m_M_text 7 (.invokevirtual 114) 3 = true ∧ lIa m_M_text 10 (.ifCond .eq 9) 3 = true ∧ lSa m_M_text 19 [(.aload_n 0, 0), (.iload_n 1, 0)] = true ∧ lIa m_M_text 21 (.invokevirtual 283) 3 = true ∧ lIa m_M_text 24 (.areturn) 1 = true ∧ lIa m_M_text 13 (.ldc_w 263) 3 = true ∧ lIa m_M_text 16 (.goto 8) 3 = true := by decide +kernel
  refine lA8 hdd (fun dd0 dd1 dd2 dd3 dd4 dd5 dd6 dd7 hdd => ?_)
  obtain ⟨dd8, dd9⟩ := hdd
  refine gMet.of (by decide +kernel) (Nat.le_of_ble_eq_true rfl) [some (.ref a0), some (.int a1)] (fun ls h => zEn_ok (n := 2) h) ?_
  intro o Gf h
  unfold f_M_text at h
  refine Y.blk (pc' := 3) (L' := [some (.ref a0), some (.int a1)]) (st' := [.int a1, .ref a0, .ref a0]) (sg := [(.aload_n 0, 0), (.aload_n 0, 0), (.iload_n 1, 0)]) (lSa_ok dd0) rfl ?_
  obtain ⟨_, o2, e1, m3, h⟩ := gOb_inv h
  refine Y.callI (yC.Vi (b := a0) (As := [.int a1]) (st := [.ref a0]) (r := ("PartlisterModel", T_M, 9)) hV.1.1 cb_M_isNoList lk_M_110 in_M_isNoList rfl se_M_isNoList (lIa_ok dd1) rfl rfl (Nat.le_of_ble_eq_true rfl) (by decide) e1 m3) (k_M_isNoList hV.1 G a0 a1) h (fun v5 G4 _ h => ?_)
  refine Y.blk (pc' := 7) (L' := [some (.ref a0), some (.int a1)]) (st' := [.int (nI 1), .int v5, .ref a0]) (sg := [(.iconst 1, nI 1)]) (lSa_ok dd2) rfl ?_
  obtain ⟨_, o7, e6, m8, h⟩ := gOb_inv h
  refine Y.callI (yC.Vi (b := a0) (As := [.int v5, .int (nI 1)]) (st := []) (r := ("PartlisterModel", T_M, 9)) hV.1.1 cb_M_start lk_M_114 in_M_start rfl se_M_start (lIa_ok dd3) rfl rfl (Nat.le_of_ble_eq_true rfl) (by decide) e6 m8) (k_M_start hV.1 G4 a0 v5 (nI 1)) h (fun v10 G9 _ h => ?_)
  refine Y.if_eq (off := 9) (tgt := 19) (lIa_ok dd4) (by decide) h (fun c16 h => ?_) (fun c16 h => ?_)
  · refine Y.blk (pc' := 21) (L' := [some (.ref a0), some (.int a1)]) (st' := [.int a1, .ref a0]) (sg := [(.aload_n 0, 0), (.iload_n 1, 0)]) (lSa_ok dd5) rfl ?_
    obtain ⟨_, o12, e11, m13, h⟩ := gOb_inv h
    refine Y.callA (yC.Vi (b := a0) (As := [.int a1]) (st := []) (r := ("PartlisterModel", T_M, 9)) hV.1.1 cb_M_textOf lk_M_283 in_M_textOf rfl se_M_textOf (lIa_ok dd6) rfl rfl (Nat.le_of_ble_eq_true rfl) (by decide) e11 m13) (k_M_textOf hV G9 a0 a1) h (fun v15 G14 _ h => ?_)
    exact Y.aret rfl (by first | exact Or.inl ⟨_, rfl⟩ | exact Or.inr ⟨_, rfl⟩) (lIa_ok dd7) h
  · refine Y.ldcSW (fun U H h => (hV.2 U H h).2.2.2.2.2.1) (lIa_ok dd8) ?_
    refine Y.goto (off := 8) (tgt := 24) (lIa_ok dd9) (by decide) ?_
    exact Y.aret rfl (by first | exact Or.inl ⟨_, rfl⟩ | exact Or.inr ⟨_, rfl⟩) (lIa_ok dd7) h

def f_M_turn_L23 (w : Nat → Nat) (K59 : gH → Nat → gR) : Nat → gH → Nat → Int32 → Nat → Int32 → gR
  | 0, _, _, _, _, _ => none
  | n + 1, G, x0, x1, x2, x3 =>
    gOb G x2 9 fun o17 => bI (f_AL_size G x2) fun v20 G19 => if v20 ≤ x3 then K59 G19 x2
    else gOb G19 x2 9 fun o22 => bI (f_AL_size G19 x2) fun v25 G24 => gOb G24 x2 9 fun o27 => bA (f_AL_get G24 x2 ((v25 - (nI 1)) - x3)) fun v30 G29 => gCaA G29 v30 100 (gOb G29 x0 6 fun o32 => bA (f_M_write G29 x0 x1 x3 v30) fun v35 G34 => f_M_turn_L23 w K59 n G34 x0 x1 x2 (x3 + (nI 1)))
def f_M_turn (w : Nat → Nat) (G : gH) (a0 : Nat) (a1 : Int32) : gR :=
  gOb G a0 6 fun o2 => bI (f_M_isNoList G a0 a1) fun v5 G4 => gOb G4 a0 6 fun o7 => bI (f_M_start G4 a0 v5 (nI 1)) fun v10 G9 => if v10 = 0 then gOb G9 a0 6 fun o12 => bA (f_M_copy w G9 a0 a1) fun v15 G14 => f_M_turn_L23 w (fun G38 x37 => gOb G38 x37 9 fun o40 => bI (f_AL_size G38 x37) fun v43 G42 => rI v43 G42) zFu G14 a0 a1 v15 (nI 0)
  else rI (nI 0) G9
theorem k_M_turn_L23 {l : Launch} {D : va_G} {B : Nat} {O : State → Heap → Prop} {w : Nat → Nat} (hV : zGw l D B O w) {o : gO} {Gf : gH} (K59 : gH → Nat → gR) (hK59 : ∀ (G : gH) (x2 : Nat), K59 G x2 = some (o, Gf) → Y (zVm l D B O) m_M_turn 14 o Gf 59 [none, none, some (.ref x2), none] [] G) : ∀ (n : Nat) (G : gH) (x0 : Nat) (x1 : Int32) (x2 : Nat) (x3 : Int32), f_M_turn_L23 w K59 n G x0 x1 x2 x3 = some (o, Gf) → Y (zVm l D B O) m_M_turn 14 o Gf 23 [some (.ref x0), some (.int x1), some (.ref x2), some (.int x3)] [] G := by
  have hdd : lSa m_M_turn 23 [(.iload_n 3, 0), (.aload_n 2, 0)] = true ∧ lIa m_M_turn 25 (.invokevirtual 61) 3 = true ∧ lIa m_M_turn 28 (.if_icmp .ge 31) 3 = true ∧ lSa m_M_turn 31 [(.aload_n 0, 0), (.iload_n 1, 0), (.iload_n 3, 0), (.aload_n 2, 0), (.aload_n 2, 0)] = true ∧ lIa m_M_turn 36 (.invokevirtual 61) 3 = true ∧ lSa m_M_turn 39 [(.iconst 1, nI 1), (.isub, 0), (.iload_n 3, 0), (.isub, 0)] = true ∧ lIa m_M_turn 43 (.invokevirtual 57) 3 = true ∧ lIa m_M_turn 46 (.checkcast 72) 3 = true ∧ lIa m_M_turn 49 (.invokevirtual 150) 3 = true ∧ lSa m_M_turn 52 [(.pop, 0), (.iinc 3 1, nI 1)] = true ∧ lIa m_M_turn 56 (.goto (-33)) 3 = true := by decide +kernel
  refine lA8 hdd (fun dd0 dd1 dd2 dd3 dd4 dd5 dd6 dd7 hdd => ?_)
  obtain ⟨dd8, dd9, dd10⟩ := hdd
  intro n
  induction n with
  | zero => intro G x0 x1 x2 x3 h; cases h
  | succ n ih =>
    intro G x0 x1 x2 x3 h
    unfold f_M_turn_L23 at h
    refine Y.blk (pc' := 25) (L' := [some (.ref x0), some (.int x1), some (.ref x2), some (.int x3)]) (st' := [.ref x2, .int x3]) (sg := [(.iload_n 3, 0), (.aload_n 2, 0)]) (lSa_ok dd0) rfl ?_
    obtain ⟨_, o17, e16, m18, h⟩ := gOb_inv h
    refine Y.callI (yC.Vi (b := x2) (As := []) (st := [.int x3]) (r := ("java/util/ArrayList", T_AL, 3)) hV.1.1 cb_AL_size lk_M_61 in_AL_size rfl se_AL_size (lIa_ok dd1) rfl rfl (Nat.le_of_ble_eq_true rfl) (by decide) e16 m18) (k_AL_size hV.1 G x2) h (fun v20 G19 _ h => ?_)
    refine Y.ic_ge (off := 31) (tgt := 59) (lIa_ok dd2) (by decide) h (fun c36 h => ?_) (fun c36 h => ?_)
    · refine Y.less (L' := [none, none, some (.ref x2), none]) (zLe_none (zLe_none (zLe_some (zLe_none (zLe_nil))))) ?_
      exact hK59 G19 x2 h
    · refine Y.blk (pc' := 36) (L' := [some (.ref x0), some (.int x1), some (.ref x2), some (.int x3)]) (st' := [.ref x2, .ref x2, .int x3, .int x1, .ref x0]) (sg := [(.aload_n 0, 0), (.iload_n 1, 0), (.iload_n 3, 0), (.aload_n 2, 0), (.aload_n 2, 0)]) (lSa_ok dd3) rfl ?_
      obtain ⟨_, o22, e21, m23, h⟩ := gOb_inv h
      refine Y.callI (yC.Vi (b := x2) (As := []) (st := [.ref x2, .int x3, .int x1, .ref x0]) (r := ("java/util/ArrayList", T_AL, 3)) hV.1.1 cb_AL_size lk_M_61 in_AL_size rfl se_AL_size (lIa_ok dd4) rfl rfl (Nat.le_of_ble_eq_true rfl) (by decide) e21 m23) (k_AL_size hV.1 G19 x2) h (fun v25 G24 _ h => ?_)
      refine Y.blk (pc' := 43) (L' := [some (.ref x0), some (.int x1), some (.ref x2), some (.int x3)]) (st' := [.int ((v25 - (nI 1)) - x3), .ref x2, .int x3, .int x1, .ref x0]) (sg := [(.iconst 1, nI 1), (.isub, 0), (.iload_n 3, 0), (.isub, 0)]) (lSa_ok dd5) rfl ?_
      obtain ⟨_, o27, e26, m28, h⟩ := gOb_inv h
      refine Y.callA (yC.Vi (b := x2) (As := [.int ((v25 - (nI 1)) - x3)]) (st := [.int x3, .int x1, .ref x0]) (r := ("java/util/ArrayList", T_AL, 3)) hV.1.1 cb_AL_get lk_M_57 in_AL_get rfl se_AL_get (lIa_ok dd6) rfl rfl (Nat.le_of_ble_eq_true rfl) (by decide) e26 m28) (k_AL_get hV.1 G24 x2 ((v25 - (nI 1)) - x3)) h (fun v30 G29 _ h => ?_)
      refine Y.castA (t0 := 0) (nm := "[I") (lIa_ok dd7) rfl (by decide) ck_M_72 h (fun h => ?_)
      obtain ⟨_, o32, e31, m33, h⟩ := gOb_inv h
      refine Y.callA (yC.Vi (b := x0) (As := [.int x1, .int x3, .ref v30]) (st := []) (r := ("PartlisterModel", T_M, 9)) hV.1.1 cb_M_write lk_M_150 in_M_write rfl se_M_write (lIa_ok dd8) rfl rfl (Nat.le_of_ble_eq_true rfl) (by decide) e31 m33) (k_M_write hV.1 G29 x0 x1 x3 v30) h (fun v35 G34 _ h => ?_)
      refine Y.blk (pc' := 56) (L' := [some (.ref x0), some (.int x1), some (.ref x2), some (.int (x3 + (nI 1)))]) (st' := []) (sg := [(.pop, 0), (.iinc 3 1, nI 1)]) (lSa_ok dd9) rfl ?_
      refine Y.goto (off := -33) (tgt := 23) (lIa_ok dd10) (by decide) ?_
      exact ih G34 x0 x1 x2 (x3 + (nI 1)) h
theorem k_M_turn {l : Launch} {D : va_G} {B : Nat} {O : State → Heap → Prop} {w : Nat → Nat} (hV : zGw l D B O w) (G : gH) (a0 : Nat) (a1 : Int32) : gMet (zVm l D B O) m_M_turn 14 [.ref a0, .int a1] G (f_M_turn w G a0 a1) := by
  have hdd : lSa m_M_turn 0 [(.aload_n 0, 0), (.aload_n 0, 0), (.iload_n 1, 0)] = true ∧ lIa m_M_turn 3 (.invokevirtual 110) 3 = true ∧ lSa m_M_turn 6 [(.iconst 1, nI 1)] = true ∧ lIa m_M_turn 7 (.invokevirtual 114) 3 = true ∧ lIa m_M_turn 10 (.ifCond .eq 5) 3 = true ∧ lSa m_M_turn 15 [(.aload_n 0, 0), (.iload_n 1, 0)] = true ∧ lIa m_M_turn 17 (.invokevirtual 136) 3 = true ∧ lSa m_M_turn 20 [(.astore_n 2, 0), (.iconst 0, nI 0), (.istore_n 3, 0)] = true ∧ lSa m_M_turn 59 [(.aload_n 2, 0)] = true ∧ lIa m_M_turn 60 (.invokevirtual 61) 3 = true ∧ lIa m_M_turn 63 (.ireturn) 1 = true ∧ lSa m_M_turn 13 [(.iconst 0, nI 0)] = true ∧ lIa m_M_turn 14 (.ireturn) 1 = true := by decide +kernel
  refine lA8 hdd (fun dd0 dd1 dd2 dd3 dd4 dd5 dd6 dd7 hdd => ?_)
  obtain ⟨dd8, dd9, dd10, dd11, dd12⟩ := hdd
  refine gMet.of (by decide +kernel) (Nat.le_of_ble_eq_true rfl) [some (.ref a0), some (.int a1), none, none] (fun ls h => zEn_ok (n := 4) h) ?_
  intro o Gf h
  unfold f_M_turn at h
  refine Y.blk (pc' := 3) (L' := [some (.ref a0), some (.int a1), none, none]) (st' := [.int a1, .ref a0, .ref a0]) (sg := [(.aload_n 0, 0), (.aload_n 0, 0), (.iload_n 1, 0)]) (lSa_ok dd0) rfl ?_
  obtain ⟨_, o2, e1, m3, h⟩ := gOb_inv h
  refine Y.callI (yC.Vi (b := a0) (As := [.int a1]) (st := [.ref a0]) (r := ("PartlisterModel", T_M, 9)) hV.1.1 cb_M_isNoList lk_M_110 in_M_isNoList rfl se_M_isNoList (lIa_ok dd1) rfl rfl (Nat.le_of_ble_eq_true rfl) (by decide) e1 m3) (k_M_isNoList hV.1 G a0 a1) h (fun v5 G4 _ h => ?_)
  refine Y.blk (pc' := 7) (L' := [some (.ref a0), some (.int a1), none, none]) (st' := [.int (nI 1), .int v5, .ref a0]) (sg := [(.iconst 1, nI 1)]) (lSa_ok dd2) rfl ?_
  obtain ⟨_, o7, e6, m8, h⟩ := gOb_inv h
  refine Y.callI (yC.Vi (b := a0) (As := [.int v5, .int (nI 1)]) (st := []) (r := ("PartlisterModel", T_M, 9)) hV.1.1 cb_M_start lk_M_114 in_M_start rfl se_M_start (lIa_ok dd3) rfl rfl (Nat.le_of_ble_eq_true rfl) (by decide) e6 m8) (k_M_start hV.1 G4 a0 v5 (nI 1)) h (fun v10 G9 _ h => ?_)
  refine Y.if_eq (off := 5) (tgt := 15) (lIa_ok dd4) (by decide) h (fun c44 h => ?_) (fun c44 h => ?_)
  · refine Y.blk (pc' := 17) (L' := [some (.ref a0), some (.int a1), none, none]) (st' := [.int a1, .ref a0]) (sg := [(.aload_n 0, 0), (.iload_n 1, 0)]) (lSa_ok dd5) rfl ?_
    obtain ⟨_, o12, e11, m13, h⟩ := gOb_inv h
    refine Y.callA (yC.Vi (b := a0) (As := [.int a1]) (st := []) (r := ("PartlisterModel", T_M, 9)) hV.1.1 cb_M_copy lk_M_136 in_M_copy rfl se_M_copy (lIa_ok dd6) rfl rfl (Nat.le_of_ble_eq_true rfl) (by decide) e11 m13) (k_M_copy hV G9 a0 a1) h (fun v15 G14 _ h => ?_)
    refine Y.blk (pc' := 23) (L' := [some (.ref a0), some (.int a1), some (.ref v15), some (.int (nI 0))]) (st' := []) (sg := [(.astore_n 2, 0), (.iconst 0, nI 0), (.istore_n 3, 0)]) (lSa_ok dd7) rfl ?_
    refine k_M_turn_L23 hV _ ?_  zFu G14 a0 a1 v15 (nI 0) h
    · intro G38 x37 h
      refine Y.blk (pc' := 60) (L' := [none, none, some (.ref x37), none]) (st' := [.ref x37]) (sg := [(.aload_n 2, 0)]) (lSa_ok dd8) rfl ?_
      obtain ⟨_, o40, e39, m41, h⟩ := gOb_inv h
      refine Y.callI (yC.Vi (b := x37) (As := []) (st := []) (r := ("java/util/ArrayList", T_AL, 3)) hV.1.1 cb_AL_size lk_M_61 in_AL_size rfl se_AL_size (lIa_ok dd9) rfl rfl (Nat.le_of_ble_eq_true rfl) (by decide) e39 m41) (k_AL_size hV.1 G38 x37) h (fun v43 G42 _ h => ?_)
      exact Y.iret rfl (lIa_ok dd10) h
  · refine Y.blk (pc' := 14) (L' := [some (.ref a0), some (.int a1), none, none]) (st' := [.int (nI 0)]) (sg := [(.iconst 0, nI 0)]) (lSa_ok dd11) rfl ?_
    exact Y.iret rfl (lIa_ok dd12) h

def f_X_text_L32 (w : Nat → Nat) (K95 : gH → Nat → gR) : Nat → gH → Nat → Int32 → Int32 → Nat → Int32 → gR
  | 0, _, _, _, _, _, _ => none
  | n + 1, G, x0, x1, x2, x3, x4 =>
    if x2 ≤ x4 then K95 G x3
    else if x4 ≤ 0 then gFA G x0 3 0 fun v15 => gOb G v15 1 fun o17 => bI (f_I_thingAt G v15 x1 x4) fun v20 G19 => bI (f_X_keyOf G19 v20) fun v23 G22 => gOb G22 x3 10 fun o25 => bA (f_SB_append2 w G22 x3 v23) fun v28 G27 => gOb G27 x3 10 fun o30 => bA (f_SB_append1 w G27 x3 (nI 46)) fun v33 G32 => bI (f_X_tagOf G32 v20) fun v36 G35 => gOb G35 x3 10 fun o38 => bA (f_SB_append2 w G35 x3 v36) fun v41 G40 => f_X_text_L32 w K95 n G40 x0 x1 x2 x3 (x4 + (nI 1))
      else gOb G x3 10 fun o43 => bA (f_SB_append1 w G x3 (nI 44)) fun v46 G45 => gFA G45 x0 3 0 fun v47 => gOb G45 v47 1 fun o49 => bI (f_I_thingAt G45 v47 x1 x4) fun v52 G51 => bI (f_X_keyOf G51 v52) fun v55 G54 => gOb G54 x3 10 fun o57 => bA (f_SB_append2 w G54 x3 v55) fun v60 G59 => gOb G59 x3 10 fun o62 => bA (f_SB_append1 w G59 x3 (nI 46)) fun v65 G64 => bI (f_X_tagOf G64 v52) fun v68 G67 => gOb G67 x3 10 fun o70 => bA (f_SB_append2 w G67 x3 v68) fun v73 G72 => f_X_text_L32 w K95 n G72 x0 x1 x2 x3 (x4 + (nI 1))
def f_X_text (w : Nat → Nat) (G : gH) (a0 : Nat) (a1 : Int32) : gR :=
  gOb G a0 3 fun o2 => bV (f_X_needList G a0 a1) fun G4 => gFA G4 a0 3 0 fun v5 => gOb G4 v5 1 fun o7 => bI (f_I_lengthOf G4 v5 a1) fun v10 G9 => if v10 = 0 then rA (w 9) G9
  else gNewO G9 10 4 [.null, .int 0, .int 0, .int 0] fun q11 G12 => bV (f_SB_init w G12 q11) fun G14 => f_X_text_L32 w (fun G77 x76 => gOb G77 x76 10 fun o79 => bA (f_SB_toString w G77 x76) fun v82 G81 => rA v82 G81) zFu G14 a0 a1 v10 q11 (nI 0)
theorem k_X_text_L32 {l : Launch} {D : va_G} {B : Nat} {O : State → Heap → Prop} {w : Nat → Nat} (hV : zGw l D B O w) {o : gO} {Gf : gH} (K95 : gH → Nat → gR) (hK95 : ∀ (G : gH) (x3 : Nat), K95 G x3 = some (o, Gf) → Y (zVm l D B O) m_X_text 8 o Gf 95 [none, none, none, some (.ref x3), none, none] [] G) : ∀ (n : Nat) (G : gH) (x0 : Nat) (x1 : Int32) (x2 : Int32) (x3 : Nat) (x4 : Int32), f_X_text_L32 w K95 n G x0 x1 x2 x3 x4 = some (o, Gf) → Y (zVm l D B O) m_X_text 8 o Gf 32 [some (.ref x0), some (.int x1), some (.int x2), some (.ref x3), some (.int x4), none] [] G := by
  have hdd : lSa m_X_text 32 [(.iload 4, 0), (.iload_n 2, 0)] = true ∧ lIa m_X_text 35 (.if_icmp .ge 60) 3 = true ∧ lSa m_X_text 38 [(.iload 4, 0)] = true ∧ lIa m_X_text 40 (.ifCond .le 10) 3 = true ∧ lSa m_X_text 50 [(.aload_n 0, 0)] = true ∧ lIa m_X_text 51 (.getfield 10) 3 = true ∧ lSa m_X_text 54 [(.iload_n 1, 0), (.iload 4, 0)] = true ∧ lIa m_X_text 57 (.invokevirtual 94) 3 = true ∧ lSa m_X_text 60 [(.istore 5, 0), (.aload_n 3, 0), (.iload 5, 0)] = true ∧ lIa m_X_text 65 (.invokestatic 97) 3 = true ∧ lIa m_X_text 68 (.invokevirtual 229) 3 = true ∧ lSa m_X_text 71 [(.pop, 0), (.aload_n 3, 0), (.bipush 46, nI 46)] = true ∧ lIa m_X_text 75 (.invokevirtual 225) 3 = true ∧ lSa m_X_text 78 [(.pop, 0), (.aload_n 3, 0), (.iload 5, 0)] = true ∧ lIa m_X_text 82 (.invokestatic 48) 3 = true ∧ lIa m_X_text 85 (.invokevirtual 229) 3 = true ∧ lSa m_X_text 88 [(.pop, 0), (.iinc 4 1, nI 1)] = true ∧ lIa m_X_text 92 (.goto (-60)) 3 = true ∧ lSa m_X_text 43 [(.aload_n 3, 0), (.bipush 44, nI 44)] = true ∧ lIa m_X_text 46 (.invokevirtual 225) 3 = true ∧ lSa m_X_text 49 [(.pop, 0), (.aload_n 0, 0)] = true := by decide +kernel
  refine lA8 hdd (fun dd0 dd1 dd2 dd3 dd4 dd5 dd6 dd7 hdd => ?_)
  refine lA8 hdd (fun dd8 dd9 dd10 dd11 dd12 dd13 dd14 dd15 hdd => ?_)
  obtain ⟨dd16, dd17, dd18, dd19, dd20⟩ := hdd
  intro n
  induction n with
  | zero => intro G x0 x1 x2 x3 x4 h; cases h
  | succ n ih =>
    intro G x0 x1 x2 x3 x4 h
    unfold f_X_text_L32 at h
    refine Y.blk (pc' := 35) (L' := [some (.ref x0), some (.int x1), some (.int x2), some (.ref x3), some (.int x4), none]) (st' := [.int x2, .int x4]) (sg := [(.iload 4, 0), (.iload_n 2, 0)]) (lSa_ok dd0) rfl ?_
    refine Y.ic_ge (off := 60) (tgt := 95) (lIa_ok dd1) (by decide) h (fun c75 h => ?_) (fun c75 h => ?_)
    · refine Y.less (L' := [none, none, none, some (.ref x3), none, none]) (zLe_none (zLe_none (zLe_none (zLe_some (zLe_none (zLe_some (zLe_nil))))))) ?_
      exact hK95 G x3 h
    · refine Y.blk (pc' := 40) (L' := [some (.ref x0), some (.int x1), some (.int x2), some (.ref x3), some (.int x4), none]) (st' := [.int x4]) (sg := [(.iload 4, 0)]) (lSa_ok dd2) rfl ?_
      refine Y.if_le (off := 10) (tgt := 50) (lIa_ok dd3) (by decide) h (fun c74 h => ?_) (fun c74 h => ?_)
      · refine Y.blk (pc' := 51) (L' := [some (.ref x0), some (.int x1), some (.int x2), some (.ref x3), some (.int x4), none]) (st' := [.ref x0]) (sg := [(.aload_n 0, 0)]) (lSa_ok dd4) rfl ?_
        refine Y.getA fl_X_10 (lIa_ok dd5) h (fun v15 h => ?_)
        refine Y.blk (pc' := 57) (L' := [some (.ref x0), some (.int x1), some (.int x2), some (.ref x3), some (.int x4), none]) (st' := [.int x4, .int x1, .ref v15]) (sg := [(.iload_n 1, 0), (.iload 4, 0)]) (lSa_ok dd6) rfl ?_
        obtain ⟨_, o17, e16, m18, h⟩ := gOb_inv h
        refine Y.callI (yC.Vi (b := v15) (As := [.int x1, .int x4]) (st := []) (r := ("Partlister$Lists", T_I, 7)) hV.1.1 cb_I_thingAt lk_X_94 in_I_thingAt rfl se_I_thingAt (lIa_ok dd7) rfl rfl (Nat.le_of_ble_eq_true rfl) (by decide) e16 m18) (k_I_thingAt hV.1 G v15 x1 x4) h (fun v20 G19 _ h => ?_)
        refine Y.blk (pc' := 65) (L' := [some (.ref x0), some (.int x1), some (.int x2), some (.ref x3), some (.int x4), some (.int v20)]) (st' := [.int v20, .ref x3]) (sg := [(.istore 5, 0), (.aload_n 3, 0), (.iload 5, 0)]) (lSa_ok dd8) rfl ?_
        refine Y.callI (yC.S (As := [.int v20]) (st := [.ref x3]) hV.1.1 cb_X_keyOf lk_X_97 st_X_keyOf (lIa_ok dd9) rfl rfl (Nat.le_of_ble_eq_true rfl) (by decide)) (k_X_keyOf hV.1 G19 v20) h (fun v23 G22 _ h => ?_)
        obtain ⟨_, o25, e24, m26, h⟩ := gOb_inv h
        refine Y.callA (yC.Vi (b := x3) (As := [.int v23]) (st := []) (r := ("java/lang/StringBuilder", T_SB, 4)) hV.1.1 cb_SB_append2 lk_X_229 in_SB_append2 rfl se_SB_append2 (lIa_ok dd10) rfl rfl (Nat.le_of_ble_eq_true rfl) (by decide) e24 m26) (k_SB_append2 hV G22 x3 v23) h (fun v28 G27 _ h => ?_)
        refine Y.blk (pc' := 75) (L' := [some (.ref x0), some (.int x1), some (.int x2), some (.ref x3), some (.int x4), some (.int v20)]) (st' := [.int (nI 46), .ref x3]) (sg := [(.pop, 0), (.aload_n 3, 0), (.bipush 46, nI 46)]) (lSa_ok dd11) rfl ?_
        obtain ⟨_, o30, e29, m31, h⟩ := gOb_inv h
        refine Y.callA (yC.Vi (b := x3) (As := [.int (nI 46)]) (st := []) (r := ("java/lang/StringBuilder", T_SB, 4)) hV.1.1 cb_SB_append1 lk_X_225 in_SB_append1 rfl se_SB_append1 (lIa_ok dd12) rfl rfl (Nat.le_of_ble_eq_true rfl) (by decide) e29 m31) (k_SB_append1 hV G27 x3 (nI 46)) h (fun v33 G32 _ h => ?_)
        refine Y.blk (pc' := 82) (L' := [some (.ref x0), some (.int x1), some (.int x2), some (.ref x3), some (.int x4), some (.int v20)]) (st' := [.int v20, .ref x3]) (sg := [(.pop, 0), (.aload_n 3, 0), (.iload 5, 0)]) (lSa_ok dd13) rfl ?_
        refine Y.callI (yC.S (As := [.int v20]) (st := [.ref x3]) hV.1.1 cb_X_tagOf lk_X_48 st_X_tagOf (lIa_ok dd14) rfl rfl (Nat.le_of_ble_eq_true rfl) (by decide)) (k_X_tagOf hV.1 G32 v20) h (fun v36 G35 _ h => ?_)
        obtain ⟨_, o38, e37, m39, h⟩ := gOb_inv h
        refine Y.callA (yC.Vi (b := x3) (As := [.int v36]) (st := []) (r := ("java/lang/StringBuilder", T_SB, 4)) hV.1.1 cb_SB_append2 lk_X_229 in_SB_append2 rfl se_SB_append2 (lIa_ok dd15) rfl rfl (Nat.le_of_ble_eq_true rfl) (by decide) e37 m39) (k_SB_append2 hV G35 x3 v36) h (fun v41 G40 _ h => ?_)
        refine Y.blk (pc' := 92) (L' := [some (.ref x0), some (.int x1), some (.int x2), some (.ref x3), some (.int (x4 + (nI 1))), some (.int v20)]) (st' := []) (sg := [(.pop, 0), (.iinc 4 1, nI 1)]) (lSa_ok dd16) rfl ?_
        refine Y.goto (off := -60) (tgt := 32) (lIa_ok dd17) (by decide) ?_
        refine Y.less (L' := [some (.ref x0), some (.int x1), some (.int x2), some (.ref x3), some (.int (x4 + (nI 1))), none]) (zLe_some (zLe_some (zLe_some (zLe_some (zLe_some (zLe_none (zLe_nil))))))) ?_
        exact ih G40 x0 x1 x2 x3 (x4 + (nI 1)) h
      · refine Y.blk (pc' := 46) (L' := [some (.ref x0), some (.int x1), some (.int x2), some (.ref x3), some (.int x4), none]) (st' := [.int (nI 44), .ref x3]) (sg := [(.aload_n 3, 0), (.bipush 44, nI 44)]) (lSa_ok dd18) rfl ?_
        obtain ⟨_, o43, e42, m44, h⟩ := gOb_inv h
        refine Y.callA (yC.Vi (b := x3) (As := [.int (nI 44)]) (st := []) (r := ("java/lang/StringBuilder", T_SB, 4)) hV.1.1 cb_SB_append1 lk_X_225 in_SB_append1 rfl se_SB_append1 (lIa_ok dd19) rfl rfl (Nat.le_of_ble_eq_true rfl) (by decide) e42 m44) (k_SB_append1 hV G x3 (nI 44)) h (fun v46 G45 _ h => ?_)
        refine Y.blk (pc' := 51) (L' := [some (.ref x0), some (.int x1), some (.int x2), some (.ref x3), some (.int x4), none]) (st' := [.ref x0]) (sg := [(.pop, 0), (.aload_n 0, 0)]) (lSa_ok dd20) rfl ?_
        refine Y.getA fl_X_10 (lIa_ok dd5) h (fun v47 h => ?_)
        refine Y.blk (pc' := 57) (L' := [some (.ref x0), some (.int x1), some (.int x2), some (.ref x3), some (.int x4), none]) (st' := [.int x4, .int x1, .ref v47]) (sg := [(.iload_n 1, 0), (.iload 4, 0)]) (lSa_ok dd6) rfl ?_
        obtain ⟨_, o49, e48, m50, h⟩ := gOb_inv h
        refine Y.callI (yC.Vi (b := v47) (As := [.int x1, .int x4]) (st := []) (r := ("Partlister$Lists", T_I, 7)) hV.1.1 cb_I_thingAt lk_X_94 in_I_thingAt rfl se_I_thingAt (lIa_ok dd7) rfl rfl (Nat.le_of_ble_eq_true rfl) (by decide) e48 m50) (k_I_thingAt hV.1 G45 v47 x1 x4) h (fun v52 G51 _ h => ?_)
        refine Y.blk (pc' := 65) (L' := [some (.ref x0), some (.int x1), some (.int x2), some (.ref x3), some (.int x4), some (.int v52)]) (st' := [.int v52, .ref x3]) (sg := [(.istore 5, 0), (.aload_n 3, 0), (.iload 5, 0)]) (lSa_ok dd8) rfl ?_
        refine Y.callI (yC.S (As := [.int v52]) (st := [.ref x3]) hV.1.1 cb_X_keyOf lk_X_97 st_X_keyOf (lIa_ok dd9) rfl rfl (Nat.le_of_ble_eq_true rfl) (by decide)) (k_X_keyOf hV.1 G51 v52) h (fun v55 G54 _ h => ?_)
        obtain ⟨_, o57, e56, m58, h⟩ := gOb_inv h
        refine Y.callA (yC.Vi (b := x3) (As := [.int v55]) (st := []) (r := ("java/lang/StringBuilder", T_SB, 4)) hV.1.1 cb_SB_append2 lk_X_229 in_SB_append2 rfl se_SB_append2 (lIa_ok dd10) rfl rfl (Nat.le_of_ble_eq_true rfl) (by decide) e56 m58) (k_SB_append2 hV G54 x3 v55) h (fun v60 G59 _ h => ?_)
        refine Y.blk (pc' := 75) (L' := [some (.ref x0), some (.int x1), some (.int x2), some (.ref x3), some (.int x4), some (.int v52)]) (st' := [.int (nI 46), .ref x3]) (sg := [(.pop, 0), (.aload_n 3, 0), (.bipush 46, nI 46)]) (lSa_ok dd11) rfl ?_
        obtain ⟨_, o62, e61, m63, h⟩ := gOb_inv h
        refine Y.callA (yC.Vi (b := x3) (As := [.int (nI 46)]) (st := []) (r := ("java/lang/StringBuilder", T_SB, 4)) hV.1.1 cb_SB_append1 lk_X_225 in_SB_append1 rfl se_SB_append1 (lIa_ok dd12) rfl rfl (Nat.le_of_ble_eq_true rfl) (by decide) e61 m63) (k_SB_append1 hV G59 x3 (nI 46)) h (fun v65 G64 _ h => ?_)
        refine Y.blk (pc' := 82) (L' := [some (.ref x0), some (.int x1), some (.int x2), some (.ref x3), some (.int x4), some (.int v52)]) (st' := [.int v52, .ref x3]) (sg := [(.pop, 0), (.aload_n 3, 0), (.iload 5, 0)]) (lSa_ok dd13) rfl ?_
        refine Y.callI (yC.S (As := [.int v52]) (st := [.ref x3]) hV.1.1 cb_X_tagOf lk_X_48 st_X_tagOf (lIa_ok dd14) rfl rfl (Nat.le_of_ble_eq_true rfl) (by decide)) (k_X_tagOf hV.1 G64 v52) h (fun v68 G67 _ h => ?_)
        obtain ⟨_, o70, e69, m71, h⟩ := gOb_inv h
        refine Y.callA (yC.Vi (b := x3) (As := [.int v68]) (st := []) (r := ("java/lang/StringBuilder", T_SB, 4)) hV.1.1 cb_SB_append2 lk_X_229 in_SB_append2 rfl se_SB_append2 (lIa_ok dd15) rfl rfl (Nat.le_of_ble_eq_true rfl) (by decide) e69 m71) (k_SB_append2 hV G67 x3 v68) h (fun v73 G72 _ h => ?_)
        refine Y.blk (pc' := 92) (L' := [some (.ref x0), some (.int x1), some (.int x2), some (.ref x3), some (.int (x4 + (nI 1))), some (.int v52)]) (st' := []) (sg := [(.pop, 0), (.iinc 4 1, nI 1)]) (lSa_ok dd16) rfl ?_
        refine Y.goto (off := -60) (tgt := 32) (lIa_ok dd17) (by decide) ?_
        refine Y.less (L' := [some (.ref x0), some (.int x1), some (.int x2), some (.ref x3), some (.int (x4 + (nI 1))), none]) (zLe_some (zLe_some (zLe_some (zLe_some (zLe_some (zLe_none (zLe_nil))))))) ?_
        exact ih G72 x0 x1 x2 x3 (x4 + (nI 1)) h
theorem k_X_text {l : Launch} {D : va_G} {B : Nat} {O : State → Heap → Prop} {w : Nat → Nat} (hV : zGw l D B O w) (G : gH) (a0 : Nat) (a1 : Int32) : gMet (zVm l D B O) m_X_text 8 [.ref a0, .int a1] G (f_X_text w G a0 a1) := by
  have hdd : lSa m_X_text 0 [(.aload_n 0, 0), (.iload_n 1, 0)] = true ∧ lIa m_X_text 2 (.invokevirtual 23) 3 = true ∧ lSa m_X_text 5 [(.aload_n 0, 0)] = true ∧ lIa m_X_text 6 (.getfield 10) 3 = true ∧ lSa m_X_text 9 [(.iload_n 1, 0)] = true ∧ lIa m_X_text 10 (.invokevirtual 34) 3 = true ∧ lSa m_X_text 13 [(.istore_n 2, 0), (.iload_n 2, 0)] = true ∧ lIa m_X_text 15 (.ifCond .ne 6) 3 = true ∧ lIa m_X_text 18 (.ldc 220) 2 = true ∧ lIa m_X_text 20 (.areturn) 1 = true ∧ lIa m_X_text 21 (.new 222) 3 = true ∧ lSa m_X_text 24 [(.dup, 0)] = true ∧ lIa m_X_text 25 (.invokespecial 224) 3 = true ∧ lSa m_X_text 28 [(.astore_n 3, 0), (.iconst 0, nI 0), (.istore 4, 0)] = true ∧ lSa m_X_text 95 [(.aload_n 3, 0)] = true ∧ lIa m_X_text 96 (.invokevirtual 232) 3 = true ∧ lIa m_X_text 99 (.areturn) 1 = true := by decide +kernel
  refine lA8 hdd (fun dd0 dd1 dd2 dd3 dd4 dd5 dd6 dd7 hdd => ?_)
  refine lA8 hdd (fun dd8 dd9 dd10 dd11 dd12 dd13 dd14 dd15 hdd => ?_)
  have dd16 := hdd
  refine gMet.of (by decide +kernel) (Nat.le_of_ble_eq_true rfl) [some (.ref a0), some (.int a1), none, none, none, none] (fun ls h => zEn_ok (n := 6) h) ?_
  intro o Gf h
  unfold f_X_text at h
  refine Y.blk (pc' := 2) (L' := [some (.ref a0), some (.int a1), none, none, none, none]) (st' := [.int a1, .ref a0]) (sg := [(.aload_n 0, 0), (.iload_n 1, 0)]) (lSa_ok dd0) rfl ?_
  obtain ⟨_, o2, e1, m3, h⟩ := gOb_inv h
  refine Y.callN (yC.Vi (b := a0) (As := [.int a1]) (st := []) (r := ("Partlister", T_X, 5)) hV.1.1 cb_X_needList lk_X_23 in_X_needList rfl se_X_needList (lIa_ok dd1) rfl rfl (Nat.le_of_ble_eq_true rfl) (by decide) e1 m3) (k_X_needList hV.1 G a0 a1) h (fun G4 _ h => ?_)
  refine Y.blk (pc' := 6) (L' := [some (.ref a0), some (.int a1), none, none, none, none]) (st' := [.ref a0]) (sg := [(.aload_n 0, 0)]) (lSa_ok dd2) rfl ?_
  refine Y.getA fl_X_10 (lIa_ok dd3) h (fun v5 h => ?_)
  refine Y.blk (pc' := 10) (L' := [some (.ref a0), some (.int a1), none, none, none, none]) (st' := [.int a1, .ref v5]) (sg := [(.iload_n 1, 0)]) (lSa_ok dd4) rfl ?_
  obtain ⟨_, o7, e6, m8, h⟩ := gOb_inv h
  refine Y.callI (yC.Vi (b := v5) (As := [.int a1]) (st := []) (r := ("Partlister$Lists", T_I, 7)) hV.1.1 cb_I_lengthOf lk_X_34 in_I_lengthOf rfl se_I_lengthOf (lIa_ok dd5) rfl rfl (Nat.le_of_ble_eq_true rfl) (by decide) e6 m8) (k_I_lengthOf hV.1 G4 v5 a1) h (fun v10 G9 _ h => ?_)
  refine Y.blk (pc' := 15) (L' := [some (.ref a0), some (.int a1), some (.int v10), none, none, none]) (st' := [.int v10]) (sg := [(.istore_n 2, 0), (.iload_n 2, 0)]) (lSa_ok dd6) rfl ?_
  refine Y.if_ne (off := 6) (tgt := 21) (lIa_ok dd7) (by decide) h (fun c83 h => ?_) (fun c83 h => ?_)
  · refine Y.ldcS (fun U H h => (hV.2 U H h).2.2.2.2.2.2.2.1) (lIa_ok dd8) ?_
    exact Y.aret rfl (by first | exact Or.inl ⟨_, rfl⟩ | exact Or.inr ⟨_, rfl⟩) (lIa_ok dd9) h
  · refine Y.new nc_X_222 (by decide) bk_SB (lIa_ok dd10) h (fun q11 G12 h => ?_)
    refine Y.blk (pc' := 25) (L' := [some (.ref a0), some (.int a1), some (.int v10), none, none, none]) (st' := [.ref q11, .ref q11]) (sg := [(.dup, 0)]) (lSa_ok dd11) rfl ?_
    refine Y.callN (yC.I (b := q11) (As := []) (st := [.ref q11]) hV.1.1 cb_SB_init lk_X_224 in_SB_init rfl rfl (lIa_ok dd12) rfl rfl (Nat.le_of_ble_eq_true rfl) (by decide)) (k_SB_init hV G12 q11) h (fun G14 _ h => ?_)
    refine Y.blk (pc' := 32) (L' := [some (.ref a0), some (.int a1), some (.int v10), some (.ref q11), some (.int (nI 0)), none]) (st' := []) (sg := [(.astore_n 3, 0), (.iconst 0, nI 0), (.istore 4, 0)]) (lSa_ok dd13) rfl ?_
    refine k_X_text_L32 hV _ ?_  zFu G14 a0 a1 v10 q11 (nI 0) h
    · intro G77 x76 h
      refine Y.blk (pc' := 96) (L' := [none, none, none, some (.ref x76), none, none]) (st' := [.ref x76]) (sg := [(.aload_n 3, 0)]) (lSa_ok dd14) rfl ?_
      obtain ⟨_, o79, e78, m80, h⟩ := gOb_inv h
      refine Y.callA (yC.Vi (b := x76) (As := []) (st := []) (r := ("java/lang/StringBuilder", T_SB, 4)) hV.1.1 cb_SB_toString lk_X_232 in_SB_toString rfl se_SB_toString (lIa_ok dd15) rfl rfl (Nat.le_of_ble_eq_true rfl) (by decide) e78 m80) (k_SB_toString hV G77 x76) h (fun v82 G81 _ h => ?_)
      exact Y.aret rfl (by first | exact Or.inl ⟨_, rfl⟩ | exact Or.inr ⟨_, rfl⟩) (lIa_ok dd16) h
end
