def f_AB_append3 (w : Nat → Nat) (G : gH) (a0 : Nat) (a1 : Nat) : gR :=
  gOb G a1 8 fun o2 => bI (f_ST_length w G a1) fun v5 G4 => gFI G4 a0 10 3 fun v6 => gOb G4 a0 10 fun o8 => bV (f_AB_ensureCapacityInternal G4 a0 (v6 + v5)) fun G10 => gFI G10 a0 10 3 fun v11 => gOb G10 a0 10 fun o13 => bV (f_AB_putStringAt w G10 a0 v11 a1) fun G15 => gFI G15 a0 10 3 fun v16 => gPut G15 a0 10 3 (.int (v16 + v5)) fun G17 => rA a0 G17
theorem k_AB_append3 {l : Launch} {D : va_G} {B : Nat} {O : State → Heap → Prop} {w : Nat → Nat} (hV : zGw l D B O w) (G : gH) (a0 : Nat) (a1 : Nat) : gMet (zVm l D B O) m_AB_append3 5 [.ref a0, .ref a1] G (f_AB_append3 w G a0 a1) := by
  have hdd : lSa m_AB_append3 0 [(.aload_n 1, 0)] = true ∧ lIa m_AB_append3 1 (.ifnonnull 8) 3 = true ∧ lSa m_AB_append3 9 [(.aload_n 1, 0)] = true ∧ lIa m_AB_append3 10 (.invokevirtual 32) 3 = true ∧ lSa m_AB_append3 13 [(.istore_n 2, 0), (.aload_n 0, 0), (.aload_n 0, 0)] = true ∧ lIa m_AB_append3 16 (.getfield 79) 3 = true ∧ lSa m_AB_append3 19 [(.iload_n 2, 0), (.iadd, 0)] = true ∧ lIa m_AB_append3 21 (.invokevirtual 100) 3 = true ∧ lSa m_AB_append3 24 [(.aload_n 0, 0), (.aload_n 0, 0)] = true ∧ lIa m_AB_append3 26 (.getfield 79) 3 = true ∧ lSa m_AB_append3 29 [(.aload_n 1, 0)] = true ∧ lIa m_AB_append3 30 (.invokevirtual 208) 3 = true ∧ lSa m_AB_append3 33 [(.aload_n 0, 0), (.dup, 0)] = true ∧ lIa m_AB_append3 35 (.getfield 79) 3 = true ∧ lSa m_AB_append3 38 [(.iload_n 2, 0), (.iadd, 0)] = true ∧ lIa m_AB_append3 40 (.putfield 79) 3 = true ∧ lSa m_AB_append3 43 [(.aload_n 0, 0)] = true ∧ lIa m_AB_append3 44 (.areturn) 1 = true := by decide +kernel
  refine lA8 hdd (fun dd0 dd1 dd2 dd3 dd4 dd5 dd6 dd7 hdd => ?_)
  refine lA8 hdd (fun dd8 dd9 dd10 dd11 dd12 dd13 dd14 dd15 hdd => ?_)
  obtain ⟨dd16, dd17⟩ := hdd
  refine gMet.of (by decide +kernel) (Nat.le_of_ble_eq_true rfl) [some (.ref a0), some (.ref a1), none] (fun ls h => zEn_ok (n := 3) h) ?_
  intro o Gf h
  unfold f_AB_append3 at h
  refine Y.blk (pc' := 1) (L' := [some (.ref a0), some (.ref a1), none]) (st' := [.ref a1]) (sg := [(.aload_n 1, 0)]) (lSa_ok dd0) rfl ?_
  refine Y.ifnonnull_r (off := 8) (tgt := 9) (lIa_ok dd1) (by decide) ?_
  refine Y.blk (pc' := 10) (L' := [some (.ref a0), some (.ref a1), none]) (st' := [.ref a1]) (sg := [(.aload_n 1, 0)]) (lSa_ok dd2) rfl ?_
  obtain ⟨_, o2, e1, m3, h⟩ := gOb_inv h
  refine Y.callI (yC.Vi (b := a1) (As := []) (st := []) (r := ("java/lang/String", T_ST, 4)) hV.1.1 cb_ST_length lk_AB_32 in_ST_length rfl se_ST_length (lIa_ok dd3) rfl rfl (Nat.le_of_ble_eq_true rfl) (by decide) e1 m3) (k_ST_length hV G a1) h (fun v5 G4 _ h => ?_)
  refine Y.blk (pc' := 16) (L' := [some (.ref a0), some (.ref a1), some (.int v5)]) (st' := [.ref a0, .ref a0]) (sg := [(.istore_n 2, 0), (.aload_n 0, 0), (.aload_n 0, 0)]) (lSa_ok dd4) rfl ?_
  refine Y.getI fl_AB_79 (lIa_ok dd5) h (fun v6 h => ?_)
  refine Y.blk (pc' := 21) (L' := [some (.ref a0), some (.ref a1), some (.int v5)]) (st' := [.int (v6 + v5), .ref a0]) (sg := [(.iload_n 2, 0), (.iadd, 0)]) (lSa_ok dd6) rfl ?_
  obtain ⟨_, o8, e7, m9, h⟩ := gOb_inv h
  refine Y.callN (yC.Vi (b := a0) (As := [.int (v6 + v5)]) (st := []) (r := ("java/lang/StringBuilder", T_SB, 4)) hV.1.1 cb_AB_ensureCapacityInternal lk_AB_100 in_AB_ensureCapacityInternal rfl seSB_AB_ensureCapacityInternal (lIa_ok dd7) rfl rfl (Nat.le_of_ble_eq_true rfl) (by decide) e7 m9) (k_AB_ensureCapacityInternal hV.1 G4 a0 (v6 + v5)) h (fun G10 _ h => ?_)
  refine Y.blk (pc' := 26) (L' := [some (.ref a0), some (.ref a1), some (.int v5)]) (st' := [.ref a0, .ref a0]) (sg := [(.aload_n 0, 0), (.aload_n 0, 0)]) (lSa_ok dd8) rfl ?_
  refine Y.getI fl_AB_79 (lIa_ok dd9) h (fun v11 h => ?_)
  refine Y.blk (pc' := 30) (L' := [some (.ref a0), some (.ref a1), some (.int v5)]) (st' := [.ref a1, .int v11, .ref a0]) (sg := [(.aload_n 1, 0)]) (lSa_ok dd10) rfl ?_
  obtain ⟨_, o13, e12, m14, h⟩ := gOb_inv h
  refine Y.callN (yC.Vi (b := a0) (As := [.int v11, .ref a1]) (st := []) (r := ("java/lang/StringBuilder", T_SB, 4)) hV.1.1 cb_AB_putStringAt lk_AB_208 in_AB_putStringAt rfl seSB_AB_putStringAt (lIa_ok dd11) rfl rfl (Nat.le_of_ble_eq_true rfl) (by decide) e12 m14) (k_AB_putStringAt hV G10 a0 v11 a1) h (fun G15 _ h => ?_)
  refine Y.blk (pc' := 35) (L' := [some (.ref a0), some (.ref a1), some (.int v5)]) (st' := [.ref a0, .ref a0]) (sg := [(.aload_n 0, 0), (.dup, 0)]) (lSa_ok dd12) rfl ?_
  refine Y.getI fl_AB_79 (lIa_ok dd13) h (fun v16 h => ?_)
  refine Y.blk (pc' := 40) (L' := [some (.ref a0), some (.ref a1), some (.int v5)]) (st' := [.int (v16 + v5), .ref a0]) (sg := [(.iload_n 2, 0), (.iadd, 0)]) (lSa_ok dd14) rfl ?_
  refine Y.putf fl_AB_79 (by decide) rfl rfl (lIa_ok dd15) h (fun G17 _ _ h => ?_)
  refine Y.blk (pc' := 44) (L' := [some (.ref a0), some (.ref a1), some (.int v5)]) (st' := [.ref a0]) (sg := [(.aload_n 0, 0)]) (lSa_ok dd16) rfl ?_
  exact Y.aret rfl (by first | exact Or.inl ⟨_, rfl⟩ | exact Or.inr ⟨_, rfl⟩) (lIa_ok dd17) h

def f_SB_append3 (w : Nat → Nat) (G : gH) (a0 : Nat) (a1 : Nat) : gR :=
  gOb G a0 10 fun o2 => bA (f_AB_append3 w G a0 a1) fun v5 G4 => rA a0 G4
theorem k_SB_append3 {l : Launch} {D : va_G} {B : Nat} {O : State → Heap → Prop} {w : Nat → Nat} (hV : zGw l D B O w) (G : gH) (a0 : Nat) (a1 : Nat) : gMet (zVm l D B O) m_SB_append3 6 [.ref a0, .ref a1] G (f_SB_append3 w G a0 a1) := by
  have hdd : lSa m_SB_append3 0 [(.aload_n 0, 0), (.aload_n 1, 0)] = true ∧ lIa m_SB_append3 2 (.invokespecial 29) 3 = true ∧ lSa m_SB_append3 5 [(.pop, 0), (.aload_n 0, 0)] = true ∧ lIa m_SB_append3 7 (.areturn) 1 = true := by decide +kernel
  obtain ⟨dd0, dd1, dd2, dd3⟩ := hdd
  refine gMet.of (by decide +kernel) (Nat.le_of_ble_eq_true rfl) [some (.ref a0), some (.ref a1)] (fun ls h => zEn_ok (n := 2) h) ?_
  intro o Gf h
  unfold f_SB_append3 at h
  refine Y.blk (pc' := 2) (L' := [some (.ref a0), some (.ref a1)]) (st' := [.ref a1, .ref a0]) (sg := [(.aload_n 0, 0), (.aload_n 1, 0)]) (lSa_ok dd0) rfl ?_
  obtain ⟨_, o2, e1, m3, h⟩ := gOb_inv h
  refine Y.callA (yC.SU (b := a0) (As := [.ref a1]) (st := []) (r := ("java/lang/StringBuilder", T_SB, 4)) hV.1.1 cb_AB_append3 lk_SB_29 sm_AB_append3 su_SB_AB in_AB_append3 (by decide) rfl (lIa_ok dd1) rfl rfl (Nat.le_of_ble_eq_true rfl) (by decide) e1 m3) (k_AB_append3 hV G a0 a1) h (fun v5 G4 _ h => ?_)
  refine Y.blk (pc' := 7) (L' := [some (.ref a0), some (.ref a1)]) (st' := [.ref a0]) (sg := [(.pop, 0), (.aload_n 0, 0)]) (lSa_ok dd2) rfl ?_
  exact Y.aret rfl (by first | exact Or.inl ⟨_, rfl⟩ | exact Or.inr ⟨_, rfl⟩) (lIa_ok dd3) h

def f_AB_getValue (G : gH) (a0 : Nat) : gR :=
  gFA G a0 10 0 fun v1 => rA v1 G
theorem k_AB_getValue {l : Launch} {D : va_G} {B : Nat} {O : State → Heap → Prop} (hV : zG l D B O) (G : gH) (a0 : Nat) : gMet (zVm l D B O) m_AB_getValue 2 [.ref a0] G (f_AB_getValue G a0) := by
  have hdd : lSa m_AB_getValue 0 [(.aload_n 0, 0)] = true ∧ lIa m_AB_getValue 1 (.getfield 15) 3 = true ∧ lIa m_AB_getValue 4 (.areturn) 1 = true := by decide +kernel
  obtain ⟨dd0, dd1, dd2⟩ := hdd
  refine gMet.of (by decide +kernel) (Nat.le_of_ble_eq_true rfl) [some (.ref a0)] (fun ls h => zEn_ok (n := 1) h) ?_
  intro o Gf h
  unfold f_AB_getValue at h
  refine Y.blk (pc' := 1) (L' := [some (.ref a0)]) (st' := [.ref a0]) (sg := [(.aload_n 0, 0)]) (lSa_ok dd0) rfl ?_
  refine Y.getA fl_AB_15 (lIa_ok dd1) h (fun v1 h => ?_)
  exact Y.aret rfl (by first | exact Or.inl ⟨_, rfl⟩ | exact Or.inr ⟨_, rfl⟩) (lIa_ok dd2) h

def f_AR_checkLength (w : Nat → Nat) (G : gH) (a0 : Int32) (a1 : Int32) : gR :=
  if a0 ≤ a1 then rV G
  else none
theorem k_AR_checkLength {l : Launch} {D : va_G} {B : Nat} {O : State → Heap → Prop} {w : Nat → Nat} (hV : zGw l D B O w) (G : gH) (a0 : Int32) (a1 : Int32) : gMet (zVm l D B O) m_AR_checkLength 2 [.int a0, .int a1] G (f_AR_checkLength w G a0 a1) := by
  have hdd : lSa m_AR_checkLength 0 [(.iload_n 1, 0), (.iload_n 0, 0)] = true ∧ lIa m_AR_checkLength 2 (.if_icmp .ge 35) 3 = true ∧ lIa m_AR_checkLength 37 (.return_) 1 = true := by decide +kernel
  obtain ⟨dd0, dd1, dd2⟩ := hdd
  refine gMet.of (by decide +kernel) (Nat.le_of_ble_eq_true rfl) [some (.int a0), some (.int a1)] (fun ls h => zEn_ok (n := 2) h) ?_
  intro o Gf h
  unfold f_AR_checkLength at h
  refine Y.blk (pc' := 2) (L' := [some (.int a0), some (.int a1)]) (st' := [.int a0, .int a1]) (sg := [(.iload_n 1, 0), (.iload_n 0, 0)]) (lSa_ok dd0) rfl ?_
  refine Y.ic_ge (off := 35) (tgt := 37) (lIa_ok dd1) (by decide) h (fun c1 h => ?_) (fun c1 h => ?_)
  · exact Y.vret rfl (lIa_ok dd2) h
  · cases h

def f_AR_copyOfRangeByte (w : Nat → Nat) (G : gH) (a0 : Nat) (a1 : Int32) (a2 : Int32) : gR :=
  bV (f_AR_checkLength w G a1 a2) fun G2 => gNewA G2 101 (a2 - a1) fun q3 G4 => gLen G4 a0 101 fun v5 => gCpB G4 a0 a1 q3 (nI 0) (if (a2 - a1) < (v5 - a1) then (a2 - a1) else (v5 - a1)) fun G6 => rA q3 G6
theorem k_AR_copyOfRangeByte {l : Launch} {D : va_G} {B : Nat} {O : State → Heap → Prop} {w : Nat → Nat} (hV : zGw l D B O w) (G : gH) (a0 : Nat) (a1 : Int32) (a2 : Int32) : gMet (zVm l D B O) m_AR_copyOfRangeByte 3 [.ref a0, .int a1, .int a2] G (f_AR_copyOfRangeByte w G a0 a1 a2) := by
  have hdd : lSa m_AR_copyOfRangeByte 0 [(.iload_n 1, 0), (.iload_n 2, 0)] = true ∧ lIa m_AR_copyOfRangeByte 2 (.invokestatic 343) 3 = true ∧ lSa m_AR_copyOfRangeByte 5 [(.iload_n 2, 0), (.iload_n 1, 0), (.isub, 0), (.istore_n 3, 0), (.iload_n 3, 0)] = true ∧ lSa m_AR_copyOfRangeByte 12 [(.astore 4, 0), (.aload_n 0, 0), (.iload_n 1, 0), (.aload 4, 0), (.iconst 0, nI 0), (.aload_n 0, 0)] = true ∧ lIa m_AR_copyOfRangeByte 20 (.arraylength) 1 = true ∧ lSa m_AR_copyOfRangeByte 21 [(.iload_n 1, 0), (.isub, 0), (.iload_n 3, 0)] = true ∧ lIa m_AR_copyOfRangeByte 24 (.invokestatic 304) 3 = true ∧ lIa m_AR_copyOfRangeByte 27 (.invokestatic 150) 3 = true ∧ lSa m_AR_copyOfRangeByte 30 [(.aload 4, 0)] = true ∧ lIa m_AR_copyOfRangeByte 32 (.areturn) 1 = true := by decide +kernel
  refine lA8 hdd (fun dd0 dd1 dd2 dd3 dd4 dd5 dd6 dd7 hdd => ?_)
  obtain ⟨dd8, dd9⟩ := hdd
  refine gMet.of (by decide +kernel) (Nat.le_of_ble_eq_true rfl) [some (.ref a0), some (.int a1), some (.int a2), none, none] (fun ls h => zEn_ok (n := 5) h) ?_
  intro o Gf h
  unfold f_AR_copyOfRangeByte at h
  refine Y.blk (pc' := 2) (L' := [some (.ref a0), some (.int a1), some (.int a2), none, none]) (st' := [.int a2, .int a1]) (sg := [(.iload_n 1, 0), (.iload_n 2, 0)]) (lSa_ok dd0) rfl ?_
  refine Y.callN (yC.S (As := [.int a1, .int a2]) (st := []) hV.1.1 cb_AR_checkLength lk_AR_343 st_AR_checkLength (lIa_ok dd1) rfl rfl (Nat.le_of_ble_eq_true rfl) (by decide)) (k_AR_checkLength hV G a1 a2) h (fun G2 _ h => ?_)
  refine Y.blk (pc' := 10) (L' := [some (.ref a0), some (.int a1), some (.int a2), some (.int (a2 - a1)), none]) (st' := [.int (a2 - a1)]) (sg := [(.iload_n 2, 0), (.iload_n 1, 0), (.isub, 0), (.istore_n 3, 0), (.iload_n 3, 0)]) (lSa_ok dd2) rfl ?_
  refine Y.newa (at_ := .byte) (t0 := 1) ac_b rfl (by decide) rfl (by decide) (by decide +kernel) h (fun q3 G4 h => ?_)
  refine Y.blk (pc' := 20) (L' := [some (.ref a0), some (.int a1), some (.int a2), some (.int (a2 - a1)), some (.ref q3)]) (st' := [.ref a0, .int (nI 0), .ref q3, .int a1, .ref a0]) (sg := [(.astore 4, 0), (.aload_n 0, 0), (.iload_n 1, 0), (.aload 4, 0), (.iconst 0, nI 0), (.aload_n 0, 0)]) (lSa_ok dd3) rfl ?_
  refine Y.alen (t0 := 1) (lIa_ok dd4) rfl h (fun v5 h => ?_)
  refine Y.blk (pc' := 24) (L' := [some (.ref a0), some (.int a1), some (.int a2), some (.int (a2 - a1)), some (.ref q3)]) (st' := [.int (a2 - a1), .int (v5 - a1), .int (nI 0), .ref q3, .int a1, .ref a0]) (sg := [(.iload_n 1, 0), (.isub, 0), (.iload_n 3, 0)]) (lSa_ok dd5) rfl ?_
  refine Y.mmin lk_AR_304 st_MA_min ini_MA cb_MA_min.1 (by decide) rfl (Nat.le_of_ble_eq_true rfl) (lIa_ok dd6) ?_
  refine Y.copyB (t0 := 1) lk_AR_150 nat_copy st_copy ini_SY (by decide) rfl (Nat.le_of_ble_eq_true rfl) (lIa_ok dd7) rfl h (fun G6 _ _ h => ?_)
  refine Y.blk (pc' := 32) (L' := [some (.ref a0), some (.int a1), some (.int a2), some (.int (a2 - a1)), some (.ref q3)]) (st' := [.ref q3]) (sg := [(.aload 4, 0)]) (lSa_ok dd8) rfl ?_
  exact Y.aret rfl (by first | exact Or.inl ⟨_, rfl⟩ | exact Or.inr ⟨_, rfl⟩) (lIa_ok dd9) h

def f_AR_copyOfRange (w : Nat → Nat) (G : gH) (a0 : Nat) (a1 : Int32) (a2 : Int32) : gR :=
  if a1 = 0 then (gLen G a0 101 fun v1 => if a2 = v1 then gClB G a0 fun q2 G3 => gCaA G3 q2 101 (rA q2 G3)
    else bA (f_AR_copyOfRangeByte w G a0 a1 a2) fun v6 G5 => rA v6 G5)
  else bA (f_AR_copyOfRangeByte w G a0 a1 a2) fun v10 G9 => rA v10 G9
theorem k_AR_copyOfRange {l : Launch} {D : va_G} {B : Nat} {O : State → Heap → Prop} {w : Nat → Nat} (hV : zGw l D B O w) (G : gH) (a0 : Nat) (a1 : Int32) (a2 : Int32) : gMet (zVm l D B O) m_AR_copyOfRange 4 [.ref a0, .int a1, .int a2] G (f_AR_copyOfRange w G a0 a1 a2) := by
  have hdd : lSa m_AR_copyOfRange 0 [(.iload_n 1, 0)] = true ∧ lIa m_AR_copyOfRange 1 (.ifCond .ne 9) 3 = true ∧ lSa m_AR_copyOfRange 4 [(.iload_n 2, 0), (.aload_n 0, 0)] = true ∧ lIa m_AR_copyOfRange 6 (.arraylength) 1 = true ∧ lIa m_AR_copyOfRange 7 (.if_icmp .eq 10) 3 = true ∧ lSa m_AR_copyOfRange 17 [(.aload_n 0, 0)] = true ∧ lIa m_AR_copyOfRange 18 (.invokevirtual 310) 3 = true ∧ lIa m_AR_copyOfRange 21 (.checkcast 311) 3 = true ∧ lIa m_AR_copyOfRange 24 (.areturn) 1 = true ∧ lSa m_AR_copyOfRange 10 [(.aload_n 0, 0), (.iload_n 1, 0), (.iload_n 2, 0)] = true ∧ lIa m_AR_copyOfRange 13 (.invokestatic 339) 3 = true ∧ lIa m_AR_copyOfRange 16 (.areturn) 1 = true := by decide +kernel
  refine lA8 hdd (fun dd0 dd1 dd2 dd3 dd4 dd5 dd6 dd7 hdd => ?_)
  obtain ⟨dd8, dd9, dd10, dd11⟩ := hdd
  refine gMet.of (by decide +kernel) (Nat.le_of_ble_eq_true rfl) [some (.ref a0), some (.int a1), some (.int a2)] (fun ls h => zEn_ok (n := 3) h) ?_
  intro o Gf h
  unfold f_AR_copyOfRange at h
  refine Y.blk (pc' := 1) (L' := [some (.ref a0), some (.int a1), some (.int a2)]) (st' := [.int a1]) (sg := [(.iload_n 1, 0)]) (lSa_ok dd0) rfl ?_
  refine Y.if_ne (off := 9) (tgt := 10) (lIa_ok dd1) (by decide) h (fun c11 h => ?_) (fun c11 h => ?_)
  · refine Y.blk (pc' := 6) (L' := [some (.ref a0), some (.int a1), some (.int a2)]) (st' := [.ref a0, .int a2]) (sg := [(.iload_n 2, 0), (.aload_n 0, 0)]) (lSa_ok dd2) rfl ?_
    refine Y.alen (t0 := 1) (lIa_ok dd3) rfl h (fun v1 h => ?_)
    refine Y.ic_eq (off := 10) (tgt := 17) (lIa_ok dd4) (by decide) h (fun c7 h => ?_) (fun c7 h => ?_)
    · refine Y.blk (pc' := 18) (L' := [some (.ref a0), some (.int a1), some (.int a2)]) (st' := [.ref a0]) (sg := [(.aload_n 0, 0)]) (lSa_ok dd5) rfl ?_
      refine Y.cloneB (t0 := 1) lk_clone rfl (by decide) rfl (Nat.le_of_ble_eq_true rfl) (lIa_ok dd6) h (fun q2 G3 h => ?_)
      refine Y.castA (t0 := 1) (nm := "[B") (lIa_ok dd7) rfl (by decide) ck_AR_311 h (fun h => ?_)
      exact Y.aret rfl (by first | exact Or.inl ⟨_, rfl⟩ | exact Or.inr ⟨_, rfl⟩) (lIa_ok dd8) h
    · refine Y.blk (pc' := 13) (L' := [some (.ref a0), some (.int a1), some (.int a2)]) (st' := [.int a2, .int a1, .ref a0]) (sg := [(.aload_n 0, 0), (.iload_n 1, 0), (.iload_n 2, 0)]) (lSa_ok dd9) rfl ?_
      refine Y.callA (yC.S (As := [.ref a0, .int a1, .int a2]) (st := []) hV.1.1 cb_AR_copyOfRangeByte lk_AR_339 st_AR_copyOfRangeByte (lIa_ok dd10) rfl rfl (Nat.le_of_ble_eq_true rfl) (by decide)) (k_AR_copyOfRangeByte hV G a0 a1 a2) h (fun v6 G5 _ h => ?_)
      exact Y.aret rfl (by first | exact Or.inl ⟨_, rfl⟩ | exact Or.inr ⟨_, rfl⟩) (lIa_ok dd11) h
  · refine Y.blk (pc' := 13) (L' := [some (.ref a0), some (.int a1), some (.int a2)]) (st' := [.int a2, .int a1, .ref a0]) (sg := [(.aload_n 0, 0), (.iload_n 1, 0), (.iload_n 2, 0)]) (lSa_ok dd9) rfl ?_
    refine Y.callA (yC.S (As := [.ref a0, .int a1, .int a2]) (st := []) hV.1.1 cb_AR_copyOfRangeByte lk_AR_339 st_AR_copyOfRangeByte (lIa_ok dd10) rfl rfl (Nat.le_of_ble_eq_true rfl) (by decide)) (k_AR_copyOfRangeByte hV G a0 a1 a2) h (fun v10 G9 _ h => ?_)
    exact Y.aret rfl (by first | exact Or.inl ⟨_, rfl⟩ | exact Or.inr ⟨_, rfl⟩) (lIa_ok dd11) h

def f_ST_init1 (w : Nat → Nat) (G : gH) (a0 : Nat) (a1 : Nat) : gR :=
  gOb G a1 10 fun o2 => bA (f_AB_getValue G a1) fun v5 G4 => gOb G4 a1 10 fun o7 => bI (f_SB_length G4 a1) fun v10 G9 => gOb G9 a1 10 fun o12 => bI (f_AB_isLatin1 w G9 a1) fun v15 G14 => if v15 = 0 then (if (nI 1) = 0 then gPut G14 a0 8 1 (.int (nI 1)) fun G16 => bA (f_AR_copyOfRange w G16 v5 (nI 0) (v10 <<< ((nI 1) &&& 31))) fun v19 G18 => gPut G18 a0 8 0 (.ref v19) fun G20 => rV G20
    else gFI G14 a1 10 2 fun v21 => if v21 = 0 then gPut G14 a0 8 1 (.int (nI 1)) fun G22 => bA (f_AR_copyOfRange w G22 v5 (nI 0) (v10 <<< ((nI 1) &&& 31))) fun v25 G24 => gPut G24 a0 8 0 (.ref v25) fun G26 => rV G26
      else none)
  else gPut G14 a0 8 1 (.int (nI 0)) fun G29 => bA (f_AR_copyOfRange w G29 v5 (nI 0) v10) fun v32 G31 => gPut G31 a0 8 0 (.ref v32) fun G33 => rV G33
theorem k_ST_init1 {l : Launch} {D : va_G} {B : Nat} {O : State → Heap → Prop} {w : Nat → Nat} (hV : zGw l D B O w) (G : gH) (a0 : Nat) (a1 : Nat) : gMet (zVm l D B O) m_ST_init1 5 [.ref a0, .ref a1, .null] G (f_ST_init1 w G a0 a1) := by
  have hdd : lSa m_ST_init1 0 [(.aload_n 0, 0)] = true ∧ lIa m_ST_init1 1 (.invokespecial 1) 3 = true ∧ lSa m_ST_init1 4 [(.aload_n 1, 0)] = true ∧ lIa m_ST_init1 5 (.invokevirtual 552) 3 = true ∧ lSa m_ST_init1 8 [(.astore_n 3, 0), (.aload_n 1, 0)] = true ∧ lIa m_ST_init1 10 (.invokevirtual 549) 3 = true ∧ lSa m_ST_init1 13 [(.istore 4, 0), (.aload_n 1, 0)] = true ∧ lIa m_ST_init1 16 (.invokevirtual 1047) 3 = true ∧ lIa m_ST_init1 19 (.ifCond .eq 22) 3 = true ∧ lIa m_ST_init1 41 (.getstatic 38) 3 = true ∧ lIa m_ST_init1 44 (.ifCond .eq 35) 3 = true ∧ lSa m_ST_init1 79 [(.aload_n 0, 0), (.iconst 1, nI 1)] = true ∧ lIa m_ST_init1 81 (.putfield 15) 3 = true ∧ lSa m_ST_init1 84 [(.aload_n 0, 0), (.aload_n 3, 0), (.iconst 0, nI 0), (.iload 4, 0), (.iconst 1, nI 1), (.ishl, 0)] = true ∧ lIa m_ST_init1 91 (.invokestatic 54) 3 = true ∧ lIa m_ST_init1 94 (.putfield 9) 3 = true ∧ lIa m_ST_init1 97 (.return_) 1 = true ∧ lSa m_ST_init1 47 [(.aload_n 1, 0)] = true ∧ lIa m_ST_init1 48 (.getfield 1048) 3 = true ∧ lIa m_ST_init1 51 (.ifCond .eq 28) 3 = true ∧ lSa m_ST_init1 54 [(.aload_n 0, 0), (.aload_n 3, 0), (.iconst 0, nI 0), (.iload 4, 0)] = true ∧ lSa m_ST_init1 22 [(.aload_n 0, 0), (.iconst 0, nI 0)] = true ∧ lIa m_ST_init1 24 (.putfield 15) 3 = true ∧ lSa m_ST_init1 27 [(.aload_n 0, 0), (.aload_n 3, 0), (.iconst 0, nI 0), (.iload 4, 0)] = true ∧ lIa m_ST_init1 32 (.invokestatic 54) 3 = true ∧ lIa m_ST_init1 35 (.putfield 9) 3 = true ∧ lIa m_ST_init1 38 (.goto 59) 3 = true := by decide +kernel
  refine lA8 hdd (fun dd0 dd1 dd2 dd3 dd4 dd5 dd6 dd7 hdd => ?_)
  refine lA8 hdd (fun dd8 dd9 dd10 dd11 dd12 dd13 dd14 dd15 hdd => ?_)
  refine lA8 hdd (fun dd16 dd17 dd18 dd19 dd20 dd21 dd22 dd23 hdd => ?_)
  obtain ⟨dd24, dd25, dd26⟩ := hdd
  refine gMet.of (by decide +kernel) (Nat.le_of_ble_eq_true rfl) [some (.ref a0), some (.ref a1), some (.null), none, none] (fun ls h => zEn_ok (n := 5) h) ?_
  intro o Gf h
  unfold f_ST_init1 at h
  refine Y.blk (pc' := 1) (L' := [some (.ref a0), some (.ref a1), some (.null), none, none]) (st' := [.ref a0]) (sg := [(.aload_n 0, 0)]) (lSa_ok dd0) rfl ?_
  refine Y.objInit lk_ST_1 in_OJ_init cw_OJ_init (by decide) rfl (Nat.le_of_ble_eq_true rfl) (lIa_ok dd1) ?_
  refine Y.blk (pc' := 5) (L' := [some (.ref a0), some (.ref a1), some (.null), none, none]) (st' := [.ref a1]) (sg := [(.aload_n 1, 0)]) (lSa_ok dd2) rfl ?_
  obtain ⟨_, o2, e1, m3, h⟩ := gOb_inv h
  refine Y.callA (yC.Vi (b := a1) (As := []) (st := []) (r := ("java/lang/StringBuilder", T_SB, 4)) hV.1.1 cb_AB_getValue lk_ST_552 in_AB_getValue rfl seSB_AB_getValue (lIa_ok dd3) rfl rfl (Nat.le_of_ble_eq_true rfl) (by decide) e1 m3) (k_AB_getValue hV.1 G a1) h (fun v5 G4 _ h => ?_)
  refine Y.blk (pc' := 10) (L' := [some (.ref a0), some (.ref a1), some (.null), some (.ref v5), none]) (st' := [.ref a1]) (sg := [(.astore_n 3, 0), (.aload_n 1, 0)]) (lSa_ok dd4) rfl ?_
  obtain ⟨_, o7, e6, m8, h⟩ := gOb_inv h
  refine Y.callI (yC.U (b := a1) (As := []) (st := []) (r := ("java/lang/StringBuilder", T_SB, 4)) hV.1.1 cb_SB_length lk_ST_549 sm_AB_length in_AB_length cb_AB_length.1 ⟨by decide +kernel, by decide +kernel⟩ (by decide +kernel) in_SB_length rfl sx_SB_length (lIa_ok dd5) rfl rfl (Nat.le_of_ble_eq_true rfl) (by decide) e6 m8) (k_SB_length hV.1 G4 a1) h (fun v10 G9 _ h => ?_)
  refine Y.blk (pc' := 16) (L' := [some (.ref a0), some (.ref a1), some (.null), some (.ref v5), some (.int v10)]) (st' := [.ref a1]) (sg := [(.istore 4, 0), (.aload_n 1, 0)]) (lSa_ok dd6) rfl ?_
  obtain ⟨_, o12, e11, m13, h⟩ := gOb_inv h
  refine Y.callI (yC.Vi (b := a1) (As := []) (st := []) (r := ("java/lang/StringBuilder", T_SB, 4)) hV.1.1 cb_AB_isLatin1 lk_ST_1047 in_AB_isLatin1 rfl seSB_AB_isLatin1 (lIa_ok dd7) rfl rfl (Nat.le_of_ble_eq_true rfl) (by decide) e11 m13) (k_AB_isLatin1 hV G9 a1) h (fun v15 G14 _ h => ?_)
  refine Y.if_eq (off := 22) (tgt := 41) (lIa_ok dd8) (by decide) h (fun c34 h => ?_) (fun c34 h => ?_)
  · refine Y.gets (v := .int (nI 1)) (fun U H h => (hV.2 U H h).2.2.2.1) sf_ST_38 (lIa_ok dd9) ?_
    refine Y.if_eq (off := 35) (tgt := 79) (lIa_ok dd10) (by decide) h (fun c28 h => ?_) (fun c28 h => ?_)
    · refine Y.blk (pc' := 81) (L' := [some (.ref a0), some (.ref a1), some (.null), some (.ref v5), some (.int v10)]) (st' := [.int (nI 1), .ref a0]) (sg := [(.aload_n 0, 0), (.iconst 1, nI 1)]) (lSa_ok dd11) rfl ?_
      refine Y.putF fl_ST_15 rfl (by decide) rfl rfl (lIa_ok dd12) h (fun G16 _ _ h => ?_)
      refine Y.blk (pc' := 91) (L' := [some (.ref a0), some (.ref a1), some (.null), some (.ref v5), some (.int v10)]) (st' := [.int (v10 <<< ((nI 1) &&& 31)), .int (nI 0), .ref v5, .ref a0]) (sg := [(.aload_n 0, 0), (.aload_n 3, 0), (.iconst 0, nI 0), (.iload 4, 0), (.iconst 1, nI 1), (.ishl, 0)]) (lSa_ok dd13) rfl ?_
      refine Y.callA (yC.S (As := [.ref v5, .int (nI 0), .int (v10 <<< ((nI 1) &&& 31))]) (st := [.ref a0]) hV.1.1 cb_AR_copyOfRange lk_ST_54 st_AR_copyOfRange (lIa_ok dd14) rfl rfl (Nat.le_of_ble_eq_true rfl) (by decide)) (k_AR_copyOfRange hV G16 v5 (nI 0) (v10 <<< ((nI 1) &&& 31))) h (fun v19 G18 _ h => ?_)
      refine Y.putF fl_ST_9 rfl (by decide) rfl rfl (lIa_ok dd15) h (fun G20 _ _ h => ?_)
      exact Y.vret rfl (lIa_ok dd16) h
    · refine Y.blk (pc' := 48) (L' := [some (.ref a0), some (.ref a1), some (.null), some (.ref v5), some (.int v10)]) (st' := [.ref a1]) (sg := [(.aload_n 1, 0)]) (lSa_ok dd17) rfl ?_
      refine Y.getI fl_ST_1048 (lIa_ok dd18) h (fun v21 h => ?_)
      refine Y.if_eq (off := 28) (tgt := 79) (lIa_ok dd19) (by decide) h (fun c27 h => ?_) (fun c27 h => ?_)
      · refine Y.blk (pc' := 81) (L' := [some (.ref a0), some (.ref a1), some (.null), some (.ref v5), some (.int v10)]) (st' := [.int (nI 1), .ref a0]) (sg := [(.aload_n 0, 0), (.iconst 1, nI 1)]) (lSa_ok dd11) rfl ?_
        refine Y.putF fl_ST_15 rfl (by decide) rfl rfl (lIa_ok dd12) h (fun G22 _ _ h => ?_)
        refine Y.blk (pc' := 91) (L' := [some (.ref a0), some (.ref a1), some (.null), some (.ref v5), some (.int v10)]) (st' := [.int (v10 <<< ((nI 1) &&& 31)), .int (nI 0), .ref v5, .ref a0]) (sg := [(.aload_n 0, 0), (.aload_n 3, 0), (.iconst 0, nI 0), (.iload 4, 0), (.iconst 1, nI 1), (.ishl, 0)]) (lSa_ok dd13) rfl ?_
        refine Y.callA (yC.S (As := [.ref v5, .int (nI 0), .int (v10 <<< ((nI 1) &&& 31))]) (st := [.ref a0]) hV.1.1 cb_AR_copyOfRange lk_ST_54 st_AR_copyOfRange (lIa_ok dd14) rfl rfl (Nat.le_of_ble_eq_true rfl) (by decide)) (k_AR_copyOfRange hV G22 v5 (nI 0) (v10 <<< ((nI 1) &&& 31))) h (fun v25 G24 _ h => ?_)
        refine Y.putF fl_ST_9 rfl (by decide) rfl rfl (lIa_ok dd15) h (fun G26 _ _ h => ?_)
        exact Y.vret rfl (lIa_ok dd16) h
      · refine Y.blk (pc' := 59) (L' := [some (.ref a0), some (.ref a1), some (.null), some (.ref v5), some (.int v10)]) (st' := [.int v10, .int (nI 0), .ref v5, .ref a0]) (sg := [(.aload_n 0, 0), (.aload_n 3, 0), (.iconst 0, nI 0), (.iload 4, 0)]) (lSa_ok dd20) rfl ?_
        cases h
  · refine Y.blk (pc' := 24) (L' := [some (.ref a0), some (.ref a1), some (.null), some (.ref v5), some (.int v10)]) (st' := [.int (nI 0), .ref a0]) (sg := [(.aload_n 0, 0), (.iconst 0, nI 0)]) (lSa_ok dd21) rfl ?_
    refine Y.putF fl_ST_15 rfl (by decide) rfl rfl (lIa_ok dd22) h (fun G29 _ _ h => ?_)
    refine Y.blk (pc' := 32) (L' := [some (.ref a0), some (.ref a1), some (.null), some (.ref v5), some (.int v10)]) (st' := [.int v10, .int (nI 0), .ref v5, .ref a0]) (sg := [(.aload_n 0, 0), (.aload_n 3, 0), (.iconst 0, nI 0), (.iload 4, 0)]) (lSa_ok dd23) rfl ?_
    refine Y.callA (yC.S (As := [.ref v5, .int (nI 0), .int v10]) (st := [.ref a0]) hV.1.1 cb_AR_copyOfRange lk_ST_54 st_AR_copyOfRange (lIa_ok dd24) rfl rfl (Nat.le_of_ble_eq_true rfl) (by decide)) (k_AR_copyOfRange hV G29 v5 (nI 0) v10) h (fun v32 G31 _ h => ?_)
    refine Y.putF fl_ST_9 rfl (by decide) rfl rfl (lIa_ok dd25) h (fun G33 _ _ h => ?_)
    refine Y.goto (off := 59) (tgt := 97) (lIa_ok dd26) (by decide) ?_
    exact Y.vret rfl (lIa_ok dd16) h

def f_ST_init2 (w : Nat → Nat) (G : gH) (a0 : Nat) (a1 : Nat) : gR :=
  bV (f_ST_init1 w G a0 a1) fun G2 => rV G2
theorem k_ST_init2 {l : Launch} {D : va_G} {B : Nat} {O : State → Heap → Prop} {w : Nat → Nat} (hV : zGw l D B O w) (G : gH) (a0 : Nat) (a1 : Nat) : gMet (zVm l D B O) m_ST_init2 6 [.ref a0, .ref a1] G (f_ST_init2 w G a0 a1) := by
  have hdd : lSa m_ST_init2 0 [(.aload_n 0, 0), (.aload_n 1, 0), (.aconst_null, 0)] = true ∧ lIa m_ST_init2 3 (.invokespecial 489) 3 = true ∧ lIa m_ST_init2 6 (.return_) 1 = true := by decide +kernel
  obtain ⟨dd0, dd1, dd2⟩ := hdd
  refine gMet.of (by decide +kernel) (Nat.le_of_ble_eq_true rfl) [some (.ref a0), some (.ref a1)] (fun ls h => zEn_ok (n := 2) h) ?_
  intro o Gf h
  unfold f_ST_init2 at h
  refine Y.blk (pc' := 3) (L' := [some (.ref a0), some (.ref a1)]) (st' := [.null, .ref a1, .ref a0]) (sg := [(.aload_n 0, 0), (.aload_n 1, 0), (.aconst_null, 0)]) (lSa_ok dd0) rfl ?_
  refine Y.callN (yC.I (b := a0) (As := [.ref a1, .null]) (st := []) hV.1.1 cb_ST_init1 lk_ST_489 in_ST_init1 rfl rfl (lIa_ok dd1) rfl rfl (Nat.le_of_ble_eq_true rfl) (by decide)) (k_ST_init1 hV G a0 a1) h (fun G2 _ h => ?_)
  exact Y.vret rfl (lIa_ok dd2) h

def f_SB_toString (w : Nat → Nat) (G : gH) (a0 : Nat) : gR :=
  gNewO G 8 4 [.null, .int 0, .int 0, .int 0] fun q1 G2 => bV (f_ST_init2 w G2 q1 a0) fun G4 => rA q1 G4
theorem k_SB_toString {l : Launch} {D : va_G} {B : Nat} {O : State → Heap → Prop} {w : Nat → Nat} (hV : zGw l D B O w) (G : gH) (a0 : Nat) : gMet (zVm l D B O) m_SB_toString 7 [.ref a0] G (f_SB_toString w G a0) := by
  have hdd : lIa m_SB_toString 0 (.new 18) 3 = true ∧ lSa m_SB_toString 3 [(.dup, 0), (.aload_n 0, 0)] = true ∧ lIa m_SB_toString 5 (.invokespecial 137) 3 = true ∧ lIa m_SB_toString 8 (.areturn) 1 = true := by decide +kernel
  obtain ⟨dd0, dd1, dd2, dd3⟩ := hdd
  refine gMet.of (by decide +kernel) (Nat.le_of_ble_eq_true rfl) [some (.ref a0)] (fun ls h => zEn_ok (n := 1) h) ?_
  intro o Gf h
  unfold f_SB_toString at h
  refine Y.new nc_SB_18 (by decide) bk_ST (lIa_ok dd0) h (fun q1 G2 h => ?_)
  refine Y.blk (pc' := 5) (L' := [some (.ref a0)]) (st' := [.ref a0, .ref q1, .ref q1]) (sg := [(.dup, 0), (.aload_n 0, 0)]) (lSa_ok dd1) rfl ?_
  refine Y.callN (yC.I (b := q1) (As := [.ref a0]) (st := [.ref q1]) hV.1.1 cb_ST_init2 lk_SB_137 in_ST_init2 rfl rfl (lIa_ok dd2) rfl rfl (Nat.le_of_ble_eq_true rfl) (by decide)) (k_ST_init2 hV G2 q1 a0) h (fun G4 _ h => ?_)
  exact Y.aret rfl (by first | exact Or.inl ⟨_, rfl⟩ | exact Or.inr ⟨_, rfl⟩) (lIa_ok dd3) h

def f_M_textOf_L10 (w : Nat → Nat) (K70 : gH → Nat → Int32 → Nat → gR) : Nat → gH → Nat → Int32 → Nat → Int32 → gR
  | 0, _, _, _, _, _ => none
  | n + 1, G, x0, x1, x2, x3 =>
    gOb G x0 6 fun o6 => bI (f_M_length G x0 x1) fun v9 G8 => if v9 ≤ x3 then K70 G8 x0 x1 x2
    else if x3 = 0 then gOb G8 x2 10 fun o11 => bA (f_SB_append3 w G8 x2 (w 5)) fun v14 G13 => gOb G13 x0 6 fun o16 => bA (f_M_at G13 x0 x1 x3) fun v19 G18 => gLd G18 v19 100 (nI 0) fun v20 => gOb G18 v14 10 fun o22 => bA (f_SB_append2 w G18 v14 v20) fun v25 G24 => gOb G24 v25 10 fun o27 => bA (f_SB_append1 w G24 v25 (nI 46)) fun v30 G29 => gOb G29 x0 6 fun o32 => bA (f_M_at G29 x0 x1 x3) fun v35 G34 => gLd G34 v35 100 (nI 1) fun v36 => gOb G34 v30 10 fun o38 => bA (f_SB_append2 w G34 v30 v36) fun v41 G40 => f_M_textOf_L10 w K70 n G40 x0 x1 x2 (x3 + (nI 1))
      else gOb G8 x2 10 fun o43 => bA (f_SB_append3 w G8 x2 (w 3)) fun v46 G45 => gOb G45 x0 6 fun o48 => bA (f_M_at G45 x0 x1 x3) fun v51 G50 => gLd G50 v51 100 (nI 0) fun v52 => gOb G50 v46 10 fun o54 => bA (f_SB_append2 w G50 v46 v52) fun v57 G56 => gOb G56 v57 10 fun o59 => bA (f_SB_append1 w G56 v57 (nI 46)) fun v62 G61 => gOb G61 x0 6 fun o64 => bA (f_M_at G61 x0 x1 x3) fun v67 G66 => gLd G66 v67 100 (nI 1) fun v68 => gOb G66 v62 10 fun o70 => bA (f_SB_append2 w G66 v62 v68) fun v73 G72 => f_M_textOf_L10 w K70 n G72 x0 x1 x2 (x3 + (nI 1))
def f_M_textOf (w : Nat → Nat) (G : gH) (a0 : Nat) (a1 : Int32) : gR :=
  gNewO G 10 4 [.null, .int 0, .int 0, .int 0] fun q1 G2 => bV (f_SB_init w G2 q1) fun G4 => f_M_textOf_L10 w (fun G79 x76 x77 x78 => gOb G79 x76 6 fun o81 => bI (f_M_length G79 x76 x77) fun v84 G83 => if v84 = 0 then rA (w 7) G83
    else gOb G83 x78 10 fun o86 => bA (f_SB_toString w G83 x78) fun v89 G88 => rA v89 G88) zFu G4 a0 a1 q1 (nI 0)
theorem k_M_textOf_L10 {l : Launch} {D : va_G} {B : Nat} {O : State → Heap → Prop} {w : Nat → Nat} (hV : zGw l D B O w) {o : gO} {Gf : gH} (K70 : gH → Nat → Int32 → Nat → gR) (hK70 : ∀ (G : gH) (x0 : Nat) (x1 : Int32) (x2 : Nat), K70 G x0 x1 x2 = some (o, Gf) → Y (zVm l D B O) m_M_textOf 13 o Gf 70 [some (.ref x0), some (.int x1), some (.ref x2), none] [] G) : ∀ (n : Nat) (G : gH) (x0 : Nat) (x1 : Int32) (x2 : Nat) (x3 : Int32), f_M_textOf_L10 w K70 n G x0 x1 x2 x3 = some (o, Gf) → Y (zVm l D B O) m_M_textOf 13 o Gf 10 [some (.ref x0), some (.int x1), some (.ref x2), some (.int x3)] [] G := by
  have hdd : lSa m_M_textOf 10 [(.iload_n 3, 0), (.aload_n 0, 0), (.iload_n 1, 0)] = true ∧ lIa m_M_textOf 13 (.invokevirtual 74) 3 = true ∧ lIa m_M_textOf 16 (.if_icmp .ge 54) 3 = true ∧ lSa m_M_textOf 19 [(.aload_n 2, 0), (.iload_n 3, 0)] = true ∧ lIa m_M_textOf 21 (.ifCond .ne 9) 3 = true ∧ lIa m_M_textOf 24 (.ldc_w 263) 3 = true ∧ lIa m_M_textOf 27 (.goto 6) 3 = true ∧ lIa m_M_textOf 33 (.invokevirtual 267) 3 = true ∧ lSa m_M_textOf 36 [(.aload_n 0, 0), (.iload_n 1, 0), (.iload_n 3, 0)] = true ∧ lIa m_M_textOf 39 (.invokevirtual 132) 3 = true ∧ lSa m_M_textOf 42 [(.iconst 0, nI 0)] = true ∧ lIa m_M_textOf 43 (.iaload) 1 = true ∧ lIa m_M_textOf 44 (.invokevirtual 271) 3 = true ∧ lSa m_M_textOf 47 [(.bipush 46, nI 46)] = true ∧ lIa m_M_textOf 49 (.invokevirtual 274) 3 = true ∧ lSa m_M_textOf 52 [(.aload_n 0, 0), (.iload_n 1, 0), (.iload_n 3, 0)] = true ∧ lIa m_M_textOf 55 (.invokevirtual 132) 3 = true ∧ lSa m_M_textOf 58 [(.iconst 1, nI 1)] = true ∧ lIa m_M_textOf 59 (.iaload) 1 = true ∧ lIa m_M_textOf 60 (.invokevirtual 271) 3 = true ∧ lSa m_M_textOf 63 [(.pop, 0), (.iinc 3 1, nI 1)] = true ∧ lIa m_M_textOf 67 (.goto (-57)) 3 = true ∧ lIa m_M_textOf 30 (.ldc_w 265) 3 = true := by decide +kernel
  refine lA8 hdd (fun dd0 dd1 dd2 dd3 dd4 dd5 dd6 dd7 hdd => ?_)
  refine lA8 hdd (fun dd8 dd9 dd10 dd11 dd12 dd13 dd14 dd15 hdd => ?_)
  obtain ⟨dd16, dd17, dd18, dd19, dd20, dd21, dd22⟩ := hdd
  intro n
  induction n with
  | zero => intro G x0 x1 x2 x3 h; cases h
  | succ n ih =>
    intro G x0 x1 x2 x3 h
    unfold f_M_textOf_L10 at h
    refine Y.blk (pc' := 13) (L' := [some (.ref x0), some (.int x1), some (.ref x2), some (.int x3)]) (st' := [.int x1, .ref x0, .int x3]) (sg := [(.iload_n 3, 0), (.aload_n 0, 0), (.iload_n 1, 0)]) (lSa_ok dd0) rfl ?_
    obtain ⟨_, o6, e5, m7, h⟩ := gOb_inv h
    refine Y.callI (yC.Vi (b := x0) (As := [.int x1]) (st := [.int x3]) (r := ("PartlisterModel", T_M, 9)) hV.1.1 cb_M_length lk_M_74 in_M_length rfl se_M_length (lIa_ok dd1) rfl rfl (Nat.le_of_ble_eq_true rfl) (by decide) e5 m7) (k_M_length hV.1 G x0 x1) h (fun v9 G8 _ h => ?_)
    refine Y.ic_ge (off := 54) (tgt := 70) (lIa_ok dd2) (by decide) h (fun c75 h => ?_) (fun c75 h => ?_)
    · refine Y.less (L' := [some (.ref x0), some (.int x1), some (.ref x2), none]) (zLe_some (zLe_some (zLe_some (zLe_none (zLe_nil))))) ?_
      exact hK70 G8 x0 x1 x2 h
    · refine Y.blk (pc' := 21) (L' := [some (.ref x0), some (.int x1), some (.ref x2), some (.int x3)]) (st' := [.int x3, .ref x2]) (sg := [(.aload_n 2, 0), (.iload_n 3, 0)]) (lSa_ok dd3) rfl ?_
      refine Y.if_ne (off := 9) (tgt := 30) (lIa_ok dd4) (by decide) h (fun c74 h => ?_) (fun c74 h => ?_)
      · refine Y.ldcSW (fun U H h => (hV.2 U H h).2.2.2.2.2.1) (lIa_ok dd5) ?_
        refine Y.goto (off := 6) (tgt := 33) (lIa_ok dd6) (by decide) ?_
        obtain ⟨_, o11, e10, m12, h⟩ := gOb_inv h
        refine Y.callA (yC.Vi (b := x2) (As := [.ref (w 5)]) (st := []) (r := ("java/lang/StringBuilder", T_SB, 4)) hV.1.1 cb_SB_append3 lk_M_267 in_SB_append3 rfl se_SB_append3 (lIa_ok dd7) rfl rfl (Nat.le_of_ble_eq_true rfl) (by decide) e10 m12) (k_SB_append3 hV G8 x2 (w 5)) h (fun v14 G13 _ h => ?_)
        refine Y.blk (pc' := 39) (L' := [some (.ref x0), some (.int x1), some (.ref x2), some (.int x3)]) (st' := [.int x3, .int x1, .ref x0, .ref v14]) (sg := [(.aload_n 0, 0), (.iload_n 1, 0), (.iload_n 3, 0)]) (lSa_ok dd8) rfl ?_
        obtain ⟨_, o16, e15, m17, h⟩ := gOb_inv h
        refine Y.callA (yC.Vi (b := x0) (As := [.int x1, .int x3]) (st := [.ref v14]) (r := ("PartlisterModel", T_M, 9)) hV.1.1 cb_M_at lk_M_132 in_M_at rfl se_M_at (lIa_ok dd9) rfl rfl (Nat.le_of_ble_eq_true rfl) (by decide) e15 m17) (k_M_at hV.1 G13 x0 x1 x3) h (fun v19 G18 _ h => ?_)
        refine Y.blk (pc' := 43) (L' := [some (.ref x0), some (.int x1), some (.ref x2), some (.int x3)]) (st' := [.int (nI 0), .ref v19, .ref v14]) (sg := [(.iconst 0, nI 0)]) (lSa_ok dd10) rfl ?_
        refine Y.iald (t0 := 0) (lIa_ok dd11) rfl h (fun v20 h => ?_)
        obtain ⟨_, o22, e21, m23, h⟩ := gOb_inv h
        refine Y.callA (yC.Vi (b := v14) (As := [.int v20]) (st := []) (r := ("java/lang/StringBuilder", T_SB, 4)) hV.1.1 cb_SB_append2 lk_M_271 in_SB_append2 rfl se_SB_append2 (lIa_ok dd12) rfl rfl (Nat.le_of_ble_eq_true rfl) (by decide) e21 m23) (k_SB_append2 hV G18 v14 v20) h (fun v25 G24 _ h => ?_)
        refine Y.blk (pc' := 49) (L' := [some (.ref x0), some (.int x1), some (.ref x2), some (.int x3)]) (st' := [.int (nI 46), .ref v25]) (sg := [(.bipush 46, nI 46)]) (lSa_ok dd13) rfl ?_
        obtain ⟨_, o27, e26, m28, h⟩ := gOb_inv h
        refine Y.callA (yC.Vi (b := v25) (As := [.int (nI 46)]) (st := []) (r := ("java/lang/StringBuilder", T_SB, 4)) hV.1.1 cb_SB_append1 lk_M_274 in_SB_append1 rfl se_SB_append1 (lIa_ok dd14) rfl rfl (Nat.le_of_ble_eq_true rfl) (by decide) e26 m28) (k_SB_append1 hV G24 v25 (nI 46)) h (fun v30 G29 _ h => ?_)
        refine Y.blk (pc' := 55) (L' := [some (.ref x0), some (.int x1), some (.ref x2), some (.int x3)]) (st' := [.int x3, .int x1, .ref x0, .ref v30]) (sg := [(.aload_n 0, 0), (.iload_n 1, 0), (.iload_n 3, 0)]) (lSa_ok dd15) rfl ?_
        obtain ⟨_, o32, e31, m33, h⟩ := gOb_inv h
        refine Y.callA (yC.Vi (b := x0) (As := [.int x1, .int x3]) (st := [.ref v30]) (r := ("PartlisterModel", T_M, 9)) hV.1.1 cb_M_at lk_M_132 in_M_at rfl se_M_at (lIa_ok dd16) rfl rfl (Nat.le_of_ble_eq_true rfl) (by decide) e31 m33) (k_M_at hV.1 G29 x0 x1 x3) h (fun v35 G34 _ h => ?_)
        refine Y.blk (pc' := 59) (L' := [some (.ref x0), some (.int x1), some (.ref x2), some (.int x3)]) (st' := [.int (nI 1), .ref v35, .ref v30]) (sg := [(.iconst 1, nI 1)]) (lSa_ok dd17) rfl ?_
        refine Y.iald (t0 := 0) (lIa_ok dd18) rfl h (fun v36 h => ?_)
        obtain ⟨_, o38, e37, m39, h⟩ := gOb_inv h
        refine Y.callA (yC.Vi (b := v30) (As := [.int v36]) (st := []) (r := ("java/lang/StringBuilder", T_SB, 4)) hV.1.1 cb_SB_append2 lk_M_271 in_SB_append2 rfl se_SB_append2 (lIa_ok dd19) rfl rfl (Nat.le_of_ble_eq_true rfl) (by decide) e37 m39) (k_SB_append2 hV G34 v30 v36) h (fun v41 G40 _ h => ?_)
        refine Y.blk (pc' := 67) (L' := [some (.ref x0), some (.int x1), some (.ref x2), some (.int (x3 + (nI 1)))]) (st' := []) (sg := [(.pop, 0), (.iinc 3 1, nI 1)]) (lSa_ok dd20) rfl ?_
        refine Y.goto (off := -57) (tgt := 10) (lIa_ok dd21) (by decide) ?_
        exact ih G40 x0 x1 x2 (x3 + (nI 1)) h
      · refine Y.ldcSW (fun U H h => (hV.2 U H h).2.2.2.2.1) (lIa_ok dd22) ?_
        obtain ⟨_, o43, e42, m44, h⟩ := gOb_inv h
        refine Y.callA (yC.Vi (b := x2) (As := [.ref (w 3)]) (st := []) (r := ("java/lang/StringBuilder", T_SB, 4)) hV.1.1 cb_SB_append3 lk_M_267 in_SB_append3 rfl se_SB_append3 (lIa_ok dd7) rfl rfl (Nat.le_of_ble_eq_true rfl) (by decide) e42 m44) (k_SB_append3 hV G8 x2 (w 3)) h (fun v46 G45 _ h => ?_)
        refine Y.blk (pc' := 39) (L' := [some (.ref x0), some (.int x1), some (.ref x2), some (.int x3)]) (st' := [.int x3, .int x1, .ref x0, .ref v46]) (sg := [(.aload_n 0, 0), (.iload_n 1, 0), (.iload_n 3, 0)]) (lSa_ok dd8) rfl ?_
        obtain ⟨_, o48, e47, m49, h⟩ := gOb_inv h
        refine Y.callA (yC.Vi (b := x0) (As := [.int x1, .int x3]) (st := [.ref v46]) (r := ("PartlisterModel", T_M, 9)) hV.1.1 cb_M_at lk_M_132 in_M_at rfl se_M_at (lIa_ok dd9) rfl rfl (Nat.le_of_ble_eq_true rfl) (by decide) e47 m49) (k_M_at hV.1 G45 x0 x1 x3) h (fun v51 G50 _ h => ?_)
        refine Y.blk (pc' := 43) (L' := [some (.ref x0), some (.int x1), some (.ref x2), some (.int x3)]) (st' := [.int (nI 0), .ref v51, .ref v46]) (sg := [(.iconst 0, nI 0)]) (lSa_ok dd10) rfl ?_
        refine Y.iald (t0 := 0) (lIa_ok dd11) rfl h (fun v52 h => ?_)
        obtain ⟨_, o54, e53, m55, h⟩ := gOb_inv h
        refine Y.callA (yC.Vi (b := v46) (As := [.int v52]) (st := []) (r := ("java/lang/StringBuilder", T_SB, 4)) hV.1.1 cb_SB_append2 lk_M_271 in_SB_append2 rfl se_SB_append2 (lIa_ok dd12) rfl rfl (Nat.le_of_ble_eq_true rfl) (by decide) e53 m55) (k_SB_append2 hV G50 v46 v52) h (fun v57 G56 _ h => ?_)
        refine Y.blk (pc' := 49) (L' := [some (.ref x0), some (.int x1), some (.ref x2), some (.int x3)]) (st' := [.int (nI 46), .ref v57]) (sg := [(.bipush 46, nI 46)]) (lSa_ok dd13) rfl ?_
        obtain ⟨_, o59, e58, m60, h⟩ := gOb_inv h
        refine Y.callA (yC.Vi (b := v57) (As := [.int (nI 46)]) (st := []) (r := ("java/lang/StringBuilder", T_SB, 4)) hV.1.1 cb_SB_append1 lk_M_274 in_SB_append1 rfl se_SB_append1 (lIa_ok dd14) rfl rfl (Nat.le_of_ble_eq_true rfl) (by decide) e58 m60) (k_SB_append1 hV G56 v57 (nI 46)) h (fun v62 G61 _ h => ?_)
        refine Y.blk (pc' := 55) (L' := [some (.ref x0), some (.int x1), some (.ref x2), some (.int x3)]) (st' := [.int x3, .int x1, .ref x0, .ref v62]) (sg := [(.aload_n 0, 0), (.iload_n 1, 0), (.iload_n 3, 0)]) (lSa_ok dd15) rfl ?_
        obtain ⟨_, o64, e63, m65, h⟩ := gOb_inv h
        refine Y.callA (yC.Vi (b := x0) (As := [.int x1, .int x3]) (st := [.ref v62]) (r := ("PartlisterModel", T_M, 9)) hV.1.1 cb_M_at lk_M_132 in_M_at rfl se_M_at (lIa_ok dd16) rfl rfl (Nat.le_of_ble_eq_true rfl) (by decide) e63 m65) (k_M_at hV.1 G61 x0 x1 x3) h (fun v67 G66 _ h => ?_)
        refine Y.blk (pc' := 59) (L' := [some (.ref x0), some (.int x1), some (.ref x2), some (.int x3)]) (st' := [.int (nI 1), .ref v67, .ref v62]) (sg := [(.iconst 1, nI 1)]) (lSa_ok dd17) rfl ?_
        refine Y.iald (t0 := 0) (lIa_ok dd18) rfl h (fun v68 h => ?_)
        obtain ⟨_, o70, e69, m71, h⟩ := gOb_inv h
        refine Y.callA (yC.Vi (b := v62) (As := [.int v68]) (st := []) (r := ("java/lang/StringBuilder", T_SB, 4)) hV.1.1 cb_SB_append2 lk_M_271 in_SB_append2 rfl se_SB_append2 (lIa_ok dd19) rfl rfl (Nat.le_of_ble_eq_true rfl) (by decide) e69 m71) (k_SB_append2 hV G66 v62 v68) h (fun v73 G72 _ h => ?_)
        refine Y.blk (pc' := 67) (L' := [some (.ref x0), some (.int x1), some (.ref x2), some (.int (x3 + (nI 1)))]) (st' := []) (sg := [(.pop, 0), (.iinc 3 1, nI 1)]) (lSa_ok dd20) rfl ?_
        refine Y.goto (off := -57) (tgt := 10) (lIa_ok dd21) (by decide) ?_
        exact ih G72 x0 x1 x2 (x3 + (nI 1)) h
theorem k_M_textOf {l : Launch} {D : va_G} {B : Nat} {O : State → Heap → Prop} {w : Nat → Nat} (hV : zGw l D B O w) (G : gH) (a0 : Nat) (a1 : Int32) : gMet (zVm l D B O) m_M_textOf 13 [.ref a0, .int a1] G (f_M_textOf w G a0 a1) := by
  have hdd : lIa m_M_textOf 0 (.new 260) 3 = true ∧ lSa m_M_textOf 3 [(.dup, 0)] = true ∧ lIa m_M_textOf 4 (.invokespecial 262) 3 = true ∧ lSa m_M_textOf 7 [(.astore_n 2, 0), (.iconst 0, nI 0), (.istore_n 3, 0)] = true ∧ lSa m_M_textOf 70 [(.aload_n 0, 0), (.iload_n 1, 0)] = true ∧ lIa m_M_textOf 72 (.invokevirtual 74) 3 = true ∧ lIa m_M_textOf 75 (.ifCond .ne 9) 3 = true ∧ lIa m_M_textOf 78 (.ldc_w 277) 3 = true ∧ lIa m_M_textOf 81 (.goto 7) 3 = true ∧ lIa m_M_textOf 88 (.areturn) 1 = true ∧ lSa m_M_textOf 84 [(.aload_n 2, 0)] = true ∧ lIa m_M_textOf 85 (.invokevirtual 279) 3 = true := by decide +kernel
  refine lA8 hdd (fun dd0 dd1 dd2 dd3 dd4 dd5 dd6 dd7 hdd => ?_)
  obtain ⟨dd8, dd9, dd10, dd11⟩ := hdd
  refine gMet.of (by decide +kernel) (Nat.le_of_ble_eq_true rfl) [some (.ref a0), some (.int a1), none, none] (fun ls h => zEn_ok (n := 4) h) ?_
  intro o Gf h
  unfold f_M_textOf at h
  refine Y.new nc_M_260 (by decide) bk_SB (lIa_ok dd0) h (fun q1 G2 h => ?_)
  refine Y.blk (pc' := 4) (L' := [some (.ref a0), some (.int a1), none, none]) (st' := [.ref q1, .ref q1]) (sg := [(.dup, 0)]) (lSa_ok dd1) rfl ?_
  refine Y.callN (yC.I (b := q1) (As := []) (st := [.ref q1]) hV.1.1 cb_SB_init lk_M_262 in_SB_init rfl rfl (lIa_ok dd2) rfl rfl (Nat.le_of_ble_eq_true rfl) (by decide)) (k_SB_init hV G2 q1) h (fun G4 _ h => ?_)
  refine Y.blk (pc' := 10) (L' := [some (.ref a0), some (.int a1), some (.ref q1), some (.int (nI 0))]) (st' := []) (sg := [(.astore_n 2, 0), (.iconst 0, nI 0), (.istore_n 3, 0)]) (lSa_ok dd3) rfl ?_
  refine k_M_textOf_L10 hV _ ?_  zFu G4 a0 a1 q1 (nI 0) h
  · intro G79 x76 x77 x78 h
    refine Y.blk (pc' := 72) (L' := [some (.ref x76), some (.int x77), some (.ref x78), none]) (st' := [.int x77, .ref x76]) (sg := [(.aload_n 0, 0), (.iload_n 1, 0)]) (lSa_ok dd4) rfl ?_
    obtain ⟨_, o81, e80, m82, h⟩ := gOb_inv h
    refine Y.callI (yC.Vi (b := x76) (As := [.int x77]) (st := []) (r := ("PartlisterModel", T_M, 9)) hV.1.1 cb_M_length lk_M_74 in_M_length rfl se_M_length (lIa_ok dd5) rfl rfl (Nat.le_of_ble_eq_true rfl) (by decide) e80 m82) (k_M_length hV.1 G79 x76 x77) h (fun v84 G83 _ h => ?_)
    refine Y.if_ne (off := 9) (tgt := 84) (lIa_ok dd6) (by decide) h (fun c90 h => ?_) (fun c90 h => ?_)
    · refine Y.ldcSW (fun U H h => (hV.2 U H h).2.2.2.2.2.2.1) (lIa_ok dd7) ?_
      refine Y.goto (off := 7) (tgt := 88) (lIa_ok dd8) (by decide) ?_
      exact Y.aret rfl (by first | exact Or.inl ⟨_, rfl⟩ | exact Or.inr ⟨_, rfl⟩) (lIa_ok dd9) h
    · refine Y.blk (pc' := 85) (L' := [some (.ref x76), some (.int x77), some (.ref x78), none]) (st' := [.ref x78]) (sg := [(.aload_n 2, 0)]) (lSa_ok dd10) rfl ?_
      obtain ⟨_, o86, e85, m87, h⟩ := gOb_inv h
      refine Y.callA (yC.Vi (b := x78) (As := []) (st := []) (r := ("java/lang/StringBuilder", T_SB, 4)) hV.1.1 cb_SB_toString lk_M_279 in_SB_toString rfl se_SB_toString (lIa_ok dd11) rfl rfl (Nat.le_of_ble_eq_true rfl) (by decide) e85 m87) (k_SB_toString hV G83 x78) h (fun v89 G88 _ h => ?_)
      exact Y.aret rfl (by first | exact Or.inl ⟨_, rfl⟩ | exact Or.inr ⟨_, rfl⟩) (lIa_ok dd9) h

def f_M_digest_L11 (w : Nat → Nat) (K34 : gH → Nat → Int64 → gR) : Nat → gH → Nat → Int64 → Int32 → gR
  | 0, _, _, _, _ => none
  | n + 1, G, x0, x1, x3 =>
    if (nI 8) ≤ x3 then K34 G x0 x1
    else gOb G x0 6 fun o3 => bI (f_M_houseTold G x0 x3) fun v6 G5 => bL (f_M_add2 G5 x1 v6.toInt64) fun v9 G8 => f_M_digest_L11 w K34 n G8 x0 v9 (x3 + (nI 1))
def f_M_digest_L67 (w : Nat → Nat) (K111 : gH → Nat → Int64 → Int32 → gR) : Nat → gH → Nat → Int64 → Int32 → Int32 → gR
  | 0, _, _, _, _, _ => none
  | n + 1, G, x0, x1, x3, x4 =>
    gOb G x0 6 fun o28 => bI (f_M_length G x0 x3) fun v31 G30 => if v31 ≤ x4 then K111 G30 x0 x1 x3
    else gOb G30 x0 6 fun o33 => bA (f_M_at G30 x0 x3 x4) fun v36 G35 => gLd G35 v36 100 (nI 0) fun v37 => bL (f_M_add2 G35 x1 v37.toInt64) fun v40 G39 => gOb G39 x0 6 fun o42 => bA (f_M_at G39 x0 x3 x4) fun v45 G44 => gLd G44 v45 100 (nI 1) fun v46 => bL (f_M_add2 G44 v40 v46.toInt64) fun v49 G48 => f_M_digest_L67 w K111 n G48 x0 v49 x3 (x4 + (nI 1))
def f_M_digest_L194 (w : Nat → Nat) (K224 : gH → Nat → Int64 → Int32 → gR) : Nat → gH → Nat → Int64 → Int32 → Int32 → gR
  | 0, _, _, _, _, _ => none
  | n + 1, G, x0, x1, x3, x4 =>
    if (nI 4) ≤ x4 then K224 G x0 x1 x3
    else if x3 < (nI 2) then K224 G x0 x1 x3
      else gOb G x0 6 fun o117 => bI (f_M_partTold G x0 x3 x4) fun v120 G119 => bL (f_M_add2 G119 x1 v120.toInt64) fun v123 G122 => f_M_digest_L194 w K224 n G122 x0 v123 x3 (x4 + (nI 1))
def f_M_digest_L36 (w : Nat → Nat) (K230 : gH → Nat → Int64 → gR) : Nat → gH → Nat → Int64 → Int32 → gR
  | 0, _, _, _, _ => none
  | n + 1, G, x0, x1, x3 =>
    if (nI 6) ≤ x3 then K230 G x0 x1
    else gOb G x0 6 fun o15 => bI (f_M_sizeOf G x0 x3) fun v18 G17 => bL (f_M_add2 G17 x1 v18.toInt64) fun v21 G20 => gOb G20 x0 6 fun o23 => bI (f_M_isNoList G20 x0 x3) fun v26 G25 => if v26 = 0 then f_M_digest_L67 w (fun G54 x51 x52 x53 => gOb G54 x51 6 fun o56 => bI (f_M_hashOf G54 x51 x53) fun v59 G58 => bL (f_M_add2 G58 x52 v59.toInt64) fun v62 G61 => gOb G61 x51 6 fun o64 => bI (f_M_extremeOf G61 x51 x53 (nI 1)) fun v67 G66 => bL (f_M_add2 G66 v62 v67.toInt64) fun v70 G69 => gOb G69 x51 6 fun o72 => bI (f_M_extremeOf G69 x51 x53 (nI 0)) fun v75 G74 => bL (f_M_add2 G74 v70 v75.toInt64) fun v78 G77 => gOb G77 x51 6 fun o80 => bI (f_M_firstOf G77 x51 x53 (nI 7)) fun v83 G82 => bL (f_M_add2 G82 v78 v83.toInt64) fun v86 G85 => gOb G85 x51 6 fun o88 => bI (f_M_lastOf G85 x51 x53 (nI 7)) fun v91 G90 => bL (f_M_add2 G90 v86 v91.toInt64) fun v94 G93 => gOb G93 x51 6 fun o96 => bI (f_M_manyOf G93 x51 x53 (nI 7)) fun v99 G98 => bL (f_M_add2 G98 v94 v99.toInt64) fun v102 G101 => gOb G101 x51 6 fun o104 => bA (f_M_textOf w G101 x51 x53) fun v107 G106 => gOb G106 v107 8 fun o109 => bI (f_ST_length w G106 v107) fun v112 G111 => bL (f_M_add2 G111 v102 v112.toInt64) fun v115 G114 => f_M_digest_L194 w (fun G129 x126 x127 x128 => f_M_digest_L36 w K230 n G129 x126 x127 (x128 + (nI 1))) zFu G114 x51 v115 x53 (nI 0)) zFu G25 x0 v21 x3 (nI 0)
      else f_M_digest_L36 w K230 n G25 x0 v21 (x3 + (nI 1))
def f_M_digest_L241 (w : Nat → Nat) (K331 : gH → Nat → Int64 → Int32 → gR) : Nat → gH → Nat → Int64 → Int32 → Int32 → gR
  | 0, _, _, _, _, _ => none
  | n + 1, G, x0, x1, x3, x4 =>
    if (nI 6) ≤ x4 then K331 G x0 x1 x3
    else gOb G x0 6 fun o136 => bI (f_M_isNoList G x0 x3) fun v139 G138 => if v139 = 0 then (gOb G138 x0 6 fun o141 => bI (f_M_isNoList G138 x0 x4) fun v144 G143 => if v144 = 0 then gOb G143 x0 6 fun o146 => bI (f_M_same G143 x0 x3 x4) fun v149 G148 => bI (f_M_one G148 v149) fun v152 G151 => bL (f_M_add2 G151 x1 v152.toInt64) fun v155 G154 => gOb G154 x0 6 fun o157 => bI (f_M_hasEach G154 x0 x3 x4) fun v160 G159 => bI (f_M_one G159 v160) fun v163 G162 => bL (f_M_add2 G162 v155 v163.toInt64) fun v166 G165 => gOb G165 x0 6 fun o168 => bI (f_M_hasNoneOf G165 x0 x3 x4) fun v171 G170 => bI (f_M_one G170 v171) fun v174 G173 => bL (f_M_add2 G173 v166 v174.toInt64) fun v177 G176 => gOb G176 x0 6 fun o179 => bI (f_M_found G176 x0 x3 x4) fun v182 G181 => bL (f_M_add2 G181 v177 v182.toInt64) fun v185 G184 => f_M_digest_L241 w K331 n G184 x0 v185 x3 (x4 + (nI 1))
        else f_M_digest_L241 w K331 n G143 x0 x1 x3 (x4 + (nI 1)))
      else f_M_digest_L241 w K331 n G138 x0 x1 x3 (x4 + (nI 1))
def f_M_digest_L232 (w : Nat → Nat) (K337 : gH → Nat → Int64 → gR) : Nat → gH → Nat → Int64 → Int32 → gR
  | 0, _, _, _, _ => none
  | n + 1, G, x0, x1, x3 =>
    if (nI 6) ≤ x3 then K337 G x0 x1
    else f_M_digest_L241 w (fun G192 x189 x190 x191 => f_M_digest_L232 w K337 n G192 x189 x190 (x191 + (nI 1))) zFu G x0 x1 x3 (nI 0)
def f_M_digest_L347 (w : Nat → Nat) (K373 : gH → Nat → Int64 → Int32 → gR) : Nat → gH → Nat → Int64 → Int32 → Int32 → gR
  | 0, _, _, _, _, _ => none
  | n + 1, G, x0, x1, x3, x4 =>
    if (nI 7) ≤ x4 then K373 G x0 x1 x3
    else gOb G x0 6 fun o198 => bI (f_M_cursorTold G x0 x3 x4) fun v201 G200 => bL (f_M_add2 G200 x1 v201.toInt64) fun v204 G203 => f_M_digest_L347 w K373 n G203 x0 v204 x3 (x4 + (nI 1))
def f_M_digest_L339 (w : Nat → Nat) (K379 : gH → Nat → Int64 → gR) : Nat → gH → Nat → Int64 → Int32 → gR
  | 0, _, _, _, _ => none
  | n + 1, G, x0, x1, x3 =>
    if (nI 3) ≤ x3 then K379 G x0 x1
    else f_M_digest_L347 w (fun G209 x206 x207 x208 => f_M_digest_L339 w K379 n G209 x206 x207 (x208 + (nI 1))) zFu G x0 x1 x3 (nI 0)
def f_M_digest (w : Nat → Nat) (G : gH) (a0 : Nat) : gR :=
  gPut G a0 6 0 (.int (nI 0)) fun G1 => f_M_digest_L11 w (fun G13 x11 x12 => f_M_digest_L36 w (fun G134 x132 x133 => f_M_digest_L232 w (fun G196 x194 x195 => f_M_digest_L339 w (fun G213 x211 x212 => gOb G213 x211 6 fun o215 => bI (f_M_isWhole w G213 x211) fun v218 G217 => bI (f_M_one G217 v218) fun v221 G220 => bL (f_M_add2 G220 x212 v221.toInt64) fun v224 G223 => rL v224 G223) zFu G196 x194 x195 (nI 0)) zFu G134 x132 x133 (nI 0)) zFu G13 x11 x12 (nI 0)) zFu G1 a0 (lN 2203) (nI 0)
theorem k_M_digest_L11 {l : Launch} {D : va_G} {B : Nat} {O : State → Heap → Prop} {w : Nat → Nat} (hV : zGw l D B O w) {o : gO} {Gf : gH} (K34 : gH → Nat → Int64 → gR) (hK34 : ∀ (G : gH) (x0 : Nat) (x1 : Int64), K34 G x0 x1 = some (o, Gf) → Y (zVm l D B O) m_M_digest 15 o Gf 34 [some (.ref x0), some (.long x1), none, none, none] [] G) : ∀ (n : Nat) (G : gH) (x0 : Nat) (x1 : Int64) (x3 : Int32), f_M_digest_L11 w K34 n G x0 x1 x3 = some (o, Gf) → Y (zVm l D B O) m_M_digest 15 o Gf 11 [some (.ref x0), some (.long x1), none, some (.int x3), none] [] G := by
  have hdd : lSa m_M_digest 11 [(.iload_n 3, 0), (.bipush 8, nI 8)] = true ∧ lIa m_M_digest 14 (.if_icmp .ge 20) 3 = true ∧ lSa m_M_digest 17 [(.lload_n 1, 0), (.aload_n 0, 0), (.iload_n 3, 0)] = true ∧ lIa m_M_digest 20 (.invokevirtual 296) 3 = true ∧ lSa m_M_digest 23 [(.i2l, 0)] = true ∧ lIa m_M_digest 24 (.invokestatic 307) 3 = true ∧ lSa m_M_digest 27 [(.lstore_n 1, 0), (.iinc 3 1, nI 1)] = true ∧ lIa m_M_digest 31 (.goto (-20)) 3 = true := by decide +kernel
  obtain ⟨dd0, dd1, dd2, dd3, dd4, dd5, dd6, dd7⟩ := hdd
  intro n
  induction n with
  | zero => intro G x0 x1 x3 h; cases h
  | succ n ih =>
    intro G x0 x1 x3 h
    unfold f_M_digest_L11 at h
    refine Y.blk (pc' := 14) (L' := [some (.ref x0), some (.long x1), none, some (.int x3), none]) (st' := [.int (nI 8), .int x3]) (sg := [(.iload_n 3, 0), (.bipush 8, nI 8)]) (lSa_ok dd0) rfl ?_
    refine Y.ic_ge (off := 20) (tgt := 34) (lIa_ok dd1) (by decide) h (fun c10 h => ?_) (fun c10 h => ?_)
    · refine Y.less (L' := [some (.ref x0), some (.long x1), none, none, none]) (zLe_some (zLe_some (zLe_some (zLe_none (zLe_some (zLe_nil)))))) ?_
      exact hK34 G x0 x1 h
    · refine Y.blk (pc' := 20) (L' := [some (.ref x0), some (.long x1), none, some (.int x3), none]) (st' := [.int x3, .ref x0, .long x1]) (sg := [(.lload_n 1, 0), (.aload_n 0, 0), (.iload_n 3, 0)]) (lSa_ok dd2) rfl ?_
      obtain ⟨_, o3, e2, m4, h⟩ := gOb_inv h
      refine Y.callI (yC.Vi (b := x0) (As := [.int x3]) (st := [.long x1]) (r := ("PartlisterModel", T_M, 9)) hV.1.1 cb_M_houseTold lk_M_296 in_M_houseTold rfl se_M_houseTold (lIa_ok dd3) rfl rfl (Nat.le_of_ble_eq_true rfl) (by decide) e2 m4) (k_M_houseTold hV.1 G x0 x3) h (fun v6 G5 _ h => ?_)
      refine Y.blk (pc' := 24) (L' := [some (.ref x0), some (.long x1), none, some (.int x3), none]) (st' := [.long v6.toInt64, .long x1]) (sg := [(.i2l, 0)]) (lSa_ok dd4) rfl ?_
      refine Y.callL (yC.S (As := [.long x1, .long v6.toInt64]) (st := []) hV.1.1 cb_M_add2 lk_M_307 st_M_add2 (lIa_ok dd5) rfl rfl (Nat.le_of_ble_eq_true rfl) (by decide)) (k_M_add2 hV.1 G5 x1 v6.toInt64) h (fun v9 G8 _ h => ?_)
      refine Y.blk (pc' := 31) (L' := [some (.ref x0), some (.long v9), none, some (.int (x3 + (nI 1))), none]) (st' := []) (sg := [(.lstore_n 1, 0), (.iinc 3 1, nI 1)]) (lSa_ok dd6) rfl ?_
      refine Y.goto (off := -20) (tgt := 11) (lIa_ok dd7) (by decide) ?_
      exact ih G8 x0 v9 (x3 + (nI 1)) h
theorem k_M_digest_L67 {l : Launch} {D : va_G} {B : Nat} {O : State → Heap → Prop} {w : Nat → Nat} (hV : zGw l D B O w) {o : gO} {Gf : gH} (K111 : gH → Nat → Int64 → Int32 → gR) (hK111 : ∀ (G : gH) (x0 : Nat) (x1 : Int64) (x3 : Int32), K111 G x0 x1 x3 = some (o, Gf) → Y (zVm l D B O) m_M_digest 15 o Gf 111 [some (.ref x0), some (.long x1), none, some (.int x3), none] [] G) : ∀ (n : Nat) (G : gH) (x0 : Nat) (x1 : Int64) (x3 : Int32) (x4 : Int32), f_M_digest_L67 w K111 n G x0 x1 x3 x4 = some (o, Gf) → Y (zVm l D B O) m_M_digest 15 o Gf 67 [some (.ref x0), some (.long x1), none, some (.int x3), some (.int x4)] [] G := by
  have hdd : lSa m_M_digest 67 [(.iload 4, 0), (.aload_n 0, 0), (.iload_n 3, 0)] = true ∧ lIa m_M_digest 71 (.invokevirtual 74) 3 = true ∧ lIa m_M_digest 74 (.if_icmp .ge 37) 3 = true ∧ lSa m_M_digest 77 [(.lload_n 1, 0), (.aload_n 0, 0), (.iload_n 3, 0), (.iload 4, 0)] = true ∧ lIa m_M_digest 82 (.invokevirtual 132) 3 = true ∧ lSa m_M_digest 85 [(.iconst 0, nI 0)] = true ∧ lIa m_M_digest 86 (.iaload) 1 = true ∧ lSa m_M_digest 87 [(.i2l, 0)] = true ∧ lIa m_M_digest 88 (.invokestatic 307) 3 = true ∧ lSa m_M_digest 91 [(.aload_n 0, 0), (.iload_n 3, 0), (.iload 4, 0)] = true ∧ lIa m_M_digest 95 (.invokevirtual 132) 3 = true ∧ lSa m_M_digest 98 [(.iconst 1, nI 1)] = true ∧ lIa m_M_digest 99 (.iaload) 1 = true ∧ lSa m_M_digest 100 [(.i2l, 0)] = true ∧ lIa m_M_digest 101 (.invokestatic 307) 3 = true ∧ lSa m_M_digest 104 [(.lstore_n 1, 0), (.iinc 4 1, nI 1)] = true ∧ lIa m_M_digest 108 (.goto (-41)) 3 = true := by decide +kernel
  refine lA8 hdd (fun dd0 dd1 dd2 dd3 dd4 dd5 dd6 dd7 hdd => ?_)
  refine lA8 hdd (fun dd8 dd9 dd10 dd11 dd12 dd13 dd14 dd15 hdd => ?_)
  have dd16 := hdd
  intro n
  induction n with
  | zero => intro G x0 x1 x3 x4 h; cases h
  | succ n ih =>
    intro G x0 x1 x3 x4 h
    unfold f_M_digest_L67 at h
    refine Y.blk (pc' := 71) (L' := [some (.ref x0), some (.long x1), none, some (.int x3), some (.int x4)]) (st' := [.int x3, .ref x0, .int x4]) (sg := [(.iload 4, 0), (.aload_n 0, 0), (.iload_n 3, 0)]) (lSa_ok dd0) rfl ?_
    obtain ⟨_, o28, e27, m29, h⟩ := gOb_inv h
    refine Y.callI (yC.Vi (b := x0) (As := [.int x3]) (st := [.int x4]) (r := ("PartlisterModel", T_M, 9)) hV.1.1 cb_M_length lk_M_74 in_M_length rfl se_M_length (lIa_ok dd1) rfl rfl (Nat.le_of_ble_eq_true rfl) (by decide) e27 m29) (k_M_length hV.1 G x0 x3) h (fun v31 G30 _ h => ?_)
    refine Y.ic_ge (off := 37) (tgt := 111) (lIa_ok dd2) (by decide) h (fun c50 h => ?_) (fun c50 h => ?_)
    · refine Y.less (L' := [some (.ref x0), some (.long x1), none, some (.int x3), none]) (zLe_some (zLe_some (zLe_some (zLe_some (zLe_none (zLe_nil)))))) ?_
      exact hK111 G30 x0 x1 x3 h
    · refine Y.blk (pc' := 82) (L' := [some (.ref x0), some (.long x1), none, some (.int x3), some (.int x4)]) (st' := [.int x4, .int x3, .ref x0, .long x1]) (sg := [(.lload_n 1, 0), (.aload_n 0, 0), (.iload_n 3, 0), (.iload 4, 0)]) (lSa_ok dd3) rfl ?_
      obtain ⟨_, o33, e32, m34, h⟩ := gOb_inv h
      refine Y.callA (yC.Vi (b := x0) (As := [.int x3, .int x4]) (st := [.long x1]) (r := ("PartlisterModel", T_M, 9)) hV.1.1 cb_M_at lk_M_132 in_M_at rfl se_M_at (lIa_ok dd4) rfl rfl (Nat.le_of_ble_eq_true rfl) (by decide) e32 m34) (k_M_at hV.1 G30 x0 x3 x4) h (fun v36 G35 _ h => ?_)
      refine Y.blk (pc' := 86) (L' := [some (.ref x0), some (.long x1), none, some (.int x3), some (.int x4)]) (st' := [.int (nI 0), .ref v36, .long x1]) (sg := [(.iconst 0, nI 0)]) (lSa_ok dd5) rfl ?_
      refine Y.iald (t0 := 0) (lIa_ok dd6) rfl h (fun v37 h => ?_)
      refine Y.blk (pc' := 88) (L' := [some (.ref x0), some (.long x1), none, some (.int x3), some (.int x4)]) (st' := [.long v37.toInt64, .long x1]) (sg := [(.i2l, 0)]) (lSa_ok dd7) rfl ?_
      refine Y.callL (yC.S (As := [.long x1, .long v37.toInt64]) (st := []) hV.1.1 cb_M_add2 lk_M_307 st_M_add2 (lIa_ok dd8) rfl rfl (Nat.le_of_ble_eq_true rfl) (by decide)) (k_M_add2 hV.1 G35 x1 v37.toInt64) h (fun v40 G39 _ h => ?_)
      refine Y.blk (pc' := 95) (L' := [some (.ref x0), some (.long x1), none, some (.int x3), some (.int x4)]) (st' := [.int x4, .int x3, .ref x0, .long v40]) (sg := [(.aload_n 0, 0), (.iload_n 3, 0), (.iload 4, 0)]) (lSa_ok dd9) rfl ?_
      obtain ⟨_, o42, e41, m43, h⟩ := gOb_inv h
      refine Y.callA (yC.Vi (b := x0) (As := [.int x3, .int x4]) (st := [.long v40]) (r := ("PartlisterModel", T_M, 9)) hV.1.1 cb_M_at lk_M_132 in_M_at rfl se_M_at (lIa_ok dd10) rfl rfl (Nat.le_of_ble_eq_true rfl) (by decide) e41 m43) (k_M_at hV.1 G39 x0 x3 x4) h (fun v45 G44 _ h => ?_)
      refine Y.blk (pc' := 99) (L' := [some (.ref x0), some (.long x1), none, some (.int x3), some (.int x4)]) (st' := [.int (nI 1), .ref v45, .long v40]) (sg := [(.iconst 1, nI 1)]) (lSa_ok dd11) rfl ?_
      refine Y.iald (t0 := 0) (lIa_ok dd12) rfl h (fun v46 h => ?_)
      refine Y.blk (pc' := 101) (L' := [some (.ref x0), some (.long x1), none, some (.int x3), some (.int x4)]) (st' := [.long v46.toInt64, .long v40]) (sg := [(.i2l, 0)]) (lSa_ok dd13) rfl ?_
      refine Y.callL (yC.S (As := [.long v40, .long v46.toInt64]) (st := []) hV.1.1 cb_M_add2 lk_M_307 st_M_add2 (lIa_ok dd14) rfl rfl (Nat.le_of_ble_eq_true rfl) (by decide)) (k_M_add2 hV.1 G44 v40 v46.toInt64) h (fun v49 G48 _ h => ?_)
      refine Y.blk (pc' := 108) (L' := [some (.ref x0), some (.long v49), none, some (.int x3), some (.int (x4 + (nI 1)))]) (st' := []) (sg := [(.lstore_n 1, 0), (.iinc 4 1, nI 1)]) (lSa_ok dd15) rfl ?_
      refine Y.goto (off := -41) (tgt := 67) (lIa_ok dd16) (by decide) ?_
      exact ih G48 x0 v49 x3 (x4 + (nI 1)) h
theorem k_M_digest_L194 {l : Launch} {D : va_G} {B : Nat} {O : State → Heap → Prop} {w : Nat → Nat} (hV : zGw l D B O w) {o : gO} {Gf : gH} (K224 : gH → Nat → Int64 → Int32 → gR) (hK224 : ∀ (G : gH) (x0 : Nat) (x1 : Int64) (x3 : Int32), K224 G x0 x1 x3 = some (o, Gf) → Y (zVm l D B O) m_M_digest 15 o Gf 224 [some (.ref x0), some (.long x1), none, some (.int x3), none] [] G) : ∀ (n : Nat) (G : gH) (x0 : Nat) (x1 : Int64) (x3 : Int32) (x4 : Int32), f_M_digest_L194 w K224 n G x0 x1 x3 x4 = some (o, Gf) → Y (zVm l D B O) m_M_digest 15 o Gf 194 [some (.ref x0), some (.long x1), none, some (.int x3), some (.int x4)] [] G := by
  have hdd : lSa m_M_digest 194 [(.iload 4, 0), (.iconst 4, nI 4)] = true ∧ lIa m_M_digest 197 (.if_icmp .ge 27) 3 = true ∧ lSa m_M_digest 200 [(.iload_n 3, 0), (.iconst 2, nI 2)] = true ∧ lIa m_M_digest 202 (.if_icmp .lt 22) 3 = true ∧ lSa m_M_digest 205 [(.lload_n 1, 0), (.aload_n 0, 0), (.iload_n 3, 0), (.iload 4, 0)] = true ∧ lIa m_M_digest 210 (.invokevirtual 287) 3 = true ∧ lSa m_M_digest 213 [(.i2l, 0)] = true ∧ lIa m_M_digest 214 (.invokestatic 307) 3 = true ∧ lSa m_M_digest 217 [(.lstore_n 1, 0), (.iinc 4 1, nI 1)] = true ∧ lIa m_M_digest 221 (.goto (-27)) 3 = true := by decide +kernel
  refine lA8 hdd (fun dd0 dd1 dd2 dd3 dd4 dd5 dd6 dd7 hdd => ?_)
  obtain ⟨dd8, dd9⟩ := hdd
  intro n
  induction n with
  | zero => intro G x0 x1 x3 x4 h; cases h
  | succ n ih =>
    intro G x0 x1 x3 x4 h
    unfold f_M_digest_L194 at h
    refine Y.blk (pc' := 197) (L' := [some (.ref x0), some (.long x1), none, some (.int x3), some (.int x4)]) (st' := [.int (nI 4), .int x4]) (sg := [(.iload 4, 0), (.iconst 4, nI 4)]) (lSa_ok dd0) rfl ?_
    refine Y.ic_ge (off := 27) (tgt := 224) (lIa_ok dd1) (by decide) h (fun c125 h => ?_) (fun c125 h => ?_)
    · refine Y.less (L' := [some (.ref x0), some (.long x1), none, some (.int x3), none]) (zLe_some (zLe_some (zLe_some (zLe_some (zLe_none (zLe_nil)))))) ?_
      exact hK224 G x0 x1 x3 h
    · refine Y.blk (pc' := 202) (L' := [some (.ref x0), some (.long x1), none, some (.int x3), some (.int x4)]) (st' := [.int (nI 2), .int x3]) (sg := [(.iload_n 3, 0), (.iconst 2, nI 2)]) (lSa_ok dd2) rfl ?_
      refine Y.ic_lt (off := 22) (tgt := 224) (lIa_ok dd3) (by decide) h (fun c124 h => ?_) (fun c124 h => ?_)
      · refine Y.less (L' := [some (.ref x0), some (.long x1), none, some (.int x3), none]) (zLe_some (zLe_some (zLe_some (zLe_some (zLe_none (zLe_nil)))))) ?_
        exact hK224 G x0 x1 x3 h
      · refine Y.blk (pc' := 210) (L' := [some (.ref x0), some (.long x1), none, some (.int x3), some (.int x4)]) (st' := [.int x4, .int x3, .ref x0, .long x1]) (sg := [(.lload_n 1, 0), (.aload_n 0, 0), (.iload_n 3, 0), (.iload 4, 0)]) (lSa_ok dd4) rfl ?_
        obtain ⟨_, o117, e116, m118, h⟩ := gOb_inv h
        refine Y.callI (yC.Vi (b := x0) (As := [.int x3, .int x4]) (st := [.long x1]) (r := ("PartlisterModel", T_M, 9)) hV.1.1 cb_M_partTold lk_M_287 in_M_partTold rfl se_M_partTold (lIa_ok dd5) rfl rfl (Nat.le_of_ble_eq_true rfl) (by decide) e116 m118) (k_M_partTold hV.1 G x0 x3 x4) h (fun v120 G119 _ h => ?_)
        refine Y.blk (pc' := 214) (L' := [some (.ref x0), some (.long x1), none, some (.int x3), some (.int x4)]) (st' := [.long v120.toInt64, .long x1]) (sg := [(.i2l, 0)]) (lSa_ok dd6) rfl ?_
        refine Y.callL (yC.S (As := [.long x1, .long v120.toInt64]) (st := []) hV.1.1 cb_M_add2 lk_M_307 st_M_add2 (lIa_ok dd7) rfl rfl (Nat.le_of_ble_eq_true rfl) (by decide)) (k_M_add2 hV.1 G119 x1 v120.toInt64) h (fun v123 G122 _ h => ?_)
        refine Y.blk (pc' := 221) (L' := [some (.ref x0), some (.long v123), none, some (.int x3), some (.int (x4 + (nI 1)))]) (st' := []) (sg := [(.lstore_n 1, 0), (.iinc 4 1, nI 1)]) (lSa_ok dd8) rfl ?_
        refine Y.goto (off := -27) (tgt := 194) (lIa_ok dd9) (by decide) ?_
        exact ih G122 x0 v123 x3 (x4 + (nI 1)) h
theorem k_M_digest_L36 {l : Launch} {D : va_G} {B : Nat} {O : State → Heap → Prop} {w : Nat → Nat} (hV : zGw l D B O w) {o : gO} {Gf : gH} (K230 : gH → Nat → Int64 → gR) (hK230 : ∀ (G : gH) (x0 : Nat) (x1 : Int64), K230 G x0 x1 = some (o, Gf) → Y (zVm l D B O) m_M_digest 15 o Gf 230 [some (.ref x0), some (.long x1), none, none, none] [] G) : ∀ (n : Nat) (G : gH) (x0 : Nat) (x1 : Int64) (x3 : Int32), f_M_digest_L36 w K230 n G x0 x1 x3 = some (o, Gf) → Y (zVm l D B O) m_M_digest 15 o Gf 36 [some (.ref x0), some (.long x1), none, some (.int x3), none] [] G := by
  have hdd : lSa m_M_digest 36 [(.iload_n 3, 0), (.bipush 6, nI 6)] = true ∧ lIa m_M_digest 39 (.if_icmp .ge 191) 3 = true ∧ lSa m_M_digest 42 [(.lload_n 1, 0), (.aload_n 0, 0), (.iload_n 3, 0)] = true ∧ lIa m_M_digest 45 (.invokevirtual 223) 3 = true ∧ lSa m_M_digest 48 [(.i2l, 0)] = true ∧ lIa m_M_digest 49 (.invokestatic 307) 3 = true ∧ lSa m_M_digest 52 [(.lstore_n 1, 0), (.aload_n 0, 0), (.iload_n 3, 0)] = true ∧ lIa m_M_digest 55 (.invokevirtual 110) 3 = true ∧ lIa m_M_digest 58 (.ifCond .eq 6) 3 = true ∧ lSa m_M_digest 64 [(.iconst 0, nI 0), (.istore 4, 0)] = true ∧ lSa m_M_digest 111 [(.lload_n 1, 0), (.aload_n 0, 0), (.iload_n 3, 0)] = true ∧ lIa m_M_digest 114 (.invokevirtual 257) 3 = true ∧ lSa m_M_digest 117 [(.i2l, 0)] = true ∧ lIa m_M_digest 118 (.invokestatic 307) 3 = true ∧ lSa m_M_digest 121 [(.aload_n 0, 0), (.iload_n 3, 0), (.iconst 1, nI 1)] = true ∧ lIa m_M_digest 124 (.invokevirtual 253) 3 = true ∧ lSa m_M_digest 127 [(.i2l, 0)] = true ∧ lIa m_M_digest 128 (.invokestatic 307) 3 = true ∧ lSa m_M_digest 131 [(.aload_n 0, 0), (.iload_n 3, 0), (.iconst 0, nI 0)] = true ∧ lIa m_M_digest 134 (.invokevirtual 253) 3 = true ∧ lSa m_M_digest 137 [(.i2l, 0)] = true ∧ lIa m_M_digest 138 (.invokestatic 307) 3 = true ∧ lSa m_M_digest 141 [(.lstore_n 1, 0), (.lload_n 1, 0), (.aload_n 0, 0), (.iload_n 3, 0), (.bipush 7, nI 7)] = true ∧ lIa m_M_digest 147 (.invokevirtual 163) 3 = true ∧ lSa m_M_digest 150 [(.i2l, 0)] = true ∧ lIa m_M_digest 151 (.invokestatic 307) 3 = true ∧ lSa m_M_digest 154 [(.aload_n 0, 0), (.iload_n 3, 0), (.bipush 7, nI 7)] = true ∧ lIa m_M_digest 158 (.invokevirtual 226) 3 = true ∧ lSa m_M_digest 161 [(.i2l, 0)] = true ∧ lIa m_M_digest 162 (.invokestatic 307) 3 = true ∧ lSa m_M_digest 165 [(.aload_n 0, 0), (.iload_n 3, 0), (.bipush 7, nI 7)] = true ∧ lIa m_M_digest 169 (.invokevirtual 229) 3 = true ∧ lSa m_M_digest 172 [(.i2l, 0)] = true ∧ lIa m_M_digest 173 (.invokestatic 307) 3 = true ∧ lSa m_M_digest 176 [(.lstore_n 1, 0), (.lload_n 1, 0), (.aload_n 0, 0), (.iload_n 3, 0)] = true ∧ lIa m_M_digest 180 (.invokevirtual 283) 3 = true ∧ lIa m_M_digest 183 (.invokevirtual 310) 3 = true ∧ lSa m_M_digest 186 [(.i2l, 0)] = true ∧ lIa m_M_digest 187 (.invokestatic 307) 3 = true ∧ lSa m_M_digest 190 [(.lstore_n 1, 0), (.iconst 0, nI 0), (.istore 4, 0)] = true ∧ lSa m_M_digest 224 [(.iinc 3 1, nI 1)] = true ∧ lIa m_M_digest 227 (.goto (-191)) 3 = true ∧ lIa m_M_digest 61 (.goto 163) 3 = true := by decide +kernel
  refine lA8 hdd (fun dd0 dd1 dd2 dd3 dd4 dd5 dd6 dd7 hdd => ?_)
  refine lA8 hdd (fun dd8 dd9 dd10 dd11 dd12 dd13 dd14 dd15 hdd => ?_)
  refine lA8 hdd (fun dd16 dd17 dd18 dd19 dd20 dd21 dd22 dd23 hdd => ?_)
  refine lA8 hdd (fun dd24 dd25 dd26 dd27 dd28 dd29 dd30 dd31 hdd => ?_)
  refine lA8 hdd (fun dd32 dd33 dd34 dd35 dd36 dd37 dd38 dd39 hdd => ?_)
  obtain ⟨dd40, dd41, dd42⟩ := hdd
  intro n
  induction n with
  | zero => intro G x0 x1 x3 h; cases h
  | succ n ih =>
    intro G x0 x1 x3 h
    unfold f_M_digest_L36 at h
    refine Y.blk (pc' := 39) (L' := [some (.ref x0), some (.long x1), none, some (.int x3), none]) (st' := [.int (nI 6), .int x3]) (sg := [(.iload_n 3, 0), (.bipush 6, nI 6)]) (lSa_ok dd0) rfl ?_
    refine Y.ic_ge (off := 191) (tgt := 230) (lIa_ok dd1) (by decide) h (fun c131 h => ?_) (fun c131 h => ?_)
    · refine Y.less (L' := [some (.ref x0), some (.long x1), none, none, none]) (zLe_some (zLe_some (zLe_some (zLe_none (zLe_some (zLe_nil)))))) ?_
      exact hK230 G x0 x1 h
    · refine Y.blk (pc' := 45) (L' := [some (.ref x0), some (.long x1), none, some (.int x3), none]) (st' := [.int x3, .ref x0, .long x1]) (sg := [(.lload_n 1, 0), (.aload_n 0, 0), (.iload_n 3, 0)]) (lSa_ok dd2) rfl ?_
      obtain ⟨_, o15, e14, m16, h⟩ := gOb_inv h
      refine Y.callI (yC.Vi (b := x0) (As := [.int x3]) (st := [.long x1]) (r := ("PartlisterModel", T_M, 9)) hV.1.1 cb_M_sizeOf lk_M_223 in_M_sizeOf rfl se_M_sizeOf (lIa_ok dd3) rfl rfl (Nat.le_of_ble_eq_true rfl) (by decide) e14 m16) (k_M_sizeOf hV.1 G x0 x3) h (fun v18 G17 _ h => ?_)
      refine Y.blk (pc' := 49) (L' := [some (.ref x0), some (.long x1), none, some (.int x3), none]) (st' := [.long v18.toInt64, .long x1]) (sg := [(.i2l, 0)]) (lSa_ok dd4) rfl ?_
      refine Y.callL (yC.S (As := [.long x1, .long v18.toInt64]) (st := []) hV.1.1 cb_M_add2 lk_M_307 st_M_add2 (lIa_ok dd5) rfl rfl (Nat.le_of_ble_eq_true rfl) (by decide)) (k_M_add2 hV.1 G17 x1 v18.toInt64) h (fun v21 G20 _ h => ?_)
      refine Y.blk (pc' := 55) (L' := [some (.ref x0), some (.long v21), none, some (.int x3), none]) (st' := [.int x3, .ref x0]) (sg := [(.lstore_n 1, 0), (.aload_n 0, 0), (.iload_n 3, 0)]) (lSa_ok dd6) rfl ?_
      obtain ⟨_, o23, e22, m24, h⟩ := gOb_inv h
      refine Y.callI (yC.Vi (b := x0) (As := [.int x3]) (st := []) (r := ("PartlisterModel", T_M, 9)) hV.1.1 cb_M_isNoList lk_M_110 in_M_isNoList rfl se_M_isNoList (lIa_ok dd7) rfl rfl (Nat.le_of_ble_eq_true rfl) (by decide) e22 m24) (k_M_isNoList hV.1 G20 x0 x3) h (fun v26 G25 _ h => ?_)
      refine Y.if_eq (off := 6) (tgt := 64) (lIa_ok dd8) (by decide) h (fun c130 h => ?_) (fun c130 h => ?_)
      · refine Y.blk (pc' := 67) (L' := [some (.ref x0), some (.long v21), none, some (.int x3), some (.int (nI 0))]) (st' := []) (sg := [(.iconst 0, nI 0), (.istore 4, 0)]) (lSa_ok dd9) rfl ?_
        refine k_M_digest_L67 hV _ ?_  zFu G25 x0 v21 x3 (nI 0) h
        · intro G54 x51 x52 x53 h
          refine Y.blk (pc' := 114) (L' := [some (.ref x51), some (.long x52), none, some (.int x53), none]) (st' := [.int x53, .ref x51, .long x52]) (sg := [(.lload_n 1, 0), (.aload_n 0, 0), (.iload_n 3, 0)]) (lSa_ok dd10) rfl ?_
          obtain ⟨_, o56, e55, m57, h⟩ := gOb_inv h
          refine Y.callI (yC.Vi (b := x51) (As := [.int x53]) (st := [.long x52]) (r := ("PartlisterModel", T_M, 9)) hV.1.1 cb_M_hashOf lk_M_257 in_M_hashOf rfl se_M_hashOf (lIa_ok dd11) rfl rfl (Nat.le_of_ble_eq_true rfl) (by decide) e55 m57) (k_M_hashOf hV.1 G54 x51 x53) h (fun v59 G58 _ h => ?_)
          refine Y.blk (pc' := 118) (L' := [some (.ref x51), some (.long x52), none, some (.int x53), none]) (st' := [.long v59.toInt64, .long x52]) (sg := [(.i2l, 0)]) (lSa_ok dd12) rfl ?_
          refine Y.callL (yC.S (As := [.long x52, .long v59.toInt64]) (st := []) hV.1.1 cb_M_add2 lk_M_307 st_M_add2 (lIa_ok dd13) rfl rfl (Nat.le_of_ble_eq_true rfl) (by decide)) (k_M_add2 hV.1 G58 x52 v59.toInt64) h (fun v62 G61 _ h => ?_)
          refine Y.blk (pc' := 124) (L' := [some (.ref x51), some (.long x52), none, some (.int x53), none]) (st' := [.int (nI 1), .int x53, .ref x51, .long v62]) (sg := [(.aload_n 0, 0), (.iload_n 3, 0), (.iconst 1, nI 1)]) (lSa_ok dd14) rfl ?_
          obtain ⟨_, o64, e63, m65, h⟩ := gOb_inv h
          refine Y.callI (yC.Vi (b := x51) (As := [.int x53, .int (nI 1)]) (st := [.long v62]) (r := ("PartlisterModel", T_M, 9)) hV.1.1 cb_M_extremeOf lk_M_253 in_M_extremeOf rfl se_M_extremeOf (lIa_ok dd15) rfl rfl (Nat.le_of_ble_eq_true rfl) (by decide) e63 m65) (k_M_extremeOf hV.1 G61 x51 x53 (nI 1)) h (fun v67 G66 _ h => ?_)
          refine Y.blk (pc' := 128) (L' := [some (.ref x51), some (.long x52), none, some (.int x53), none]) (st' := [.long v67.toInt64, .long v62]) (sg := [(.i2l, 0)]) (lSa_ok dd16) rfl ?_
          refine Y.callL (yC.S (As := [.long v62, .long v67.toInt64]) (st := []) hV.1.1 cb_M_add2 lk_M_307 st_M_add2 (lIa_ok dd17) rfl rfl (Nat.le_of_ble_eq_true rfl) (by decide)) (k_M_add2 hV.1 G66 v62 v67.toInt64) h (fun v70 G69 _ h => ?_)
          refine Y.blk (pc' := 134) (L' := [some (.ref x51), some (.long x52), none, some (.int x53), none]) (st' := [.int (nI 0), .int x53, .ref x51, .long v70]) (sg := [(.aload_n 0, 0), (.iload_n 3, 0), (.iconst 0, nI 0)]) (lSa_ok dd18) rfl ?_
          obtain ⟨_, o72, e71, m73, h⟩ := gOb_inv h
          refine Y.callI (yC.Vi (b := x51) (As := [.int x53, .int (nI 0)]) (st := [.long v70]) (r := ("PartlisterModel", T_M, 9)) hV.1.1 cb_M_extremeOf lk_M_253 in_M_extremeOf rfl se_M_extremeOf (lIa_ok dd19) rfl rfl (Nat.le_of_ble_eq_true rfl) (by decide) e71 m73) (k_M_extremeOf hV.1 G69 x51 x53 (nI 0)) h (fun v75 G74 _ h => ?_)
          refine Y.blk (pc' := 138) (L' := [some (.ref x51), some (.long x52), none, some (.int x53), none]) (st' := [.long v75.toInt64, .long v70]) (sg := [(.i2l, 0)]) (lSa_ok dd20) rfl ?_
          refine Y.callL (yC.S (As := [.long v70, .long v75.toInt64]) (st := []) hV.1.1 cb_M_add2 lk_M_307 st_M_add2 (lIa_ok dd21) rfl rfl (Nat.le_of_ble_eq_true rfl) (by decide)) (k_M_add2 hV.1 G74 v70 v75.toInt64) h (fun v78 G77 _ h => ?_)
          refine Y.blk (pc' := 147) (L' := [some (.ref x51), some (.long v78), none, some (.int x53), none]) (st' := [.int (nI 7), .int x53, .ref x51, .long v78]) (sg := [(.lstore_n 1, 0), (.lload_n 1, 0), (.aload_n 0, 0), (.iload_n 3, 0), (.bipush 7, nI 7)]) (lSa_ok dd22) rfl ?_
          obtain ⟨_, o80, e79, m81, h⟩ := gOb_inv h
          refine Y.callI (yC.Vi (b := x51) (As := [.int x53, .int (nI 7)]) (st := [.long v78]) (r := ("PartlisterModel", T_M, 9)) hV.1.1 cb_M_firstOf lk_M_163 in_M_firstOf rfl se_M_firstOf (lIa_ok dd23) rfl rfl (Nat.le_of_ble_eq_true rfl) (by decide) e79 m81) (k_M_firstOf hV.1 G77 x51 x53 (nI 7)) h (fun v83 G82 _ h => ?_)
          refine Y.blk (pc' := 151) (L' := [some (.ref x51), some (.long v78), none, some (.int x53), none]) (st' := [.long v83.toInt64, .long v78]) (sg := [(.i2l, 0)]) (lSa_ok dd24) rfl ?_
          refine Y.callL (yC.S (As := [.long v78, .long v83.toInt64]) (st := []) hV.1.1 cb_M_add2 lk_M_307 st_M_add2 (lIa_ok dd25) rfl rfl (Nat.le_of_ble_eq_true rfl) (by decide)) (k_M_add2 hV.1 G82 v78 v83.toInt64) h (fun v86 G85 _ h => ?_)
          refine Y.blk (pc' := 158) (L' := [some (.ref x51), some (.long v78), none, some (.int x53), none]) (st' := [.int (nI 7), .int x53, .ref x51, .long v86]) (sg := [(.aload_n 0, 0), (.iload_n 3, 0), (.bipush 7, nI 7)]) (lSa_ok dd26) rfl ?_
          obtain ⟨_, o88, e87, m89, h⟩ := gOb_inv h
          refine Y.callI (yC.Vi (b := x51) (As := [.int x53, .int (nI 7)]) (st := [.long v86]) (r := ("PartlisterModel", T_M, 9)) hV.1.1 cb_M_lastOf lk_M_226 in_M_lastOf rfl se_M_lastOf (lIa_ok dd27) rfl rfl (Nat.le_of_ble_eq_true rfl) (by decide) e87 m89) (k_M_lastOf hV.1 G85 x51 x53 (nI 7)) h (fun v91 G90 _ h => ?_)
          refine Y.blk (pc' := 162) (L' := [some (.ref x51), some (.long v78), none, some (.int x53), none]) (st' := [.long v91.toInt64, .long v86]) (sg := [(.i2l, 0)]) (lSa_ok dd28) rfl ?_
          refine Y.callL (yC.S (As := [.long v86, .long v91.toInt64]) (st := []) hV.1.1 cb_M_add2 lk_M_307 st_M_add2 (lIa_ok dd29) rfl rfl (Nat.le_of_ble_eq_true rfl) (by decide)) (k_M_add2 hV.1 G90 v86 v91.toInt64) h (fun v94 G93 _ h => ?_)
          refine Y.blk (pc' := 169) (L' := [some (.ref x51), some (.long v78), none, some (.int x53), none]) (st' := [.int (nI 7), .int x53, .ref x51, .long v94]) (sg := [(.aload_n 0, 0), (.iload_n 3, 0), (.bipush 7, nI 7)]) (lSa_ok dd30) rfl ?_
          obtain ⟨_, o96, e95, m97, h⟩ := gOb_inv h
          refine Y.callI (yC.Vi (b := x51) (As := [.int x53, .int (nI 7)]) (st := [.long v94]) (r := ("PartlisterModel", T_M, 9)) hV.1.1 cb_M_manyOf lk_M_229 in_M_manyOf rfl se_M_manyOf (lIa_ok dd31) rfl rfl (Nat.le_of_ble_eq_true rfl) (by decide) e95 m97) (k_M_manyOf hV.1 G93 x51 x53 (nI 7)) h (fun v99 G98 _ h => ?_)
          refine Y.blk (pc' := 173) (L' := [some (.ref x51), some (.long v78), none, some (.int x53), none]) (st' := [.long v99.toInt64, .long v94]) (sg := [(.i2l, 0)]) (lSa_ok dd32) rfl ?_
          refine Y.callL (yC.S (As := [.long v94, .long v99.toInt64]) (st := []) hV.1.1 cb_M_add2 lk_M_307 st_M_add2 (lIa_ok dd33) rfl rfl (Nat.le_of_ble_eq_true rfl) (by decide)) (k_M_add2 hV.1 G98 v94 v99.toInt64) h (fun v102 G101 _ h => ?_)
          refine Y.blk (pc' := 180) (L' := [some (.ref x51), some (.long v102), none, some (.int x53), none]) (st' := [.int x53, .ref x51, .long v102]) (sg := [(.lstore_n 1, 0), (.lload_n 1, 0), (.aload_n 0, 0), (.iload_n 3, 0)]) (lSa_ok dd34) rfl ?_
          obtain ⟨_, o104, e103, m105, h⟩ := gOb_inv h
          refine Y.callA (yC.Vi (b := x51) (As := [.int x53]) (st := [.long v102]) (r := ("PartlisterModel", T_M, 9)) hV.1.1 cb_M_textOf lk_M_283 in_M_textOf rfl se_M_textOf (lIa_ok dd35) rfl rfl (Nat.le_of_ble_eq_true rfl) (by decide) e103 m105) (k_M_textOf hV G101 x51 x53) h (fun v107 G106 _ h => ?_)
          obtain ⟨_, o109, e108, m110, h⟩ := gOb_inv h
          refine Y.callI (yC.Vi (b := v107) (As := []) (st := [.long v102]) (r := ("java/lang/String", T_ST, 4)) hV.1.1 cb_ST_length lk_M_310 in_ST_length rfl se_ST_length (lIa_ok dd36) rfl rfl (Nat.le_of_ble_eq_true rfl) (by decide) e108 m110) (k_ST_length hV G106 v107) h (fun v112 G111 _ h => ?_)
          refine Y.blk (pc' := 187) (L' := [some (.ref x51), some (.long v102), none, some (.int x53), none]) (st' := [.long v112.toInt64, .long v102]) (sg := [(.i2l, 0)]) (lSa_ok dd37) rfl ?_
          refine Y.callL (yC.S (As := [.long v102, .long v112.toInt64]) (st := []) hV.1.1 cb_M_add2 lk_M_307 st_M_add2 (lIa_ok dd38) rfl rfl (Nat.le_of_ble_eq_true rfl) (by decide)) (k_M_add2 hV.1 G111 v102 v112.toInt64) h (fun v115 G114 _ h => ?_)
          refine Y.blk (pc' := 194) (L' := [some (.ref x51), some (.long v115), none, some (.int x53), some (.int (nI 0))]) (st' := []) (sg := [(.lstore_n 1, 0), (.iconst 0, nI 0), (.istore 4, 0)]) (lSa_ok dd39) rfl ?_
          refine k_M_digest_L194 hV _ ?_  zFu G114 x51 v115 x53 (nI 0) h
          · intro G129 x126 x127 x128 h
            refine Y.blk (pc' := 227) (L' := [some (.ref x126), some (.long x127), none, some (.int (x128 + (nI 1))), none]) (st' := []) (sg := [(.iinc 3 1, nI 1)]) (lSa_ok dd40) rfl ?_
            refine Y.goto (off := -191) (tgt := 36) (lIa_ok dd41) (by decide) ?_
            exact ih G129 x126 x127 (x128 + (nI 1)) h
      · refine Y.goto (off := 163) (tgt := 224) (lIa_ok dd42) (by decide) ?_
        refine Y.blk (pc' := 227) (L' := [some (.ref x0), some (.long v21), none, some (.int (x3 + (nI 1))), none]) (st' := []) (sg := [(.iinc 3 1, nI 1)]) (lSa_ok dd40) rfl ?_
        refine Y.goto (off := -191) (tgt := 36) (lIa_ok dd41) (by decide) ?_
        exact ih G25 x0 v21 (x3 + (nI 1)) h
theorem k_M_digest_L241 {l : Launch} {D : va_G} {B : Nat} {O : State → Heap → Prop} {w : Nat → Nat} (hV : zGw l D B O w) {o : gO} {Gf : gH} (K331 : gH → Nat → Int64 → Int32 → gR) (hK331 : ∀ (G : gH) (x0 : Nat) (x1 : Int64) (x3 : Int32), K331 G x0 x1 x3 = some (o, Gf) → Y (zVm l D B O) m_M_digest 15 o Gf 331 [some (.ref x0), some (.long x1), none, some (.int x3), none] [] G) : ∀ (n : Nat) (G : gH) (x0 : Nat) (x1 : Int64) (x3 : Int32) (x4 : Int32), f_M_digest_L241 w K331 n G x0 x1 x3 x4 = some (o, Gf) → Y (zVm l D B O) m_M_digest 15 o Gf 241 [some (.ref x0), some (.long x1), none, some (.int x3), some (.int x4)] [] G := by
  have hdd : lSa m_M_digest 241 [(.iload 4, 0), (.bipush 6, nI 6)] = true ∧ lIa m_M_digest 245 (.if_icmp .ge 86) 3 = true ∧ lSa m_M_digest 248 [(.aload_n 0, 0), (.iload_n 3, 0)] = true ∧ lIa m_M_digest 250 (.invokevirtual 110) 3 = true ∧ lIa m_M_digest 253 (.ifCond .ne 72) 3 = true ∧ lSa m_M_digest 256 [(.aload_n 0, 0), (.iload 4, 0)] = true ∧ lIa m_M_digest 259 (.invokevirtual 110) 3 = true ∧ lIa m_M_digest 262 (.ifCond .eq 6) 3 = true ∧ lSa m_M_digest 268 [(.lload_n 1, 0), (.aload_n 0, 0), (.iload_n 3, 0), (.iload 4, 0)] = true ∧ lIa m_M_digest 273 (.invokevirtual 244) 3 = true ∧ lIa m_M_digest 276 (.invokestatic 188) 3 = true ∧ lSa m_M_digest 279 [(.i2l, 0)] = true ∧ lIa m_M_digest 280 (.invokestatic 307) 3 = true ∧ lSa m_M_digest 283 [(.aload_n 0, 0), (.iload_n 3, 0), (.iload 4, 0)] = true ∧ lIa m_M_digest 287 (.invokevirtual 238) 3 = true ∧ lIa m_M_digest 290 (.invokestatic 188) 3 = true ∧ lSa m_M_digest 293 [(.i2l, 0)] = true ∧ lIa m_M_digest 294 (.invokestatic 307) 3 = true ∧ lSa m_M_digest 297 [(.aload_n 0, 0), (.iload_n 3, 0), (.iload 4, 0)] = true ∧ lIa m_M_digest 301 (.invokevirtual 241) 3 = true ∧ lIa m_M_digest 304 (.invokestatic 188) 3 = true ∧ lSa m_M_digest 307 [(.i2l, 0)] = true ∧ lIa m_M_digest 308 (.invokestatic 307) 3 = true ∧ lSa m_M_digest 311 [(.lstore_n 1, 0), (.lload_n 1, 0), (.aload_n 0, 0), (.iload_n 3, 0), (.iload 4, 0)] = true ∧ lIa m_M_digest 317 (.invokevirtual 247) 3 = true ∧ lSa m_M_digest 320 [(.i2l, 0)] = true ∧ lIa m_M_digest 321 (.invokestatic 307) 3 = true ∧ lSa m_M_digest 324 [(.lstore_n 1, 0), (.iinc 4 1, nI 1)] = true ∧ lIa m_M_digest 328 (.goto (-87)) 3 = true ∧ lIa m_M_digest 265 (.goto 60) 3 = true ∧ lSa m_M_digest 325 [(.iinc 4 1, nI 1)] = true := by decide +kernel
  refine lA8 hdd (fun dd0 dd1 dd2 dd3 dd4 dd5 dd6 dd7 hdd => ?_)
  refine lA8 hdd (fun dd8 dd9 dd10 dd11 dd12 dd13 dd14 dd15 hdd => ?_)
  refine lA8 hdd (fun dd16 dd17 dd18 dd19 dd20 dd21 dd22 dd23 hdd => ?_)
  obtain ⟨dd24, dd25, dd26, dd27, dd28, dd29, dd30⟩ := hdd
  intro n
  induction n with
  | zero => intro G x0 x1 x3 x4 h; cases h
  | succ n ih =>
    intro G x0 x1 x3 x4 h
    unfold f_M_digest_L241 at h
    refine Y.blk (pc' := 245) (L' := [some (.ref x0), some (.long x1), none, some (.int x3), some (.int x4)]) (st' := [.int (nI 6), .int x4]) (sg := [(.iload 4, 0), (.bipush 6, nI 6)]) (lSa_ok dd0) rfl ?_
    refine Y.ic_ge (off := 86) (tgt := 331) (lIa_ok dd1) (by decide) h (fun c188 h => ?_) (fun c188 h => ?_)
    · refine Y.less (L' := [some (.ref x0), some (.long x1), none, some (.int x3), none]) (zLe_some (zLe_some (zLe_some (zLe_some (zLe_none (zLe_nil)))))) ?_
      exact hK331 G x0 x1 x3 h
    · refine Y.blk (pc' := 250) (L' := [some (.ref x0), some (.long x1), none, some (.int x3), some (.int x4)]) (st' := [.int x3, .ref x0]) (sg := [(.aload_n 0, 0), (.iload_n 3, 0)]) (lSa_ok dd2) rfl ?_
      obtain ⟨_, o136, e135, m137, h⟩ := gOb_inv h
      refine Y.callI (yC.Vi (b := x0) (As := [.int x3]) (st := []) (r := ("PartlisterModel", T_M, 9)) hV.1.1 cb_M_isNoList lk_M_110 in_M_isNoList rfl se_M_isNoList (lIa_ok dd3) rfl rfl (Nat.le_of_ble_eq_true rfl) (by decide) e135 m137) (k_M_isNoList hV.1 G x0 x3) h (fun v139 G138 _ h => ?_)
      refine Y.if_ne (off := 72) (tgt := 325) (lIa_ok dd4) (by decide) h (fun c187 h => ?_) (fun c187 h => ?_)
      · refine Y.blk (pc' := 259) (L' := [some (.ref x0), some (.long x1), none, some (.int x3), some (.int x4)]) (st' := [.int x4, .ref x0]) (sg := [(.aload_n 0, 0), (.iload 4, 0)]) (lSa_ok dd5) rfl ?_
        obtain ⟨_, o141, e140, m142, h⟩ := gOb_inv h
        refine Y.callI (yC.Vi (b := x0) (As := [.int x4]) (st := []) (r := ("PartlisterModel", T_M, 9)) hV.1.1 cb_M_isNoList lk_M_110 in_M_isNoList rfl se_M_isNoList (lIa_ok dd6) rfl rfl (Nat.le_of_ble_eq_true rfl) (by decide) e140 m142) (k_M_isNoList hV.1 G138 x0 x4) h (fun v144 G143 _ h => ?_)
        refine Y.if_eq (off := 6) (tgt := 268) (lIa_ok dd7) (by decide) h (fun c186 h => ?_) (fun c186 h => ?_)
        · refine Y.blk (pc' := 273) (L' := [some (.ref x0), some (.long x1), none, some (.int x3), some (.int x4)]) (st' := [.int x4, .int x3, .ref x0, .long x1]) (sg := [(.lload_n 1, 0), (.aload_n 0, 0), (.iload_n 3, 0), (.iload 4, 0)]) (lSa_ok dd8) rfl ?_
          obtain ⟨_, o146, e145, m147, h⟩ := gOb_inv h
          refine Y.callI (yC.Vi (b := x0) (As := [.int x3, .int x4]) (st := [.long x1]) (r := ("PartlisterModel", T_M, 9)) hV.1.1 cb_M_same lk_M_244 in_M_same rfl se_M_same (lIa_ok dd9) rfl rfl (Nat.le_of_ble_eq_true rfl) (by decide) e145 m147) (k_M_same hV.1 G143 x0 x3 x4) h (fun v149 G148 _ h => ?_)
          refine Y.callI (yC.S (As := [.int v149]) (st := [.long x1]) hV.1.1 cb_M_one lk_M_188 st_M_one (lIa_ok dd10) rfl rfl (Nat.le_of_ble_eq_true rfl) (by decide)) (k_M_one hV.1 G148 v149) h (fun v152 G151 _ h => ?_)
          refine Y.blk (pc' := 280) (L' := [some (.ref x0), some (.long x1), none, some (.int x3), some (.int x4)]) (st' := [.long v152.toInt64, .long x1]) (sg := [(.i2l, 0)]) (lSa_ok dd11) rfl ?_
          refine Y.callL (yC.S (As := [.long x1, .long v152.toInt64]) (st := []) hV.1.1 cb_M_add2 lk_M_307 st_M_add2 (lIa_ok dd12) rfl rfl (Nat.le_of_ble_eq_true rfl) (by decide)) (k_M_add2 hV.1 G151 x1 v152.toInt64) h (fun v155 G154 _ h => ?_)
          refine Y.blk (pc' := 287) (L' := [some (.ref x0), some (.long x1), none, some (.int x3), some (.int x4)]) (st' := [.int x4, .int x3, .ref x0, .long v155]) (sg := [(.aload_n 0, 0), (.iload_n 3, 0), (.iload 4, 0)]) (lSa_ok dd13) rfl ?_
          obtain ⟨_, o157, e156, m158, h⟩ := gOb_inv h
          refine Y.callI (yC.Vi (b := x0) (As := [.int x3, .int x4]) (st := [.long v155]) (r := ("PartlisterModel", T_M, 9)) hV.1.1 cb_M_hasEach lk_M_238 in_M_hasEach rfl se_M_hasEach (lIa_ok dd14) rfl rfl (Nat.le_of_ble_eq_true rfl) (by decide) e156 m158) (k_M_hasEach hV.1 G154 x0 x3 x4) h (fun v160 G159 _ h => ?_)
          refine Y.callI (yC.S (As := [.int v160]) (st := [.long v155]) hV.1.1 cb_M_one lk_M_188 st_M_one (lIa_ok dd15) rfl rfl (Nat.le_of_ble_eq_true rfl) (by decide)) (k_M_one hV.1 G159 v160) h (fun v163 G162 _ h => ?_)
          refine Y.blk (pc' := 294) (L' := [some (.ref x0), some (.long x1), none, some (.int x3), some (.int x4)]) (st' := [.long v163.toInt64, .long v155]) (sg := [(.i2l, 0)]) (lSa_ok dd16) rfl ?_
          refine Y.callL (yC.S (As := [.long v155, .long v163.toInt64]) (st := []) hV.1.1 cb_M_add2 lk_M_307 st_M_add2 (lIa_ok dd17) rfl rfl (Nat.le_of_ble_eq_true rfl) (by decide)) (k_M_add2 hV.1 G162 v155 v163.toInt64) h (fun v166 G165 _ h => ?_)
          refine Y.blk (pc' := 301) (L' := [some (.ref x0), some (.long x1), none, some (.int x3), some (.int x4)]) (st' := [.int x4, .int x3, .ref x0, .long v166]) (sg := [(.aload_n 0, 0), (.iload_n 3, 0), (.iload 4, 0)]) (lSa_ok dd18) rfl ?_
          obtain ⟨_, o168, e167, m169, h⟩ := gOb_inv h
          refine Y.callI (yC.Vi (b := x0) (As := [.int x3, .int x4]) (st := [.long v166]) (r := ("PartlisterModel", T_M, 9)) hV.1.1 cb_M_hasNoneOf lk_M_241 in_M_hasNoneOf rfl se_M_hasNoneOf (lIa_ok dd19) rfl rfl (Nat.le_of_ble_eq_true rfl) (by decide) e167 m169) (k_M_hasNoneOf hV.1 G165 x0 x3 x4) h (fun v171 G170 _ h => ?_)
          refine Y.callI (yC.S (As := [.int v171]) (st := [.long v166]) hV.1.1 cb_M_one lk_M_188 st_M_one (lIa_ok dd20) rfl rfl (Nat.le_of_ble_eq_true rfl) (by decide)) (k_M_one hV.1 G170 v171) h (fun v174 G173 _ h => ?_)
          refine Y.blk (pc' := 308) (L' := [some (.ref x0), some (.long x1), none, some (.int x3), some (.int x4)]) (st' := [.long v174.toInt64, .long v166]) (sg := [(.i2l, 0)]) (lSa_ok dd21) rfl ?_
          refine Y.callL (yC.S (As := [.long v166, .long v174.toInt64]) (st := []) hV.1.1 cb_M_add2 lk_M_307 st_M_add2 (lIa_ok dd22) rfl rfl (Nat.le_of_ble_eq_true rfl) (by decide)) (k_M_add2 hV.1 G173 v166 v174.toInt64) h (fun v177 G176 _ h => ?_)
          refine Y.blk (pc' := 317) (L' := [some (.ref x0), some (.long v177), none, some (.int x3), some (.int x4)]) (st' := [.int x4, .int x3, .ref x0, .long v177]) (sg := [(.lstore_n 1, 0), (.lload_n 1, 0), (.aload_n 0, 0), (.iload_n 3, 0), (.iload 4, 0)]) (lSa_ok dd23) rfl ?_
          obtain ⟨_, o179, e178, m180, h⟩ := gOb_inv h
          refine Y.callI (yC.Vi (b := x0) (As := [.int x3, .int x4]) (st := [.long v177]) (r := ("PartlisterModel", T_M, 9)) hV.1.1 cb_M_found lk_M_247 in_M_found rfl se_M_found (lIa_ok dd24) rfl rfl (Nat.le_of_ble_eq_true rfl) (by decide) e178 m180) (k_M_found hV.1 G176 x0 x3 x4) h (fun v182 G181 _ h => ?_)
          refine Y.blk (pc' := 321) (L' := [some (.ref x0), some (.long v177), none, some (.int x3), some (.int x4)]) (st' := [.long v182.toInt64, .long v177]) (sg := [(.i2l, 0)]) (lSa_ok dd25) rfl ?_
          refine Y.callL (yC.S (As := [.long v177, .long v182.toInt64]) (st := []) hV.1.1 cb_M_add2 lk_M_307 st_M_add2 (lIa_ok dd26) rfl rfl (Nat.le_of_ble_eq_true rfl) (by decide)) (k_M_add2 hV.1 G181 v177 v182.toInt64) h (fun v185 G184 _ h => ?_)
          refine Y.blk (pc' := 328) (L' := [some (.ref x0), some (.long v185), none, some (.int x3), some (.int (x4 + (nI 1)))]) (st' := []) (sg := [(.lstore_n 1, 0), (.iinc 4 1, nI 1)]) (lSa_ok dd27) rfl ?_
          refine Y.goto (off := -87) (tgt := 241) (lIa_ok dd28) (by decide) ?_
          exact ih G184 x0 v185 x3 (x4 + (nI 1)) h
        · refine Y.goto (off := 60) (tgt := 325) (lIa_ok dd29) (by decide) ?_
          refine Y.blk (pc' := 328) (L' := [some (.ref x0), some (.long x1), none, some (.int x3), some (.int (x4 + (nI 1)))]) (st' := []) (sg := [(.iinc 4 1, nI 1)]) (lSa_ok dd30) rfl ?_
          refine Y.goto (off := -87) (tgt := 241) (lIa_ok dd28) (by decide) ?_
          exact ih G143 x0 x1 x3 (x4 + (nI 1)) h
      · refine Y.blk (pc' := 328) (L' := [some (.ref x0), some (.long x1), none, some (.int x3), some (.int (x4 + (nI 1)))]) (st' := []) (sg := [(.iinc 4 1, nI 1)]) (lSa_ok dd30) rfl ?_
        refine Y.goto (off := -87) (tgt := 241) (lIa_ok dd28) (by decide) ?_
        exact ih G138 x0 x1 x3 (x4 + (nI 1)) h
theorem k_M_digest_L232 {l : Launch} {D : va_G} {B : Nat} {O : State → Heap → Prop} {w : Nat → Nat} (hV : zGw l D B O w) {o : gO} {Gf : gH} (K337 : gH → Nat → Int64 → gR) (hK337 : ∀ (G : gH) (x0 : Nat) (x1 : Int64), K337 G x0 x1 = some (o, Gf) → Y (zVm l D B O) m_M_digest 15 o Gf 337 [some (.ref x0), some (.long x1), none, none, none] [] G) : ∀ (n : Nat) (G : gH) (x0 : Nat) (x1 : Int64) (x3 : Int32), f_M_digest_L232 w K337 n G x0 x1 x3 = some (o, Gf) → Y (zVm l D B O) m_M_digest 15 o Gf 232 [some (.ref x0), some (.long x1), none, some (.int x3), none] [] G := by
  have hdd : lSa m_M_digest 232 [(.iload_n 3, 0), (.bipush 6, nI 6)] = true ∧ lIa m_M_digest 235 (.if_icmp .ge 102) 3 = true ∧ lSa m_M_digest 238 [(.iconst 0, nI 0), (.istore 4, 0)] = true ∧ lSa m_M_digest 331 [(.iinc 3 1, nI 1)] = true ∧ lIa m_M_digest 334 (.goto (-102)) 3 = true := by decide +kernel
  obtain ⟨dd0, dd1, dd2, dd3, dd4⟩ := hdd
  intro n
  induction n with
  | zero => intro G x0 x1 x3 h; cases h
  | succ n ih =>
    intro G x0 x1 x3 h
    unfold f_M_digest_L232 at h
    refine Y.blk (pc' := 235) (L' := [some (.ref x0), some (.long x1), none, some (.int x3), none]) (st' := [.int (nI 6), .int x3]) (sg := [(.iload_n 3, 0), (.bipush 6, nI 6)]) (lSa_ok dd0) rfl ?_
    refine Y.ic_ge (off := 102) (tgt := 337) (lIa_ok dd1) (by decide) h (fun c193 h => ?_) (fun c193 h => ?_)
    · refine Y.less (L' := [some (.ref x0), some (.long x1), none, none, none]) (zLe_some (zLe_some (zLe_some (zLe_none (zLe_some (zLe_nil)))))) ?_
      exact hK337 G x0 x1 h
    · refine Y.blk (pc' := 241) (L' := [some (.ref x0), some (.long x1), none, some (.int x3), some (.int (nI 0))]) (st' := []) (sg := [(.iconst 0, nI 0), (.istore 4, 0)]) (lSa_ok dd2) rfl ?_
      refine k_M_digest_L241 hV _ ?_  zFu G x0 x1 x3 (nI 0) h
      · intro G192 x189 x190 x191 h
        refine Y.blk (pc' := 334) (L' := [some (.ref x189), some (.long x190), none, some (.int (x191 + (nI 1))), none]) (st' := []) (sg := [(.iinc 3 1, nI 1)]) (lSa_ok dd3) rfl ?_
        refine Y.goto (off := -102) (tgt := 232) (lIa_ok dd4) (by decide) ?_
        exact ih G192 x189 x190 (x191 + (nI 1)) h
theorem k_M_digest_L347 {l : Launch} {D : va_G} {B : Nat} {O : State → Heap → Prop} {w : Nat → Nat} (hV : zGw l D B O w) {o : gO} {Gf : gH} (K373 : gH → Nat → Int64 → Int32 → gR) (hK373 : ∀ (G : gH) (x0 : Nat) (x1 : Int64) (x3 : Int32), K373 G x0 x1 x3 = some (o, Gf) → Y (zVm l D B O) m_M_digest 15 o Gf 373 [some (.ref x0), some (.long x1), none, some (.int x3), none] [] G) : ∀ (n : Nat) (G : gH) (x0 : Nat) (x1 : Int64) (x3 : Int32) (x4 : Int32), f_M_digest_L347 w K373 n G x0 x1 x3 x4 = some (o, Gf) → Y (zVm l D B O) m_M_digest 15 o Gf 347 [some (.ref x0), some (.long x1), none, some (.int x3), some (.int x4)] [] G := by
  have hdd : lSa m_M_digest 347 [(.iload 4, 0), (.bipush 7, nI 7)] = true ∧ lIa m_M_digest 351 (.if_icmp .ge 22) 3 = true ∧ lSa m_M_digest 354 [(.lload_n 1, 0), (.aload_n 0, 0), (.iload_n 3, 0), (.iload 4, 0)] = true ∧ lIa m_M_digest 359 (.invokevirtual 290) 3 = true ∧ lSa m_M_digest 362 [(.i2l, 0)] = true ∧ lIa m_M_digest 363 (.invokestatic 307) 3 = true ∧ lSa m_M_digest 366 [(.lstore_n 1, 0), (.iinc 4 1, nI 1)] = true ∧ lIa m_M_digest 370 (.goto (-23)) 3 = true := by decide +kernel
  obtain ⟨dd0, dd1, dd2, dd3, dd4, dd5, dd6, dd7⟩ := hdd
  intro n
  induction n with
  | zero => intro G x0 x1 x3 x4 h; cases h
  | succ n ih =>
    intro G x0 x1 x3 x4 h
    unfold f_M_digest_L347 at h
    refine Y.blk (pc' := 351) (L' := [some (.ref x0), some (.long x1), none, some (.int x3), some (.int x4)]) (st' := [.int (nI 7), .int x4]) (sg := [(.iload 4, 0), (.bipush 7, nI 7)]) (lSa_ok dd0) rfl ?_
    refine Y.ic_ge (off := 22) (tgt := 373) (lIa_ok dd1) (by decide) h (fun c205 h => ?_) (fun c205 h => ?_)
    · refine Y.less (L' := [some (.ref x0), some (.long x1), none, some (.int x3), none]) (zLe_some (zLe_some (zLe_some (zLe_some (zLe_none (zLe_nil)))))) ?_
      exact hK373 G x0 x1 x3 h
    · refine Y.blk (pc' := 359) (L' := [some (.ref x0), some (.long x1), none, some (.int x3), some (.int x4)]) (st' := [.int x4, .int x3, .ref x0, .long x1]) (sg := [(.lload_n 1, 0), (.aload_n 0, 0), (.iload_n 3, 0), (.iload 4, 0)]) (lSa_ok dd2) rfl ?_
      obtain ⟨_, o198, e197, m199, h⟩ := gOb_inv h
      refine Y.callI (yC.Vi (b := x0) (As := [.int x3, .int x4]) (st := [.long x1]) (r := ("PartlisterModel", T_M, 9)) hV.1.1 cb_M_cursorTold lk_M_290 in_M_cursorTold rfl se_M_cursorTold (lIa_ok dd3) rfl rfl (Nat.le_of_ble_eq_true rfl) (by decide) e197 m199) (k_M_cursorTold hV.1 G x0 x3 x4) h (fun v201 G200 _ h => ?_)
      refine Y.blk (pc' := 363) (L' := [some (.ref x0), some (.long x1), none, some (.int x3), some (.int x4)]) (st' := [.long v201.toInt64, .long x1]) (sg := [(.i2l, 0)]) (lSa_ok dd4) rfl ?_
      refine Y.callL (yC.S (As := [.long x1, .long v201.toInt64]) (st := []) hV.1.1 cb_M_add2 lk_M_307 st_M_add2 (lIa_ok dd5) rfl rfl (Nat.le_of_ble_eq_true rfl) (by decide)) (k_M_add2 hV.1 G200 x1 v201.toInt64) h (fun v204 G203 _ h => ?_)
      refine Y.blk (pc' := 370) (L' := [some (.ref x0), some (.long v204), none, some (.int x3), some (.int (x4 + (nI 1)))]) (st' := []) (sg := [(.lstore_n 1, 0), (.iinc 4 1, nI 1)]) (lSa_ok dd6) rfl ?_
      refine Y.goto (off := -23) (tgt := 347) (lIa_ok dd7) (by decide) ?_
      exact ih G203 x0 v204 x3 (x4 + (nI 1)) h
theorem k_M_digest_L339 {l : Launch} {D : va_G} {B : Nat} {O : State → Heap → Prop} {w : Nat → Nat} (hV : zGw l D B O w) {o : gO} {Gf : gH} (K379 : gH → Nat → Int64 → gR) (hK379 : ∀ (G : gH) (x0 : Nat) (x1 : Int64), K379 G x0 x1 = some (o, Gf) → Y (zVm l D B O) m_M_digest 15 o Gf 379 [some (.ref x0), some (.long x1), none, none, none] [] G) : ∀ (n : Nat) (G : gH) (x0 : Nat) (x1 : Int64) (x3 : Int32), f_M_digest_L339 w K379 n G x0 x1 x3 = some (o, Gf) → Y (zVm l D B O) m_M_digest 15 o Gf 339 [some (.ref x0), some (.long x1), none, some (.int x3), none] [] G := by
  have hdd : lSa m_M_digest 339 [(.iload_n 3, 0), (.iconst 3, nI 3)] = true ∧ lIa m_M_digest 341 (.if_icmp .ge 38) 3 = true ∧ lSa m_M_digest 344 [(.iconst 0, nI 0), (.istore 4, 0)] = true ∧ lSa m_M_digest 373 [(.iinc 3 1, nI 1)] = true ∧ lIa m_M_digest 376 (.goto (-37)) 3 = true := by decide +kernel
  obtain ⟨dd0, dd1, dd2, dd3, dd4⟩ := hdd
  intro n
  induction n with
  | zero => intro G x0 x1 x3 h; cases h
  | succ n ih =>
    intro G x0 x1 x3 h
    unfold f_M_digest_L339 at h
    refine Y.blk (pc' := 341) (L' := [some (.ref x0), some (.long x1), none, some (.int x3), none]) (st' := [.int (nI 3), .int x3]) (sg := [(.iload_n 3, 0), (.iconst 3, nI 3)]) (lSa_ok dd0) rfl ?_
    refine Y.ic_ge (off := 38) (tgt := 379) (lIa_ok dd1) (by decide) h (fun c210 h => ?_) (fun c210 h => ?_)
    · refine Y.less (L' := [some (.ref x0), some (.long x1), none, none, none]) (zLe_some (zLe_some (zLe_some (zLe_none (zLe_some (zLe_nil)))))) ?_
      exact hK379 G x0 x1 h
    · refine Y.blk (pc' := 347) (L' := [some (.ref x0), some (.long x1), none, some (.int x3), some (.int (nI 0))]) (st' := []) (sg := [(.iconst 0, nI 0), (.istore 4, 0)]) (lSa_ok dd2) rfl ?_
      refine k_M_digest_L347 hV _ ?_  zFu G x0 x1 x3 (nI 0) h
      · intro G209 x206 x207 x208 h
        refine Y.blk (pc' := 376) (L' := [some (.ref x206), some (.long x207), none, some (.int (x208 + (nI 1))), none]) (st' := []) (sg := [(.iinc 3 1, nI 1)]) (lSa_ok dd3) rfl ?_
        refine Y.goto (off := -37) (tgt := 339) (lIa_ok dd4) (by decide) ?_
        exact ih G209 x206 x207 (x208 + (nI 1)) h
theorem k_M_digest {l : Launch} {D : va_G} {B : Nat} {O : State → Heap → Prop} {w : Nat → Nat} (hV : zGw l D B O w) (G : gH) (a0 : Nat) : gMet (zVm l D B O) m_M_digest 15 [.ref a0] G (f_M_digest w G a0) := by
  have hdd : lSa m_M_digest 0 [(.aload_n 0, 0), (.iconst 0, nI 0)] = true ∧ lIa m_M_digest 2 (.putfield 32) 3 = true ∧ lIa m_M_digest 5 (.ldc2_w 305) 3 = true ∧ lSa m_M_digest 8 [(.lstore_n 1, 0), (.iconst 0, nI 0), (.istore_n 3, 0)] = true ∧ lSa m_M_digest 34 [(.iconst 0, nI 0), (.istore_n 3, 0)] = true ∧ lSa m_M_digest 230 [(.iconst 0, nI 0), (.istore_n 3, 0)] = true ∧ lSa m_M_digest 337 [(.iconst 0, nI 0), (.istore_n 3, 0)] = true ∧ lSa m_M_digest 379 [(.lload_n 1, 0), (.aload_n 0, 0)] = true ∧ lIa m_M_digest 381 (.invokevirtual 299) 3 = true ∧ lIa m_M_digest 384 (.invokestatic 188) 3 = true ∧ lSa m_M_digest 387 [(.i2l, 0)] = true ∧ lIa m_M_digest 388 (.invokestatic 307) 3 = true ∧ lIa m_M_digest 391 (.lreturn) 1 = true := by decide +kernel
  refine lA8 hdd (fun dd0 dd1 dd2 dd3 dd4 dd5 dd6 dd7 hdd => ?_)
  obtain ⟨dd8, dd9, dd10, dd11, dd12⟩ := hdd
  refine gMet.of (by decide +kernel) (Nat.le_of_ble_eq_true rfl) [some (.ref a0), none, none, none, none] (fun ls h => zEn_ok (n := 5) h) ?_
  intro o Gf h
  unfold f_M_digest at h
  refine Y.blk (pc' := 2) (L' := [some (.ref a0), none, none, none, none]) (st' := [.int (nI 0), .ref a0]) (sg := [(.aload_n 0, 0), (.iconst 0, nI 0)]) (lSa_ok dd0) rfl ?_
  refine Y.putf fl_M_32 (by decide) rfl rfl (lIa_ok dd1) h (fun G1 _ _ h => ?_)
  refine Y.ldc2 (v := lN 2203) co_M_305 (lIa_ok dd2) ?_
  refine Y.blk (pc' := 11) (L' := [some (.ref a0), some (.long (lN 2203)), none, some (.int (nI 0)), none]) (st' := []) (sg := [(.lstore_n 1, 0), (.iconst 0, nI 0), (.istore_n 3, 0)]) (lSa_ok dd3) rfl ?_
  refine k_M_digest_L11 hV _ ?_  zFu G1 a0 (lN 2203) (nI 0) h
  · intro G13 x11 x12 h
    refine Y.blk (pc' := 36) (L' := [some (.ref x11), some (.long x12), none, some (.int (nI 0)), none]) (st' := []) (sg := [(.iconst 0, nI 0), (.istore_n 3, 0)]) (lSa_ok dd4) rfl ?_
    refine k_M_digest_L36 hV _ ?_  zFu G13 x11 x12 (nI 0) h
    · intro G134 x132 x133 h
      refine Y.blk (pc' := 232) (L' := [some (.ref x132), some (.long x133), none, some (.int (nI 0)), none]) (st' := []) (sg := [(.iconst 0, nI 0), (.istore_n 3, 0)]) (lSa_ok dd5) rfl ?_
      refine k_M_digest_L232 hV _ ?_  zFu G134 x132 x133 (nI 0) h
      · intro G196 x194 x195 h
        refine Y.blk (pc' := 339) (L' := [some (.ref x194), some (.long x195), none, some (.int (nI 0)), none]) (st' := []) (sg := [(.iconst 0, nI 0), (.istore_n 3, 0)]) (lSa_ok dd6) rfl ?_
        refine k_M_digest_L339 hV _ ?_  zFu G196 x194 x195 (nI 0) h
        · intro G213 x211 x212 h
          refine Y.blk (pc' := 381) (L' := [some (.ref x211), some (.long x212), none, none, none]) (st' := [.ref x211, .long x212]) (sg := [(.lload_n 1, 0), (.aload_n 0, 0)]) (lSa_ok dd7) rfl ?_
          obtain ⟨_, o215, e214, m216, h⟩ := gOb_inv h
          refine Y.callI (yC.Vi (b := x211) (As := []) (st := [.long x212]) (r := ("PartlisterModel", T_M, 9)) hV.1.1 cb_M_isWhole lk_M_299 in_M_isWhole rfl se_M_isWhole (lIa_ok dd8) rfl rfl (Nat.le_of_ble_eq_true rfl) (by decide) e214 m216) (k_M_isWhole hV G213 x211) h (fun v218 G217 _ h => ?_)
          refine Y.callI (yC.S (As := [.int v218]) (st := [.long x212]) hV.1.1 cb_M_one lk_M_188 st_M_one (lIa_ok dd9) rfl rfl (Nat.le_of_ble_eq_true rfl) (by decide)) (k_M_one hV.1 G217 v218) h (fun v221 G220 _ h => ?_)
          refine Y.blk (pc' := 388) (L' := [some (.ref x211), some (.long x212), none, none, none]) (st' := [.long v221.toInt64, .long x212]) (sg := [(.i2l, 0)]) (lSa_ok dd10) rfl ?_
          refine Y.callL (yC.S (As := [.long x212, .long v221.toInt64]) (st := []) hV.1.1 cb_M_add2 lk_M_307 st_M_add2 (lIa_ok dd11) rfl rfl (Nat.le_of_ble_eq_true rfl) (by decide)) (k_M_add2 hV.1 G220 x212 v221.toInt64) h (fun v224 G223 _ h => ?_)
          exact Y.lret rfl (lIa_ok dd12) h
