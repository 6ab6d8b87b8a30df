def f_AB_length (G : gH) (a0 : Nat) : gR :=
  gFI G a0 10 3 fun v1 => rI v1 G
theorem k_AB_length {l : Launch} {D : va_G} {B : Nat} {O : State → Heap → Prop} (hV : zG l D B O) (G : gH) (a0 : Nat) : gMet (zVm l D B O) m_AB_length 2 [.ref a0] G (f_AB_length G a0) := by
  have hdd : lSa m_AB_length 0 [(.aload_n 0, 0)] = true ∧ lIa m_AB_length 1 (.getfield 79) 3 = true ∧ lIa m_AB_length 4 (.ireturn) 1 = true := by decide +kernel
  obtain ⟨dd0, dd1, dd2⟩ := hdd
  refine gMet.of (by decide +kernel) (Nat.le_of_ble_eq_true rfl) [some (.ref a0)] (fun ls h => zEn_ok (n := 1) h) ?_
  intro o Gf h
  unfold f_AB_length at h
  refine Y.blk (pc' := 1) (L' := [some (.ref a0)]) (st' := [.ref a0]) (sg := [(.aload_n 0, 0)]) (lSa_ok dd0) rfl ?_
  refine Y.getI fl_AB_79 (lIa_ok dd1) h (fun v1 h => ?_)
  exact Y.iret rfl (lIa_ok dd2) h

def f_SB_length (G : gH) (a0 : Nat) : gR :=
  gOb G a0 10 fun o2 => bI (f_AB_length G a0) fun v5 G4 => rI v5 G4
theorem k_SB_length {l : Launch} {D : va_G} {B : Nat} {O : State → Heap → Prop} (hV : zG l D B O) (G : gH) (a0 : Nat) : gMet (zVm l D B O) m_SB_length 3 [.ref a0] G (f_SB_length G a0) := by
  have hdd : lSa m_SB_length 0 [(.aload_n 0, 0)] = true ∧ lIa m_SB_length 1 (.invokespecial 343) 3 = true ∧ lIa m_SB_length 4 (.ireturn) 1 = true := by decide +kernel
  obtain ⟨dd0, dd1, dd2⟩ := hdd
  refine gMet.of (by decide +kernel) (Nat.le_of_ble_eq_true rfl) [some (.ref a0)] (fun ls h => zEn_ok (n := 1) h) ?_
  intro o Gf h
  unfold f_SB_length at h
  refine Y.blk (pc' := 1) (L' := [some (.ref a0)]) (st' := [.ref a0]) (sg := [(.aload_n 0, 0)]) (lSa_ok dd0) rfl ?_
  obtain ⟨_, o2, e1, m3, h⟩ := gOb_inv h
  refine Y.callI (yC.SU (b := a0) (As := []) (st := []) (r := ("java/lang/StringBuilder", T_SB, 4)) hV.1 cb_AB_length lk_SB_343 sm_AB_length su_SB_AB in_AB_length (by decide) rfl (lIa_ok dd1) rfl rfl (Nat.le_of_ble_eq_true rfl) (by decide) e1 m3) (k_AB_length hV G a0) h (fun v5 G4 _ h => ?_)
  exact Y.iret rfl (lIa_ok dd2) h

def f_AC_init (G : gH) (a0 : Nat) : gR :=
  rV G
theorem k_AC_init {l : Launch} {D : va_G} {B : Nat} {O : State → Heap → Prop} (hV : zG l D B O) (G : gH) (a0 : Nat) : gMet (zVm l D B O) m_AC_init 2 [.ref a0] G (f_AC_init G a0) := by
  have hdd : lSa m_AC_init 0 [(.aload_n 0, 0)] = true ∧ lIa m_AC_init 1 (.invokespecial 1) 3 = true ∧ lIa m_AC_init 4 (.return_) 1 = true := by decide +kernel
  obtain ⟨dd0, dd1, dd2⟩ := hdd
  refine gMet.of (by decide +kernel) (Nat.le_of_ble_eq_true rfl) [some (.ref a0)] (fun ls h => zEn_ok (n := 1) h) ?_
  intro o Gf h
  unfold f_AC_init at h
  refine Y.blk (pc' := 1) (L' := [some (.ref a0)]) (st' := [.ref a0]) (sg := [(.aload_n 0, 0)]) (lSa_ok dd0) rfl ?_
  refine Y.objInit lk_AC_1 in_OJ_init cw_OJ_init (by decide) rfl (Nat.le_of_ble_eq_true rfl) (lIa_ok dd1) ?_
  exact Y.vret rfl (lIa_ok dd2) h

def f_AY_init (G : gH) (a0 : Nat) : gR :=
  bV (f_AC_init G a0) fun G2 => gPut G2 a0 9 2 (.int (nI 0)) fun G3 => rV G3
theorem k_AY_init {l : Launch} {D : va_G} {B : Nat} {O : State → Heap → Prop} (hV : zG l D B O) (G : gH) (a0 : Nat) : gMet (zVm l D B O) m_AY_init 3 [.ref a0] G (f_AY_init G a0) := by
  have hdd : lSa m_AY_init 0 [(.aload_n 0, 0)] = true ∧ lIa m_AY_init 1 (.invokespecial 1) 3 = true ∧ lSa m_AY_init 4 [(.aload_n 0, 0), (.iconst 0, nI 0)] = true ∧ lIa m_AY_init 6 (.putfield 7) 3 = true ∧ lIa m_AY_init 9 (.return_) 1 = true := by decide +kernel
  obtain ⟨dd0, dd1, dd2, dd3, dd4⟩ := hdd
  refine gMet.of (by decide +kernel) (Nat.le_of_ble_eq_true rfl) [some (.ref a0)] (fun ls h => zEn_ok (n := 1) h) ?_
  intro o Gf h
  unfold f_AY_init at h
  refine Y.blk (pc' := 1) (L' := [some (.ref a0)]) (st' := [.ref a0]) (sg := [(.aload_n 0, 0)]) (lSa_ok dd0) rfl ?_
  refine Y.callN (yC.I (b := a0) (As := []) (st := []) hV.1 cb_AC_init lk_AY_1 in_AC_init rfl rfl (lIa_ok dd1) rfl rfl (Nat.le_of_ble_eq_true rfl) (by decide)) (k_AC_init hV G a0) h (fun G2 _ h => ?_)
  refine Y.blk (pc' := 6) (L' := [some (.ref a0)]) (st' := [.int (nI 0), .ref a0]) (sg := [(.aload_n 0, 0), (.iconst 0, nI 0)]) (lSa_ok dd2) rfl ?_
  refine Y.putf fl_AY_7 (by decide) rfl rfl (lIa_ok dd3) h (fun G3 _ _ h => ?_)
  exact Y.vret rfl (lIa_ok dd4) h

def f_AL_init (w : Nat → Nat) (G : gH) (a0 : Nat) : gR :=
  bV (f_AY_init G a0) fun G2 => gPut G2 a0 9 0 (.ref (w 0)) fun G3 => rV G3
theorem k_AL_init {l : Launch} {D : va_G} {B : Nat} {O : State → Heap → Prop} {w : Nat → Nat} (hV : zGw l D B O w) (G : gH) (a0 : Nat) : gMet (zVm l D B O) m_AL_init 4 [.ref a0] G (f_AL_init w G a0) := by
  have hdd : lSa m_AL_init 0 [(.aload_n 0, 0)] = true ∧ lIa m_AL_init 1 (.invokespecial 1) 3 = true ∧ lSa m_AL_init 4 [(.aload_n 0, 0)] = true ∧ lIa m_AL_init 5 (.getstatic 39) 3 = true ∧ lIa m_AL_init 8 (.putfield 9) 3 = true ∧ lIa m_AL_init 11 (.return_) 1 = true := by decide +kernel
  obtain ⟨dd0, dd1, dd2, dd3, dd4, dd5⟩ := hdd
  refine gMet.of (by decide +kernel) (Nat.le_of_ble_eq_true rfl) [some (.ref a0)] (fun ls h => zEn_ok (n := 1) h) ?_
  intro o Gf h
  unfold f_AL_init at h
  refine Y.blk (pc' := 1) (L' := [some (.ref a0)]) (st' := [.ref a0]) (sg := [(.aload_n 0, 0)]) (lSa_ok dd0) rfl ?_
  refine Y.callN (yC.I (b := a0) (As := []) (st := []) hV.1.1 cb_AY_init lk_AL_1 in_AY_init rfl rfl (lIa_ok dd1) rfl rfl (Nat.le_of_ble_eq_true rfl) (by decide)) (k_AY_init hV.1 G a0) h (fun G2 _ h => ?_)
  refine Y.blk (pc' := 5) (L' := [some (.ref a0)]) (st' := [.ref a0]) (sg := [(.aload_n 0, 0)]) (lSa_ok dd2) rfl ?_
  refine Y.gets (v := .ref (w 0)) (fun U H h => (hV.2 U H h).1) sf_AL_39 (lIa_ok dd3) ?_
  refine Y.putf fl_AL_9 (by decide) rfl rfl (lIa_ok dd4) h (fun G3 _ _ h => ?_)
  exact Y.vret rfl (lIa_ok dd5) h

def f_AR_copyOf3 (w : Nat → Nat) (G : gH) (a0 : Nat) (a1 : Int32) (a2 : Nat) : gR :=
  if a2 = (w 11) then (gNewQ G 103 a1 fun q1 G2 => gLenq G2 a0 103 fun v3 => gCpQ G2 a0 (nI 0) q1 (nI 0) (if a1 < v3 then a1 else v3) fun G4 => rA q1 G4)
  else none
theorem k_AR_copyOf3 {l : Launch} {D : va_G} {B : Nat} {O : State → Heap → Prop} {w : Nat → Nat} (hV : zGw l D B O w) (G : gH) (a0 : Nat) (a1 : Int32) (a2 : Nat) : gMet (zVm l D B O) m_AR_copyOf3 2 [.ref a0, .int a1, .ref a2] G (f_AR_copyOf3 w G a0 a1 a2) := by
  have hdd : lSa m_AR_copyOf3 0 [(.aload_n 2, 0)] = true ∧ lIa m_AR_copyOf3 1 (.ldc 110) 2 = true ∧ lIa m_AR_copyOf3 3 (.if_acmp .ne 10) 3 = true ∧ lSa m_AR_copyOf3 6 [(.iload_n 1, 0)] = true ∧ lIa m_AR_copyOf3 7 (.anewarray 2) 3 = true ∧ lIa m_AR_copyOf3 10 (.goto 14) 3 = true ∧ lSa m_AR_copyOf3 24 [(.astore_n 3, 0), (.aload_n 0, 0), (.iconst 0, nI 0), (.aload_n 3, 0), (.iconst 0, nI 0), (.aload_n 0, 0)] = true ∧ lIa m_AR_copyOf3 30 (.arraylength) 1 = true ∧ lSa m_AR_copyOf3 31 [(.iload_n 1, 0)] = true ∧ lIa m_AR_copyOf3 32 (.invokestatic 304) 3 = true ∧ lIa m_AR_copyOf3 35 (.invokestatic 150) 3 = true ∧ lSa m_AR_copyOf3 38 [(.aload_n 3, 0)] = true ∧ lIa m_AR_copyOf3 39 (.areturn) 1 = true ∧ lSa m_AR_copyOf3 13 [(.aload_n 2, 0)] = true := by decide +kernel
  refine lA8 hdd (fun dd0 dd1 dd2 dd3 dd4 dd5 dd6 dd7 hdd => ?_)
  obtain ⟨dd8, dd9, dd10, dd11, dd12, dd13⟩ := hdd
  refine gMet.of (by decide +kernel) (Nat.le_of_ble_eq_true rfl) [some (.ref a0), some (.int a1), some (.ref a2), none] (fun ls h => zEn_ok (n := 4) h) ?_
  intro o Gf h
  unfold f_AR_copyOf3 at h
  refine Y.blk (pc' := 1) (L' := [some (.ref a0), some (.int a1), some (.ref a2), none]) (st' := [.ref a2]) (sg := [(.aload_n 2, 0)]) (lSa_ok dd0) rfl ?_
  refine Y.ldcM (fun U H h => (hV.2 U H h).2.2.2.2.2.2.2.2) ck_AR_110 (lIa_ok dd1) ?_
  refine Y.ac_ne (off := 10) (tgt := 13) (lIa_ok dd2) (by decide) h (fun c5 h => ?_) (fun c5 h => ?_)
  · refine Y.blk (pc' := 7) (L' := [some (.ref a0), some (.int a1), some (.ref a2), none]) (st' := [.int a1]) (sg := [(.iload_n 1, 0)]) (lSa_ok dd3) rfl ?_
    refine Y.newq (t0 := 3) ao_OJ ck_AR_2 rfl (by decide) (lIa_ok dd4) h (fun q1 G2 h => ?_)
    refine Y.goto (off := 14) (tgt := 24) (lIa_ok dd5) (by decide) ?_
    refine Y.blk (pc' := 30) (L' := [some (.ref a0), some (.int a1), some (.ref a2), some (.ref q1)]) (st' := [.ref a0, .int (nI 0), .ref q1, .int (nI 0), .ref a0]) (sg := [(.astore_n 3, 0), (.aload_n 0, 0), (.iconst 0, nI 0), (.aload_n 3, 0), (.iconst 0, nI 0), (.aload_n 0, 0)]) (lSa_ok dd6) rfl ?_
    refine Y.alenq (t0 := 3) (lIa_ok dd7) rfl h (fun v3 h => ?_)
    refine Y.blk (pc' := 32) (L' := [some (.ref a0), some (.int a1), some (.ref a2), some (.ref q1)]) (st' := [.int a1, .int v3, .int (nI 0), .ref q1, .int (nI 0), .ref a0]) (sg := [(.iload_n 1, 0)]) (lSa_ok dd8) rfl ?_
    refine Y.mmin lk_AR_304 st_MA_min ini_MA cb_MA_min.1 (by decide) rfl (Nat.le_of_ble_eq_true rfl) (lIa_ok dd9) ?_
    refine Y.copyQ (t0 := 3) lk_AR_150 nat_copy st_copy ini_SY (by decide) rfl (Nat.le_of_ble_eq_true rfl) (lIa_ok dd10) rfl ⟨_, rfl, ca_AL⟩ rfl h (fun G4 _ _ h => ?_)
    refine Y.blk (pc' := 39) (L' := [some (.ref a0), some (.int a1), some (.ref a2), some (.ref q1)]) (st' := [.ref q1]) (sg := [(.aload_n 3, 0)]) (lSa_ok dd11) rfl ?_
    exact Y.aret rfl (by first | exact Or.inl ⟨_, rfl⟩ | exact Or.inr ⟨_, rfl⟩) (lIa_ok dd12) h
  · refine Y.blk (pc' := 14) (L' := [some (.ref a0), some (.int a1), some (.ref a2), none]) (st' := [.ref a2]) (sg := [(.aload_n 2, 0)]) (lSa_ok dd13) rfl ?_
    cases h

def f_AR_copyOf2 (w : Nat → Nat) (G : gH) (a0 : Nat) (a1 : Int32) : gR :=
  gCaQ G a0 103 (bA (f_AR_copyOf3 w G a0 a1 (w 11)) fun v3 G2 => rA v3 G2)
theorem k_AR_copyOf2 {l : Launch} {D : va_G} {B : Nat} {O : State → Heap → Prop} {w : Nat → Nat} (hV : zGw l D B O w) (G : gH) (a0 : Nat) (a1 : Int32) : gMet (zVm l D B O) m_AR_copyOf2 3 [.ref a0, .int a1] G (f_AR_copyOf2 w G a0 a1) := by
  have hdd : lSa m_AR_copyOf2 0 [(.aload_n 0, 0), (.iload_n 1, 0), (.aload_n 0, 0)] = true ∧ lIa m_AR_copyOf2 3 (.invokevirtual 86) 3 = true ∧ lIa m_AR_copyOf2 6 (.invokestatic 300) 3 = true ∧ lIa m_AR_copyOf2 9 (.areturn) 1 = true := by decide +kernel
  obtain ⟨dd0, dd1, dd2, dd3⟩ := hdd
  refine gMet.of (by decide +kernel) (Nat.le_of_ble_eq_true rfl) [some (.ref a0), some (.int a1)] (fun ls h => zEn_ok (n := 2) h) ?_
  intro o Gf h
  unfold f_AR_copyOf2 at h
  refine Y.blk (pc' := 3) (L' := [some (.ref a0), some (.int a1)]) (st' := [.ref a0, .int a1, .ref a0]) (sg := [(.aload_n 0, 0), (.iload_n 1, 0), (.aload_n 0, 0)]) (lSa_ok dd0) rfl ?_
  refine Y.getC (t0 := 3) (nm := "[Ljava/lang/Object;") (fun U H h => (hV.2 U H h).2.2.2.2.2.2.2.2) rfl (by decide) lk_AR_86 dc_getC se_getC in_getC nat_getC (by decide) rfl (Nat.le_of_ble_eq_true rfl) (lIa_ok dd1) h (fun h => ?_)
  refine Y.callA (yC.S (As := [.ref a0, .int a1, .ref (w 11)]) (st := []) hV.1.1 cb_AR_copyOf3 lk_AR_300 st_AR_copyOf3 (lIa_ok dd2) rfl rfl (Nat.le_of_ble_eq_true rfl) (by decide)) (k_AR_copyOf3 hV G a0 a1 (w 11)) h (fun v3 G2 _ h => ?_)
  exact Y.aret rfl (by first | exact Or.inl ⟨_, rfl⟩ | exact Or.inr ⟨_, rfl⟩) (lIa_ok dd3) h

def f_AS_newLength (G : gH) (a0 : Int32) (a1 : Int32) (a2 : Int32) : gR :=
  if (a0 + (if a1 < a2 then a2 else a1)) ≤ (nI 0) then none
  else if (nI 2147483639) < (a0 + (if a1 < a2 then a2 else a1)) then none
    else rI (a0 + (if a1 < a2 then a2 else a1)) G
theorem k_AS_newLength {l : Launch} {D : va_G} {B : Nat} {O : State → Heap → Prop} (hV : zG l D B O) (G : gH) (a0 : Int32) (a1 : Int32) (a2 : Int32) : gMet (zVm l D B O) m_AS_newLength 2 [.int a0, .int a1, .int a2] G (f_AS_newLength G a0 a1 a2) := by
  have hdd : lSa m_AS_newLength 0 [(.iload_n 0, 0), (.iload_n 1, 0), (.iload_n 2, 0)] = true ∧ lIa m_AS_newLength 3 (.invokestatic 194) 3 = true ∧ lSa m_AS_newLength 6 [(.iadd, 0), (.istore_n 3, 0), (.iconst 0, nI 0), (.iload_n 3, 0)] = true ∧ lIa m_AS_newLength 10 (.if_icmp .ge 11) 3 = true ∧ lSa m_AS_newLength 21 [(.iload_n 0, 0), (.iload_n 1, 0)] = true ∧ lSa m_AS_newLength 13 [(.iload_n 3, 0)] = true ∧ lIa m_AS_newLength 14 (.ldc 200) 2 = true ∧ lIa m_AS_newLength 16 (.if_icmp .gt 5) 3 = true ∧ lSa m_AS_newLength 19 [(.iload_n 3, 0)] = true ∧ lIa m_AS_newLength 20 (.ireturn) 1 = true := by decide +kernel
  refine lA8 hdd (fun dd0 dd1 dd2 dd3 dd4 dd5 dd6 dd7 hdd => ?_)
  obtain ⟨dd8, dd9⟩ := hdd
  refine gMet.of (by decide +kernel) (Nat.le_of_ble_eq_true rfl) [some (.int a0), some (.int a1), some (.int a2), none] (fun ls h => zEn_ok (n := 4) h) ?_
  intro o Gf h
  unfold f_AS_newLength at h
  refine Y.blk (pc' := 3) (L' := [some (.int a0), some (.int a1), some (.int a2), none]) (st' := [.int a2, .int a1, .int a0]) (sg := [(.iload_n 0, 0), (.iload_n 1, 0), (.iload_n 2, 0)]) (lSa_ok dd0) rfl ?_
  refine Y.mmax lk_AS_194 st_MA_max ini_MA cb_MA_max.1 (by decide) rfl (Nat.le_of_ble_eq_true rfl) (lIa_ok dd1) ?_
  refine Y.blk (pc' := 10) (L' := [some (.int a0), some (.int a1), some (.int a2), some (.int (a0 + (if a1 < a2 then a2 else a1)))]) (st' := [.int (a0 + (if a1 < a2 then a2 else a1)), .int (nI 0)]) (sg := [(.iadd, 0), (.istore_n 3, 0), (.iconst 0, nI 0), (.iload_n 3, 0)]) (lSa_ok dd2) rfl ?_
  refine Y.ic_ge (off := 11) (tgt := 21) (lIa_ok dd3) (by decide) h (fun c2 h => ?_) (fun c2 h => ?_)
  · refine Y.blk (pc' := 23) (L' := [some (.int a0), some (.int a1), some (.int a2), some (.int (a0 + (if a1 < a2 then a2 else a1)))]) (st' := [.int a1, .int a0]) (sg := [(.iload_n 0, 0), (.iload_n 1, 0)]) (lSa_ok dd4) rfl ?_
    cases h
  · refine Y.blk (pc' := 14) (L' := [some (.int a0), some (.int a1), some (.int a2), some (.int (a0 + (if a1 < a2 then a2 else a1)))]) (st' := [.int (a0 + (if a1 < a2 then a2 else a1))]) (sg := [(.iload_n 3, 0)]) (lSa_ok dd5) rfl ?_
    refine Y.ldc (v := nI 2147483639) co_AS_200 (lIa_ok dd6) ?_
    refine Y.ic_gt (off := 5) (tgt := 21) (lIa_ok dd7) (by decide) h (fun c1 h => ?_) (fun c1 h => ?_)
    · refine Y.blk (pc' := 23) (L' := [some (.int a0), some (.int a1), some (.int a2), some (.int (a0 + (if a1 < a2 then a2 else a1)))]) (st' := [.int a1, .int a0]) (sg := [(.iload_n 0, 0), (.iload_n 1, 0)]) (lSa_ok dd4) rfl ?_
      cases h
    · refine Y.blk (pc' := 20) (L' := [some (.int a0), some (.int a1), some (.int a2), some (.int (a0 + (if a1 < a2 then a2 else a1)))]) (st' := [.int (a0 + (if a1 < a2 then a2 else a1))]) (sg := [(.iload_n 3, 0)]) (lSa_ok dd8) rfl ?_
      exact Y.iret rfl (lIa_ok dd9) h

def f_AL_grow2 (w : Nat → Nat) (G : gH) (a0 : Nat) (a1 : Int32) : gR :=
  gFA G a0 9 0 fun v1 => gLenq G v1 103 fun v2 => if 0 < v2 then bI (f_AS_newLength G v2 (a1 - v2) (v2 >>> ((nI 1) &&& 31))) fun v5 G4 => gFA G4 a0 9 0 fun v6 => bA (f_AR_copyOf2 w G4 v6 v5) fun v9 G8 => gPut G8 a0 9 0 (.ref v9) fun G10 => rA v9 G10
  else gFA G a0 9 0 fun v11 => if v11 = (w 0) then (gNewQ G 103 (if (nI 10) < a1 then a1 else (nI 10)) fun q12 G13 => gPut G13 a0 9 0 (.ref q12) fun G14 => rA q12 G14)
    else bI (f_AS_newLength G v2 (a1 - v2) (v2 >>> ((nI 1) &&& 31))) fun v17 G16 => gFA G16 a0 9 0 fun v18 => bA (f_AR_copyOf2 w G16 v18 v17) fun v21 G20 => gPut G20 a0 9 0 (.ref v21) fun G22 => rA v21 G22
theorem k_AL_grow2 {l : Launch} {D : va_G} {B : Nat} {O : State → Heap → Prop} {w : Nat → Nat} (hV : zGw l D B O w) (G : gH) (a0 : Nat) (a1 : Int32) : gMet (zVm l D B O) m_AL_grow2 4 [.ref a0, .int a1] G (f_AL_grow2 w G a0 a1) := by
  have hdd : lSa m_AL_grow2 0 [(.aload_n 0, 0)] = true ∧ lIa m_AL_grow2 1 (.getfield 9) 3 = true ∧ lIa m_AL_grow2 4 (.arraylength) 1 = true ∧ lSa m_AL_grow2 5 [(.istore_n 2, 0), (.iload_n 2, 0)] = true ∧ lIa m_AL_grow2 7 (.ifCond .gt 13) 3 = true ∧ lSa m_AL_grow2 20 [(.iload_n 2, 0), (.iload_n 1, 0), (.iload_n 2, 0), (.isub, 0), (.iload_n 2, 0), (.iconst 1, nI 1), (.ishr, 0)] = true ∧ lIa m_AL_grow2 27 (.invokestatic 73) 3 = true ∧ lSa m_AL_grow2 30 [(.istore_n 3, 0), (.aload_n 0, 0), (.aload_n 0, 0)] = true ∧ lIa m_AL_grow2 33 (.getfield 9) 3 = true ∧ lSa m_AL_grow2 36 [(.iload_n 3, 0)] = true ∧ lIa m_AL_grow2 37 (.invokestatic 66) 3 = true ∧ lSa m_AL_grow2 40 [(.dup_x1, 0)] = true ∧ lIa m_AL_grow2 41 (.putfield 9) 3 = true ∧ lIa m_AL_grow2 44 (.areturn) 1 = true ∧ lSa m_AL_grow2 10 [(.aload_n 0, 0)] = true ∧ lIa m_AL_grow2 11 (.getfield 9) 3 = true ∧ lIa m_AL_grow2 14 (.getstatic 39) 3 = true ∧ lIa m_AL_grow2 17 (.if_acmp .eq 28) 3 = true ∧ lSa m_AL_grow2 45 [(.aload_n 0, 0), (.bipush 10, nI 10), (.iload_n 1, 0)] = true ∧ lIa m_AL_grow2 49 (.invokestatic 79) 3 = true ∧ lIa m_AL_grow2 52 (.anewarray 7) 3 = true ∧ lSa m_AL_grow2 55 [(.dup_x1, 0)] = true ∧ lIa m_AL_grow2 56 (.putfield 9) 3 = true ∧ lIa m_AL_grow2 59 (.areturn) 1 = true := by decide +kernel
  refine lA8 hdd (fun dd0 dd1 dd2 dd3 dd4 dd5 dd6 dd7 hdd => ?_)
  refine lA8 hdd (fun dd8 dd9 dd10 dd11 dd12 dd13 dd14 dd15 hdd => ?_)
  obtain ⟨dd16, dd17, dd18, dd19, dd20, dd21, dd22, dd23⟩ := hdd
  refine gMet.of (by decide +kernel) (Nat.le_of_ble_eq_true rfl) [some (.ref a0), some (.int a1), none, none] (fun ls h => zEn_ok (n := 4) h) ?_
  intro o Gf h
  unfold f_AL_grow2 at h
  refine Y.blk (pc' := 1) (L' := [some (.ref a0), some (.int a1), none, none]) (st' := [.ref a0]) (sg := [(.aload_n 0, 0)]) (lSa_ok dd0) rfl ?_
  refine Y.getA fl_AL_9 (lIa_ok dd1) h (fun v1 h => ?_)
  refine Y.alenq (t0 := 3) (lIa_ok dd2) rfl h (fun v2 h => ?_)
  refine Y.blk (pc' := 7) (L' := [some (.ref a0), some (.int a1), some (.int v2), none]) (st' := [.int v2]) (sg := [(.istore_n 2, 0), (.iload_n 2, 0)]) (lSa_ok dd3) rfl ?_
  refine Y.if_gt (off := 13) (tgt := 20) (lIa_ok dd4) (by decide) h (fun c24 h => ?_) (fun c24 h => ?_)
  · refine Y.blk (pc' := 27) (L' := [some (.ref a0), some (.int a1), some (.int v2), none]) (st' := [.int (v2 >>> ((nI 1) &&& 31)), .int (a1 - v2), .int v2]) (sg := [(.iload_n 2, 0), (.iload_n 1, 0), (.iload_n 2, 0), (.isub, 0), (.iload_n 2, 0), (.iconst 1, nI 1), (.ishr, 0)]) (lSa_ok dd5) rfl ?_
    refine Y.callI (yC.S (As := [.int v2, .int (a1 - v2), .int (v2 >>> ((nI 1) &&& 31))]) (st := []) hV.1.1 cb_AS_newLength lk_AL_73 st_AS_newLength (lIa_ok dd6) rfl rfl (Nat.le_of_ble_eq_true rfl) (by decide)) (k_AS_newLength hV.1 G v2 (a1 - v2) (v2 >>> ((nI 1) &&& 31))) h (fun v5 G4 _ h => ?_)
    refine Y.blk (pc' := 33) (L' := [some (.ref a0), some (.int a1), some (.int v2), some (.int v5)]) (st' := [.ref a0, .ref a0]) (sg := [(.istore_n 3, 0), (.aload_n 0, 0), (.aload_n 0, 0)]) (lSa_ok dd7) rfl ?_
    refine Y.getA fl_AL_9 (lIa_ok dd8) h (fun v6 h => ?_)
    refine Y.blk (pc' := 37) (L' := [some (.ref a0), some (.int a1), some (.int v2), some (.int v5)]) (st' := [.int v5, .ref v6, .ref a0]) (sg := [(.iload_n 3, 0)]) (lSa_ok dd9) rfl ?_
    refine Y.callA (yC.S (As := [.ref v6, .int v5]) (st := [.ref a0]) hV.1.1 cb_AR_copyOf2 lk_AL_66 st_AR_copyOf2 (lIa_ok dd10) rfl rfl (Nat.le_of_ble_eq_true rfl) (by decide)) (k_AR_copyOf2 hV G4 v6 v5) h (fun v9 G8 _ h => ?_)
    refine Y.blk (pc' := 41) (L' := [some (.ref a0), some (.int a1), some (.int v2), some (.int v5)]) (st' := [.ref v9, .ref a0, .ref v9]) (sg := [(.dup_x1, 0)]) (lSa_ok dd11) rfl ?_
    refine Y.putf fl_AL_9 (by decide) rfl rfl (lIa_ok dd12) h (fun G10 _ _ h => ?_)
    exact Y.aret rfl (by first | exact Or.inl ⟨_, rfl⟩ | exact Or.inr ⟨_, rfl⟩) (lIa_ok dd13) h
  · refine Y.blk (pc' := 11) (L' := [some (.ref a0), some (.int a1), some (.int v2), none]) (st' := [.ref a0]) (sg := [(.aload_n 0, 0)]) (lSa_ok dd14) rfl ?_
    refine Y.getA fl_AL_9 (lIa_ok dd15) h (fun v11 h => ?_)
    refine Y.gets (v := .ref (w 0)) (fun U H h => (hV.2 U H h).1) sf_AL_39 (lIa_ok dd16) ?_
    refine Y.ac_eq (off := 28) (tgt := 45) (lIa_ok dd17) (by decide) h (fun c23 h => ?_) (fun c23 h => ?_)
    · refine Y.blk (pc' := 49) (L' := [some (.ref a0), some (.int a1), some (.int v2), none]) (st' := [.int a1, .int (nI 10), .ref a0]) (sg := [(.aload_n 0, 0), (.bipush 10, nI 10), (.iload_n 1, 0)]) (lSa_ok dd18) rfl ?_
      refine Y.mmax lk_AL_79 st_MA_max ini_MA cb_MA_max.1 (by decide) rfl (Nat.le_of_ble_eq_true rfl) (lIa_ok dd19) ?_
      refine Y.newq (t0 := 3) ao_OJ ck_AL_7 rfl (by decide) (lIa_ok dd20) h (fun q12 G13 h => ?_)
      refine Y.blk (pc' := 56) (L' := [some (.ref a0), some (.int a1), some (.int v2), none]) (st' := [.ref q12, .ref a0, .ref q12]) (sg := [(.dup_x1, 0)]) (lSa_ok dd21) rfl ?_
      refine Y.putf fl_AL_9 (by decide) rfl rfl (lIa_ok dd22) h (fun G14 _ _ h => ?_)
      exact Y.aret rfl (by first | exact Or.inl ⟨_, rfl⟩ | exact Or.inr ⟨_, rfl⟩) (lIa_ok dd23) h
    · refine Y.blk (pc' := 27) (L' := [some (.ref a0), some (.int a1), some (.int v2), none]) (st' := [.int (v2 >>> ((nI 1) &&& 31)), .int (a1 - v2), .int v2]) (sg := [(.iload_n 2, 0), (.iload_n 1, 0), (.iload_n 2, 0), (.isub, 0), (.iload_n 2, 0), (.iconst 1, nI 1), (.ishr, 0)]) (lSa_ok dd5) rfl ?_
      refine Y.callI (yC.S (As := [.int v2, .int (a1 - v2), .int (v2 >>> ((nI 1) &&& 31))]) (st := []) hV.1.1 cb_AS_newLength lk_AL_73 st_AS_newLength (lIa_ok dd6) rfl rfl (Nat.le_of_ble_eq_true rfl) (by decide)) (k_AS_newLength hV.1 G v2 (a1 - v2) (v2 >>> ((nI 1) &&& 31))) h (fun v17 G16 _ h => ?_)
      refine Y.blk (pc' := 33) (L' := [some (.ref a0), some (.int a1), some (.int v2), some (.int v17)]) (st' := [.ref a0, .ref a0]) (sg := [(.istore_n 3, 0), (.aload_n 0, 0), (.aload_n 0, 0)]) (lSa_ok dd7) rfl ?_
      refine Y.getA fl_AL_9 (lIa_ok dd8) h (fun v18 h => ?_)
      refine Y.blk (pc' := 37) (L' := [some (.ref a0), some (.int a1), some (.int v2), some (.int v17)]) (st' := [.int v17, .ref v18, .ref a0]) (sg := [(.iload_n 3, 0)]) (lSa_ok dd9) rfl ?_
      refine Y.callA (yC.S (As := [.ref v18, .int v17]) (st := [.ref a0]) hV.1.1 cb_AR_copyOf2 lk_AL_66 st_AR_copyOf2 (lIa_ok dd10) rfl rfl (Nat.le_of_ble_eq_true rfl) (by decide)) (k_AR_copyOf2 hV G16 v18 v17) h (fun v21 G20 _ h => ?_)
      refine Y.blk (pc' := 41) (L' := [some (.ref a0), some (.int a1), some (.int v2), some (.int v17)]) (st' := [.ref v21, .ref a0, .ref v21]) (sg := [(.dup_x1, 0)]) (lSa_ok dd11) rfl ?_
      refine Y.putf fl_AL_9 (by decide) rfl rfl (lIa_ok dd12) h (fun G22 _ _ h => ?_)
      exact Y.aret rfl (by first | exact Or.inl ⟨_, rfl⟩ | exact Or.inr ⟨_, rfl⟩) (lIa_ok dd13) h

def f_AL_grow1 (w : Nat → Nat) (G : gH) (a0 : Nat) : gR :=
  gFI G a0 9 1 fun v1 => gOb G a0 9 fun o3 => bA (f_AL_grow2 w G a0 (v1 + (nI 1))) fun v6 G5 => rA v6 G5
theorem k_AL_grow1 {l : Launch} {D : va_G} {B : Nat} {O : State → Heap → Prop} {w : Nat → Nat} (hV : zGw l D B O w) (G : gH) (a0 : Nat) : gMet (zVm l D B O) m_AL_grow1 5 [.ref a0] G (f_AL_grow1 w G a0) := by
  have hdd : lSa m_AL_grow1 0 [(.aload_n 0, 0), (.aload_n 0, 0)] = true ∧ lIa m_AL_grow1 2 (.getfield 48) 3 = true ∧ lSa m_AL_grow1 5 [(.iconst 1, nI 1), (.iadd, 0)] = true ∧ lIa m_AL_grow1 7 (.invokevirtual 69) 3 = true ∧ lIa m_AL_grow1 10 (.areturn) 1 = true := by decide +kernel
  obtain ⟨dd0, dd1, dd2, dd3, dd4⟩ := hdd
  refine gMet.of (by decide +kernel) (Nat.le_of_ble_eq_true rfl) [some (.ref a0)] (fun ls h => zEn_ok (n := 1) h) ?_
  intro o Gf h
  unfold f_AL_grow1 at h
  refine Y.blk (pc' := 2) (L' := [some (.ref a0)]) (st' := [.ref a0, .ref a0]) (sg := [(.aload_n 0, 0), (.aload_n 0, 0)]) (lSa_ok dd0) rfl ?_
  refine Y.getI fl_AL_48 (lIa_ok dd1) h (fun v1 h => ?_)
  refine Y.blk (pc' := 7) (L' := [some (.ref a0)]) (st' := [.int (v1 + (nI 1)), .ref a0]) (sg := [(.iconst 1, nI 1), (.iadd, 0)]) (lSa_ok dd2) rfl ?_
  obtain ⟨_, o3, e2, m4, h⟩ := gOb_inv h
  refine Y.callA (yC.Vi (b := a0) (As := [.int (v1 + (nI 1))]) (st := []) (r := ("java/util/ArrayList", T_AL, 3)) hV.1.1 cb_AL_grow2 lk_AL_69 in_AL_grow2 rfl se_AL_grow2 (lIa_ok dd3) rfl rfl (Nat.le_of_ble_eq_true rfl) (by decide) e2 m4) (k_AL_grow2 hV G a0 (v1 + (nI 1))) h (fun v6 G5 _ h => ?_)
  exact Y.aret rfl (by first | exact Or.inl ⟨_, rfl⟩ | exact Or.inr ⟨_, rfl⟩) (lIa_ok dd4) h

def f_AL_add3 (w : Nat → Nat) (G : gH) (a0 : Nat) (a1 : Nat) (a2 : Nat) (a3 : Int32) : gR :=
  gLenq G a2 103 fun v1 => if a3 = v1 then gOb G a0 9 fun o3 => bA (f_AL_grow1 w G a0) fun v6 G5 => gStX G5 v6 103 a3 a1 fun G7 => gPut G7 a0 9 1 (.int (a3 + (nI 1))) fun G8 => rV G8
  else gStX G a2 103 a3 a1 fun G9 => gPut G9 a0 9 1 (.int (a3 + (nI 1))) fun G10 => rV G10
theorem k_AL_add3 {l : Launch} {D : va_G} {B : Nat} {O : State → Heap → Prop} {w : Nat → Nat} (hV : zGw l D B O w) (G : gH) (a0 : Nat) (a1 : Nat) (a2 : Nat) (a3 : Int32) : gMet (zVm l D B O) m_AL_add3 6 [.ref a0, .ref a1, .ref a2, .int a3] G (f_AL_add3 w G a0 a1 a2 a3) := by
  have hdd : lSa m_AL_add3 0 [(.iload_n 3, 0), (.aload_n 2, 0)] = true ∧ lIa m_AL_add3 2 (.arraylength) 1 = true ∧ lIa m_AL_add3 3 (.if_icmp .ne 8) 3 = true ∧ lSa m_AL_add3 6 [(.aload_n 0, 0)] = true ∧ lIa m_AL_add3 7 (.invokevirtual 129) 3 = true ∧ lSa m_AL_add3 10 [(.astore_n 2, 0), (.aload_n 2, 0), (.iload_n 3, 0), (.aload_n 1, 0)] = true ∧ lIa m_AL_add3 14 (.aastore) 1 = true ∧ lSa m_AL_add3 15 [(.aload_n 0, 0), (.iload_n 3, 0), (.iconst 1, nI 1), (.iadd, 0)] = true ∧ lIa m_AL_add3 19 (.putfield 48) 3 = true ∧ lIa m_AL_add3 22 (.return_) 1 = true ∧ lSa m_AL_add3 11 [(.aload_n 2, 0), (.iload_n 3, 0), (.aload_n 1, 0)] = true := by decide +kernel
  refine lA8 hdd (fun dd0 dd1 dd2 dd3 dd4 dd5 dd6 dd7 hdd => ?_)
  obtain ⟨dd8, dd9, dd10⟩ := hdd
  refine gMet.of (by decide +kernel) (Nat.le_of_ble_eq_true rfl) [some (.ref a0), some (.ref a1), some (.ref a2), some (.int a3)] (fun ls h => zEn_ok (n := 4) h) ?_
  intro o Gf h
  unfold f_AL_add3 at h
  refine Y.blk (pc' := 2) (L' := [some (.ref a0), some (.ref a1), some (.ref a2), some (.int a3)]) (st' := [.ref a2, .int a3]) (sg := [(.iload_n 3, 0), (.aload_n 2, 0)]) (lSa_ok dd0) rfl ?_
  refine Y.alenq (t0 := 3) (lIa_ok dd1) rfl h (fun v1 h => ?_)
  refine Y.ic_ne (off := 8) (tgt := 11) (lIa_ok dd2) (by decide) h (fun c11 h => ?_) (fun c11 h => ?_)
  · refine Y.blk (pc' := 7) (L' := [some (.ref a0), some (.ref a1), some (.ref a2), some (.int a3)]) (st' := [.ref a0]) (sg := [(.aload_n 0, 0)]) (lSa_ok dd3) rfl ?_
    obtain ⟨_, o3, e2, m4, h⟩ := gOb_inv h
    refine Y.callA (yC.Vi (b := a0) (As := []) (st := []) (r := ("java/util/ArrayList", T_AL, 3)) hV.1.1 cb_AL_grow1 lk_AL_129 in_AL_grow1 rfl se_AL_grow1 (lIa_ok dd4) rfl rfl (Nat.le_of_ble_eq_true rfl) (by decide) e2 m4) (k_AL_grow1 hV G a0) h (fun v6 G5 _ h => ?_)
    refine Y.blk (pc' := 14) (L' := [some (.ref a0), some (.ref a1), some (.ref v6), some (.int a3)]) (st' := [.ref a1, .int a3, .ref v6]) (sg := [(.astore_n 2, 0), (.aload_n 2, 0), (.iload_n 3, 0), (.aload_n 1, 0)]) (lSa_ok dd5) rfl ?_
    refine Y.aastX (t0 := 3) (lIa_ok dd6) rfl rfl rfl h (fun G7 _ _ h => ?_)
    refine Y.blk (pc' := 19) (L' := [some (.ref a0), some (.ref a1), some (.ref v6), some (.int a3)]) (st' := [.int (a3 + (nI 1)), .ref a0]) (sg := [(.aload_n 0, 0), (.iload_n 3, 0), (.iconst 1, nI 1), (.iadd, 0)]) (lSa_ok dd7) rfl ?_
    refine Y.putf fl_AL_48 (by decide) rfl rfl (lIa_ok dd8) h (fun G8 _ _ h => ?_)
    exact Y.vret rfl (lIa_ok dd9) h
  · refine Y.blk (pc' := 14) (L' := [some (.ref a0), some (.ref a1), some (.ref a2), some (.int a3)]) (st' := [.ref a1, .int a3, .ref a2]) (sg := [(.aload_n 2, 0), (.iload_n 3, 0), (.aload_n 1, 0)]) (lSa_ok dd10) rfl ?_
    refine Y.aastX (t0 := 3) (lIa_ok dd6) rfl rfl rfl h (fun G9 _ _ h => ?_)
    refine Y.blk (pc' := 19) (L' := [some (.ref a0), some (.ref a1), some (.ref a2), some (.int a3)]) (st' := [.int (a3 + (nI 1)), .ref a0]) (sg := [(.aload_n 0, 0), (.iload_n 3, 0), (.iconst 1, nI 1), (.iadd, 0)]) (lSa_ok dd7) rfl ?_
    refine Y.putf fl_AL_48 (by decide) rfl rfl (lIa_ok dd8) h (fun G10 _ _ h => ?_)
    exact Y.vret rfl (lIa_ok dd9) h

def f_AL_add2 (w : Nat → Nat) (G : gH) (a0 : Nat) (a1 : Nat) : gR :=
  gFI G a0 9 2 fun v1 => gPut G a0 9 2 (.int (v1 + (nI 1))) fun G2 => gFA G2 a0 9 0 fun v3 => gFI G2 a0 9 1 fun v4 => gOb G2 a0 9 fun o6 => bV (f_AL_add3 w G2 a0 a1 v3 v4) fun G8 => rZ (nI 1) G8
theorem k_AL_add2 {l : Launch} {D : va_G} {B : Nat} {O : State → Heap → Prop} {w : Nat → Nat} (hV : zGw l D B O w) (G : gH) (a0 : Nat) (a1 : Nat) : gMet (zVm l D B O) m_AL_add2 7 [.ref a0, .ref a1] G (f_AL_add2 w G a0 a1) := by
  have hdd : lSa m_AL_add2 0 [(.aload_n 0, 0), (.dup, 0)] = true ∧ lIa m_AL_add2 2 (.getfield 63) 3 = true ∧ lSa m_AL_add2 5 [(.iconst 1, nI 1), (.iadd, 0)] = true ∧ lIa m_AL_add2 7 (.putfield 63) 3 = true ∧ lSa m_AL_add2 10 [(.aload_n 0, 0), (.aload_n 1, 0), (.aload_n 0, 0)] = true ∧ lIa m_AL_add2 13 (.getfield 9) 3 = true ∧ lSa m_AL_add2 16 [(.aload_n 0, 0)] = true ∧ lIa m_AL_add2 17 (.getfield 48) 3 = true ∧ lIa m_AL_add2 20 (.invokevirtual 131) 3 = true ∧ lSa m_AL_add2 23 [(.iconst 1, nI 1)] = true ∧ lIa m_AL_add2 24 (.ireturn) 1 = true := by decide +kernel
  refine lA8 hdd (fun dd0 dd1 dd2 dd3 dd4 dd5 dd6 dd7 hdd => ?_)
  obtain ⟨dd8, dd9, dd10⟩ := hdd
  refine gMet.of (by decide +kernel) (Nat.le_of_ble_eq_true rfl) [some (.ref a0), some (.ref a1)] (fun ls h => zEn_ok (n := 2) h) ?_
  intro o Gf h
  unfold f_AL_add2 at h
  refine Y.blk (pc' := 2) (L' := [some (.ref a0), some (.ref a1)]) (st' := [.ref a0, .ref a0]) (sg := [(.aload_n 0, 0), (.dup, 0)]) (lSa_ok dd0) rfl ?_
  refine Y.getI fl_AL_63 (lIa_ok dd1) h (fun v1 h => ?_)
  refine Y.blk (pc' := 7) (L' := [some (.ref a0), some (.ref a1)]) (st' := [.int (v1 + (nI 1)), .ref a0]) (sg := [(.iconst 1, nI 1), (.iadd, 0)]) (lSa_ok dd2) rfl ?_
  refine Y.putf fl_AL_63 (by decide) rfl rfl (lIa_ok dd3) h (fun G2 _ _ h => ?_)
  refine Y.blk (pc' := 13) (L' := [some (.ref a0), some (.ref a1)]) (st' := [.ref a0, .ref a1, .ref a0]) (sg := [(.aload_n 0, 0), (.aload_n 1, 0), (.aload_n 0, 0)]) (lSa_ok dd4) rfl ?_
  refine Y.getA fl_AL_9 (lIa_ok dd5) h (fun v3 h => ?_)
  refine Y.blk (pc' := 17) (L' := [some (.ref a0), some (.ref a1)]) (st' := [.ref a0, .ref v3, .ref a1, .ref a0]) (sg := [(.aload_n 0, 0)]) (lSa_ok dd6) rfl ?_
  refine Y.getI fl_AL_48 (lIa_ok dd7) h (fun v4 h => ?_)
  obtain ⟨_, o6, e5, m7, h⟩ := gOb_inv h
  refine Y.callN (yC.Vi (b := a0) (As := [.ref a1, .ref v3, .int v4]) (st := []) (r := ("java/util/ArrayList", T_AL, 3)) hV.1.1 cb_AL_add3 lk_AL_131 in_AL_add3 rfl se_AL_add3 (lIa_ok dd8) rfl rfl (Nat.le_of_ble_eq_true rfl) (by decide) e5 m7) (k_AL_add3 hV G2 a0 a1 v3 v4) h (fun G8 _ h => ?_)
  refine Y.blk (pc' := 24) (L' := [some (.ref a0), some (.ref a1)]) (st' := [.int (nI 1)]) (sg := [(.iconst 1, nI 1)]) (lSa_ok dd9) rfl ?_
  exact Y.zret rfl (lIa_ok dd10) h

def f_M_init_L34 (w : Nat → Nat) (K60 : gH → gR) : Nat → gH → Nat → Int32 → gR
  | 0, _, _, _ => none
  | n + 1, G, x0, x1 =>
    if (nI 2) ≤ x1 then K60 G
    else gFA G x0 6 1 fun v12 => gNewO G 9 3 [.null, .int 0, .int 0] fun q13 G14 => bV (f_AL_init w G14 q13) fun G16 => gOb G16 v12 9 fun o18 => bI (f_AL_add2 w G16 v12 q13) fun v21 G20 => f_M_init_L34 w K60 n G20 x0 (x1 + (nI 1))
def f_M_init (w : Nat → Nat) (G : gH) (a0 : Nat) : gR :=
  gNewO G 9 3 [.null, .int 0, .int 0] fun q1 G2 => bV (f_AL_init w G2 q1) fun G4 => gPut G4 a0 6 1 (.ref q1) fun G5 => gNewQ G5 104 (nI 6) fun q6 G7 => gPut G7 a0 6 2 (.ref q6) fun G8 => gNewQ G8 105 (nI 3) fun q9 G10 => gPut G10 a0 6 3 (.ref q9) fun G11 => f_M_init_L34 w (fun G23 => rV G23) zFu G11 a0 (nI 0)
theorem k_M_init_L34 {l : Launch} {D : va_G} {B : Nat} {O : State → Heap → Prop} {w : Nat → Nat} (hV : zGw l D B O w) {o : gO} {Gf : gH} (K60 : gH → gR) (hK60 : ∀ (G : gH), K60 G  = some (o, Gf) → Y (zVm l D B O) m_M_init 8 o Gf 60 [none, none] [] G) : ∀ (n : Nat) (G : gH) (x0 : Nat) (x1 : Int32), f_M_init_L34 w K60 n G x0 x1 = some (o, Gf) → Y (zVm l D B O) m_M_init 8 o Gf 34 [some (.ref x0), some (.int x1)] [] G := by
  have hdd : lSa m_M_init 34 [(.iload_n 1, 0), (.iconst 2, nI 2)] = true ∧ lIa m_M_init 36 (.if_icmp .ge 24) 3 = true ∧ lSa m_M_init 39 [(.aload_n 0, 0)] = true ∧ lIa m_M_init 40 (.getfield 10) 3 = true ∧ lIa m_M_init 43 (.new 7) 3 = true ∧ lSa m_M_init 46 [(.dup, 0)] = true ∧ lIa m_M_init 47 (.invokespecial 9) 3 = true ∧ lIa m_M_init 50 (.invokevirtual 28) 3 = true ∧ lSa m_M_init 53 [(.pop, 0), (.iinc 1 1, nI 1)] = true ∧ lIa m_M_init 57 (.goto (-23)) 3 = true := by decide +kernel
  refine lA8 hdd (fun dd0 dd1 dd2 dd3 dd4 dd5 dd6 dd7 hdd => ?_)
  obtain ⟨dd8, dd9⟩ := hdd
  intro n
  induction n with
  | zero => intro G x0 x1 h; cases h
  | succ n ih =>
    intro G x0 x1 h
    unfold f_M_init_L34 at h
    refine Y.blk (pc' := 36) (L' := [some (.ref x0), some (.int x1)]) (st' := [.int (nI 2), .int x1]) (sg := [(.iload_n 1, 0), (.iconst 2, nI 2)]) (lSa_ok dd0) rfl ?_
    refine Y.ic_ge (off := 24) (tgt := 60) (lIa_ok dd1) (by decide) h (fun c22 h => ?_) (fun c22 h => ?_)
    · refine Y.less (L' := [none, none]) (zLe_none (zLe_none (zLe_nil))) ?_
      exact hK60 G  h
    · refine Y.blk (pc' := 40) (L' := [some (.ref x0), some (.int x1)]) (st' := [.ref x0]) (sg := [(.aload_n 0, 0)]) (lSa_ok dd2) rfl ?_
      refine Y.getA fl_M_10 (lIa_ok dd3) h (fun v12 h => ?_)
      refine Y.new nc_M_7 (by decide) bk_AL (lIa_ok dd4) h (fun q13 G14 h => ?_)
      refine Y.blk (pc' := 47) (L' := [some (.ref x0), some (.int x1)]) (st' := [.ref q13, .ref q13, .ref v12]) (sg := [(.dup, 0)]) (lSa_ok dd5) rfl ?_
      refine Y.callN (yC.I (b := q13) (As := []) (st := [.ref q13, .ref v12]) hV.1.1 cb_AL_init lk_M_9 in_AL_init rfl rfl (lIa_ok dd6) rfl rfl (Nat.le_of_ble_eq_true rfl) (by decide)) (k_AL_init hV G14 q13) h (fun G16 _ h => ?_)
      obtain ⟨_, o18, e17, m19, h⟩ := gOb_inv h
      refine Y.callI (yC.Vi (b := v12) (As := [.ref q13]) (st := []) (r := ("java/util/ArrayList", T_AL, 3)) hV.1.1 cb_AL_add2 lk_M_28 in_AL_add2 rfl se_AL_add2 (lIa_ok dd7) rfl rfl (Nat.le_of_ble_eq_true rfl) (by decide) e17 m19) (k_AL_add2 hV G16 v12 q13) h (fun v21 G20 _ h => ?_)
      refine Y.blk (pc' := 57) (L' := [some (.ref x0), some (.int (x1 + (nI 1)))]) (st' := []) (sg := [(.pop, 0), (.iinc 1 1, nI 1)]) (lSa_ok dd8) rfl ?_
      refine Y.goto (off := -23) (tgt := 34) (lIa_ok dd9) (by decide) ?_
      exact ih G20 x0 (x1 + (nI 1)) h
theorem k_M_init {l : Launch} {D : va_G} {B : Nat} {O : State → Heap → Prop} {w : Nat → Nat} (hV : zGw l D B O w) (G : gH) (a0 : Nat) : gMet (zVm l D B O) m_M_init 8 [.ref a0] G (f_M_init w G a0) := by
  have hdd : lSa m_M_init 0 [(.aload_n 0, 0)] = true ∧ lIa m_M_init 1 (.invokespecial 1) 3 = true ∧ lSa m_M_init 4 [(.aload_n 0, 0)] = true ∧ lIa m_M_init 5 (.new 7) 3 = true ∧ lSa m_M_init 8 [(.dup, 0)] = true ∧ lIa m_M_init 9 (.invokespecial 9) 3 = true ∧ lIa m_M_init 12 (.putfield 10) 3 = true ∧ lSa m_M_init 15 [(.aload_n 0, 0), (.bipush 6, nI 6)] = true ∧ lIa m_M_init 18 (.anewarray 16) 3 = true ∧ lIa m_M_init 21 (.putfield 18) 3 = true ∧ lSa m_M_init 24 [(.aload_n 0, 0), (.iconst 3, nI 3)] = true ∧ lIa m_M_init 26 (.anewarray 22) 3 = true ∧ lIa m_M_init 29 (.putfield 24) 3 = true ∧ lSa m_M_init 32 [(.iconst 0, nI 0), (.istore_n 1, 0)] = true ∧ lIa m_M_init 60 (.return_) 1 = true := by decide +kernel
  refine lA8 hdd (fun dd0 dd1 dd2 dd3 dd4 dd5 dd6 dd7 hdd => ?_)
  obtain ⟨dd8, dd9, dd10, dd11, dd12, dd13, dd14⟩ := hdd
  refine gMet.of (by decide +kernel) (Nat.le_of_ble_eq_true rfl) [some (.ref a0), none] (fun ls h => zEn_ok (n := 2) h) ?_
  intro o Gf h
  unfold f_M_init at h
  refine Y.blk (pc' := 1) (L' := [some (.ref a0), none]) (st' := [.ref a0]) (sg := [(.aload_n 0, 0)]) (lSa_ok dd0) rfl ?_
  refine Y.objInit lk_M_1 in_OJ_init cw_OJ_init (by decide) rfl (Nat.le_of_ble_eq_true rfl) (lIa_ok dd1) ?_
  refine Y.blk (pc' := 5) (L' := [some (.ref a0), none]) (st' := [.ref a0]) (sg := [(.aload_n 0, 0)]) (lSa_ok dd2) rfl ?_
  refine Y.new nc_M_7 (by decide) bk_AL (lIa_ok dd3) h (fun q1 G2 h => ?_)
  refine Y.blk (pc' := 9) (L' := [some (.ref a0), none]) (st' := [.ref q1, .ref q1, .ref a0]) (sg := [(.dup, 0)]) (lSa_ok dd4) rfl ?_
  refine Y.callN (yC.I (b := q1) (As := []) (st := [.ref q1, .ref a0]) hV.1.1 cb_AL_init lk_M_9 in_AL_init rfl rfl (lIa_ok dd5) rfl rfl (Nat.le_of_ble_eq_true rfl) (by decide)) (k_AL_init hV G2 q1) h (fun G4 _ h => ?_)
  refine Y.putF fl_M_10 rfl (by decide) rfl rfl (lIa_ok dd6) h (fun G5 _ _ h => ?_)
  refine Y.blk (pc' := 18) (L' := [some (.ref a0), none]) (st' := [.int (nI 6), .ref a0]) (sg := [(.aload_n 0, 0), (.bipush 6, nI 6)]) (lSa_ok dd7) rfl ?_
  refine Y.newq (t0 := 4) ao_MP ck_M_16 rfl (by decide) (lIa_ok dd8) h (fun q6 G7 h => ?_)
  refine Y.putF fl_M_18 rfl (by decide) rfl rfl (lIa_ok dd9) h (fun G8 _ _ h => ?_)
  refine Y.blk (pc' := 26) (L' := [some (.ref a0), none]) (st' := [.int (nI 3), .ref a0]) (sg := [(.aload_n 0, 0), (.iconst 3, nI 3)]) (lSa_ok dd10) rfl ?_
  refine Y.newq (t0 := 5) ao_MC ck_M_22 rfl (by decide) (lIa_ok dd11) h (fun q9 G10 h => ?_)
  refine Y.putF fl_M_24 rfl (by decide) rfl rfl (lIa_ok dd12) h (fun G11 _ _ h => ?_)
  refine Y.blk (pc' := 34) (L' := [some (.ref a0), some (.int (nI 0))]) (st' := []) (sg := [(.iconst 0, nI 0), (.istore_n 1, 0)]) (lSa_ok dd13) rfl ?_
  refine k_M_init_L34 hV _ ?_  zFu G11 a0 (nI 0) h
  · intro G23 h
    exact Y.vret rfl (lIa_ok dd14) h

def f_M_endCursor (G : gH) (a0 : Nat) (a1 : Int32) : gR :=
  gFA G a0 6 3 fun v1 => gStN G v1 105 a1 fun G2 => gFI G2 a0 6 6 fun v3 => gPut G2 a0 6 6 (.int (v3 + (nI 1))) fun G4 => rV G4
theorem k_M_endCursor {l : Launch} {D : va_G} {B : Nat} {O : State → Heap → Prop} (hV : zG l D B O) (G : gH) (a0 : Nat) (a1 : Int32) : gMet (zVm l D B O) m_M_endCursor 2 [.ref a0, .int a1] G (f_M_endCursor G a0 a1) := by
  have hdd : lSa m_M_endCursor 0 [(.aload_n 0, 0)] = true ∧ lIa m_M_endCursor 1 (.getfield 24) 3 = true ∧ lSa m_M_endCursor 4 [(.iload_n 1, 0), (.aconst_null, 0)] = true ∧ lIa m_M_endCursor 6 (.aastore) 1 = true ∧ lSa m_M_endCursor 7 [(.aload_n 0, 0), (.dup, 0)] = true ∧ lIa m_M_endCursor 9 (.getfield 83) 3 = true ∧ lSa m_M_endCursor 12 [(.iconst 1, nI 1), (.iadd, 0)] = true ∧ lIa m_M_endCursor 14 (.putfield 83) 3 = true ∧ lIa m_M_endCursor 17 (.return_) 1 = true := by decide +kernel
  refine lA8 hdd (fun dd0 dd1 dd2 dd3 dd4 dd5 dd6 dd7 hdd => ?_)
  have dd8 := hdd
  refine gMet.of (by decide +kernel) (Nat.le_of_ble_eq_true rfl) [some (.ref a0), some (.int a1)] (fun ls h => zEn_ok (n := 2) h) ?_
  intro o Gf h
  unfold f_M_endCursor at h
  refine Y.blk (pc' := 1) (L' := [some (.ref a0), some (.int a1)]) (st' := [.ref a0]) (sg := [(.aload_n 0, 0)]) (lSa_ok dd0) rfl ?_
  refine Y.getA fl_M_24 (lIa_ok dd1) h (fun v1 h => ?_)
  refine Y.blk (pc' := 6) (L' := [some (.ref a0), some (.int a1)]) (st' := [.null, .int a1, .ref v1]) (sg := [(.iload_n 1, 0), (.aconst_null, 0)]) (lSa_ok dd2) rfl ?_
  refine Y.aastN (t0 := 5) (lIa_ok dd3) rfl (by decide) h (fun G2 _ _ h => ?_)
  refine Y.blk (pc' := 9) (L' := [some (.ref a0), some (.int a1)]) (st' := [.ref a0, .ref a0]) (sg := [(.aload_n 0, 0), (.dup, 0)]) (lSa_ok dd4) rfl ?_
  refine Y.getI fl_M_83 (lIa_ok dd5) h (fun v3 h => ?_)
  refine Y.blk (pc' := 14) (L' := [some (.ref a0), some (.int a1)]) (st' := [.int (v3 + (nI 1)), .ref a0]) (sg := [(.iconst 1, nI 1), (.iadd, 0)]) (lSa_ok dd6) rfl ?_
  refine Y.putf fl_M_83 (by decide) rfl rfl (lIa_ok dd7) h (fun G4 _ _ h => ?_)
  exact Y.vret rfl (lIa_ok dd8) h

def f_M_endPart_L4 (rec : gH → Nat → Int32 → gR) (K46 : gH → Nat → Int32 → Int32 → gR) : Nat → gH → Nat → Int32 → Int32 → Int32 → gR
  | 0, _, _, _, _, _ => none
  | n + 1, G, x0, x1, x2, x3 =>
    if (nI 6) ≤ x3 then K46 G x0 x1 x2
    else gFA G x0 6 2 fun v1 => gLdq G v1 104 x3 (f_M_endPart_L4 rec K46 n G x0 x1 x2 (x3 + (nI 1))) fun v2 => gFA G x0 6 2 fun v3 => gLdq G v3 104 x3 (none) fun v4 => gFI G v4 5 0 fun v5 => if v5 = x1 then gOb G x0 6 fun o7 => bI (rec G x0 x3) fun v10 G9 => f_M_endPart_L4 rec K46 n G9 x0 x1 (x2 + v10) (x3 + (nI 1))
          else f_M_endPart_L4 rec K46 n G x0 x1 x2 (x3 + (nI 1))
def f_M_endPart_L48 (rec : gH → Nat → Int32 → gR) (K86 : gH → Nat → Int32 → Int32 → gR) : Nat → gH → Nat → Int32 → Int32 → Int32 → gR
  | 0, _, _, _, _, _ => none
  | n + 1, G, x0, x1, x2, x3 =>
    if (nI 3) ≤ x3 then K86 G x0 x1 x2
    else gFA G x0 6 3 fun v17 => gLdq G v17 105 x3 (f_M_endPart_L48 rec K86 n G x0 x1 x2 (x3 + (nI 1))) fun v18 => gFA G x0 6 3 fun v19 => gLdq G v19 105 x3 (none) fun v20 => gFI G v20 4 0 fun v21 => if v21 = x1 then gOb G x0 6 fun o23 => bV (f_M_endCursor G x0 x3) fun G25 => f_M_endPart_L48 rec K86 n G25 x0 x1 x2 (x3 + (nI 1))
          else f_M_endPart_L48 rec K86 n G x0 x1 x2 (x3 + (nI 1))
def f_M_endPart_B (rec : gH → Nat → Int32 → gR) (G : gH) (a0 : Nat) (a1 : Int32) : gR :=
  f_M_endPart_L4 rec (fun G16 x13 x14 x15 => f_M_endPart_L48 rec (fun G31 x28 x29 x30 => gFA G31 x28 6 2 fun v32 => gStN G31 v32 104 x29 fun G33 => gFI G33 x28 6 5 fun v34 => gPut G33 x28 6 5 (.int (v34 + (nI 1))) fun G35 => rI x30 G35) zFu G16 x13 x14 x15 (nI 0)) zFu G a0 a1 (nI 1) (nI 2)
def f_M_endPart : Nat → gH → Nat → Int32 → gR
  | 0, _, _, _ => none
  | d + 1, G, a0, a1 => f_M_endPart_B (f_M_endPart d) G a0 a1
theorem k_M_endPart_L4 (d : Nat) {l : Launch} {D : va_G} {B : Nat} {O : State → Heap → Prop} (hV : zG l D B O) (rec : gH → Nat → Int32 → gR) (hrec : ∀ (G : gH) (a0 : Nat) (a1 : Int32), gMet (zVm l D B O) m_M_endPart (3 + d) [.ref a0, .int a1] G (rec G a0 a1)) {o : gO} {Gf : gH} (K46 : gH → Nat → Int32 → Int32 → gR) (hK46 : ∀ (G : gH) (x0 : Nat) (x1 : Int32) (x2 : Int32), K46 G x0 x1 x2 = some (o, Gf) → Y (zVm l D B O) m_M_endPart (3 + (d + 1)) o Gf 46 [some (.ref x0), some (.int x1), some (.int x2), none] [] G) : ∀ (n : Nat) (G : gH) (x0 : Nat) (x1 : Int32) (x2 : Int32) (x3 : Int32), f_M_endPart_L4 rec K46 n G x0 x1 x2 x3 = some (o, Gf) → Y (zVm l D B O) m_M_endPart (3 + (d + 1)) o Gf 4 [some (.ref x0), some (.int x1), some (.int x2), some (.int x3)] [] G := by
  have hdd : lSa m_M_endPart 4 [(.iload_n 3, 0), (.bipush 6, nI 6)] = true ∧ lIa m_M_endPart 7 (.if_icmp .ge 39) 3 = true ∧ lSa m_M_endPart 10 [(.aload_n 0, 0)] = true ∧ lIa m_M_endPart 11 (.getfield 18) 3 = true ∧ lSa m_M_endPart 14 [(.iload_n 3, 0)] = true ∧ lIa m_M_endPart 15 (.aaload) 1 = true ∧ lIa m_M_endPart 16 (.ifnull 24) 3 = true ∧ lSa m_M_endPart 40 [(.iinc 3 1, nI 1)] = true ∧ lIa m_M_endPart 43 (.goto (-39)) 3 = true ∧ lSa m_M_endPart 19 [(.aload_n 0, 0)] = true ∧ lIa m_M_endPart 20 (.getfield 18) 3 = true ∧ lSa m_M_endPart 23 [(.iload_n 3, 0)] = true ∧ lIa m_M_endPart 24 (.aaload) 1 = true ∧ lIa m_M_endPart 25 (.getfield 44) 3 = true ∧ lSa m_M_endPart 28 [(.iload_n 1, 0)] = true ∧ lIa m_M_endPart 29 (.if_icmp .ne 11) 3 = true ∧ lSa m_M_endPart 32 [(.iload_n 2, 0), (.aload_n 0, 0), (.iload_n 3, 0)] = true ∧ lIa m_M_endPart 35 (.invokevirtual 86) 3 = true ∧ lSa m_M_endPart 38 [(.iadd, 0), (.istore_n 2, 0), (.iinc 3 1, nI 1)] = true := by decide +kernel
  refine lA8 hdd (fun dd0 dd1 dd2 dd3 dd4 dd5 dd6 dd7 hdd => ?_)
  refine lA8 hdd (fun dd8 dd9 dd10 dd11 dd12 dd13 dd14 dd15 hdd => ?_)
  obtain ⟨dd16, dd17, dd18⟩ := hdd
  intro n
  induction n with
  | zero => intro G x0 x1 x2 x3 h; cases h
  | succ n ih =>
    intro G x0 x1 x2 x3 h
    unfold f_M_endPart_L4 at h
    refine Y.blk (pc' := 7) (L' := [some (.ref x0), some (.int x1), some (.int x2), some (.int x3)]) (st' := [.int (nI 6), .int x3]) (sg := [(.iload_n 3, 0), (.bipush 6, nI 6)]) (lSa_ok dd0) rfl ?_
    refine Y.ic_ge (off := 39) (tgt := 46) (lIa_ok dd1) (by decide) h (fun c12 h => ?_) (fun c12 h => ?_)
    · refine Y.less (L' := [some (.ref x0), some (.int x1), some (.int x2), none]) (zLe_some (zLe_some (zLe_some (zLe_none (zLe_nil))))) ?_
      exact hK46 G x0 x1 x2 h
    · refine Y.blk (pc' := 11) (L' := [some (.ref x0), some (.int x1), some (.int x2), some (.int x3)]) (st' := [.ref x0]) (sg := [(.aload_n 0, 0)]) (lSa_ok dd2) rfl ?_
      refine Y.getA fl_M_18 (lIa_ok dd3) h (fun v1 h => ?_)
      refine Y.blk (pc' := 15) (L' := [some (.ref x0), some (.int x1), some (.int x2), some (.int x3)]) (st' := [.int x3, .ref v1]) (sg := [(.iload_n 3, 0)]) (lSa_ok dd4) rfl ?_
      refine Y.aald (t0 := 4) (lIa_ok dd5) rfl h (fun h => ?_) (fun v2 h => ?_)
      · refine Y.ifnull_n (off := 24) (tgt := 40) (lIa_ok dd6) (by decide) ?_
        refine Y.blk (pc' := 43) (L' := [some (.ref x0), some (.int x1), some (.int x2), some (.int (x3 + (nI 1)))]) (st' := []) (sg := [(.iinc 3 1, nI 1)]) (lSa_ok dd7) rfl ?_
        refine Y.goto (off := -39) (tgt := 4) (lIa_ok dd8) (by decide) ?_
        exact ih G x0 x1 x2 (x3 + (nI 1)) h
      · refine Y.ifnull_r (off := 24) (lIa_ok dd6) ?_
        refine Y.blk (pc' := 20) (L' := [some (.ref x0), some (.int x1), some (.int x2), some (.int x3)]) (st' := [.ref x0]) (sg := [(.aload_n 0, 0)]) (lSa_ok dd9) rfl ?_
        refine Y.getA fl_M_18 (lIa_ok dd10) h (fun v3 h => ?_)
        refine Y.blk (pc' := 24) (L' := [some (.ref x0), some (.int x1), some (.int x2), some (.int x3)]) (st' := [.int x3, .ref v3]) (sg := [(.iload_n 3, 0)]) (lSa_ok dd11) rfl ?_
        refine Y.aald (t0 := 4) (lIa_ok dd12) rfl h (fun h => ?_) (fun v4 h => ?_)
        · cases h
        · refine Y.getI fl_M_44 (lIa_ok dd13) h (fun v5 h => ?_)
          refine Y.blk (pc' := 29) (L' := [some (.ref x0), some (.int x1), some (.int x2), some (.int x3)]) (st' := [.int x1, .int v5]) (sg := [(.iload_n 1, 0)]) (lSa_ok dd14) rfl ?_
          refine Y.ic_ne (off := 11) (tgt := 40) (lIa_ok dd15) (by decide) h (fun c11 h => ?_) (fun c11 h => ?_)
          · refine Y.blk (pc' := 35) (L' := [some (.ref x0), some (.int x1), some (.int x2), some (.int x3)]) (st' := [.int x3, .ref x0, .int x2]) (sg := [(.iload_n 2, 0), (.aload_n 0, 0), (.iload_n 3, 0)]) (lSa_ok dd16) rfl ?_
            obtain ⟨_, o7, e6, m8, h⟩ := gOb_inv h
            refine Y.callI (yC.Vi (b := x0) (As := [.int x3]) (st := [.int x2]) (r := ("PartlisterModel", T_M, 9)) hV.1 cb_M_endPart lk_M_86 in_M_endPart rfl se_M_endPart (lIa_ok dd17) rfl rfl (Nat.le_of_ble_eq_true rfl) (by omega) e6 m8) (hrec G x0 x3) h (fun v10 G9 _ h => ?_)
            refine Y.blk (pc' := 43) (L' := [some (.ref x0), some (.int x1), some (.int (x2 + v10)), some (.int (x3 + (nI 1)))]) (st' := []) (sg := [(.iadd, 0), (.istore_n 2, 0), (.iinc 3 1, nI 1)]) (lSa_ok dd18) rfl ?_
            refine Y.goto (off := -39) (tgt := 4) (lIa_ok dd8) (by decide) ?_
            exact ih G9 x0 x1 (x2 + v10) (x3 + (nI 1)) h
          · refine Y.blk (pc' := 43) (L' := [some (.ref x0), some (.int x1), some (.int x2), some (.int (x3 + (nI 1)))]) (st' := []) (sg := [(.iinc 3 1, nI 1)]) (lSa_ok dd7) rfl ?_
            refine Y.goto (off := -39) (tgt := 4) (lIa_ok dd8) (by decide) ?_
            exact ih G x0 x1 x2 (x3 + (nI 1)) h
theorem k_M_endPart_L48 (d : Nat) {l : Launch} {D : va_G} {B : Nat} {O : State → Heap → Prop} (hV : zG l D B O) (rec : gH → Nat → Int32 → gR) (hrec : ∀ (G : gH) (a0 : Nat) (a1 : Int32), gMet (zVm l D B O) m_M_endPart (3 + d) [.ref a0, .int a1] G (rec G a0 a1)) {o : gO} {Gf : gH} (K86 : gH → Nat → Int32 → Int32 → gR) (hK86 : ∀ (G : gH) (x0 : Nat) (x1 : Int32) (x2 : Int32), K86 G x0 x1 x2 = some (o, Gf) → Y (zVm l D B O) m_M_endPart (3 + (d + 1)) o Gf 86 [some (.ref x0), some (.int x1), some (.int x2), none] [] G) : ∀ (n : Nat) (G : gH) (x0 : Nat) (x1 : Int32) (x2 : Int32) (x3 : Int32), f_M_endPart_L48 rec K86 n G x0 x1 x2 x3 = some (o, Gf) → Y (zVm l D B O) m_M_endPart (3 + (d + 1)) o Gf 48 [some (.ref x0), some (.int x1), some (.int x2), some (.int x3)] [] G := by
  have hdd : lSa m_M_endPart 48 [(.iload_n 3, 0), (.iconst 3, nI 3)] = true ∧ lIa m_M_endPart 50 (.if_icmp .ge 36) 3 = true ∧ lSa m_M_endPart 53 [(.aload_n 0, 0)] = true ∧ lIa m_M_endPart 54 (.getfield 24) 3 = true ∧ lSa m_M_endPart 57 [(.iload_n 3, 0)] = true ∧ lIa m_M_endPart 58 (.aaload) 1 = true ∧ lIa m_M_endPart 59 (.ifnull 21) 3 = true ∧ lSa m_M_endPart 80 [(.iinc 3 1, nI 1)] = true ∧ lIa m_M_endPart 83 (.goto (-35)) 3 = true ∧ lSa m_M_endPart 62 [(.aload_n 0, 0)] = true ∧ lIa m_M_endPart 63 (.getfield 24) 3 = true ∧ lSa m_M_endPart 66 [(.iload_n 3, 0)] = true ∧ lIa m_M_endPart 67 (.aaload) 1 = true ∧ lIa m_M_endPart 68 (.getfield 89) 3 = true ∧ lSa m_M_endPart 71 [(.iload_n 1, 0)] = true ∧ lIa m_M_endPart 72 (.if_icmp .ne 8) 3 = true ∧ lSa m_M_endPart 75 [(.aload_n 0, 0), (.iload_n 3, 0)] = true ∧ lIa m_M_endPart 77 (.invokevirtual 92) 3 = true := by decide +kernel
  refine lA8 hdd (fun dd0 dd1 dd2 dd3 dd4 dd5 dd6 dd7 hdd => ?_)
  refine lA8 hdd (fun dd8 dd9 dd10 dd11 dd12 dd13 dd14 dd15 hdd => ?_)
  obtain ⟨dd16, dd17⟩ := hdd
  intro n
  induction n with
  | zero => intro G x0 x1 x2 x3 h; cases h
  | succ n ih =>
    intro G x0 x1 x2 x3 h
    unfold f_M_endPart_L48 at h
    refine Y.blk (pc' := 50) (L' := [some (.ref x0), some (.int x1), some (.int x2), some (.int x3)]) (st' := [.int (nI 3), .int x3]) (sg := [(.iload_n 3, 0), (.iconst 3, nI 3)]) (lSa_ok dd0) rfl ?_
    refine Y.ic_ge (off := 36) (tgt := 86) (lIa_ok dd1) (by decide) h (fun c27 h => ?_) (fun c27 h => ?_)
    · refine Y.less (L' := [some (.ref x0), some (.int x1), some (.int x2), none]) (zLe_some (zLe_some (zLe_some (zLe_none (zLe_nil))))) ?_
      exact hK86 G x0 x1 x2 h
    · refine Y.blk (pc' := 54) (L' := [some (.ref x0), some (.int x1), some (.int x2), some (.int x3)]) (st' := [.ref x0]) (sg := [(.aload_n 0, 0)]) (lSa_ok dd2) rfl ?_
      refine Y.getA fl_M_24 (lIa_ok dd3) h (fun v17 h => ?_)
      refine Y.blk (pc' := 58) (L' := [some (.ref x0), some (.int x1), some (.int x2), some (.int x3)]) (st' := [.int x3, .ref v17]) (sg := [(.iload_n 3, 0)]) (lSa_ok dd4) rfl ?_
      refine Y.aald (t0 := 5) (lIa_ok dd5) rfl h (fun h => ?_) (fun v18 h => ?_)
      · refine Y.ifnull_n (off := 21) (tgt := 80) (lIa_ok dd6) (by decide) ?_
        refine Y.blk (pc' := 83) (L' := [some (.ref x0), some (.int x1), some (.int x2), some (.int (x3 + (nI 1)))]) (st' := []) (sg := [(.iinc 3 1, nI 1)]) (lSa_ok dd7) rfl ?_
        refine Y.goto (off := -35) (tgt := 48) (lIa_ok dd8) (by decide) ?_
        exact ih G x0 x1 x2 (x3 + (nI 1)) h
      · refine Y.ifnull_r (off := 21) (lIa_ok dd6) ?_
        refine Y.blk (pc' := 63) (L' := [some (.ref x0), some (.int x1), some (.int x2), some (.int x3)]) (st' := [.ref x0]) (sg := [(.aload_n 0, 0)]) (lSa_ok dd9) rfl ?_
        refine Y.getA fl_M_24 (lIa_ok dd10) h (fun v19 h => ?_)
        refine Y.blk (pc' := 67) (L' := [some (.ref x0), some (.int x1), some (.int x2), some (.int x3)]) (st' := [.int x3, .ref v19]) (sg := [(.iload_n 3, 0)]) (lSa_ok dd11) rfl ?_
        refine Y.aald (t0 := 5) (lIa_ok dd12) rfl h (fun h => ?_) (fun v20 h => ?_)
        · cases h
        · refine Y.getI fl_M_89 (lIa_ok dd13) h (fun v21 h => ?_)
          refine Y.blk (pc' := 72) (L' := [some (.ref x0), some (.int x1), some (.int x2), some (.int x3)]) (st' := [.int x1, .int v21]) (sg := [(.iload_n 1, 0)]) (lSa_ok dd14) rfl ?_
          refine Y.ic_ne (off := 8) (tgt := 80) (lIa_ok dd15) (by decide) h (fun c26 h => ?_) (fun c26 h => ?_)
          · refine Y.blk (pc' := 77) (L' := [some (.ref x0), some (.int x1), some (.int x2), some (.int x3)]) (st' := [.int x3, .ref x0]) (sg := [(.aload_n 0, 0), (.iload_n 3, 0)]) (lSa_ok dd16) rfl ?_
            obtain ⟨_, o23, e22, m24, h⟩ := gOb_inv h
            refine Y.callN (yC.Vi (b := x0) (As := [.int x3]) (st := []) (r := ("PartlisterModel", T_M, 9)) hV.1 cb_M_endCursor lk_M_92 in_M_endCursor rfl se_M_endCursor (lIa_ok dd17) rfl rfl (Nat.le_of_ble_eq_true rfl) (by omega) e22 m24) (k_M_endCursor hV G x0 x3) h (fun G25 _ h => ?_)
            refine Y.blk (pc' := 83) (L' := [some (.ref x0), some (.int x1), some (.int x2), some (.int (x3 + (nI 1)))]) (st' := []) (sg := [(.iinc 3 1, nI 1)]) (lSa_ok dd7) rfl ?_
            refine Y.goto (off := -35) (tgt := 48) (lIa_ok dd8) (by decide) ?_
            exact ih G25 x0 x1 x2 (x3 + (nI 1)) h
          · refine Y.blk (pc' := 83) (L' := [some (.ref x0), some (.int x1), some (.int x2), some (.int (x3 + (nI 1)))]) (st' := []) (sg := [(.iinc 3 1, nI 1)]) (lSa_ok dd7) rfl ?_
            refine Y.goto (off := -35) (tgt := 48) (lIa_ok dd8) (by decide) ?_
            exact ih G x0 x1 x2 (x3 + (nI 1)) h
theorem k_M_endPart_B (d : Nat) {l : Launch} {D : va_G} {B : Nat} {O : State → Heap → Prop} (hV : zG l D B O) (rec : gH → Nat → Int32 → gR) (hrec : ∀ (G : gH) (a0 : Nat) (a1 : Int32), gMet (zVm l D B O) m_M_endPart (3 + d) [.ref a0, .int a1] G (rec G a0 a1)) (G : gH) (a0 : Nat) (a1 : Int32) : gMet (zVm l D B O) m_M_endPart (3 + (d + 1)) [.ref a0, .int a1] G (f_M_endPart_B rec G a0 a1) := by
  have hdd : lSa m_M_endPart 0 [(.iconst 1, nI 1), (.istore_n 2, 0), (.iconst 2, nI 2), (.istore_n 3, 0)] = true ∧ lSa m_M_endPart 46 [(.iconst 0, nI 0), (.istore_n 3, 0)] = true ∧ lSa m_M_endPart 86 [(.aload_n 0, 0)] = true ∧ lIa m_M_endPart 87 (.getfield 18) 3 = true ∧ lSa m_M_endPart 90 [(.iload_n 1, 0), (.aconst_null, 0)] = true ∧ lIa m_M_endPart 92 (.aastore) 1 = true ∧ lSa m_M_endPart 93 [(.aload_n 0, 0), (.dup, 0)] = true ∧ lIa m_M_endPart 95 (.getfield 96) 3 = true ∧ lSa m_M_endPart 98 [(.iconst 1, nI 1), (.iadd, 0)] = true ∧ lIa m_M_endPart 100 (.putfield 96) 3 = true ∧ lSa m_M_endPart 103 [(.iload_n 2, 0)] = true ∧ lIa m_M_endPart 104 (.ireturn) 1 = true := by decide +kernel
  refine lA8 hdd (fun dd0 dd1 dd2 dd3 dd4 dd5 dd6 dd7 hdd => ?_)
  obtain ⟨dd8, dd9, dd10, dd11⟩ := hdd
  refine gMet.of (by decide +kernel) (Nat.le_of_ble_eq_true rfl) [some (.ref a0), some (.int a1), none, none] (fun ls h => zEn_ok (n := 4) h) ?_
  intro o Gf h
  unfold f_M_endPart_B at h
  refine Y.blk (pc' := 4) (L' := [some (.ref a0), some (.int a1), some (.int (nI 1)), some (.int (nI 2))]) (st' := []) (sg := [(.iconst 1, nI 1), (.istore_n 2, 0), (.iconst 2, nI 2), (.istore_n 3, 0)]) (lSa_ok dd0) rfl ?_
  refine k_M_endPart_L4 d hV rec hrec _ ?_  zFu G a0 a1 (nI 1) (nI 2) h
  · intro G16 x13 x14 x15 h
    refine Y.blk (pc' := 48) (L' := [some (.ref x13), some (.int x14), some (.int x15), some (.int (nI 0))]) (st' := []) (sg := [(.iconst 0, nI 0), (.istore_n 3, 0)]) (lSa_ok dd1) rfl ?_
    refine k_M_endPart_L48 d hV rec hrec _ ?_  zFu G16 x13 x14 x15 (nI 0) h
    · intro G31 x28 x29 x30 h
      refine Y.blk (pc' := 87) (L' := [some (.ref x28), some (.int x29), some (.int x30), none]) (st' := [.ref x28]) (sg := [(.aload_n 0, 0)]) (lSa_ok dd2) rfl ?_
      refine Y.getA fl_M_18 (lIa_ok dd3) h (fun v32 h => ?_)
      refine Y.blk (pc' := 92) (L' := [some (.ref x28), some (.int x29), some (.int x30), none]) (st' := [.null, .int x29, .ref v32]) (sg := [(.iload_n 1, 0), (.aconst_null, 0)]) (lSa_ok dd4) rfl ?_
      refine Y.aastN (t0 := 4) (lIa_ok dd5) rfl (by decide) h (fun G33 _ _ h => ?_)
      refine Y.blk (pc' := 95) (L' := [some (.ref x28), some (.int x29), some (.int x30), none]) (st' := [.ref x28, .ref x28]) (sg := [(.aload_n 0, 0), (.dup, 0)]) (lSa_ok dd6) rfl ?_
      refine Y.getI fl_M_96 (lIa_ok dd7) h (fun v34 h => ?_)
      refine Y.blk (pc' := 100) (L' := [some (.ref x28), some (.int x29), some (.int x30), none]) (st' := [.int (v34 + (nI 1)), .ref x28]) (sg := [(.iconst 1, nI 1), (.iadd, 0)]) (lSa_ok dd8) rfl ?_
      refine Y.putf fl_M_96 (by decide) rfl rfl (lIa_ok dd9) h (fun G35 _ _ h => ?_)
      refine Y.blk (pc' := 104) (L' := [some (.ref x28), some (.int x29), some (.int x30), none]) (st' := [.int x30]) (sg := [(.iload_n 2, 0)]) (lSa_ok dd10) rfl ?_
      exact Y.iret rfl (lIa_ok dd11) h
theorem k_M_endPart (d : Nat) {l : Launch} {D : va_G} {B : Nat} {O : State → Heap → Prop} (hV : zG l D B O)  : ∀ (G : gH) (a0 : Nat) (a1 : Int32), gMet (zVm l D B O) m_M_endPart (3 + d) [.ref a0, .int a1] G (f_M_endPart d G a0 a1) := by
  induction d with
  | zero => intro G a0 a1 o Gf h; cases h
  | succ d ih => intro G a0 a1; exact k_M_endPart_B d hV _ ih G a0 a1

def f_M_isAbove_B (rec : gH → Nat → Int32 → Int32 → gR) (G : gH) (a0 : Nat) (a1 : Int32) (a2 : Int32) : gR :=
  if a1 = a2 then rZ (nI 1) G
  else if a2 < (nI 2) then rZ (nI 0) G
    else gFA G a0 6 2 fun v1 => gLdq G v1 104 a2 (none) fun v2 => gFI G v2 5 0 fun v3 => gOb G a0 6 fun o5 => bI (rec G a0 a1 v3) fun v8 G7 => if v8 = 0 then rZ (nI 0) G7
        else rZ (nI 1) G7
def f_M_isAbove : Nat → gH → Nat → Int32 → Int32 → gR
  | 0, _, _, _, _ => none
  | d + 1, G, a0, a1, a2 => f_M_isAbove_B (f_M_isAbove d) G a0 a1 a2
theorem k_M_isAbove_B (d : Nat) {l : Launch} {D : va_G} {B : Nat} {O : State → Heap → Prop} (hV : zG l D B O) (rec : gH → Nat → Int32 → Int32 → gR) (hrec : ∀ (G : gH) (a0 : Nat) (a1 : Int32) (a2 : Int32), gMet (zVm l D B O) m_M_isAbove (2 + d) [.ref a0, .int a1, .int a2] G (rec G a0 a1 a2)) (G : gH) (a0 : Nat) (a1 : Int32) (a2 : Int32) : gMet (zVm l D B O) m_M_isAbove (2 + (d + 1)) [.ref a0, .int a1, .int a2] G (f_M_isAbove_B rec G a0 a1 a2) := by
  have hdd : lSa m_M_isAbove 0 [(.iload_n 1, 0), (.iload_n 2, 0)] = true ∧ lIa m_M_isAbove 2 (.if_icmp .eq 25) 3 = true ∧ lSa m_M_isAbove 27 [(.iconst 1, nI 1)] = true ∧ lIa m_M_isAbove 28 (.goto 4) 3 = true ∧ lIa m_M_isAbove 32 (.ireturn) 1 = true ∧ lSa m_M_isAbove 5 [(.iload_n 2, 0), (.iconst 2, nI 2)] = true ∧ lIa m_M_isAbove 7 (.if_icmp .lt 24) 3 = true ∧ lSa m_M_isAbove 31 [(.iconst 0, nI 0)] = true ∧ lSa m_M_isAbove 10 [(.aload_n 0, 0), (.iload_n 1, 0), (.aload_n 0, 0)] = true ∧ lIa m_M_isAbove 13 (.getfield 18) 3 = true ∧ lSa m_M_isAbove 16 [(.iload_n 2, 0)] = true ∧ lIa m_M_isAbove 17 (.aaload) 1 = true ∧ lIa m_M_isAbove 18 (.getfield 44) 3 = true ∧ lIa m_M_isAbove 21 (.invokevirtual 79) 3 = true ∧ lIa m_M_isAbove 24 (.ifCond .eq 7) 3 = true := by decide +kernel
  refine lA8 hdd (fun dd0 dd1 dd2 dd3 dd4 dd5 dd6 dd7 hdd => ?_)
  obtain ⟨dd8, dd9, dd10, dd11, dd12, dd13, dd14⟩ := hdd
  refine gMet.of (by decide +kernel) (Nat.le_of_ble_eq_true rfl) [some (.ref a0), some (.int a1), some (.int a2)] (fun ls h => zEn_ok (n := 3) h) ?_
  intro o Gf h
  unfold f_M_isAbove_B at h
  refine Y.blk (pc' := 2) (L' := [some (.ref a0), some (.int a1), some (.int a2)]) (st' := [.int a2, .int a1]) (sg := [(.iload_n 1, 0), (.iload_n 2, 0)]) (lSa_ok dd0) rfl ?_
  refine Y.ic_eq (off := 25) (tgt := 27) (lIa_ok dd1) (by decide) h (fun c11 h => ?_) (fun c11 h => ?_)
  · refine Y.blk (pc' := 28) (L' := [some (.ref a0), some (.int a1), some (.int a2)]) (st' := [.int (nI 1)]) (sg := [(.iconst 1, nI 1)]) (lSa_ok dd2) rfl ?_
    refine Y.goto (off := 4) (tgt := 32) (lIa_ok dd3) (by decide) ?_
    exact Y.zret rfl (lIa_ok dd4) h
  · refine Y.blk (pc' := 7) (L' := [some (.ref a0), some (.int a1), some (.int a2)]) (st' := [.int (nI 2), .int a2]) (sg := [(.iload_n 2, 0), (.iconst 2, nI 2)]) (lSa_ok dd5) rfl ?_
    refine Y.ic_lt (off := 24) (tgt := 31) (lIa_ok dd6) (by decide) h (fun c10 h => ?_) (fun c10 h => ?_)
    · refine Y.blk (pc' := 32) (L' := [some (.ref a0), some (.int a1), some (.int a2)]) (st' := [.int (nI 0)]) (sg := [(.iconst 0, nI 0)]) (lSa_ok dd7) rfl ?_
      exact Y.zret rfl (lIa_ok dd4) h
    · refine Y.blk (pc' := 13) (L' := [some (.ref a0), some (.int a1), some (.int a2)]) (st' := [.ref a0, .int a1, .ref a0]) (sg := [(.aload_n 0, 0), (.iload_n 1, 0), (.aload_n 0, 0)]) (lSa_ok dd8) rfl ?_
      refine Y.getA fl_M_18 (lIa_ok dd9) h (fun v1 h => ?_)
      refine Y.blk (pc' := 17) (L' := [some (.ref a0), some (.int a1), some (.int a2)]) (st' := [.int a2, .ref v1, .int a1, .ref a0]) (sg := [(.iload_n 2, 0)]) (lSa_ok dd10) rfl ?_
      refine Y.aald (t0 := 4) (lIa_ok dd11) rfl h (fun h => ?_) (fun v2 h => ?_)
      · cases h
      · refine Y.getI fl_M_44 (lIa_ok dd12) h (fun v3 h => ?_)
        obtain ⟨_, o5, e4, m6, h⟩ := gOb_inv h
        refine Y.callI (yC.Vi (b := a0) (As := [.int a1, .int v3]) (st := []) (r := ("PartlisterModel", T_M, 9)) hV.1 cb_M_isAbove lk_M_79 in_M_isAbove rfl se_M_isAbove (lIa_ok dd13) rfl rfl (Nat.le_of_ble_eq_true rfl) (by omega) e4 m6) (hrec G a0 a1 v3) h (fun v8 G7 _ h => ?_)
        refine Y.if_eq (off := 7) (tgt := 31) (lIa_ok dd14) (by decide) h (fun c9 h => ?_) (fun c9 h => ?_)
        · refine Y.blk (pc' := 32) (L' := [some (.ref a0), some (.int a1), some (.int a2)]) (st' := [.int (nI 0)]) (sg := [(.iconst 0, nI 0)]) (lSa_ok dd7) rfl ?_
          exact Y.zret rfl (lIa_ok dd4) h
        · refine Y.blk (pc' := 28) (L' := [some (.ref a0), some (.int a1), some (.int a2)]) (st' := [.int (nI 1)]) (sg := [(.iconst 1, nI 1)]) (lSa_ok dd2) rfl ?_
          refine Y.goto (off := 4) (tgt := 32) (lIa_ok dd3) (by decide) ?_
          exact Y.zret rfl (lIa_ok dd4) h
theorem k_M_isAbove (d : Nat) {l : Launch} {D : va_G} {B : Nat} {O : State → Heap → Prop} (hV : zG l D B O)  : ∀ (G : gH) (a0 : Nat) (a1 : Int32) (a2 : Int32), gMet (zVm l D B O) m_M_isAbove (2 + d) [.ref a0, .int a1, .int a2] G (f_M_isAbove d G a0 a1 a2) := by
  induction d with
  | zero => intro G a0 a1 a2 o Gf h; cases h
  | succ d ih => intro G a0 a1 a2; exact k_M_isAbove_B d hV _ ih G a0 a1 a2

def f_M_rowOf_B (rec : gH → Nat → Int32 → gR) (G : gH) (a0 : Nat) (a1 : Int32) : gR :=
  if (nI 2) ≤ a1 then gFA G a0 6 2 fun v1 => gLdq G v1 104 a1 (none) fun v2 => gFI G v2 5 0 fun v3 => gOb G a0 6 fun o5 => bI (rec G a0 v3) fun v8 G7 => rI v8 G7
  else rI a1 G
def f_M_rowOf : Nat → gH → Nat → Int32 → gR
  | 0, _, _, _ => none
  | d + 1, G, a0, a1 => f_M_rowOf_B (f_M_rowOf d) G a0 a1
theorem k_M_rowOf_B (d : Nat) {l : Launch} {D : va_G} {B : Nat} {O : State → Heap → Prop} (hV : zG l D B O) (rec : gH → Nat → Int32 → gR) (hrec : ∀ (G : gH) (a0 : Nat) (a1 : Int32), gMet (zVm l D B O) m_M_rowOf (2 + d) [.ref a0, .int a1] G (rec G a0 a1)) (G : gH) (a0 : Nat) (a1 : Int32) : gMet (zVm l D B O) m_M_rowOf (2 + (d + 1)) [.ref a0, .int a1] G (f_M_rowOf_B rec G a0 a1) := by
  have hdd : lSa m_M_rowOf 0 [(.iload_n 1, 0), (.iconst 2, nI 2)] = true ∧ lIa m_M_rowOf 2 (.if_icmp .ge 7) 3 = true ∧ lSa m_M_rowOf 9 [(.aload_n 0, 0), (.aload_n 0, 0)] = true ∧ lIa m_M_rowOf 11 (.getfield 18) 3 = true ∧ lSa m_M_rowOf 14 [(.iload_n 1, 0)] = true ∧ lIa m_M_rowOf 15 (.aaload) 1 = true ∧ lIa m_M_rowOf 16 (.getfield 44) 3 = true ∧ lIa m_M_rowOf 19 (.invokevirtual 47) 3 = true ∧ lIa m_M_rowOf 22 (.ireturn) 1 = true ∧ lSa m_M_rowOf 5 [(.iload_n 1, 0)] = true ∧ lIa m_M_rowOf 6 (.goto 16) 3 = true := by decide +kernel
  refine lA8 hdd (fun dd0 dd1 dd2 dd3 dd4 dd5 dd6 dd7 hdd => ?_)
  obtain ⟨dd8, dd9, dd10⟩ := hdd
  refine gMet.of (by decide +kernel) (Nat.le_of_ble_eq_true rfl) [some (.ref a0), some (.int a1)] (fun ls h => zEn_ok (n := 2) h) ?_
  intro o Gf h
  unfold f_M_rowOf_B at h
  refine Y.blk (pc' := 2) (L' := [some (.ref a0), some (.int a1)]) (st' := [.int (nI 2), .int a1]) (sg := [(.iload_n 1, 0), (.iconst 2, nI 2)]) (lSa_ok dd0) rfl ?_
  refine Y.ic_ge (off := 7) (tgt := 9) (lIa_ok dd1) (by decide) h (fun c9 h => ?_) (fun c9 h => ?_)
  · refine Y.blk (pc' := 11) (L' := [some (.ref a0), some (.int a1)]) (st' := [.ref a0, .ref a0]) (sg := [(.aload_n 0, 0), (.aload_n 0, 0)]) (lSa_ok dd2) rfl ?_
    refine Y.getA fl_M_18 (lIa_ok dd3) h (fun v1 h => ?_)
    refine Y.blk (pc' := 15) (L' := [some (.ref a0), some (.int a1)]) (st' := [.int a1, .ref v1, .ref a0]) (sg := [(.iload_n 1, 0)]) (lSa_ok dd4) rfl ?_
    refine Y.aald (t0 := 4) (lIa_ok dd5) rfl h (fun h => ?_) (fun v2 h => ?_)
    · cases h
    · refine Y.getI fl_M_44 (lIa_ok dd6) h (fun v3 h => ?_)
      obtain ⟨_, o5, e4, m6, h⟩ := gOb_inv h
      refine Y.callI (yC.Vi (b := a0) (As := [.int v3]) (st := []) (r := ("PartlisterModel", T_M, 9)) hV.1 cb_M_rowOf lk_M_47 in_M_rowOf rfl se_M_rowOf (lIa_ok dd7) rfl rfl (Nat.le_of_ble_eq_true rfl) (by omega) e4 m6) (hrec G a0 v3) h (fun v8 G7 _ h => ?_)
      exact Y.iret rfl (lIa_ok dd8) h
  · refine Y.blk (pc' := 6) (L' := [some (.ref a0), some (.int a1)]) (st' := [.int a1]) (sg := [(.iload_n 1, 0)]) (lSa_ok dd9) rfl ?_
    refine Y.goto (off := 16) (tgt := 22) (lIa_ok dd10) (by decide) ?_
    exact Y.iret rfl (lIa_ok dd8) h
theorem k_M_rowOf (d : Nat) {l : Launch} {D : va_G} {B : Nat} {O : State → Heap → Prop} (hV : zG l D B O)  : ∀ (G : gH) (a0 : Nat) (a1 : Int32), gMet (zVm l D B O) m_M_rowOf (2 + d) [.ref a0, .int a1] G (f_M_rowOf d G a0 a1) := by
  induction d with
  | zero => intro G a0 a1 o Gf h; cases h
  | succ d ih => intro G a0 a1; exact k_M_rowOf_B d hV _ ih G a0 a1

def f_M_endParts_L5 (K57 : gH → Int32 → gR) : Nat → gH → Nat → Int32 → Int32 → Int32 → Int32 → gR
  | 0, _, _, _, _, _, _ => none
  | n + 1, G, x0, x1, x2, x3, x4 =>
    if (nI 6) ≤ x4 then K57 G x3
    else gFA G x0 6 2 fun v1 => gLdq G v1 104 x4 (f_M_endParts_L5 K57 n G x0 x1 x2 x3 (x4 + (nI 1))) fun v2 => gOb G x0 6 fun o4 => bI (f_M_rowOf zDp G x0 x4) fun v7 G6 => if v7 = x1 then (gOb G6 x0 6 fun o9 => bI (f_M_isAbove zDp G6 x0 x4 x2) fun v12 G11 => if v12 = 0 then gOb G11 x0 6 fun o14 => bI (f_M_endPart zDp G11 x0 x4) fun v17 G16 => f_M_endParts_L5 K57 n G16 x0 x1 x2 (x3 + v17) (x4 + (nI 1))
          else f_M_endParts_L5 K57 n G11 x0 x1 x2 x3 (x4 + (nI 1)))
        else f_M_endParts_L5 K57 n G6 x0 x1 x2 x3 (x4 + (nI 1))
def f_M_endParts (G : gH) (a0 : Nat) (a1 : Int32) (a2 : Int32) : gR :=
  f_M_endParts_L5 (fun G22 x21 => rI x21 G22) zFu G a0 a1 a2 (nI 0) (nI 2)
theorem k_M_endParts_L5 {l : Launch} {D : va_G} {B : Nat} {O : State → Heap → Prop} (hV : zG l D B O) {o : gO} {Gf : gH} (K57 : gH → Int32 → gR) (hK57 : ∀ (G : gH) (x3 : Int32), K57 G x3 = some (o, Gf) → Y (zVm l D B O) m_M_endParts 12 o Gf 57 [none, none, none, some (.int x3), none] [] G) : ∀ (n : Nat) (G : gH) (x0 : Nat) (x1 : Int32) (x2 : Int32) (x3 : Int32) (x4 : Int32), f_M_endParts_L5 K57 n G x0 x1 x2 x3 x4 = some (o, Gf) → Y (zVm l D B O) m_M_endParts 12 o Gf 5 [some (.ref x0), some (.int x1), some (.int x2), some (.int x3), some (.int x4)] [] G := by
  have hdd : lSa m_M_endParts 5 [(.iload 4, 0), (.bipush 6, nI 6)] = true ∧ lIa m_M_endParts 9 (.if_icmp .ge 48) 3 = true ∧ lSa m_M_endParts 12 [(.aload_n 0, 0)] = true ∧ lIa m_M_endParts 13 (.getfield 18) 3 = true ∧ lSa m_M_endParts 16 [(.iload 4, 0)] = true ∧ lIa m_M_endParts 18 (.aaload) 1 = true ∧ lIa m_M_endParts 19 (.ifnull 32) 3 = true ∧ lSa m_M_endParts 51 [(.iinc 4 1, nI 1)] = true ∧ lIa m_M_endParts 54 (.goto (-49)) 3 = true ∧ lSa m_M_endParts 22 [(.aload_n 0, 0), (.iload 4, 0)] = true ∧ lIa m_M_endParts 25 (.invokevirtual 47) 3 = true ∧ lSa m_M_endParts 28 [(.iload_n 1, 0)] = true ∧ lIa m_M_endParts 29 (.if_icmp .ne 22) 3 = true ∧ lSa m_M_endParts 32 [(.aload_n 0, 0), (.iload 4, 0), (.iload_n 2, 0)] = true ∧ lIa m_M_endParts 36 (.invokevirtual 79) 3 = true ∧ lIa m_M_endParts 39 (.ifCond .ne 12) 3 = true ∧ lSa m_M_endParts 42 [(.iload_n 3, 0), (.aload_n 0, 0), (.iload 4, 0)] = true ∧ lIa m_M_endParts 46 (.invokevirtual 86) 3 = true ∧ lSa m_M_endParts 49 [(.iadd, 0), (.istore_n 3, 0), (.iinc 4 1, nI 1)] = true := by decide +kernel
  refine lA8 hdd (fun dd0 dd1 dd2 dd3 dd4 dd5 dd6 dd7 hdd => ?_)
  refine lA8 hdd (fun dd8 dd9 dd10 dd11 dd12 dd13 dd14 dd15 hdd => ?_)
  obtain ⟨dd16, dd17, dd18⟩ := hdd
  intro n
  induction n with
  | zero => intro G x0 x1 x2 x3 x4 h; cases h
  | succ n ih =>
    intro G x0 x1 x2 x3 x4 h
    unfold f_M_endParts_L5 at h
    refine Y.blk (pc' := 9) (L' := [some (.ref x0), some (.int x1), some (.int x2), some (.int x3), some (.int x4)]) (st' := [.int (nI 6), .int x4]) (sg := [(.iload 4, 0), (.bipush 6, nI 6)]) (lSa_ok dd0) rfl ?_
    refine Y.ic_ge (off := 48) (tgt := 57) (lIa_ok dd1) (by decide) h (fun c20 h => ?_) (fun c20 h => ?_)
    · refine Y.less (L' := [none, none, none, some (.int x3), none]) (zLe_none (zLe_none (zLe_none (zLe_some (zLe_none (zLe_nil)))))) ?_
      exact hK57 G x3 h
    · refine Y.blk (pc' := 13) (L' := [some (.ref x0), some (.int x1), some (.int x2), some (.int x3), some (.int x4)]) (st' := [.ref x0]) (sg := [(.aload_n 0, 0)]) (lSa_ok dd2) rfl ?_
      refine Y.getA fl_M_18 (lIa_ok dd3) h (fun v1 h => ?_)
      refine Y.blk (pc' := 18) (L' := [some (.ref x0), some (.int x1), some (.int x2), some (.int x3), some (.int x4)]) (st' := [.int x4, .ref v1]) (sg := [(.iload 4, 0)]) (lSa_ok dd4) rfl ?_
      refine Y.aald (t0 := 4) (lIa_ok dd5) rfl h (fun h => ?_) (fun v2 h => ?_)
      · refine Y.ifnull_n (off := 32) (tgt := 51) (lIa_ok dd6) (by decide) ?_
        refine Y.blk (pc' := 54) (L' := [some (.ref x0), some (.int x1), some (.int x2), some (.int x3), some (.int (x4 + (nI 1)))]) (st' := []) (sg := [(.iinc 4 1, nI 1)]) (lSa_ok dd7) rfl ?_
        refine Y.goto (off := -49) (tgt := 5) (lIa_ok dd8) (by decide) ?_
        exact ih G x0 x1 x2 x3 (x4 + (nI 1)) h
      · refine Y.ifnull_r (off := 32) (lIa_ok dd6) ?_
        refine Y.blk (pc' := 25) (L' := [some (.ref x0), some (.int x1), some (.int x2), some (.int x3), some (.int x4)]) (st' := [.int x4, .ref x0]) (sg := [(.aload_n 0, 0), (.iload 4, 0)]) (lSa_ok dd9) rfl ?_
        obtain ⟨_, o4, e3, m5, h⟩ := gOb_inv h
        refine Y.callI (yC.Vi (b := x0) (As := [.int x4]) (st := []) (r := ("PartlisterModel", T_M, 9)) hV.1 cb_M_rowOf lk_M_47 in_M_rowOf rfl se_M_rowOf (lIa_ok dd10) rfl rfl (Nat.le_of_ble_eq_true rfl) (by decide) e3 m5) (k_M_rowOf zDp hV G x0 x4) h (fun v7 G6 _ h => ?_)
        refine Y.blk (pc' := 29) (L' := [some (.ref x0), some (.int x1), some (.int x2), some (.int x3), some (.int x4)]) (st' := [.int x1, .int v7]) (sg := [(.iload_n 1, 0)]) (lSa_ok dd11) rfl ?_
        refine Y.ic_ne (off := 22) (tgt := 51) (lIa_ok dd12) (by decide) h (fun c19 h => ?_) (fun c19 h => ?_)
        · refine Y.blk (pc' := 36) (L' := [some (.ref x0), some (.int x1), some (.int x2), some (.int x3), some (.int x4)]) (st' := [.int x2, .int x4, .ref x0]) (sg := [(.aload_n 0, 0), (.iload 4, 0), (.iload_n 2, 0)]) (lSa_ok dd13) rfl ?_
          obtain ⟨_, o9, e8, m10, h⟩ := gOb_inv h
          refine Y.callI (yC.Vi (b := x0) (As := [.int x4, .int x2]) (st := []) (r := ("PartlisterModel", T_M, 9)) hV.1 cb_M_isAbove lk_M_79 in_M_isAbove rfl se_M_isAbove (lIa_ok dd14) rfl rfl (Nat.le_of_ble_eq_true rfl) (by decide) e8 m10) (k_M_isAbove zDp hV G6 x0 x4 x2) h (fun v12 G11 _ h => ?_)
          refine Y.if_ne (off := 12) (tgt := 51) (lIa_ok dd15) (by decide) h (fun c18 h => ?_) (fun c18 h => ?_)
          · refine Y.blk (pc' := 46) (L' := [some (.ref x0), some (.int x1), some (.int x2), some (.int x3), some (.int x4)]) (st' := [.int x4, .ref x0, .int x3]) (sg := [(.iload_n 3, 0), (.aload_n 0, 0), (.iload 4, 0)]) (lSa_ok dd16) rfl ?_
            obtain ⟨_, o14, e13, m15, h⟩ := gOb_inv h
            refine Y.callI (yC.Vi (b := x0) (As := [.int x4]) (st := [.int x3]) (r := ("PartlisterModel", T_M, 9)) hV.1 cb_M_endPart lk_M_86 in_M_endPart rfl se_M_endPart (lIa_ok dd17) rfl rfl (Nat.le_of_ble_eq_true rfl) (by decide) e13 m15) (k_M_endPart zDp hV G11 x0 x4) h (fun v17 G16 _ h => ?_)
            refine Y.blk (pc' := 54) (L' := [some (.ref x0), some (.int x1), some (.int x2), some (.int (x3 + v17)), some (.int (x4 + (nI 1)))]) (st' := []) (sg := [(.iadd, 0), (.istore_n 3, 0), (.iinc 4 1, nI 1)]) (lSa_ok dd18) rfl ?_
            refine Y.goto (off := -49) (tgt := 5) (lIa_ok dd8) (by decide) ?_
            exact ih G16 x0 x1 x2 (x3 + v17) (x4 + (nI 1)) h
          · refine Y.blk (pc' := 54) (L' := [some (.ref x0), some (.int x1), some (.int x2), some (.int x3), some (.int (x4 + (nI 1)))]) (st' := []) (sg := [(.iinc 4 1, nI 1)]) (lSa_ok dd7) rfl ?_
            refine Y.goto (off := -49) (tgt := 5) (lIa_ok dd8) (by decide) ?_
            exact ih G11 x0 x1 x2 x3 (x4 + (nI 1)) h
        · refine Y.blk (pc' := 54) (L' := [some (.ref x0), some (.int x1), some (.int x2), some (.int x3), some (.int (x4 + (nI 1)))]) (st' := []) (sg := [(.iinc 4 1, nI 1)]) (lSa_ok dd7) rfl ?_
          refine Y.goto (off := -49) (tgt := 5) (lIa_ok dd8) (by decide) ?_
          exact ih G6 x0 x1 x2 x3 (x4 + (nI 1)) h
theorem k_M_endParts {l : Launch} {D : va_G} {B : Nat} {O : State → Heap → Prop} (hV : zG l D B O) (G : gH) (a0 : Nat) (a1 : Int32) (a2 : Int32) : gMet (zVm l D B O) m_M_endParts 12 [.ref a0, .int a1, .int a2] G (f_M_endParts G a0 a1 a2) := by
  have hdd : lSa m_M_endParts 0 [(.iconst 0, nI 0), (.istore_n 3, 0), (.iconst 2, nI 2), (.istore 4, 0)] = true ∧ lSa m_M_endParts 57 [(.iload_n 3, 0)] = true ∧ lIa m_M_endParts 58 (.ireturn) 1 = true := by decide +kernel
  obtain ⟨dd0, dd1, dd2⟩ := hdd
  refine gMet.of (by decide +kernel) (Nat.le_of_ble_eq_true rfl) [some (.ref a0), some (.int a1), some (.int a2), none, none] (fun ls h => zEn_ok (n := 5) h) ?_
  intro o Gf h
  unfold f_M_endParts at h
  refine Y.blk (pc' := 5) (L' := [some (.ref a0), some (.int a1), some (.int a2), some (.int (nI 0)), some (.int (nI 2))]) (st' := []) (sg := [(.iconst 0, nI 0), (.istore_n 3, 0), (.iconst 2, nI 2), (.istore 4, 0)]) (lSa_ok dd0) rfl ?_
  refine k_M_endParts_L5 hV _ ?_  zFu G a0 a1 a2 (nI 0) (nI 2) h
  · intro G22 x21 h
    refine Y.blk (pc' := 58) (L' := [none, none, none, some (.int x21), none]) (st' := [.int x21]) (sg := [(.iload_n 3, 0)]) (lSa_ok dd1) rfl ?_
    exact Y.iret rfl (lIa_ok dd2) h
