section
def f_AB_length (G : gH) (a0 : Nat) : gR :=
  gFI G a0 10 3 fun v1 => rI v1 G
theorem k_AB_length {l : Launch} {D : va_G} {B : Nat} {O : State → Heap → Prop} (hV : zG l D B O) (G : gH) (a0 : Nat) : gMet (zVm l D B O) m_AB_length 2 [.ref a0] G (f_AB_length G a0) := by
  have hdd : lSa m_AB_length 0 [(.aload_n 0, 0)] = true ∧ lIa m_AB_length 1 (.getfield 79) 3 = true ∧ lIa m_AB_length 4 (.ireturn) 1 = true := by decide +kernel
  obtain ⟨dd0, dd1, dd2⟩ := hdd
  refine gMet.of (by decide +kernel) (Nat.le_of_ble_eq_true rfl) [some (.ref a0)] (fun ls h => zEn_ok (n := 1) h) ?_
  intro o Gf h
  unfold f_AB_length at h
  refine Y.blk (pc' := 1) (L' := [some (.ref a0)]) (st' := [.ref a0]) (sg := [(.aload_n 0, 0)]) (lSa_ok dd0) rfl ?_
  refine Y.getI fl_AB_79 (lIa_ok dd1) h (fun v1 h => ?_)
  exact Y.iret rfl (lIa_ok dd2) h

def f_SB_length (G : gH) (a0 : Nat) : gR :=
  gOb G a0 10 fun o2 => bI (f_AB_length G a0) fun v5 G4 => rI v5 G4
theorem k_SB_length {l : Launch} {D : va_G} {B : Nat} {O : State → Heap → Prop} (hV : zG l D B O) (G : gH) (a0 : Nat) : gMet (zVm l D B O) m_SB_length 3 [.ref a0] G (f_SB_length G a0) := by
  have hdd : lSa m_SB_length 0 [(.aload_n 0, 0)] = true ∧ lIa m_SB_length 1 (.invokespecial 343) 3 = true ∧ lIa m_SB_length 4 (.ireturn) 1 = true := by decide +kernel
  obtain ⟨dd0, dd1, dd2⟩ := hdd
  refine gMet.of (by decide +kernel) (Nat.le_of_ble_eq_true rfl) [some (.ref a0)] (fun ls h => zEn_ok (n := 1) h) ?_
  intro o Gf h
  unfold f_SB_length at h
  refine Y.blk (pc' := 1) (L' := [some (.ref a0)]) (st' := [.ref a0]) (sg := [(.aload_n 0, 0)]) (lSa_ok dd0) rfl ?_
  obtain ⟨_, o2, e1, m3, h⟩ := gOb_inv h
  refine Y.callI (yC.SU (b := a0) (As := []) (st := []) (r := ("java/lang/StringBuilder", T_SB, 4)) hV.1 cb_AB_length lk_SB_343 sm_AB_length su_SB_AB in_AB_length (by decide) rfl (lIa_ok dd1) rfl rfl (Nat.le_of_ble_eq_true rfl) (by decide) e1 m3) (k_AB_length hV G a0) h (fun v5 G4 _ h => ?_)
  exact Y.iret rfl (lIa_ok dd2) h

def f_AC_init (G : gH) (a0 : Nat) : gR :=
  rV G
theorem k_AC_init {l : Launch} {D : va_G} {B : Nat} {O : State → Heap → Prop} (hV : zG l D B O) (G : gH) (a0 : Nat) : gMet (zVm l D B O) m_AC_init 2 [.ref a0] G (f_AC_init G a0) := by
  have hdd : lSa m_AC_init 0 [(.aload_n 0, 0)] = true ∧ lIa m_AC_init 1 (.invokespecial 1) 3 = true ∧ lIa m_AC_init 4 (.return_) 1 = true := by decide +kernel
  obtain ⟨dd0, dd1, dd2⟩ := hdd
  refine gMet.of (by decide +kernel) (Nat.le_of_ble_eq_true rfl) [some (.ref a0)] (fun ls h => zEn_ok (n := 1) h) ?_
  intro o Gf h
  unfold f_AC_init at h
  refine Y.blk (pc' := 1) (L' := [some (.ref a0)]) (st' := [.ref a0]) (sg := [(.aload_n 0, 0)]) (lSa_ok dd0) rfl ?_
  refine Y.objInit lk_AC_1 in_OJ_init cw_OJ_init (by decide) rfl (Nat.le_of_ble_eq_true rfl) (lIa_ok dd1) ?_
  exact Y.vret rfl (lIa_ok dd2) h

def f_AY_init (G : gH) (a0 : Nat) : gR :=
  bV (f_AC_init G a0) fun G2 => gPut G2 a0 9 2 (.int (nI 0)) fun G3 => rV G3
theorem k_AY_init {l : Launch} {D : va_G} {B : Nat} {O : State → Heap → Prop} (hV : zG l D B O) (G : gH) (a0 : Nat) : gMet (zVm l D B O) m_AY_init 3 [.ref a0] G (f_AY_init G a0) := by
  have hdd : lSa m_AY_init 0 [(.aload_n 0, 0)] = true ∧ lIa m_AY_init 1 (.invokespecial 1) 3 = true ∧ lSa m_AY_init 4 [(.aload_n 0, 0), (.iconst 0, nI 0)] = true ∧ lIa m_AY_init 6 (.putfield 7) 3 = true ∧ lIa m_AY_init 9 (.return_) 1 = true := by decide +kernel
  obtain ⟨dd0, dd1, dd2, dd3, dd4⟩ := hdd
  refine gMet.of (by decide +kernel) (Nat.le_of_ble_eq_true rfl) [some (.ref a0)] (fun ls h => zEn_ok (n := 1) h) ?_
  intro o Gf h
  unfold f_AY_init at h
  refine Y.blk (pc' := 1) (L' := [some (.ref a0)]) (st' := [.ref a0]) (sg := [(.aload_n 0, 0)]) (lSa_ok dd0) rfl ?_
  refine Y.callN (yC.I (b := a0) (As := []) (st := []) hV.1 cb_AC_init lk_AY_1 in_AC_init rfl rfl (lIa_ok dd1) rfl rfl (Nat.le_of_ble_eq_true rfl) (by decide)) (k_AC_init hV G a0) h (fun G2 _ h => ?_)
  refine Y.blk (pc' := 6) (L' := [some (.ref a0)]) (st' := [.int (nI 0), .ref a0]) (sg := [(.aload_n 0, 0), (.iconst 0, nI 0)]) (lSa_ok dd2) rfl ?_
  refine Y.putf fl_AY_7 (by decide) rfl rfl (lIa_ok dd3) h (fun G3 _ _ h => ?_)
  exact Y.vret rfl (lIa_ok dd4) h

def f_AL_init (w : Nat → Nat) (G : gH) (a0 : Nat) : gR :=
  bV (f_AY_init G a0) fun G2 => gPut G2 a0 9 0 (.ref (w 0)) fun G3 => rV G3
theorem k_AL_init {l : Launch} {D : va_G} {B : Nat} {O : State → Heap → Prop} {w : Nat → Nat} (hV : zGw l D B O w) (G : gH) (a0 : Nat) : gMet (zVm l D B O) m_AL_init 4 [.ref a0] G (f_AL_init w G a0) := by
  have hdd : lSa m_AL_init 0 [(.aload_n 0, 0)] = true ∧ lIa m_AL_init 1 (.invokespecial 1) 3 = true ∧ lSa m_AL_init 4 [(.aload_n 0, 0)] = true ∧ lIa m_AL_init 5 (.getstatic 39) 3 = true ∧ lIa m_AL_init 8 (.putfield 9) 3 = true ∧ lIa m_AL_init 11 (.return_) 1 = true := by decide +kernel
  obtain ⟨dd0, dd1, dd2, dd3, dd4, dd5⟩ := hdd
  refine gMet.of (by decide +kernel) (Nat.le_of_ble_eq_true rfl) [some (.ref a0)] (fun ls h => zEn_ok (n := 1) h) ?_
  intro o Gf h
  unfold f_AL_init at h
  refine Y.blk (pc' := 1) (L' := [some (.ref a0)]) (st' := [.ref a0]) (sg := [(.aload_n 0, 0)]) (lSa_ok dd0) rfl ?_
  refine Y.callN (yC.I (b := a0) (As := []) (st := []) hV.1.1 cb_AY_init lk_AL_1 in_AY_init rfl rfl (lIa_ok dd1) rfl rfl (Nat.le_of_ble_eq_true rfl) (by decide)) (k_AY_init hV.1 G a0) h (fun G2 _ h => ?_)
  refine Y.blk (pc' := 5) (L' := [some (.ref a0)]) (st' := [.ref a0]) (sg := [(.aload_n 0, 0)]) (lSa_ok dd2) rfl ?_
  refine Y.gets (v := .ref (w 0)) (fun U H h => (hV.2 U H h).1) sf_AL_39 (lIa_ok dd3) ?_
  refine Y.putf fl_AL_9 (by decide) rfl rfl (lIa_ok dd4) h (fun G3 _ _ h => ?_)
  exact Y.vret rfl (lIa_ok dd5) h

def f_AR_copyOf3 (w : Nat → Nat) (G : gH) (a0 : Nat) (a1 : Int32) (a2 : Nat) : gR :=
  if a2 = (w 11) then (gNewQ G 103 a1 fun q1 G2 => gLenq G2 a0 103 fun v3 => gCpQ G2 a0 (nI 0) q1 (nI 0) (if a1 < v3 then a1 else v3) fun G4 => rA q1 G4)
  else none
theorem k_AR_copyOf3 {l : Launch} {D : va_G} {B : Nat} {O : State → Heap → Prop} {w : Nat → Nat} (hV : zGw l D B O w) (G : gH) (a0 : Nat) (a1 : Int32) (a2 : Nat) : gMet (zVm l D B O) m_AR_copyOf3 2 [.ref a0, .int a1, .ref a2] G (f_AR_copyOf3 w G a0 a1 a2) := by
  have hdd : lSa m_AR_copyOf3 0 [(.aload_n 2, 0)] = true ∧ lIa m_AR_copyOf3 1 (.ldc 110) 2 = true ∧ lIa m_AR_copyOf3 3 (.if_acmp .ne 10) 3 = true ∧ lSa m_AR_copyOf3 6 [(.iload_n 1, 0)] = true ∧ lIa m_AR_copyOf3 7 (.anewarray 2) 3 = true ∧ lIa m_AR_copyOf3 10 (.goto 14) 3 = true ∧ lSa m_AR_copyOf3 24 [(.astore_n 3, 0), (.aload_n 0, 0), (.iconst 0, nI 0), (.aload_n 3, 0), (.iconst 0, nI 0), (.aload_n 0, 0)] = true ∧ lIa m_AR_copyOf3 30 (.arraylength) 1 = true ∧ lSa m_AR_copyOf3 31 [(.iload_n 1, 0)] = true ∧ lIa m_AR_copyOf3 32 (.invokestatic 304) 3 = true ∧ lIa m_AR_copyOf3 35 (.invokestatic 150) 3 = true ∧ lSa m_AR_copyOf3 38 [(.aload_n 3, 0)] = true ∧ lIa m_AR_copyOf3 39 (.areturn) 1 = true ∧ lSa m_AR_copyOf3 13 [(.aload_n 2, 0)] = true := by decide +kernel
  refine lA8 hdd (fun dd0 dd1 dd2 dd3 dd4 dd5 dd6 dd7 hdd => ?_)
  obtain ⟨dd8, dd9, dd10, dd11, dd12, dd13⟩ := hdd
  refine gMet.of (by decide +kernel) (Nat.le_of_ble_eq_true rfl) [some (.ref a0), some (.int a1), some (.ref a2), none] (fun ls h => zEn_ok (n := 4) h) ?_
  intro o Gf h
  unfold f_AR_copyOf3 at h
  refine Y.blk (pc' := 1) (L' := [some (.ref a0), some (.int a1), some (.ref a2), none]) (st' := [.ref a2]) (sg := [(.aload_n 2, 0)]) (lSa_ok dd0) rfl ?_
  refine Y.ldcM (fun U H h => (hV.2 U H h).2.2.2.2.2.2.2.2) ck_AR_110 (lIa_ok dd1) ?_
  refine Y.ac_ne (off := 10) (tgt := 13) (lIa_ok dd2) (by decide) h (fun c5 h => ?_) (fun c5 h => ?_)
  · refine Y.blk (pc' := 7) (L' := [some (.ref a0), some (.int a1), some (.ref a2), none]) (st' := [.int a1]) (sg := [(.iload_n 1, 0)]) (lSa_ok dd3) rfl ?_
    refine Y.newq (t0 := 3) ao_OJ ck_AR_2 rfl (by decide) (lIa_ok dd4) h (fun q1 G2 h => ?_)
    refine Y.goto (off := 14) (tgt := 24) (lIa_ok dd5) (by decide) ?_
    refine Y.blk (pc' := 30) (L' := [some (.ref a0), some (.int a1), some (.ref a2), some (.ref q1)]) (st' := [.ref a0, .int (nI 0), .ref q1, .int (nI 0), .ref a0]) (sg := [(.astore_n 3, 0), (.aload_n 0, 0), (.iconst 0, nI 0), (.aload_n 3, 0), (.iconst 0, nI 0), (.aload_n 0, 0)]) (lSa_ok dd6) rfl ?_
    refine Y.alenq (t0 := 3) (lIa_ok dd7) rfl h (fun v3 h => ?_)
    refine Y.blk (pc' := 32) (L' := [some (.ref a0), some (.int a1), some (.ref a2), some (.ref q1)]) (st' := [.int a1, .int v3, .int (nI 0), .ref q1, .int (nI 0), .ref a0]) (sg := [(.iload_n 1, 0)]) (lSa_ok dd8) rfl ?_
    refine Y.mmin lk_AR_304 st_MA_min ini_MA cb_MA_min.1 (by decide) rfl (Nat.le_of_ble_eq_true rfl) (lIa_ok dd9) ?_
    refine Y.copyQ (t0 := 3) lk_AR_150 nat_copy st_copy ini_SY (by decide) rfl (Nat.le_of_ble_eq_true rfl) (lIa_ok dd10) rfl ⟨_, rfl, ca_AL⟩ rfl h (fun G4 _ _ h => ?_)
    refine Y.blk (pc' := 39) (L' := [some (.ref a0), some (.int a1), some (.ref a2), some (.ref q1)]) (st' := [.ref q1]) (sg := [(.aload_n 3, 0)]) (lSa_ok dd11) rfl ?_
    exact Y.aret rfl (by first | exact Or.inl ⟨_, rfl⟩ | exact Or.inr ⟨_, rfl⟩) (lIa_ok dd12) h
  · refine Y.blk (pc' := 14) (L' := [some (.ref a0), some (.int a1), some (.ref a2), none]) (st' := [.ref a2]) (sg := [(.aload_n 2, 0)]) (lSa_ok dd13) rfl ?_
    cases h

def f_AR_copyOf2 (w : Nat → Nat) (G : gH) (a0 : Nat) (a1 : Int32) : gR :=
  gCaQ G a0 103 (bA (f_AR_copyOf3 w G a0 a1 (w 11)) fun v3 G2 => rA v3 G2)
theorem k_AR_copyOf2 {l : Launch} {D : va_G} {B : Nat} {O : State → Heap → Prop} {w : Nat → Nat} (hV : zGw l D B O w) (G : gH) (a0 : Nat) (a1 : Int32) : gMet (zVm l D B O) m_AR_copyOf2 3 [.ref a0, .int a1] G (f_AR_copyOf2 w G a0 a1) := by
  have hdd : lSa m_AR_copyOf2 0 [(.aload_n 0, 0), (.iload_n 1, 0), (.aload_n 0, 0)] = true ∧ lIa m_AR_copyOf2 3 (.invokevirtual 86) 3 = true ∧ lIa m_AR_copyOf2 6 (.invokestatic 300) 3 = true ∧ lIa m_AR_copyOf2 9 (.areturn) 1 = true := by decide +kernel
  obtain ⟨dd0, dd1, dd2, dd3⟩ := hdd
  refine gMet.of (by decide +kernel) (Nat.le_of_ble_eq_true rfl) [some (.ref a0), some (.int a1)] (fun ls h => zEn_ok (n := 2) h) ?_
  intro o Gf h
  unfold f_AR_copyOf2 at h
  refine Y.blk (pc' := 3) (L' := [some (.ref a0), some (.int a1)]) (st' := [.ref a0, .int a1, .ref a0]) (sg := [(.aload_n 0, 0), (.iload_n 1, 0), (.aload_n 0, 0)]) (lSa_ok dd0) rfl ?_
  refine Y.getC (t0 := 3) (nm := "[Ljava/lang/Object;") (fun U H h => (hV.2 U H h).2.2.2.2.2.2.2.2) rfl (by decide) lk_AR_86 dc_getC se_getC in_getC nat_getC (by decide) rfl (Nat.le_of_ble_eq_true rfl) (lIa_ok dd1) h (fun h => ?_)
  refine Y.callA (yC.S (As := [.ref a0, .int a1, .ref (w 11)]) (st := []) hV.1.1 cb_AR_copyOf3 lk_AR_300 st_AR_copyOf3 (lIa_ok dd2) rfl rfl (Nat.le_of_ble_eq_true rfl) (by decide)) (k_AR_copyOf3 hV G a0 a1 (w 11)) h (fun v3 G2 _ h => ?_)
  exact Y.aret rfl (by first | exact Or.inl ⟨_, rfl⟩ | exact Or.inr ⟨_, rfl⟩) (lIa_ok dd3) h

def f_AS_newLength (G : gH) (a0 : Int32) (a1 : Int32) (a2 : Int32) : gR :=
  if (a0 + (if a1 < a2 then a2 else a1)) ≤ (nI 0) then none
  else if (nI 2147483639) < (a0 + (if a1 < a2 then a2 else a1)) then none
    else rI (a0 + (if a1 < a2 then a2 else a1)) G
theorem k_AS_newLength {l : Launch} {D : va_G} {B : Nat} {O : State → Heap → Prop} (hV : zG l D B O) (G : gH) (a0 : Int32) (a1 : Int32) (a2 : Int32) : gMet (zVm l D B O) m_AS_newLength 2 [.int a0, .int a1, .int a2] G (f_AS_newLength G a0 a1 a2) := by
  have hdd : lSa m_AS_newLength 0 [(.iload_n 0, 0), (.iload_n 1, 0), (.iload_n 2, 0)] = true ∧ lIa m_AS_newLength 3 (.invokestatic 194) 3 = true ∧ lSa m_AS_newLength 6 [(.iadd, 0), (.istore_n 3, 0), (.iconst 0, nI 0), (.iload_n 3, 0)] = true ∧ lIa m_AS_newLength 10 (.if_icmp .ge 11) 3 = true ∧ lSa m_AS_newLength 21 [(.iload_n 0, 0), (.iload_n 1, 0)] = true ∧ lSa m_AS_newLength 13 [(.iload_n 3, 0)] = true ∧ lIa m_AS_newLength 14 (.ldc 200) 2 = true ∧ lIa m_AS_newLength 16 (.if_icmp .gt 5) 3 = true ∧ lSa m_AS_newLength 19 [(.iload_n 3, 0)] = true ∧ lIa m_AS_newLength 20 (.ireturn) 1 = true := by decide +kernel
  refine lA8 hdd (fun dd0 dd1 dd2 dd3 dd4 dd5 dd6 dd7 hdd => ?_)
  obtain ⟨dd8, dd9⟩ := hdd
  refine gMet.of (by decide +kernel) (Nat.le_of_ble_eq_true rfl) [some (.int a0), some (.int a1), some (.int a2), none] (fun ls h => zEn_ok (n := 4) h) ?_
  intro o Gf h
  unfold f_AS_newLength at h
  refine Y.blk (pc' := 3) (L' := [some (.int a0), some (.int a1), some (.int a2), none]) (st' := [.int a2, .int a1, .int a0]) (sg := [(.iload_n 0, 0), (.iload_n 1, 0), (.iload_n 2, 0)]) (lSa_ok dd0) rfl ?_
  refine Y.mmax lk_AS_194 st_MA_max ini_MA cb_MA_max.1 (by decide) rfl (Nat.le_of_ble_eq_true rfl) (lIa_ok dd1) ?_
  refine Y.blk (pc' := 10) (L' := [some (.int a0), some (.int a1), some (.int a2), some (.int (a0 + (if a1 < a2 then a2 else a1)))]) (st' := [.int (a0 + (if a1 < a2 then a2 else a1)), .int (nI 0)]) (sg := [(.iadd, 0), (.istore_n 3, 0), (.iconst 0, nI 0), (.iload_n 3, 0)]) (lSa_ok dd2) rfl ?_
  refine Y.ic_ge (off := 11) (tgt := 21) (lIa_ok dd3) (by decide) h (fun c2 h => ?_) (fun c2 h => ?_)
  · refine Y.blk (pc' := 23) (L' := [some (.int a0), some (.int a1), some (.int a2), some (.int (a0 + (if a1 < a2 then a2 else a1)))]) (st' := [.int a1, .int a0]) (sg := [(.iload_n 0, 0), (.iload_n 1, 0)]) (lSa_ok dd4) rfl ?_
    cases h
  · refine Y.blk (pc' := 14) (L' := [some (.int a0), some (.int a1), some (.int a2), some (.int (a0 + (if a1 < a2 then a2 else a1)))]) (st' := [.int (a0 + (if a1 < a2 then a2 else a1))]) (sg := [(.iload_n 3, 0)]) (lSa_ok dd5) rfl ?_
    refine Y.ldc (v := nI 2147483639) co_AS_200 (lIa_ok dd6) ?_
    refine Y.ic_gt (off := 5) (tgt := 21) (lIa_ok dd7) (by decide) h (fun c1 h => ?_) (fun c1 h => ?_)
    · refine Y.blk (pc' := 23) (L' := [some (.int a0), some (.int a1), some (.int a2), some (.int (a0 + (if a1 < a2 then a2 else a1)))]) (st' := [.int a1, .int a0]) (sg := [(.iload_n 0, 0), (.iload_n 1, 0)]) (lSa_ok dd4) rfl ?_
      cases h
    · refine Y.blk (pc' := 20) (L' := [some (.int a0), some (.int a1), some (.int a2), some (.int (a0 + (if a1 < a2 then a2 else a1)))]) (st' := [.int (a0 + (if a1 < a2 then a2 else a1))]) (sg := [(.iload_n 3, 0)]) (lSa_ok dd8) rfl ?_
      exact Y.iret rfl (lIa_ok dd9) h

def f_AL_grow2 (w : Nat → Nat) (G : gH) (a0 : Nat) (a1 : Int32) : gR :=
  gFA G a0 9 0 fun v1 => gLenq G v1 103 fun v2 => if 0 < v2 then bI (f_AS_newLength G v2 (a1 - v2) (v2 >>> ((nI 1) &&& 31))) fun v5 G4 => gFA G4 a0 9 0 fun v6 => bA (f_AR_copyOf2 w G4 v6 v5) fun v9 G8 => gPut G8 a0 9 0 (.ref v9) fun G10 => rA v9 G10
  else gFA G a0 9 0 fun v11 => if v11 = (w 0) then (gNewQ G 103 (if (nI 10) < a1 then a1 else (nI 10)) fun q12 G13 => gPut G13 a0 9 0 (.ref q12) fun G14 => rA q12 G14)
    else bI (f_AS_newLength G v2 (a1 - v2) (v2 >>> ((nI 1) &&& 31))) fun v17 G16 => gFA G16 a0 9 0 fun v18 => bA (f_AR_copyOf2 w G16 v18 v17) fun v21 G20 => gPut G20 a0 9 0 (.ref v21) fun G22 => rA v21 G22
theorem k_AL_grow2 {l : Launch} {D : va_G} {B : Nat} {O : State → Heap → Prop} {w : Nat → Nat} (hV : zGw l D B O w) (G : gH) (a0 : Nat) (a1 : Int32) : gMet (zVm l D B O) m_AL_grow2 4 [.ref a0, .int a1] G (f_AL_grow2 w G a0 a1) := by
  have hdd : lSa m_AL_grow2 0 [(.aload_n 0, 0)] = true ∧ lIa m_AL_grow2 1 (.getfield 9) 3 = true ∧ lIa m_AL_grow2 4 (.arraylength) 1 = true ∧ lSa m_AL_grow2 5 [(.istore_n 2, 0), (.iload_n 2, 0)] = true ∧ lIa m_AL_grow2 7 (.ifCond .gt 13) 3 = true ∧ lSa m_AL_grow2 20 [(.iload_n 2, 0), (.iload_n 1, 0), (.iload_n 2, 0), (.isub, 0), (.iload_n 2, 0), (.iconst 1, nI 1), (.ishr, 0)] = true ∧ lIa m_AL_grow2 27 (.invokestatic 73) 3 = true ∧ lSa m_AL_grow2 30 [(.istore_n 3, 0), (.aload_n 0, 0), (.aload_n 0, 0)] = true ∧ lIa m_AL_grow2 33 (.getfield 9) 3 = true ∧ lSa m_AL_grow2 36 [(.iload_n 3, 0)] = true ∧ lIa m_AL_grow2 37 (.invokestatic 66) 3 = true ∧ lSa m_AL_grow2 40 [(.dup_x1, 0)] = true ∧ lIa m_AL_grow2 41 (.putfield 9) 3 = true ∧ lIa m_AL_grow2 44 (.areturn) 1 = true ∧ lSa m_AL_grow2 10 [(.aload_n 0, 0)] = true ∧ lIa m_AL_grow2 11 (.getfield 9) 3 = true ∧ lIa m_AL_grow2 14 (.getstatic 39) 3 = true ∧ lIa m_AL_grow2 17 (.if_acmp .eq 28) 3 = true ∧ lSa m_AL_grow2 45 [(.aload_n 0, 0), (.bipush 10, nI 10), (.iload_n 1, 0)] = true ∧ lIa m_AL_grow2 49 (.invokestatic 79) 3 = true ∧ lIa m_AL_grow2 52 (.anewarray 7) 3 = true ∧ lSa m_AL_grow2 55 [(.dup_x1, 0)] = true ∧ lIa m_AL_grow2 56 (.putfield 9) 3 = true ∧ lIa m_AL_grow2 59 (.areturn) 1 = true := by decide +kernel
  refine lA8 hdd (fun dd0 dd1 dd2 dd3 dd4 dd5 dd6 dd7 hdd => ?_)
  refine lA8 hdd (fun dd8 dd9 dd10 dd11 dd12 dd13 dd14 dd15 hdd => ?_)
  obtain ⟨dd16, dd17, dd18, dd19, dd20, dd21, dd22, dd23⟩ := hdd
  refine gMet.of (by decide +kernel) (Nat.le_of_ble_eq_true rfl) [some (.ref a0), some (.int a1), none, none] (fun ls h => zEn_ok (n := 4) h) ?_
  intro o Gf h
  unfold f_AL_grow2 at h
  refine Y.blk (pc' := 1) (L' := [some (.ref a0), some (.int a1), none, none]) (st' := [.ref a0]) (sg := [(.aload_n 0, 0)]) (lSa_ok dd0) rfl ?_
  refine Y.getA fl_AL_9 (lIa_ok dd1) h (fun v1 h => ?_)
  refine Y.alenq (t0 := 3) (lIa_ok dd2) rfl h (fun v2 h => ?_)
  refine Y.blk (pc' := 7) (L' := [some (.ref a0), some (.int a1), some (.int v2), none]) (st' := [.int v2]) (sg := [(.istore_n 2, 0), (.iload_n 2, 0)]) (lSa_ok dd3) rfl ?_
  refine Y.if_gt (off := 13) (tgt := 20) (lIa_ok dd4) (by decide) h (fun c24 h => ?_) (fun c24 h => ?_)
  · refine Y.blk (pc' := 27) (L' := [some (.ref a0), some (.int a1), some (.int v2), none]) (st' := [.int (v2 >>> ((nI 1) &&& 31)), .int (a1 - v2), .int v2]) (sg := [(.iload_n 2, 0), (.iload_n 1, 0), (.iload_n 2, 0), (.isub, 0), (.iload_n 2, 0), (.iconst 1, nI 1), (.ishr, 0)]) (lSa_ok dd5) rfl ?_
    refine Y.callI (yC.S (As := [.int v2, .int (a1 - v2), .int (v2 >>> ((nI 1) &&& 31))]) (st := []) hV.1.1 cb_AS_newLength lk_AL_73 st_AS_newLength (lIa_ok dd6) rfl rfl (Nat.le_of_ble_eq_true rfl) (by decide)) (k_AS_newLength hV.1 G v2 (a1 - v2) (v2 >>> ((nI 1) &&& 31))) h (fun v5 G4 _ h => ?_)
    refine Y.blk (pc' := 33) (L' := [some (.ref a0), some (.int a1), some (.int v2), some (.int v5)]) (st' := [.ref a0, .ref a0]) (sg := [(.istore_n 3, 0), (.aload_n 0, 0), (.aload_n 0, 0)]) (lSa_ok dd7) rfl ?_
    refine Y.getA fl_AL_9 (lIa_ok dd8) h (fun v6 h => ?_)
    refine Y.blk (pc' := 37) (L' := [some (.ref a0), some (.int a1), some (.int v2), some (.int v5)]) (st' := [.int v5, .ref v6, .ref a0]) (sg := [(.iload_n 3, 0)]) (lSa_ok dd9) rfl ?_
    refine Y.callA (yC.S (As := [.ref v6, .int v5]) (st := [.ref a0]) hV.1.1 cb_AR_copyOf2 lk_AL_66 st_AR_copyOf2 (lIa_ok dd10) rfl rfl (Nat.le_of_ble_eq_true rfl) (by decide)) (k_AR_copyOf2 hV G4 v6 v5) h (fun v9 G8 _ h => ?_)
    refine Y.blk (pc' := 41) (L' := [some (.ref a0), some (.int a1), some (.int v2), some (.int v5)]) (st' := [.ref v9, .ref a0, .ref v9]) (sg := [(.dup_x1, 0)]) (lSa_ok dd11) rfl ?_
    refine Y.putf fl_AL_9 (by decide) rfl rfl (lIa_ok dd12) h (fun G10 _ _ h => ?_)
    exact Y.aret rfl (by first | exact Or.inl ⟨_, rfl⟩ | exact Or.inr ⟨_, rfl⟩) (lIa_ok dd13) h
  · refine Y.blk (pc' := 11) (L' := [some (.ref a0), some (.int a1), some (.int v2), none]) (st' := [.ref a0]) (sg := [(.aload_n 0, 0)]) (lSa_ok dd14) rfl ?_
    refine Y.getA fl_AL_9 (lIa_ok dd15) h (fun v11 h => ?_)
    refine Y.gets (v := .ref (w 0)) (fun U H h => (hV.2 U H h).1) sf_AL_39 (lIa_ok dd16) ?_
    refine Y.ac_eq (off := 28) (tgt := 45) (lIa_ok dd17) (by decide) h (fun c23 h => ?_) (fun c23 h => ?_)
    · refine Y.blk (pc' := 49) (L' := [some (.ref a0), some (.int a1), some (.int v2), none]) (st' := [.int a1, .int (nI 10), .ref a0]) (sg := [(.aload_n 0, 0), (.bipush 10, nI 10), (.iload_n 1, 0)]) (lSa_ok dd18) rfl ?_
      refine Y.mmax lk_AL_79 st_MA_max ini_MA cb_MA_max.1 (by decide) rfl (Nat.le_of_ble_eq_true rfl) (lIa_ok dd19) ?_
      refine Y.newq (t0 := 3) ao_OJ ck_AL_7 rfl (by decide) (lIa_ok dd20) h (fun q12 G13 h => ?_)
      refine Y.blk (pc' := 56) (L' := [some (.ref a0), some (.int a1), some (.int v2), none]) (st' := [.ref q12, .ref a0, .ref q12]) (sg := [(.dup_x1, 0)]) (lSa_ok dd21) rfl ?_
      refine Y.putf fl_AL_9 (by decide) rfl rfl (lIa_ok dd22) h (fun G14 _ _ h => ?_)
      exact Y.aret rfl (by first | exact Or.inl ⟨_, rfl⟩ | exact Or.inr ⟨_, rfl⟩) (lIa_ok dd23) h
    · refine Y.blk (pc' := 27) (L' := [some (.ref a0), some (.int a1), some (.int v2), none]) (st' := [.int (v2 >>> ((nI 1) &&& 31)), .int (a1 - v2), .int v2]) (sg := [(.iload_n 2, 0), (.iload_n 1, 0), (.iload_n 2, 0), (.isub, 0), (.iload_n 2, 0), (.iconst 1, nI 1), (.ishr, 0)]) (lSa_ok dd5) rfl ?_
      refine Y.callI (yC.S (As := [.int v2, .int (a1 - v2), .int (v2 >>> ((nI 1) &&& 31))]) (st := []) hV.1.1 cb_AS_newLength lk_AL_73 st_AS_newLength (lIa_ok dd6) rfl rfl (Nat.le_of_ble_eq_true rfl) (by decide)) (k_AS_newLength hV.1 G v2 (a1 - v2) (v2 >>> ((nI 1) &&& 31))) h (fun v17 G16 _ h => ?_)
      refine Y.blk (pc' := 33) (L' := [some (.ref a0), some (.int a1), some (.int v2), some (.int v17)]) (st' := [.ref a0, .ref a0]) (sg := [(.istore_n 3, 0), (.aload_n 0, 0), (.aload_n 0, 0)]) (lSa_ok dd7) rfl ?_
      refine Y.getA fl_AL_9 (lIa_ok dd8) h (fun v18 h => ?_)
      refine Y.blk (pc' := 37) (L' := [some (.ref a0), some (.int a1), some (.int v2), some (.int v17)]) (st' := [.int v17, .ref v18, .ref a0]) (sg := [(.iload_n 3, 0)]) (lSa_ok dd9) rfl ?_
      refine Y.callA (yC.S (As := [.ref v18, .int v17]) (st := [.ref a0]) hV.1.1 cb_AR_copyOf2 lk_AL_66 st_AR_copyOf2 (lIa_ok dd10) rfl rfl (Nat.le_of_ble_eq_true rfl) (by decide)) (k_AR_copyOf2 hV G16 v18 v17) h (fun v21 G20 _ h => ?_)
      refine Y.blk (pc' := 41) (L' := [some (.ref a0), some (.int a1), some (.int v2), some (.int v17)]) (st' := [.ref v21, .ref a0, .ref v21]) (sg := [(.dup_x1, 0)]) (lSa_ok dd11) rfl ?_
      refine Y.putf fl_AL_9 (by decide) rfl rfl (lIa_ok dd12) h (fun G22 _ _ h => ?_)
      exact Y.aret rfl (by first | exact Or.inl ⟨_, rfl⟩ | exact Or.inr ⟨_, rfl⟩) (lIa_ok dd13) h

def f_AL_grow1 (w : Nat → Nat) (G : gH) (a0 : Nat) : gR :=
  gFI G a0 9 1 fun v1 => gOb G a0 9 fun o3 => bA (f_AL_grow2 w G a0 (v1 + (nI 1))) fun v6 G5 => rA v6 G5
theorem k_AL_grow1 {l : Launch} {D : va_G} {B : Nat} {O : State → Heap → Prop} {w : Nat → Nat} (hV : zGw l D B O w) (G : gH) (a0 : Nat) : gMet (zVm l D B O) m_AL_grow1 5 [.ref a0] G (f_AL_grow1 w G a0) := by
  have hdd : lSa m_AL_grow1 0 [(.aload_n 0, 0), (.aload_n 0, 0)] = true ∧ lIa m_AL_grow1 2 (.getfield 48) 3 = true ∧ lSa m_AL_grow1 5 [(.iconst 1, nI 1), (.iadd, 0)] = true ∧ lIa m_AL_grow1 7 (.invokevirtual 69) 3 = true ∧ lIa m_AL_grow1 10 (.areturn) 1 = true := by decide +kernel
  obtain ⟨dd0, dd1, dd2, dd3, dd4⟩ := hdd
  refine gMet.of (by decide +kernel) (Nat.le_of_ble_eq_true rfl) [some (.ref a0)] (fun ls h => zEn_ok (n := 1) h) ?_
  intro o Gf h
  unfold f_AL_grow1 at h
  refine Y.blk (pc' := 2) (L' := [some (.ref a0)]) (st' := [.ref a0, .ref a0]) (sg := [(.aload_n 0, 0), (.aload_n 0, 0)]) (lSa_ok dd0) rfl ?_
  refine Y.getI fl_AL_48 (lIa_ok dd1) h (fun v1 h => ?_)
  refine Y.blk (pc' := 7) (L' := [some (.ref a0)]) (st' := [.int (v1 + (nI 1)), .ref a0]) (sg := [(.iconst 1, nI 1), (.iadd, 0)]) (lSa_ok dd2) rfl ?_
  obtain ⟨_, o3, e2, m4, h⟩ := gOb_inv h
  refine Y.callA (yC.Vi (b := a0) (As := [.int (v1 + (nI 1))]) (st := []) (r := ("java/util/ArrayList", T_AL, 3)) hV.1.1 cb_AL_grow2 lk_AL_69 in_AL_grow2 rfl se_AL_grow2 (lIa_ok dd3) rfl rfl (Nat.le_of_ble_eq_true rfl) (by decide) e2 m4) (k_AL_grow2 hV G a0 (v1 + (nI 1))) h (fun v6 G5 _ h => ?_)
  exact Y.aret rfl (by first | exact Or.inl ⟨_, rfl⟩ | exact Or.inr ⟨_, rfl⟩) (lIa_ok dd4) h

def f_AL_add3 (w : Nat → Nat) (G : gH) (a0 : Nat) (a1 : Nat) (a2 : Nat) (a3 : Int32) : gR :=
  gLenq G a2 103 fun v1 => if a3 = v1 then gOb G a0 9 fun o3 => bA (f_AL_grow1 w G a0) fun v6 G5 => gStX G5 v6 103 a3 a1 fun G7 => gPut G7 a0 9 1 (.int (a3 + (nI 1))) fun G8 => rV G8
  else gStX G a2 103 a3 a1 fun G9 => gPut G9 a0 9 1 (.int (a3 + (nI 1))) fun G10 => rV G10
theorem k_AL_add3 {l : Launch} {D : va_G} {B : Nat} {O : State → Heap → Prop} {w : Nat → Nat} (hV : zGw l D B O w) (G : gH) (a0 : Nat) (a1 : Nat) (a2 : Nat) (a3 : Int32) : gMet (zVm l D B O) m_AL_add3 6 [.ref a0, .ref a1, .ref a2, .int a3] G (f_AL_add3 w G a0 a1 a2 a3) := by
  have hdd : lSa m_AL_add3 0 [(.iload_n 3, 0), (.aload_n 2, 0)] = true ∧ lIa m_AL_add3 2 (.arraylength) 1 = true ∧ lIa m_AL_add3 3 (.if_icmp .ne 8) 3 = true ∧ lSa m_AL_add3 6 [(.aload_n 0, 0)] = true ∧ lIa m_AL_add3 7 (.invokevirtual 129) 3 = true ∧ lSa m_AL_add3 10 [(.astore_n 2, 0), (.aload_n 2, 0), (.iload_n 3, 0), (.aload_n 1, 0)] = true ∧ lIa m_AL_add3 14 (.aastore) 1 = true ∧ lSa m_AL_add3 15 [(.aload_n 0, 0), (.iload_n 3, 0), (.iconst 1, nI 1), (.iadd, 0)] = true ∧ lIa m_AL_add3 19 (.putfield 48) 3 = true ∧ lIa m_AL_add3 22 (.return_) 1 = true ∧ lSa m_AL_add3 11 [(.aload_n 2, 0), (.iload_n 3, 0), (.aload_n 1, 0)] = true := by decide +kernel
  refine lA8 hdd (fun dd0 dd1 dd2 dd3 dd4 dd5 dd6 dd7 hdd => ?_)
  obtain ⟨dd8, dd9, dd10⟩ := hdd
  refine gMet.of (by decide +kernel) (Nat.le_of_ble_eq_true rfl) [some (.ref a0), some (.ref a1), some (.ref a2), some (.int a3)] (fun ls h => zEn_ok (n := 4) h) ?_
  intro o Gf h
  unfold f_AL_add3 at h
  refine Y.blk (pc' := 2) (L' := [some (.ref a0), some (.ref a1), some (.ref a2), some (.int a3)]) (st' := [.ref a2, .int a3]) (sg := [(.iload_n 3, 0), (.aload_n 2, 0)]) (lSa_ok dd0) rfl ?_
  refine Y.alenq (t0 := 3) (lIa_ok dd1) rfl h (fun v1 h => ?_)
  refine Y.ic_ne (off := 8) (tgt := 11) (lIa_ok dd2) (by decide) h (fun c11 h => ?_) (fun c11 h => ?_)
  · refine Y.blk (pc' := 7) (L' := [some (.ref a0), some (.ref a1), some (.ref a2), some (.int a3)]) (st' := [.ref a0]) (sg := [(.aload_n 0, 0)]) (lSa_ok dd3) rfl ?_
    obtain ⟨_, o3, e2, m4, h⟩ := gOb_inv h
    refine Y.callA (yC.Vi (b := a0) (As := []) (st := []) (r := ("java/util/ArrayList", T_AL, 3)) hV.1.1 cb_AL_grow1 lk_AL_129 in_AL_grow1 rfl se_AL_grow1 (lIa_ok dd4) rfl rfl (Nat.le_of_ble_eq_true rfl) (by decide) e2 m4) (k_AL_grow1 hV G a0) h (fun v6 G5 _ h => ?_)
    refine Y.blk (pc' := 14) (L' := [some (.ref a0), some (.ref a1), some (.ref v6), some (.int a3)]) (st' := [.ref a1, .int a3, .ref v6]) (sg := [(.astore_n 2, 0), (.aload_n 2, 0), (.iload_n 3, 0), (.aload_n 1, 0)]) (lSa_ok dd5) rfl ?_
    refine Y.aastX (t0 := 3) (lIa_ok dd6) rfl rfl rfl h (fun G7 _ _ h => ?_)
    refine Y.blk (pc' := 19) (L' := [some (.ref a0), some (.ref a1), some (.ref v6), some (.int a3)]) (st' := [.int (a3 + (nI 1)), .ref a0]) (sg := [(.aload_n 0, 0), (.iload_n 3, 0), (.iconst 1, nI 1), (.iadd, 0)]) (lSa_ok dd7) rfl ?_
    refine Y.putf fl_AL_48 (by decide) rfl rfl (lIa_ok dd8) h (fun G8 _ _ h => ?_)
    exact Y.vret rfl (lIa_ok dd9) h
  · refine Y.blk (pc' := 14) (L' := [some (.ref a0), some (.ref a1), some (.ref a2), some (.int a3)]) (st' := [.ref a1, .int a3, .ref a2]) (sg := [(.aload_n 2, 0), (.iload_n 3, 0), (.aload_n 1, 0)]) (lSa_ok dd10) rfl ?_
    refine Y.aastX (t0 := 3) (lIa_ok dd6) rfl rfl rfl h (fun G9 _ _ h => ?_)
    refine Y.blk (pc' := 19) (L' := [some (.ref a0), some (.ref a1), some (.ref a2), some (.int a3)]) (st' := [.int (a3 + (nI 1)), .ref a0]) (sg := [(.aload_n 0, 0), (.iload_n 3, 0), (.iconst 1, nI 1), (.iadd, 0)]) (lSa_ok dd7) rfl ?_
    refine Y.putf fl_AL_48 (by decide) rfl rfl (lIa_ok dd8) h (fun G10 _ _ h => ?_)
    exact Y.vret rfl (lIa_ok dd9) h

def f_AL_add2 (w : Nat → Nat) (G : gH) (a0 : Nat) (a1 : Nat) : gR :=
  gFI G a0 9 2 fun v1 => gPut G a0 9 2 (.int (v1 + (nI 1))) fun G2 => gFA G2 a0 9 0 fun v3 => gFI G2 a0 9 1 fun v4 => gOb G2 a0 9 fun o6 => bV (f_AL_add3 w G2 a0 a1 v3 v4) fun G8 => rZ (nI 1) G8
theorem k_AL_add2 {l : Launch} {D : va_G} {B : Nat} {O : State → Heap → Prop} {w : Nat → Nat} (hV : zGw l D B O w) (G : gH) (a0 : Nat) (a1 : Nat) : gMet (zVm l D B O) m_AL_add2 7 [.ref a0, .ref a1] G (f_AL_add2 w G a0 a1) := by
  have hdd : lSa m_AL_add2 0 [(.aload_n 0, 0), (.dup, 0)] = true ∧ lIa m_AL_add2 2 (.getfield 63) 3 = true ∧ lSa m_AL_add2 5 [(.iconst 1, nI 1), (.iadd, 0)] = true ∧ lIa m_AL_add2 7 (.putfield 63) 3 = true ∧ lSa m_AL_add2 10 [(.aload_n 0, 0), (.aload_n 1, 0), (.aload_n 0, 0)] = true ∧ lIa m_AL_add2 13 (.getfield 9) 3 = true ∧ lSa m_AL_add2 16 [(.aload_n 0, 0)] = true ∧ lIa m_AL_add2 17 (.getfield 48) 3 = true ∧ lIa m_AL_add2 20 (.invokevirtual 131) 3 = true ∧ lSa m_AL_add2 23 [(.iconst 1, nI 1)] = true ∧ lIa m_AL_add2 24 (.ireturn) 1 = true := by decide +kernel
  refine lA8 hdd (fun dd0 dd1 dd2 dd3 dd4 dd5 dd6 dd7 hdd => ?_)
  obtain ⟨dd8, dd9, dd10⟩ := hdd
  refine gMet.of (by decide +kernel) (Nat.le_of_ble_eq_true rfl) [some (.ref a0), some (.ref a1)] (fun ls h => zEn_ok (n := 2) h) ?_
  intro o Gf h
  unfold f_AL_add2 at h
  refine Y.blk (pc' := 2) (L' := [some (.ref a0), some (.ref a1)]) (st' := [.ref a0, .ref a0]) (sg := [(.aload_n 0, 0), (.dup, 0)]) (lSa_ok dd0) rfl ?_
  refine Y.getI fl_AL_63 (lIa_ok dd1) h (fun v1 h => ?_)
  refine Y.blk (pc' := 7) (L' := [some (.ref a0), some (.ref a1)]) (st' := [.int (v1 + (nI 1)), .ref a0]) (sg := [(.iconst 1, nI 1), (.iadd, 0)]) (lSa_ok dd2) rfl ?_
  refine Y.putf fl_AL_63 (by decide) rfl rfl (lIa_ok dd3) h (fun G2 _ _ h => ?_)
  refine Y.blk (pc' := 13) (L' := [some (.ref a0), some (.ref a1)]) (st' := [.ref a0, .ref a1, .ref a0]) (sg := [(.aload_n 0, 0), (.aload_n 1, 0), (.aload_n 0, 0)]) (lSa_ok dd4) rfl ?_
  refine Y.getA fl_AL_9 (lIa_ok dd5) h (fun v3 h => ?_)
  refine Y.blk (pc' := 17) (L' := [some (.ref a0), some (.ref a1)]) (st' := [.ref a0, .ref v3, .ref a1, .ref a0]) (sg := [(.aload_n 0, 0)]) (lSa_ok dd6) rfl ?_
  refine Y.getI fl_AL_48 (lIa_ok dd7) h (fun v4 h => ?_)
  obtain ⟨_, o6, e5, m7, h⟩ := gOb_inv h
  refine Y.callN (yC.Vi (b := a0) (As := [.ref a1, .ref v3, .int v4]) (st := []) (r := ("java/util/ArrayList", T_AL, 3)) hV.1.1 cb_AL_add3 lk_AL_131 in_AL_add3 rfl se_AL_add3 (lIa_ok dd8) rfl rfl (Nat.le_of_ble_eq_true rfl) (by decide) e5 m7) (k_AL_add3 hV G2 a0 a1 v3 v4) h (fun G8 _ h => ?_)
  refine Y.blk (pc' := 24) (L' := [some (.ref a0), some (.ref a1)]) (st' := [.int (nI 1)]) (sg := [(.iconst 1, nI 1)]) (lSa_ok dd9) rfl ?_
  exact Y.zret rfl (lIa_ok dd10) h

def f_M_init_L34 (w : Nat → Nat) (K60 : gH → gR) : Nat → gH → Nat → Int32 → gR
  | 0, _, _, _ => none
  | n + 1, G, x0, x1 =>
    if (nI 2) ≤ x1 then K60 G
    else gFA G x0 6 1 fun v12 => gNewO G 9 3 [.null, .int 0, .int 0] fun q13 G14 => bV (f_AL_init w G14 q13) fun G16 => gOb G16 v12 9 fun o18 => bI (f_AL_add2 w G16 v12 q13) fun v21 G20 => f_M_init_L34 w K60 n G20 x0 (x1 + (nI 1))
def f_M_init (w : Nat → Nat) (G : gH) (a0 : Nat) : gR :=
  gNewO G 9 3 [.null, .int 0, .int 0] fun q1 G2 => bV (f_AL_init w G2 q1) fun G4 => gPut G4 a0 6 1 (.ref q1) fun G5 => gNewQ G5 104 (nI 6) fun q6 G7 => gPut G7 a0 6 2 (.ref q6) fun G8 => gNewQ G8 105 (nI 3) fun q9 G10 => gPut G10 a0 6 3 (.ref q9) fun G11 => f_M_init_L34 w (fun G23 => rV G23) zFu G11 a0 (nI 0)
theorem k_M_init_L34 {l : Launch} {D : va_G} {B : Nat} {O : State → Heap → Prop} {w : Nat → Nat} (hV : zGw l D B O w) {o : gO} {Gf : gH} (K60 : gH → gR) (hK60 : ∀ (G : gH), K60 G  = some (o, Gf) → Y (zVm l D B O) m_M_init 8 o Gf 60 [none, none] [] G) : ∀ (n : Nat) (G : gH) (x0 : Nat) (x1 : Int32), f_M_init_L34 w K60 n G x0 x1 = some (o, Gf) → Y (zVm l D B O) m_M_init 8 o Gf 34 [some (.ref x0), some (.int x1)] [] G := by
  have hdd : lSa m_M_init 34 [(.iload_n 1, 0), (.iconst 2, nI 2)] = true ∧ lIa m_M_init 36 (.if_icmp .ge 24) 3 = true ∧ lSa m_M_init 39 [(.aload_n 0, 0)] = true ∧ lIa m_M_init 40 (.getfield 10) 3 = true ∧ lIa m_M_init 43 (.new 7) 3 = true ∧ lSa m_M_init 46 [(.dup, 0)] = true ∧ lIa m_M_init 47 (.invokespecial 9) 3 = true ∧ lIa m_M_init 50 (.invokevirtual 28) 3 = true ∧ lSa m_M_init 53 [(.pop, 0), (.iinc 1 1, nI 1)] = true ∧ lIa m_M_init 57 (.goto (-23)) 3 = true := by decide +kernel
  refine lA8 hdd (fun dd0 dd1 dd2 dd3 dd4 dd5 dd6 dd7 hdd => ?_)
  obtain ⟨dd8, dd9⟩ := hdd
  intro n
  induction n with
  | zero => intro G x0 x1 h; cases h
  | succ n ih =>
    intro G x0 x1 h
    unfold f_M_init_L34 at h
    refine Y.blk (pc' := 36) (L' := [some (.ref x0), some (.int x1)]) (st' := [.int (nI 2), .int x1]) (sg := [(.iload_n 1, 0), (.iconst 2, nI 2)]) (lSa_ok dd0) rfl ?_
    refine Y.ic_ge (off := 24) (tgt := 60) (lIa_ok dd1) (by decide) h (fun c22 h => ?_) (fun c22 h => ?_)
    · refine Y.less (L' := [none, none]) (zLe_none (zLe_none (zLe_nil))) ?_
      exact hK60 G  h
    · refine Y.blk (pc' := 40) (L' := [some (.ref x0), some (.int x1)]) (st' := [.ref x0]) (sg := [(.aload_n 0, 0)]) (lSa_ok dd2) rfl ?_
      refine Y.getA fl_M_10 (lIa_ok dd3) h (fun v12 h => ?_)
      refine Y.new nc_M_7 (by decide) bk_AL (lIa_ok dd4) h (fun q13 G14 h => ?_)
      refine Y.blk (pc' := 47) (L' := [some (.ref x0), some (.int x1)]) (st' := [.ref q13, .ref q13, .ref v12]) (sg := [(.dup, 0)]) (lSa_ok dd5) rfl ?_
      refine Y.callN (yC.I (b := q13) (As := []) (st := [.ref q13, .ref v12]) hV.1.1 cb_AL_init lk_M_9 in_AL_init rfl rfl (lIa_ok dd6) rfl rfl (Nat.le_of_ble_eq_true rfl) (by decide)) (k_AL_init hV G14 q13) h (fun G16 _ h => ?_)
      obtain ⟨_, o18, e17, m19, h⟩ := gOb_inv h
      refine Y.callI (yC.Vi (b := v12) (As := [.ref q13]) (st := []) (r := ("java/util/ArrayList", T_AL, 3)) hV.1.1 cb_AL_add2 lk_M_28 in_AL_add2 rfl se_AL_add2 (lIa_ok dd7) rfl rfl (Nat.le_of_ble_eq_true rfl) (by decide) e17 m19) (k_AL_add2 hV G16 v12 q13) h (fun v21 G20 _ h => ?_)
      refine Y.blk (pc' := 57) (L' := [some (.ref x0), some (.int (x1 + (nI 1)))]) (st' := []) (sg := [(.pop, 0), (.iinc 1 1, nI 1)]) (lSa_ok dd8) rfl ?_
      refine Y.goto (off := -23) (tgt := 34) (lIa_ok dd9) (by decide) ?_
      exact ih G20 x0 (x1 + (nI 1)) h
theorem k_M_init {l : Launch} {D : va_G} {B : Nat} {O : State → Heap → Prop} {w : Nat → Nat} (hV : zGw l D B O w) (G : gH) (a0 : Nat) : gMet (zVm l D B O) m_M_init 8 [.ref a0] G (f_M_init w G a0) := by
  have hdd : lSa m_M_init 0 [(.aload_n 0, 0)] = true ∧ lIa m_M_init 1 (.invokespecial 1) 3 = true ∧ lSa m_M_init 4 [(.aload_n 0, 0)] = true ∧ lIa m_M_init 5 (.new 7) 3 = true ∧ lSa m_M_init 8 [(.dup, 0)] = true ∧ lIa m_M_init 9 (.invokespecial 9) 3 = true ∧ lIa m_M_init 12 (.putfield 10) 3 = true ∧ lSa m_M_init 15 [(.aload_n 0, 0), (.bipush 6, nI 6)] = true ∧ lIa m_M_init 18 (.anewarray 16) 3 = true ∧ lIa m_M_init 21 (.putfield 18) 3 = true ∧ lSa m_M_init 24 [(.aload_n 0, 0), (.iconst 3, nI 3)] = true ∧ lIa m_M_init 26 (.anewarray 22) 3 = true ∧ lIa m_M_init 29 (.putfield 24) 3 = true ∧ lSa m_M_init 32 [(.iconst 0, nI 0), (.istore_n 1, 0)] = true ∧ lIa m_M_init 60 (.return_) 1 = true := by decide +kernel
  refine lA8 hdd (fun dd0 dd1 dd2 dd3 dd4 dd5 dd6 dd7 hdd => ?_)
  obtain ⟨dd8, dd9, dd10, dd11, dd12, dd13, dd14⟩ := hdd
  refine gMet.of (by decide +kernel) (Nat.le_of_ble_eq_true rfl) [some (.ref a0), none] (fun ls h => zEn_ok (n := 2) h) ?_
  intro o Gf h
  unfold f_M_init at h
  refine Y.blk (pc' := 1) (L' := [some (.ref a0), none]) (st' := [.ref a0]) (sg := [(.aload_n 0, 0)]) (lSa_ok dd0) rfl ?_
  refine Y.objInit lk_M_1 in_OJ_init cw_OJ_init (by decide) rfl (Nat.le_of_ble_eq_true rfl) (lIa_ok dd1) ?_
  refine Y.blk (pc' := 5) (L' := [some (.ref a0), none]) (st' := [.ref a0]) (sg := [(.aload_n 0, 0)]) (lSa_ok dd2) rfl ?_
  refine Y.new nc_M_7 (by decide) bk_AL (lIa_ok dd3) h (fun q1 G2 h => ?_)
  refine Y.blk (pc' := 9) (L' := [some (.ref a0), none]) (st' := [.ref q1, .ref q1, .ref a0]) (sg := [(.dup, 0)]) (lSa_ok dd4) rfl ?_
  refine Y.callN (yC.I (b := q1) (As := []) (st := [.ref q1, .ref a0]) hV.1.1 cb_AL_init lk_M_9 in_AL_init rfl rfl (lIa_ok dd5) rfl rfl (Nat.le_of_ble_eq_true rfl) (by decide)) (k_AL_init hV G2 q1) h (fun G4 _ h => ?_)
  refine Y.putF fl_M_10 rfl (by decide) rfl rfl (lIa_ok dd6) h (fun G5 _ _ h => ?_)
  refine Y.blk (pc' := 18) (L' := [some (.ref a0), none]) (st' := [.int (nI 6), .ref a0]) (sg := [(.aload_n 0, 0), (.bipush 6, nI 6)]) (lSa_ok dd7) rfl ?_
  refine Y.newq (t0 := 4) ao_MP ck_M_16 rfl (by decide) (lIa_ok dd8) h (fun q6 G7 h => ?_)
  refine Y.putF fl_M_18 rfl (by decide) rfl rfl (lIa_ok dd9) h (fun G8 _ _ h => ?_)
  refine Y.blk (pc' := 26) (L' := [some (.ref a0), none]) (st' := [.int (nI 3), .ref a0]) (sg := [(.aload_n 0, 0), (.iconst 3, nI 3)]) (lSa_ok dd10) rfl ?_
  refine Y.newq (t0 := 5) ao_MC ck_M_22 rfl (by decide) (lIa_ok dd11) h (fun q9 G10 h => ?_)
  refine Y.putF fl_M_24 rfl (by decide) rfl rfl (lIa_ok dd12) h (fun G11 _ _ h => ?_)
  refine Y.blk (pc' := 34) (L' := [some (.ref a0), some (.int (nI 0))]) (st' := []) (sg := [(.iconst 0, nI 0), (.istore_n 1, 0)]) (lSa_ok dd13) rfl ?_
  refine k_M_init_L34 hV _ ?_  zFu G11 a0 (nI 0) h
  · intro G23 h
    exact Y.vret rfl (lIa_ok dd14) h

def f_M_endCursor (G : gH) (a0 : Nat) (a1 : Int32) : gR :=
  gFA G a0 6 3 fun v1 => gStN G v1 105 a1 fun G2 => gFI G2 a0 6 6 fun v3 => gPut G2 a0 6 6 (.int (v3 + (nI 1))) fun G4 => rV G4
theorem k_M_endCursor {l : Launch} {D : va_G} {B : Nat} {O : State → Heap → Prop} (hV : zG l D B O) (G : gH) (a0 : Nat) (a1 : Int32) : gMet (zVm l D B O) m_M_endCursor 2 [.ref a0, .int a1] G (f_M_endCursor G a0 a1) := by
  have hdd : lSa m_M_endCursor 0 [(.aload_n 0, 0)] = true ∧ lIa m_M_endCursor 1 (.getfield 24) 3 = true ∧ lSa m_M_endCursor 4 [(.iload_n 1, 0), (.aconst_null, 0)] = true ∧ lIa m_M_endCursor 6 (.aastore) 1 = true ∧ lSa m_M_endCursor 7 [(.aload_n 0, 0), (.dup, 0)] = true ∧ lIa m_M_endCursor 9 (.getfield 83) 3 = true ∧ lSa m_M_endCursor 12 [(.iconst 1, nI 1), (.iadd, 0)] = true ∧ lIa m_M_endCursor 14 (.putfield 83) 3 = true ∧ lIa m_M_endCursor 17 (.return_) 1 = true := by decide +kernel
  refine lA8 hdd (fun dd0 dd1 dd2 dd3 dd4 dd5 dd6 dd7 hdd => ?_)
  have dd8 := hdd
  refine gMet.of (by decide +kernel) (Nat.le_of_ble_eq_true rfl) [some (.ref a0), some (.int a1)] (fun ls h => zEn_ok (n := 2) h) ?_
  intro o Gf h
  unfold f_M_endCursor at h
  refine Y.blk (pc' := 1) (L' := [some (.ref a0), some (.int a1)]) (st' := [.ref a0]) (sg := [(.aload_n 0, 0)]) (lSa_ok dd0) rfl ?_
  refine Y.getA fl_M_24 (lIa_ok dd1) h (fun v1 h => ?_)
  refine Y.blk (pc' := 6) (L' := [some (.ref a0), some (.int a1)]) (st' := [.null, .int a1, .ref v1]) (sg := [(.iload_n 1, 0), (.aconst_null, 0)]) (lSa_ok dd2) rfl ?_
  refine Y.aastN (t0 := 5) (lIa_ok dd3) rfl (by decide) h (fun G2 _ _ h => ?_)
  refine Y.blk (pc' := 9) (L' := [some (.ref a0), some (.int a1)]) (st' := [.ref a0, .ref a0]) (sg := [(.aload_n 0, 0), (.dup, 0)]) (lSa_ok dd4) rfl ?_
  refine Y.getI fl_M_83 (lIa_ok dd5) h (fun v3 h => ?_)
  refine Y.blk (pc' := 14) (L' := [some (.ref a0), some (.int a1)]) (st' := [.int (v3 + (nI 1)), .ref a0]) (sg := [(.iconst 1, nI 1), (.iadd, 0)]) (lSa_ok dd6) rfl ?_
  refine Y.putf fl_M_83 (by decide) rfl rfl (lIa_ok dd7) h (fun G4 _ _ h => ?_)
  exact Y.vret rfl (lIa_ok dd8) h

def f_M_endPart_L4 (rec : gH → Nat → Int32 → gR) (K46 : gH → Nat → Int32 → Int32 → gR) : Nat → gH → Nat → Int32 → Int32 → Int32 → gR
  | 0, _, _, _, _, _ => none
  | n + 1, G, x0, x1, x2, x3 =>
    if (nI 6) ≤ x3 then K46 G x0 x1 x2
    else gFA G x0 6 2 fun v1 => gLdq G v1 104 x3 (f_M_endPart_L4 rec K46 n G x0 x1 x2 (x3 + (nI 1))) fun v2 => gFA G x0 6 2 fun v3 => gLdq G v3 104 x3 (none) fun v4 => gFI G v4 5 0 fun v5 => if v5 = x1 then gOb G x0 6 fun o7 => bI (rec G x0 x3) fun v10 G9 => f_M_endPart_L4 rec K46 n G9 x0 x1 (x2 + v10) (x3 + (nI 1))
          else f_M_endPart_L4 rec K46 n G x0 x1 x2 (x3 + (nI 1))
def f_M_endPart_L48 (rec : gH → Nat → Int32 → gR) (K86 : gH → Nat → Int32 → Int32 → gR) : Nat → gH → Nat → Int32 → Int32 → Int32 → gR
  | 0, _, _, _, _, _ => none
  | n + 1, G, x0, x1, x2, x3 =>
    if (nI 3) ≤ x3 then K86 G x0 x1 x2
    else gFA G x0 6 3 fun v17 => gLdq G v17 105 x3 (f_M_endPart_L48 rec K86 n G x0 x1 x2 (x3 + (nI 1))) fun v18 => gFA G x0 6 3 fun v19 => gLdq G v19 105 x3 (none) fun v20 => gFI G v20 4 0 fun v21 => if v21 = x1 then gOb G x0 6 fun o23 => bV (f_M_endCursor G x0 x3) fun G25 => f_M_endPart_L48 rec K86 n G25 x0 x1 x2 (x3 + (nI 1))
          else f_M_endPart_L48 rec K86 n G x0 x1 x2 (x3 + (nI 1))
def f_M_endPart_B (rec : gH → Nat → Int32 → gR) (G : gH) (a0 : Nat) (a1 : Int32) : gR :=
  f_M_endPart_L4 rec (fun G16 x13 x14 x15 => f_M_endPart_L48 rec (fun G31 x28 x29 x30 => gFA G31 x28 6 2 fun v32 => gStN G31 v32 104 x29 fun G33 => gFI G33 x28 6 5 fun v34 => gPut G33 x28 6 5 (.int (v34 + (nI 1))) fun G35 => rI x30 G35) zFu G16 x13 x14 x15 (nI 0)) zFu G a0 a1 (nI 1) (nI 2)
def f_M_endPart : Nat → gH → Nat → Int32 → gR
  | 0, _, _, _ => none
  | d + 1, G, a0, a1 => f_M_endPart_B (f_M_endPart d) G a0 a1
theorem k_M_endPart_L4 (d : Nat) {l : Launch} {D : va_G} {B : Nat} {O : State → Heap → Prop} (hV : zG l D B O) (rec : gH → Nat → Int32 → gR) (hrec : ∀ (G : gH) (a0 : Nat) (a1 : Int32), gMet (zVm l D B O) m_M_endPart (3 + d) [.ref a0, .int a1] G (rec G a0 a1)) {o : gO} {Gf : gH} (K46 : gH → Nat → Int32 → Int32 → gR) (hK46 : ∀ (G : gH) (x0 : Nat) (x1 : Int32) (x2 : Int32), K46 G x0 x1 x2 = some (o, Gf) → Y (zVm l D B O) m_M_endPart (3 + (d + 1)) o Gf 46 [some (.ref x0), some (.int x1), some (.int x2), none] [] G) : ∀ (n : Nat) (G : gH) (x0 : Nat) (x1 : Int32) (x2 : Int32) (x3 : Int32), f_M_endPart_L4 rec K46 n G x0 x1 x2 x3 = some (o, Gf) → Y (zVm l D B O) m_M_endPart (3 + (d + 1)) o Gf 4 [some (.ref x0), some (.int x1), some (.int x2), some (.int x3)] [] G := by
  have hdd : lSa m_M_endPart 4 [(.iload_n 3, 0), (.bipush 6, nI 6)] = true ∧ lIa m_M_endPart 7 (.if_icmp .ge 39) 3 = true ∧ lSa m_M_endPart 10 [(.aload_n 0, 0)] = true ∧ lIa m_M_endPart 11 (.getfield 18) 3 = true ∧ lSa m_M_endPart 14 [(.iload_n 3, 0)] = true ∧ lIa m_M_endPart 15 (.aaload) 1 = true ∧ lIa m_M_endPart 16 (.ifnull 24) 3 = true ∧ lSa m_M_endPart 40 [(.iinc 3 1, nI 1)] = true ∧ lIa m_M_endPart 43 (.goto (-39)) 3 = true ∧ lSa m_M_endPart 19 [(.aload_n 0, 0)] = true ∧ lIa m_M_endPart 20 (.getfield 18) 3 = true ∧ lSa m_M_endPart 23 [(.iload_n 3, 0)] = true ∧ lIa m_M_endPart 24 (.aaload) 1 = true ∧ lIa m_M_endPart 25 (.getfield 44) 3 = true ∧ lSa m_M_endPart 28 [(.iload_n 1, 0)] = true ∧ lIa m_M_endPart 29 (.if_icmp .ne 11) 3 = true ∧ lSa m_M_endPart 32 [(.iload_n 2, 0), (.aload_n 0, 0), (.iload_n 3, 0)] = true ∧ lIa m_M_endPart 35 (.invokevirtual 86) 3 = true ∧ lSa m_M_endPart 38 [(.iadd, 0), (.istore_n 2, 0), (.iinc 3 1, nI 1)] = true := by decide +kernel
  refine lA8 hdd (fun dd0 dd1 dd2 dd3 dd4 dd5 dd6 dd7 hdd => ?_)
  refine lA8 hdd (fun dd8 dd9 dd10 dd11 dd12 dd13 dd14 dd15 hdd => ?_)
  obtain ⟨dd16, dd17, dd18⟩ := hdd
  intro n
  induction n with
  | zero => intro G x0 x1 x2 x3 h; cases h
  | succ n ih =>
    intro G x0 x1 x2 x3 h
    unfold f_M_endPart_L4 at h
    refine Y.blk (pc' := 7) (L' := [some (.ref x0), some (.int x1), some (.int x2), some (.int x3)]) (st' := [.int (nI 6), .int x3]) (sg := [(.iload_n 3, 0), (.bipush 6, nI 6)]) (lSa_ok dd0) rfl ?_
    refine Y.ic_ge (off := 39) (tgt := 46) (lIa_ok dd1) (by decide) h (fun c12 h => ?_) (fun c12 h => ?_)
    · refine Y.less (L' := [some (.ref x0), some (.int x1), some (.int x2), none]) (zLe_some (zLe_some (zLe_some (zLe_none (zLe_nil))))) ?_
      exact hK46 G x0 x1 x2 h
    · refine Y.blk (pc' := 11) (L' := [some (.ref x0), some (.int x1), some (.int x2), some (.int x3)]) (st' := [.ref x0]) (sg := [(.aload_n 0, 0)]) (lSa_ok dd2) rfl ?_
      refine Y.getA fl_M_18 (lIa_ok dd3) h (fun v1 h => ?_)
      refine Y.blk (pc' := 15) (L' := [some (.ref x0), some (.int x1), some (.int x2), some (.int x3)]) (st' := [.int x3, .ref v1]) (sg := [(.iload_n 3, 0)]) (lSa_ok dd4) rfl ?_
      refine Y.aald (t0 := 4) (lIa_ok dd5) rfl h (fun h => ?_) (fun v2 h => ?_)
      · refine Y.ifnull_n (off := 24) (tgt := 40) (lIa_ok dd6) (by decide) ?_
        refine Y.blk (pc' := 43) (L' := [some (.ref x0), some (.int x1), some (.int x2), some (.int (x3 + (nI 1)))]) (st' := []) (sg := [(.iinc 3 1, nI 1)]) (lSa_ok dd7) rfl ?_
        refine Y.goto (off := -39) (tgt := 4) (lIa_ok dd8) (by decide) ?_
        exact ih G x0 x1 x2 (x3 + (nI 1)) h
      · refine Y.ifnull_r (off := 24) (lIa_ok dd6) ?_
        refine Y.blk (pc' := 20) (L' := [some (.ref x0), some (.int x1), some (.int x2), some (.int x3)]) (st' := [.ref x0]) (sg := [(.aload_n 0, 0)]) (lSa_ok dd9) rfl ?_
        refine Y.getA fl_M_18 (lIa_ok dd10) h (fun v3 h => ?_)
        refine Y.blk (pc' := 24) (L' := [some (.ref x0), some (.int x1), some (.int x2), some (.int x3)]) (st' := [.int x3, .ref v3]) (sg := [(.iload_n 3, 0)]) (lSa_ok dd11) rfl ?_
        refine Y.aald (t0 := 4) (lIa_ok dd12) rfl h (fun h => ?_) (fun v4 h => ?_)
        · cases h
        · refine Y.getI fl_M_44 (lIa_ok dd13) h (fun v5 h => ?_)
          refine Y.blk (pc' := 29) (L' := [some (.ref x0), some (.int x1), some (.int x2), some (.int x3)]) (st' := [.int x1, .int v5]) (sg := [(.iload_n 1, 0)]) (lSa_ok dd14) rfl ?_
          refine Y.ic_ne (off := 11) (tgt := 40) (lIa_ok dd15) (by decide) h (fun c11 h => ?_) (fun c11 h => ?_)
          · refine Y.blk (pc' := 35) (L' := [some (.ref x0), some (.int x1), some (.int x2), some (.int x3)]) (st' := [.int x3, .ref x0, .int x2]) (sg := [(.iload_n 2, 0), (.aload_n 0, 0), (.iload_n 3, 0)]) (lSa_ok dd16) rfl ?_
            obtain ⟨_, o7, e6, m8, h⟩ := gOb_inv h
            refine Y.callI (yC.Vi (b := x0) (As := [.int x3]) (st := [.int x2]) (r := ("PartlisterModel", T_M, 9)) hV.1 cb_M_endPart lk_M_86 in_M_endPart rfl se_M_endPart (lIa_ok dd17) rfl rfl (Nat.le_of_ble_eq_true rfl) (by omega) e6 m8) (hrec G x0 x3) h (fun v10 G9 _ h => ?_)
            refine Y.blk (pc' := 43) (L' := [some (.ref x0), some (.int x1), some (.int (x2 + v10)), some (.int (x3 + (nI 1)))]) (st' := []) (sg := [(.iadd, 0), (.istore_n 2, 0), (.iinc 3 1, nI 1)]) (lSa_ok dd18) rfl ?_
            refine Y.goto (off := -39) (tgt := 4) (lIa_ok dd8) (by decide) ?_
            exact ih G9 x0 x1 (x2 + v10) (x3 + (nI 1)) h
          · refine Y.blk (pc' := 43) (L' := [some (.ref x0), some (.int x1), some (.int x2), some (.int (x3 + (nI 1)))]) (st' := []) (sg := [(.iinc 3 1, nI 1)]) (lSa_ok dd7) rfl ?_
            refine Y.goto (off := -39) (tgt := 4) (lIa_ok dd8) (by decide) ?_
            exact ih G x0 x1 x2 (x3 + (nI 1)) h
theorem k_M_endPart_L48 (d : Nat) {l : Launch} {D : va_G} {B : Nat} {O : State → Heap → Prop} (hV : zG l D B O) (rec : gH → Nat → Int32 → gR) (hrec : ∀ (G : gH) (a0 : Nat) (a1 : Int32), gMet (zVm l D B O) m_M_endPart (3 + d) [.ref a0, .int a1] G (rec G a0 a1)) {o : gO} {Gf : gH} (K86 : gH → Nat → Int32 → Int32 → gR) (hK86 : ∀ (G : gH) (x0 : Nat) (x1 : Int32) (x2 : Int32), K86 G x0 x1 x2 = some (o, Gf) → Y (zVm l D B O) m_M_endPart (3 + (d + 1)) o Gf 86 [some (.ref x0), some (.int x1), some (.int x2), none] [] G) : ∀ (n : Nat) (G : gH) (x0 : Nat) (x1 : Int32) (x2 : Int32) (x3 : Int32), f_M_endPart_L48 rec K86 n G x0 x1 x2 x3 = some (o, Gf) → Y (zVm l D B O) m_M_endPart (3 + (d + 1)) o Gf 48 [some (.ref x0), some (.int x1), some (.int x2), some (.int x3)] [] G := by
  have hdd : lSa m_M_endPart 48 [(.iload_n 3, 0), (.iconst 3, nI 3)] = true ∧ lIa m_M_endPart 50 (.if_icmp .ge 36) 3 = true ∧ lSa m_M_endPart 53 [(.aload_n 0, 0)] = true ∧ lIa m_M_endPart 54 (.getfield 24) 3 = true ∧ lSa m_M_endPart 57 [(.iload_n 3, 0)] = true ∧ lIa m_M_endPart 58 (.aaload) 1 = true ∧ lIa m_M_endPart 59 (.ifnull 21) 3 = true ∧ lSa m_M_endPart 80 [(.iinc 3 1, nI 1)] = true ∧ lIa m_M_endPart 83 (.goto (-35)) 3 = true ∧ lSa m_M_endPart 62 [(.aload_n 0, 0)] = true ∧ lIa m_M_endPart 63 (.getfield 24) 3 = true ∧ lSa m_M_endPart 66 [(.iload_n 3, 0)] = true ∧ lIa m_M_endPart 67 (.aaload) 1 = true ∧ lIa m_M_endPart 68 (.getfield 89) 3 = true ∧ lSa m_M_endPart 71 [(.iload_n 1, 0)] = true ∧ lIa m_M_endPart 72 (.if_icmp .ne 8) 3 = true ∧ lSa m_M_endPart 75 [(.aload_n 0, 0), (.iload_n 3, 0)] = true ∧ lIa m_M_endPart 77 (.invokevirtual 92) 3 = true := by decide +kernel
  refine lA8 hdd (fun dd0 dd1 dd2 dd3 dd4 dd5 dd6 dd7 hdd => ?_)
  refine lA8 hdd (fun dd8 dd9 dd10 dd11 dd12 dd13 dd14 dd15 hdd => ?_)
  obtain ⟨dd16, dd17⟩ := hdd
  intro n
  induction n with
  | zero => intro G x0 x1 x2 x3 h; cases h
  | succ n ih =>
    intro G x0 x1 x2 x3 h
    unfold f_M_endPart_L48 at h
    refine Y.blk (pc' := 50) (L' := [some (.ref x0), some (.int x1), some (.int x2), some (.int x3)]) (st' := [.int (nI 3), .int x3]) (sg := [(.iload_n 3, 0), (.iconst 3, nI 3)]) (lSa_ok dd0) rfl ?_
    refine Y.ic_ge (off := 36) (tgt := 86) (lIa_ok dd1) (by decide) h (fun c27 h => ?_) (fun c27 h => ?_)
    · refine Y.less (L' := [some (.ref x0), some (.int x1), some (.int x2), none]) (zLe_some (zLe_some (zLe_some (zLe_none (zLe_nil))))) ?_
      exact hK86 G x0 x1 x2 h
    · refine Y.blk (pc' := 54) (L' := [some (.ref x0), some (.int x1), some (.int x2), some (.int x3)]) (st' := [.ref x0]) (sg := [(.aload_n 0, 0)]) (lSa_ok dd2) rfl ?_
      refine Y.getA fl_M_24 (lIa_ok dd3) h (fun v17 h => ?_)
      refine Y.blk (pc' := 58) (L' := [some (.ref x0), some (.int x1), some (.int x2), some (.int x3)]) (st' := [.int x3, .ref v17]) (sg := [(.iload_n 3, 0)]) (lSa_ok dd4) rfl ?_
      refine Y.aald (t0 := 5) (lIa_ok dd5) rfl h (fun h => ?_) (fun v18 h => ?_)
      · refine Y.ifnull_n (off := 21) (tgt := 80) (lIa_ok dd6) (by decide) ?_
        refine Y.blk (pc' := 83) (L' := [some (.ref x0), some (.int x1), some (.int x2), some (.int (x3 + (nI 1)))]) (st' := []) (sg := [(.iinc 3 1, nI 1)]) (lSa_ok dd7) rfl ?_
        refine Y.goto (off := -35) (tgt := 48) (lIa_ok dd8) (by decide) ?_
        exact ih G x0 x1 x2 (x3 + (nI 1)) h
      · refine Y.ifnull_r (off := 21) (lIa_ok dd6) ?_
        refine Y.blk (pc' := 63) (L' := [some (.ref x0), some (.int x1), some (.int x2), some (.int x3)]) (st' := [.ref x0]) (sg := [(.aload_n 0, 0)]) (lSa_ok dd9) rfl ?_
        refine Y.getA fl_M_24 (lIa_ok dd10) h (fun v19 h => ?_)
        refine Y.blk (pc' := 67) (L' := [some (.ref x0), some (.int x1), some (.int x2), some (.int x3)]) (st' := [.int x3, .ref v19]) (sg := [(.iload_n 3, 0)]) (lSa_ok dd11) rfl ?_
        refine Y.aald (t0 := 5) (lIa_ok dd12) rfl h (fun h => ?_) (fun v20 h => ?_)
        · cases h
        · refine Y.getI fl_M_89 (lIa_ok dd13) h (fun v21 h => ?_)
          refine Y.blk (pc' := 72) (L' := [some (.ref x0), some (.int x1), some (.int x2), some (.int x3)]) (st' := [.int x1, .int v21]) (sg := [(.iload_n 1, 0)]) (lSa_ok dd14) rfl ?_
          refine Y.ic_ne (off := 8) (tgt := 80) (lIa_ok dd15) (by decide) h (fun c26 h => ?_) (fun c26 h => ?_)
          · refine Y.blk (pc' := 77) (L' := [some (.ref x0), some (.int x1), some (.int x2), some (.int x3)]) (st' := [.int x3, .ref x0]) (sg := [(.aload_n 0, 0), (.iload_n 3, 0)]) (lSa_ok dd16) rfl ?_
            obtain ⟨_, o23, e22, m24, h⟩ := gOb_inv h
            refine Y.callN (yC.Vi (b := x0) (As := [.int x3]) (st := []) (r := ("PartlisterModel", T_M, 9)) hV.1 cb_M_endCursor lk_M_92 in_M_endCursor rfl se_M_endCursor (lIa_ok dd17) rfl rfl (Nat.le_of_ble_eq_true rfl) (by omega) e22 m24) (k_M_endCursor hV G x0 x3) h (fun G25 _ h => ?_)
            refine Y.blk (pc' := 83) (L' := [some (.ref x0), some (.int x1), some (.int x2), some (.int (x3 + (nI 1)))]) (st' := []) (sg := [(.iinc 3 1, nI 1)]) (lSa_ok dd7) rfl ?_
            refine Y.goto (off := -35) (tgt := 48) (lIa_ok dd8) (by decide) ?_
            exact ih G25 x0 x1 x2 (x3 + (nI 1)) h
          · refine Y.blk (pc' := 83) (L' := [some (.ref x0), some (.int x1), some (.int x2), some (.int (x3 + (nI 1)))]) (st' := []) (sg := [(.iinc 3 1, nI 1)]) (lSa_ok dd7) rfl ?_
            refine Y.goto (off := -35) (tgt := 48) (lIa_ok dd8) (by decide) ?_
            exact ih G x0 x1 x2 (x3 + (nI 1)) h
theorem k_M_endPart_B (d : Nat) {l : Launch} {D : va_G} {B : Nat} {O : State → Heap → Prop} (hV : zG l D B O) (rec : gH → Nat → Int32 → gR) (hrec : ∀ (G : gH) (a0 : Nat) (a1 : Int32), gMet (zVm l D B O) m_M_endPart (3 + d) [.ref a0, .int a1] G (rec G a0 a1)) (G : gH) (a0 : Nat) (a1 : Int32) : gMet (zVm l D B O) m_M_endPart (3 + (d + 1)) [.ref a0, .int a1] G (f_M_endPart_B rec G a0 a1) := by
  have hdd : lSa m_M_endPart 0 [(.iconst 1, nI 1), (.istore_n 2, 0), (.iconst 2, nI 2), (.istore_n 3, 0)] = true ∧ lSa m_M_endPart 46 [(.iconst 0, nI 0), (.istore_n 3, 0)] = true ∧ lSa m_M_endPart 86 [(.aload_n 0, 0)] = true ∧ lIa m_M_endPart 87 (.getfield 18) 3 = true ∧ lSa m_M_endPart 90 [(.iload_n 1, 0), (.aconst_null, 0)] = true ∧ lIa m_M_endPart 92 (.aastore) 1 = true ∧ lSa m_M_endPart 93 [(.aload_n 0, 0), (.dup, 0)] = true ∧ lIa m_M_endPart 95 (.getfield 96) 3 = true ∧ lSa m_M_endPart 98 [(.iconst 1, nI 1), (.iadd, 0)] = true ∧ lIa m_M_endPart 100 (.putfield 96) 3 = true ∧ lSa m_M_endPart 103 [(.iload_n 2, 0)] = true ∧ lIa m_M_endPart 104 (.ireturn) 1 = true := by decide +kernel
  refine lA8 hdd (fun dd0 dd1 dd2 dd3 dd4 dd5 dd6 dd7 hdd => ?_)
  obtain ⟨dd8, dd9, dd10, dd11⟩ := hdd
  refine gMet.of (by decide +kernel) (Nat.le_of_ble_eq_true rfl) [some (.ref a0), some (.int a1), none, none] (fun ls h => zEn_ok (n := 4) h) ?_
  intro o Gf h
  unfold f_M_endPart_B at h
  refine Y.blk (pc' := 4) (L' := [some (.ref a0), some (.int a1), some (.int (nI 1)), some (.int (nI 2))]) (st' := []) (sg := [(.iconst 1, nI 1), (.istore_n 2, 0), (.iconst 2, nI 2), (.istore_n 3, 0)]) (lSa_ok dd0) rfl ?_
  refine k_M_endPart_L4 d hV rec hrec _ ?_  zFu G a0 a1 (nI 1) (nI 2) h
  · intro G16 x13 x14 x15 h
    refine Y.blk (pc' := 48) (L' := [some (.ref x13), some (.int x14), some (.int x15), some (.int (nI 0))]) (st' := []) (sg := [(.iconst 0, nI 0), (.istore_n 3, 0)]) (lSa_ok dd1) rfl ?_
    refine k_M_endPart_L48 d hV rec hrec _ ?_  zFu G16 x13 x14 x15 (nI 0) h
    · intro G31 x28 x29 x30 h
      refine Y.blk (pc' := 87) (L' := [some (.ref x28), some (.int x29), some (.int x30), none]) (st' := [.ref x28]) (sg := [(.aload_n 0, 0)]) (lSa_ok dd2) rfl ?_
      refine Y.getA fl_M_18 (lIa_ok dd3) h (fun v32 h => ?_)
      refine Y.blk (pc' := 92) (L' := [some (.ref x28), some (.int x29), some (.int x30), none]) (st' := [.null, .int x29, .ref v32]) (sg := [(.iload_n 1, 0), (.aconst_null, 0)]) (lSa_ok dd4) rfl ?_
      refine Y.aastN (t0 := 4) (lIa_ok dd5) rfl (by decide) h (fun G33 _ _ h => ?_)
      refine Y.blk (pc' := 95) (L' := [some (.ref x28), some (.int x29), some (.int x30), none]) (st' := [.ref x28, .ref x28]) (sg := [(.aload_n 0, 0), (.dup, 0)]) (lSa_ok dd6) rfl ?_
      refine Y.getI fl_M_96 (lIa_ok dd7) h (fun v34 h => ?_)
      refine Y.blk (pc' := 100) (L' := [some (.ref x28), some (.int x29), some (.int x30), none]) (st' := [.int (v34 + (nI 1)), .ref x28]) (sg := [(.iconst 1, nI 1), (.iadd, 0)]) (lSa_ok dd8) rfl ?_
      refine Y.putf fl_M_96 (by decide) rfl rfl (lIa_ok dd9) h (fun G35 _ _ h => ?_)
      refine Y.blk (pc' := 104) (L' := [some (.ref x28), some (.int x29), some (.int x30), none]) (st' := [.int x30]) (sg := [(.iload_n 2, 0)]) (lSa_ok dd10) rfl ?_
      exact Y.iret rfl (lIa_ok dd11) h
theorem k_M_endPart (d : Nat) {l : Launch} {D : va_G} {B : Nat} {O : State → Heap → Prop} (hV : zG l D B O)  : ∀ (G : gH) (a0 : Nat) (a1 : Int32), gMet (zVm l D B O) m_M_endPart (3 + d) [.ref a0, .int a1] G (f_M_endPart d G a0 a1) := by
  induction d with
  | zero => intro G a0 a1 o Gf h; cases h
  | succ d ih => intro G a0 a1; exact k_M_endPart_B d hV _ ih G a0 a1

def f_M_isAbove_B (rec : gH → Nat → Int32 → Int32 → gR) (G : gH) (a0 : Nat) (a1 : Int32) (a2 : Int32) : gR :=
  if a1 = a2 then rZ (nI 1) G
  else if a2 < (nI 2) then rZ (nI 0) G
    else gFA G a0 6 2 fun v1 => gLdq G v1 104 a2 (none) fun v2 => gFI G v2 5 0 fun v3 => gOb G a0 6 fun o5 => bI (rec G a0 a1 v3) fun v8 G7 => if v8 = 0 then rZ (nI 0) G7
        else rZ (nI 1) G7
def f_M_isAbove : Nat → gH → Nat → Int32 → Int32 → gR
  | 0, _, _, _, _ => none
  | d + 1, G, a0, a1, a2 => f_M_isAbove_B (f_M_isAbove d) G a0 a1 a2
theorem k_M_isAbove_B (d : Nat) {l : Launch} {D : va_G} {B : Nat} {O : State → Heap → Prop} (hV : zG l D B O) (rec : gH → Nat → Int32 → Int32 → gR) (hrec : ∀ (G : gH) (a0 : Nat) (a1 : Int32) (a2 : Int32), gMet (zVm l D B O) m_M_isAbove (2 + d) [.ref a0, .int a1, .int a2] G (rec G a0 a1 a2)) (G : gH) (a0 : Nat) (a1 : Int32) (a2 : Int32) : gMet (zVm l D B O) m_M_isAbove (2 + (d + 1)) [.ref a0, .int a1, .int a2] G (f_M_isAbove_B rec G a0 a1 a2) := by
  have hdd : lSa m_M_isAbove 0 [(.iload_n 1, 0), (.iload_n 2, 0)] = true ∧ lIa m_M_isAbove 2 (.if_icmp .eq 25) 3 = true ∧ lSa m_M_isAbove 27 [(.iconst 1, nI 1)] = true ∧ lIa m_M_isAbove 28 (.goto 4) 3 = true ∧ lIa m_M_isAbove 32 (.ireturn) 1 = true ∧ lSa m_M_isAbove 5 [(.iload_n 2, 0), (.iconst 2, nI 2)] = true ∧ lIa m_M_isAbove 7 (.if_icmp .lt 24) 3 = true ∧ lSa m_M_isAbove 31 [(.iconst 0, nI 0)] = true ∧ lSa m_M_isAbove 10 [(.aload_n 0, 0), (.iload_n 1, 0), (.aload_n 0, 0)] = true ∧ lIa m_M_isAbove 13 (.getfield 18) 3 = true ∧ lSa m_M_isAbove 16 [(.iload_n 2, 0)] = true ∧ lIa m_M_isAbove 17 (.aaload) 1 = true ∧ lIa m_M_isAbove 18 (.getfield 44) 3 = true ∧ lIa m_M_isAbove 21 (.invokevirtual 79) 3 = true ∧ lIa m_M_isAbove 24 (.ifCond .eq 7) 3 = true := by decide +kernel
  refine lA8 hdd (fun dd0 dd1 dd2 dd3 dd4 dd5 dd6 dd7 hdd => ?_)
  obtain ⟨dd8, dd9, dd10, dd11, dd12, dd13, dd14⟩ := hdd
  refine gMet.of (by decide +kernel) (Nat.le_of_ble_eq_true rfl) [some (.ref a0), some (.int a1), some (.int a2)] (fun ls h => zEn_ok (n := 3) h) ?_
  intro o Gf h
  unfold f_M_isAbove_B at h
  refine Y.blk (pc' := 2) (L' := [some (.ref a0), some (.int a1), some (.int a2)]) (st' := [.int a2, .int a1]) (sg := [(.iload_n 1, 0), (.iload_n 2, 0)]) (lSa_ok dd0) rfl ?_
  refine Y.ic_eq (off := 25) (tgt := 27) (lIa_ok dd1) (by decide) h (fun c11 h => ?_) (fun c11 h => ?_)
  · refine Y.blk (pc' := 28) (L' := [some (.ref a0), some (.int a1), some (.int a2)]) (st' := [.int (nI 1)]) (sg := [(.iconst 1, nI 1)]) (lSa_ok dd2) rfl ?_
    refine Y.goto (off := 4) (tgt := 32) (lIa_ok dd3) (by decide) ?_
    exact Y.zret rfl (lIa_ok dd4) h
  · refine Y.blk (pc' := 7) (L' := [some (.ref a0), some (.int a1), some (.int a2)]) (st' := [.int (nI 2), .int a2]) (sg := [(.iload_n 2, 0), (.iconst 2, nI 2)]) (lSa_ok dd5) rfl ?_
    refine Y.ic_lt (off := 24) (tgt := 31) (lIa_ok dd6) (by decide) h (fun c10 h => ?_) (fun c10 h => ?_)
    · refine Y.blk (pc' := 32) (L' := [some (.ref a0), some (.int a1), some (.int a2)]) (st' := [.int (nI 0)]) (sg := [(.iconst 0, nI 0)]) (lSa_ok dd7) rfl ?_
      exact Y.zret rfl (lIa_ok dd4) h
    · refine Y.blk (pc' := 13) (L' := [some (.ref a0), some (.int a1), some (.int a2)]) (st' := [.ref a0, .int a1, .ref a0]) (sg := [(.aload_n 0, 0), (.iload_n 1, 0), (.aload_n 0, 0)]) (lSa_ok dd8) rfl ?_
      refine Y.getA fl_M_18 (lIa_ok dd9) h (fun v1 h => ?_)
      refine Y.blk (pc' := 17) (L' := [some (.ref a0), some (.int a1), some (.int a2)]) (st' := [.int a2, .ref v1, .int a1, .ref a0]) (sg := [(.iload_n 2, 0)]) (lSa_ok dd10) rfl ?_
      refine Y.aald (t0 := 4) (lIa_ok dd11) rfl h (fun h => ?_) (fun v2 h => ?_)
      · cases h
      · refine Y.getI fl_M_44 (lIa_ok dd12) h (fun v3 h => ?_)
        obtain ⟨_, o5, e4, m6, h⟩ := gOb_inv h
        refine Y.callI (yC.Vi (b := a0) (As := [.int a1, .int v3]) (st := []) (r := ("PartlisterModel", T_M, 9)) hV.1 cb_M_isAbove lk_M_79 in_M_isAbove rfl se_M_isAbove (lIa_ok dd13) rfl rfl (Nat.le_of_ble_eq_true rfl) (by omega) e4 m6) (hrec G a0 a1 v3) h (fun v8 G7 _ h => ?_)
        refine Y.if_eq (off := 7) (tgt := 31) (lIa_ok dd14) (by decide) h (fun c9 h => ?_) (fun c9 h => ?_)
        · refine Y.blk (pc' := 32) (L' := [some (.ref a0), some (.int a1), some (.int a2)]) (st' := [.int (nI 0)]) (sg := [(.iconst 0, nI 0)]) (lSa_ok dd7) rfl ?_
          exact Y.zret rfl (lIa_ok dd4) h
        · refine Y.blk (pc' := 28) (L' := [some (.ref a0), some (.int a1), some (.int a2)]) (st' := [.int (nI 1)]) (sg := [(.iconst 1, nI 1)]) (lSa_ok dd2) rfl ?_
          refine Y.goto (off := 4) (tgt := 32) (lIa_ok dd3) (by decide) ?_
          exact Y.zret rfl (lIa_ok dd4) h
theorem k_M_isAbove (d : Nat) {l : Launch} {D : va_G} {B : Nat} {O : State → Heap → Prop} (hV : zG l D B O)  : ∀ (G : gH) (a0 : Nat) (a1 : Int32) (a2 : Int32), gMet (zVm l D B O) m_M_isAbove (2 + d) [.ref a0, .int a1, .int a2] G (f_M_isAbove d G a0 a1 a2) := by
  induction d with
  | zero => intro G a0 a1 a2 o Gf h; cases h
  | succ d ih => intro G a0 a1 a2; exact k_M_isAbove_B d hV _ ih G a0 a1 a2

def f_M_rowOf_B (rec : gH → Nat → Int32 → gR) (G : gH) (a0 : Nat) (a1 : Int32) : gR :=
  if (nI 2) ≤ a1 then gFA G a0 6 2 fun v1 => gLdq G v1 104 a1 (none) fun v2 => gFI G v2 5 0 fun v3 => gOb G a0 6 fun o5 => bI (rec G a0 v3) fun v8 G7 => rI v8 G7
  else rI a1 G
def f_M_rowOf : Nat → gH → Nat → Int32 → gR
  | 0, _, _, _ => none
  | d + 1, G, a0, a1 => f_M_rowOf_B (f_M_rowOf d) G a0 a1
theorem k_M_rowOf_B (d : Nat) {l : Launch} {D : va_G} {B : Nat} {O : State → Heap → Prop} (hV : zG l D B O) (rec : gH → Nat → Int32 → gR) (hrec : ∀ (G : gH) (a0 : Nat) (a1 : Int32), gMet (zVm l D B O) m_M_rowOf (2 + d) [.ref a0, .int a1] G (rec G a0 a1)) (G : gH) (a0 : Nat) (a1 : Int32) : gMet (zVm l D B O) m_M_rowOf (2 + (d + 1)) [.ref a0, .int a1] G (f_M_rowOf_B rec G a0 a1) := by
  have hdd : lSa m_M_rowOf 0 [(.iload_n 1, 0), (.iconst 2, nI 2)] = true ∧ lIa m_M_rowOf 2 (.if_icmp .ge 7) 3 = true ∧ lSa m_M_rowOf 9 [(.aload_n 0, 0), (.aload_n 0, 0)] = true ∧ lIa m_M_rowOf 11 (.getfield 18) 3 = true ∧ lSa m_M_rowOf 14 [(.iload_n 1, 0)] = true ∧ lIa m_M_rowOf 15 (.aaload) 1 = true ∧ lIa m_M_rowOf 16 (.getfield 44) 3 = true ∧ lIa m_M_rowOf 19 (.invokevirtual 47) 3 = true ∧ lIa m_M_rowOf 22 (.ireturn) 1 = true ∧ lSa m_M_rowOf 5 [(.iload_n 1, 0)] = true ∧ lIa m_M_rowOf 6 (.goto 16) 3 = true := by decide +kernel
  refine lA8 hdd (fun dd0 dd1 dd2 dd3 dd4 dd5 dd6 dd7 hdd => ?_)
  obtain ⟨dd8, dd9, dd10⟩ := hdd
  refine gMet.of (by decide +kernel) (Nat.le_of_ble_eq_true rfl) [some (.ref a0), some (.int a1)] (fun ls h => zEn_ok (n := 2) h) ?_
  intro o Gf h
  unfold f_M_rowOf_B at h
  refine Y.blk (pc' := 2) (L' := [some (.ref a0), some (.int a1)]) (st' := [.int (nI 2), .int a1]) (sg := [(.iload_n 1, 0), (.iconst 2, nI 2)]) (lSa_ok dd0) rfl ?_
  refine Y.ic_ge (off := 7) (tgt := 9) (lIa_ok dd1) (by decide) h (fun c9 h => ?_) (fun c9 h => ?_)
  · refine Y.blk (pc' := 11) (L' := [some (.ref a0), some (.int a1)]) (st' := [.ref a0, .ref a0]) (sg := [(.aload_n 0, 0), (.aload_n 0, 0)]) (lSa_ok dd2) rfl ?_
    refine Y.getA fl_M_18 (lIa_ok dd3) h (fun v1 h => ?_)
    refine Y.blk (pc' := 15) (L' := [some (.ref a0), some (.int a1)]) (st' := [.int a1, .ref v1, .ref a0]) (sg := [(.iload_n 1, 0)]) (lSa_ok dd4) rfl ?_
    refine Y.aald (t0 := 4) (lIa_ok dd5) rfl h (fun h => ?_) (fun v2 h => ?_)
    · cases h
    · refine Y.getI fl_M_44 (lIa_ok dd6) h (fun v3 h => ?_)
      obtain ⟨_, o5, e4, m6, h⟩ := gOb_inv h
      refine Y.callI (yC.Vi (b := a0) (As := [.int v3]) (st := []) (r := ("PartlisterModel", T_M, 9)) hV.1 cb_M_rowOf lk_M_47 in_M_rowOf rfl se_M_rowOf (lIa_ok dd7) rfl rfl (Nat.le_of_ble_eq_true rfl) (by omega) e4 m6) (hrec G a0 v3) h (fun v8 G7 _ h => ?_)
      exact Y.iret rfl (lIa_ok dd8) h
  · refine Y.blk (pc' := 6) (L' := [some (.ref a0), some (.int a1)]) (st' := [.int a1]) (sg := [(.iload_n 1, 0)]) (lSa_ok dd9) rfl ?_
    refine Y.goto (off := 16) (tgt := 22) (lIa_ok dd10) (by decide) ?_
    exact Y.iret rfl (lIa_ok dd8) h
theorem k_M_rowOf (d : Nat) {l : Launch} {D : va_G} {B : Nat} {O : State → Heap → Prop} (hV : zG l D B O)  : ∀ (G : gH) (a0 : Nat) (a1 : Int32), gMet (zVm l D B O) m_M_rowOf (2 + d) [.ref a0, .int a1] G (f_M_rowOf d G a0 a1) := by
  induction d with
  | zero => intro G a0 a1 o Gf h; cases h
  | succ d ih => intro G a0 a1; exact k_M_rowOf_B d hV _ ih G a0 a1

def f_M_endParts_L5 (K57 : gH → Int32 → gR) : Nat → gH → Nat → Int32 → Int32 → Int32 → Int32 → gR
  | 0, _, _, _, _, _, _ => none
  | n + 1, G, x0, x1, x2, x3, x4 =>
    if (nI 6) ≤ x4 then K57 G x3
    else gFA G x0 6 2 fun v1 => gLdq G v1 104 x4 (f_M_endParts_L5 K57 n G x0 x1 x2 x3 (x4 + (nI 1))) fun v2 => gOb G x0 6 fun o4 => bI (f_M_rowOf zDp G x0 x4) fun v7 G6 => if v7 = x1 then (gOb G6 x0 6 fun o9 => bI (f_M_isAbove zDp G6 x0 x4 x2) fun v12 G11 => if v12 = 0 then gOb G11 x0 6 fun o14 => bI (f_M_endPart zDp G11 x0 x4) fun v17 G16 => f_M_endParts_L5 K57 n G16 x0 x1 x2 (x3 + v17) (x4 + (nI 1))
          else f_M_endParts_L5 K57 n G11 x0 x1 x2 x3 (x4 + (nI 1)))
        else f_M_endParts_L5 K57 n G6 x0 x1 x2 x3 (x4 + (nI 1))
def f_M_endParts (G : gH) (a0 : Nat) (a1 : Int32) (a2 : Int32) : gR :=
  f_M_endParts_L5 (fun G22 x21 => rI x21 G22) zFu G a0 a1 a2 (nI 0) (nI 2)
theorem k_M_endParts_L5 {l : Launch} {D : va_G} {B : Nat} {O : State → Heap → Prop} (hV : zG l D B O) {o : gO} {Gf : gH} (K57 : gH → Int32 → gR) (hK57 : ∀ (G : gH) (x3 : Int32), K57 G x3 = some (o, Gf) → Y (zVm l D B O) m_M_endParts 12 o Gf 57 [none, none, none, some (.int x3), none] [] G) : ∀ (n : Nat) (G : gH) (x0 : Nat) (x1 : Int32) (x2 : Int32) (x3 : Int32) (x4 : Int32), f_M_endParts_L5 K57 n G x0 x1 x2 x3 x4 = some (o, Gf) → Y (zVm l D B O) m_M_endParts 12 o Gf 5 [some (.ref x0), some (.int x1), some (.int x2), some (.int x3), some (.int x4)] [] G := by
  have hdd : lSa m_M_endParts 5 [(.iload 4, 0), (.bipush 6, nI 6)] = true ∧ lIa m_M_endParts 9 (.if_icmp .ge 48) 3 = true ∧ lSa m_M_endParts 12 [(.aload_n 0, 0)] = true ∧ lIa m_M_endParts 13 (.getfield 18) 3 = true ∧ lSa m_M_endParts 16 [(.iload 4, 0)] = true ∧ lIa m_M_endParts 18 (.aaload) 1 = true ∧ lIa m_M_endParts 19 (.ifnull 32) 3 = true ∧ lSa m_M_endParts 51 [(.iinc 4 1, nI 1)] = true ∧ lIa m_M_endParts 54 (.goto (-49)) 3 = true ∧ lSa m_M_endParts 22 [(.aload_n 0, 0), (.iload 4, 0)] = true ∧ lIa m_M_endParts 25 (.invokevirtual 47) 3 = true ∧ lSa m_M_endParts 28 [(.iload_n 1, 0)] = true ∧ lIa m_M_endParts 29 (.if_icmp .ne 22) 3 = true ∧ lSa m_M_endParts 32 [(.aload_n 0, 0), (.iload 4, 0), (.iload_n 2, 0)] = true ∧ lIa m_M_endParts 36 (.invokevirtual 79) 3 = true ∧ lIa m_M_endParts 39 (.ifCond .ne 12) 3 = true ∧ lSa m_M_endParts 42 [(.iload_n 3, 0), (.aload_n 0, 0), (.iload 4, 0)] = true ∧ lIa m_M_endParts 46 (.invokevirtual 86) 3 = true ∧ lSa m_M_endParts 49 [(.iadd, 0), (.istore_n 3, 0), (.iinc 4 1, nI 1)] = true := by decide +kernel
  refine lA8 hdd (fun dd0 dd1 dd2 dd3 dd4 dd5 dd6 dd7 hdd => ?_)
  refine lA8 hdd (fun dd8 dd9 dd10 dd11 dd12 dd13 dd14 dd15 hdd => ?_)
  obtain ⟨dd16, dd17, dd18⟩ := hdd
  intro n
  induction n with
  | zero => intro G x0 x1 x2 x3 x4 h; cases h
  | succ n ih =>
    intro G x0 x1 x2 x3 x4 h
    unfold f_M_endParts_L5 at h
    refine Y.blk (pc' := 9) (L' := [some (.ref x0), some (.int x1), some (.int x2), some (.int x3), some (.int x4)]) (st' := [.int (nI 6), .int x4]) (sg := [(.iload 4, 0), (.bipush 6, nI 6)]) (lSa_ok dd0) rfl ?_
    refine Y.ic_ge (off := 48) (tgt := 57) (lIa_ok dd1) (by decide) h (fun c20 h => ?_) (fun c20 h => ?_)
    · refine Y.less (L' := [none, none, none, some (.int x3), none]) (zLe_none (zLe_none (zLe_none (zLe_some (zLe_none (zLe_nil)))))) ?_
      exact hK57 G x3 h
    · refine Y.blk (pc' := 13) (L' := [some (.ref x0), some (.int x1), some (.int x2), some (.int x3), some (.int x4)]) (st' := [.ref x0]) (sg := [(.aload_n 0, 0)]) (lSa_ok dd2) rfl ?_
      refine Y.getA fl_M_18 (lIa_ok dd3) h (fun v1 h => ?_)
      refine Y.blk (pc' := 18) (L' := [some (.ref x0), some (.int x1), some (.int x2), some (.int x3), some (.int x4)]) (st' := [.int x4, .ref v1]) (sg := [(.iload 4, 0)]) (lSa_ok dd4) rfl ?_
      refine Y.aald (t0 := 4) (lIa_ok dd5) rfl h (fun h => ?_) (fun v2 h => ?_)
      · refine Y.ifnull_n (off := 32) (tgt := 51) (lIa_ok dd6) (by decide) ?_
        refine Y.blk (pc' := 54) (L' := [some (.ref x0), some (.int x1), some (.int x2), some (.int x3), some (.int (x4 + (nI 1)))]) (st' := []) (sg := [(.iinc 4 1, nI 1)]) (lSa_ok dd7) rfl ?_
        refine Y.goto (off := -49) (tgt := 5) (lIa_ok dd8) (by decide) ?_
        exact ih G x0 x1 x2 x3 (x4 + (nI 1)) h
      · refine Y.ifnull_r (off := 32) (lIa_ok dd6) ?_
        refine Y.blk (pc' := 25) (L' := [some (.ref x0), some (.int x1), some (.int x2), some (.int x3), some (.int x4)]) (st' := [.int x4, .ref x0]) (sg := [(.aload_n 0, 0), (.iload 4, 0)]) (lSa_ok dd9) rfl ?_
        obtain ⟨_, o4, e3, m5, h⟩ := gOb_inv h
        refine Y.callI (yC.Vi (b := x0) (As := [.int x4]) (st := []) (r := ("PartlisterModel", T_M, 9)) hV.1 cb_M_rowOf lk_M_47 in_M_rowOf rfl se_M_rowOf (lIa_ok dd10) rfl rfl (Nat.le_of_ble_eq_true rfl) (by decide) e3 m5) (k_M_rowOf zDp hV G x0 x4) h (fun v7 G6 _ h => ?_)
        refine Y.blk (pc' := 29) (L' := [some (.ref x0), some (.int x1), some (.int x2), some (.int x3), some (.int x4)]) (st' := [.int x1, .int v7]) (sg := [(.iload_n 1, 0)]) (lSa_ok dd11) rfl ?_
        refine Y.ic_ne (off := 22) (tgt := 51) (lIa_ok dd12) (by decide) h (fun c19 h => ?_) (fun c19 h => ?_)
        · refine Y.blk (pc' := 36) (L' := [some (.ref x0), some (.int x1), some (.int x2), some (.int x3), some (.int x4)]) (st' := [.int x2, .int x4, .ref x0]) (sg := [(.aload_n 0, 0), (.iload 4, 0), (.iload_n 2, 0)]) (lSa_ok dd13) rfl ?_
          obtain ⟨_, o9, e8, m10, h⟩ := gOb_inv h
          refine Y.callI (yC.Vi (b := x0) (As := [.int x4, .int x2]) (st := []) (r := ("PartlisterModel", T_M, 9)) hV.1 cb_M_isAbove lk_M_79 in_M_isAbove rfl se_M_isAbove (lIa_ok dd14) rfl rfl (Nat.le_of_ble_eq_true rfl) (by decide) e8 m10) (k_M_isAbove zDp hV G6 x0 x4 x2) h (fun v12 G11 _ h => ?_)
          refine Y.if_ne (off := 12) (tgt := 51) (lIa_ok dd15) (by decide) h (fun c18 h => ?_) (fun c18 h => ?_)
          · refine Y.blk (pc' := 46) (L' := [some (.ref x0), some (.int x1), some (.int x2), some (.int x3), some (.int x4)]) (st' := [.int x4, .ref x0, .int x3]) (sg := [(.iload_n 3, 0), (.aload_n 0, 0), (.iload 4, 0)]) (lSa_ok dd16) rfl ?_
            obtain ⟨_, o14, e13, m15, h⟩ := gOb_inv h
            refine Y.callI (yC.Vi (b := x0) (As := [.int x4]) (st := [.int x3]) (r := ("PartlisterModel", T_M, 9)) hV.1 cb_M_endPart lk_M_86 in_M_endPart rfl se_M_endPart (lIa_ok dd17) rfl rfl (Nat.le_of_ble_eq_true rfl) (by decide) e13 m15) (k_M_endPart zDp hV G11 x0 x4) h (fun v17 G16 _ h => ?_)
            refine Y.blk (pc' := 54) (L' := [some (.ref x0), some (.int x1), some (.int x2), some (.int (x3 + v17)), some (.int (x4 + (nI 1)))]) (st' := []) (sg := [(.iadd, 0), (.istore_n 3, 0), (.iinc 4 1, nI 1)]) (lSa_ok dd18) rfl ?_
            refine Y.goto (off := -49) (tgt := 5) (lIa_ok dd8) (by decide) ?_
            exact ih G16 x0 x1 x2 (x3 + v17) (x4 + (nI 1)) h
          · refine Y.blk (pc' := 54) (L' := [some (.ref x0), some (.int x1), some (.int x2), some (.int x3), some (.int (x4 + (nI 1)))]) (st' := []) (sg := [(.iinc 4 1, nI 1)]) (lSa_ok dd7) rfl ?_
            refine Y.goto (off := -49) (tgt := 5) (lIa_ok dd8) (by decide) ?_
            exact ih G11 x0 x1 x2 x3 (x4 + (nI 1)) h
        · refine Y.blk (pc' := 54) (L' := [some (.ref x0), some (.int x1), some (.int x2), some (.int x3), some (.int (x4 + (nI 1)))]) (st' := []) (sg := [(.iinc 4 1, nI 1)]) (lSa_ok dd7) rfl ?_
          refine Y.goto (off := -49) (tgt := 5) (lIa_ok dd8) (by decide) ?_
          exact ih G6 x0 x1 x2 x3 (x4 + (nI 1)) h
theorem k_M_endParts {l : Launch} {D : va_G} {B : Nat} {O : State → Heap → Prop} (hV : zG l D B O) (G : gH) (a0 : Nat) (a1 : Int32) (a2 : Int32) : gMet (zVm l D B O) m_M_endParts 12 [.ref a0, .int a1, .int a2] G (f_M_endParts G a0 a1 a2) := by
  have hdd : lSa m_M_endParts 0 [(.iconst 0, nI 0), (.istore_n 3, 0), (.iconst 2, nI 2), (.istore 4, 0)] = true ∧ lSa m_M_endParts 57 [(.iload_n 3, 0)] = true ∧ lIa m_M_endParts 58 (.ireturn) 1 = true := by decide +kernel
  obtain ⟨dd0, dd1, dd2⟩ := hdd
  refine gMet.of (by decide +kernel) (Nat.le_of_ble_eq_true rfl) [some (.ref a0), some (.int a1), some (.int a2), none, none] (fun ls h => zEn_ok (n := 5) h) ?_
  intro o Gf h
  unfold f_M_endParts at h
  refine Y.blk (pc' := 5) (L' := [some (.ref a0), some (.int a1), some (.int a2), some (.int (nI 0)), some (.int (nI 2))]) (st' := []) (sg := [(.iconst 0, nI 0), (.istore_n 3, 0), (.iconst 2, nI 2), (.istore 4, 0)]) (lSa_ok dd0) rfl ?_
  refine k_M_endParts_L5 hV _ ?_  zFu G a0 a1 a2 (nI 0) (nI 2) h
  · intro G22 x21 h
    refine Y.blk (pc' := 58) (L' := [none, none, none, some (.int x21), none]) (st' := [.int x21]) (sg := [(.iload_n 3, 0)]) (lSa_ok dd1) rfl ?_
    exact Y.iret rfl (lIa_ok dd2) h
end
section
def f_M_change_L8 (K45 : gH → Nat → Int32 → Int32 → gR) : Nat → gH → Nat → Int32 → Int32 → Int32 → Int32 → gR
  | 0, _, _, _, _, _, _ => none
  | n + 1, G, x0, x1, x2, x3, x4 =>
    if x4 < (nI 2) then K45 G x0 x1 x3
    else gFA G x0 6 2 fun v1 => gLdq G v1 104 x4 (none) fun v2 => gFI G v2 5 2 fun v3 => gPut G v2 5 2 (.int (v3 + x2)) fun G4 => gFA G4 x0 6 2 fun v5 => gLdq G4 v5 104 x4 (none) fun v6 => gFI G4 v6 5 0 fun v7 => f_M_change_L8 K45 n G4 x0 x1 x2 x3 v7
def f_M_change_L55 (K136 : gH → Nat → Int32 → Int32 → gR) : Nat → gH → Nat → Int32 → Int32 → Int32 → Int32 → gR
  | 0, _, _, _, _, _, _ => none
  | n + 1, G, x0, x1, x3, x4, x5 =>
    if (nI 3) ≤ x5 then K136 G x0 x1 x4
    else if x5 = x3 then f_M_change_L55 K136 n G x0 x1 x3 x4 (x5 + (nI 1))
      else gFA G x0 6 3 fun v18 => gLdq G v18 105 x5 (f_M_change_L55 K136 n G x0 x1 x3 x4 (x5 + (nI 1))) fun v19 => gFA G x0 6 3 fun v20 => gLdq G v20 105 x5 (none) fun v21 => gFI G v21 4 0 fun v22 => gOb G x0 6 fun o24 => bI (f_M_rowOf zDp G x0 v22) fun v27 G26 => if v27 = x4 then (gFA G26 x0 6 3 fun v28 => gLdq G26 v28 105 x5 (none) fun v29 => gFI G26 v29 4 0 fun v30 => if v30 < (nI 2) then gFA G26 x0 6 3 fun v31 => gLdq G26 v31 105 x5 (none) fun v32 => gPut G26 v32 4 3 (.int (nI 1)) fun G33 => f_M_change_L55 K136 n G33 x0 x1 x3 x4 (x5 + (nI 1))
                else gOb G26 x0 6 fun o35 => bV (f_M_endCursor G26 x0 x5) fun G37 => f_M_change_L55 K136 n G37 x0 x1 x3 x4 (x5 + (nI 1)))
            else f_M_change_L55 K136 n G26 x0 x1 x3 x4 (x5 + (nI 1))
def f_M_change (G : gH) (a0 : Nat) (a1 : Int32) (a2 : Int32) (a3 : Int32) : gR :=
  if a2 = 0 then rV G
  else f_M_change_L8 (fun G12 x9 x10 x11 => gOb G12 x9 6 fun o14 => bI (f_M_rowOf zDp G12 x9 x10) fun v17 G16 => f_M_change_L55 (fun G45 x42 x43 x44 => gOb G45 x42 6 fun o47 => bI (f_M_endParts G45 x42 x44 x43) fun v50 G49 => rV G49) zFu G16 x9 x10 x11 v17 (nI 0)) zFu G a0 a1 a2 a3 a1
theorem k_M_change_L8 {l : Launch} {D : va_G} {B : Nat} {O : State → Heap → Prop} (hV : zG l D B O) {o : gO} {Gf : gH} (K45 : gH → Nat → Int32 → Int32 → gR) (hK45 : ∀ (G : gH) (x0 : Nat) (x1 : Int32) (x3 : Int32), K45 G x0 x1 x3 = some (o, Gf) → Y (zVm l D B O) m_M_change 13 o Gf 45 [some (.ref x0), some (.int x1), none, some (.int x3), none, none] [] G) : ∀ (n : Nat) (G : gH) (x0 : Nat) (x1 : Int32) (x2 : Int32) (x3 : Int32) (x4 : Int32), f_M_change_L8 K45 n G x0 x1 x2 x3 x4 = some (o, Gf) → Y (zVm l D B O) m_M_change 13 o Gf 8 [some (.ref x0), some (.int x1), some (.int x2), some (.int x3), some (.int x4), none] [] G := by
  have hdd : lSa m_M_change 8 [(.iload 4, 0), (.iconst 2, nI 2)] = true ∧ lIa m_M_change 11 (.if_icmp .lt 34) 3 = true ∧ lSa m_M_change 14 [(.aload_n 0, 0)] = true ∧ lIa m_M_change 15 (.getfield 18) 3 = true ∧ lSa m_M_change 18 [(.iload 4, 0)] = true ∧ lIa m_M_change 20 (.aaload) 1 = true ∧ lSa m_M_change 21 [(.dup, 0)] = true ∧ lIa m_M_change 22 (.getfield 65) 3 = true ∧ lSa m_M_change 25 [(.iload_n 2, 0), (.iadd, 0)] = true ∧ lIa m_M_change 27 (.putfield 65) 3 = true ∧ lSa m_M_change 30 [(.aload_n 0, 0)] = true ∧ lIa m_M_change 31 (.getfield 18) 3 = true ∧ lSa m_M_change 34 [(.iload 4, 0)] = true ∧ lIa m_M_change 36 (.aaload) 1 = true ∧ lIa m_M_change 37 (.getfield 44) 3 = true ∧ lSa m_M_change 40 [(.istore 4, 0)] = true ∧ lIa m_M_change 42 (.goto (-34)) 3 = true := by decide +kernel
  refine lA8 hdd (fun dd0 dd1 dd2 dd3 dd4 dd5 dd6 dd7 hdd => ?_)
  refine lA8 hdd (fun dd8 dd9 dd10 dd11 dd12 dd13 dd14 dd15 hdd => ?_)
  have dd16 := hdd
  intro n
  induction n with
  | zero => intro G x0 x1 x2 x3 x4 h; cases h
  | succ n ih =>
    intro G x0 x1 x2 x3 x4 h
    unfold f_M_change_L8 at h
    refine Y.blk (pc' := 11) (L' := [some (.ref x0), some (.int x1), some (.int x2), some (.int x3), some (.int x4), none]) (st' := [.int (nI 2), .int x4]) (sg := [(.iload 4, 0), (.iconst 2, nI 2)]) (lSa_ok dd0) rfl ?_
    refine Y.ic_lt (off := 34) (tgt := 45) (lIa_ok dd1) (by decide) h (fun c8 h => ?_) (fun c8 h => ?_)
    · refine Y.less (L' := [some (.ref x0), some (.int x1), none, some (.int x3), none, none]) (zLe_some (zLe_some (zLe_none (zLe_some (zLe_none (zLe_some (zLe_nil))))))) ?_
      exact hK45 G x0 x1 x3 h
    · refine Y.blk (pc' := 15) (L' := [some (.ref x0), some (.int x1), some (.int x2), some (.int x3), some (.int x4), none]) (st' := [.ref x0]) (sg := [(.aload_n 0, 0)]) (lSa_ok dd2) rfl ?_
      refine Y.getA fl_M_18 (lIa_ok dd3) h (fun v1 h => ?_)
      refine Y.blk (pc' := 20) (L' := [some (.ref x0), some (.int x1), some (.int x2), some (.int x3), some (.int x4), none]) (st' := [.int x4, .ref v1]) (sg := [(.iload 4, 0)]) (lSa_ok dd4) rfl ?_
      refine Y.aald (t0 := 4) (lIa_ok dd5) rfl h (fun h => ?_) (fun v2 h => ?_)
      · refine Y.blk (pc' := 22) (L' := [some (.ref x0), some (.int x1), some (.int x2), some (.int x3), some (.int x4), none]) (st' := [.null, .null]) (sg := [(.dup, 0)]) (lSa_ok dd6) rfl ?_
        cases h
      · refine Y.blk (pc' := 22) (L' := [some (.ref x0), some (.int x1), some (.int x2), some (.int x3), some (.int x4), none]) (st' := [.ref v2, .ref v2]) (sg := [(.dup, 0)]) (lSa_ok dd6) rfl ?_
        refine Y.getI fl_M_65 (lIa_ok dd7) h (fun v3 h => ?_)
        refine Y.blk (pc' := 27) (L' := [some (.ref x0), some (.int x1), some (.int x2), some (.int x3), some (.int x4), none]) (st' := [.int (v3 + x2), .ref v2]) (sg := [(.iload_n 2, 0), (.iadd, 0)]) (lSa_ok dd8) rfl ?_
        refine Y.putf fl_M_65 (by decide) rfl rfl (lIa_ok dd9) h (fun G4 _ _ h => ?_)
        refine Y.blk (pc' := 31) (L' := [some (.ref x0), some (.int x1), some (.int x2), some (.int x3), some (.int x4), none]) (st' := [.ref x0]) (sg := [(.aload_n 0, 0)]) (lSa_ok dd10) rfl ?_
        refine Y.getA fl_M_18 (lIa_ok dd11) h (fun v5 h => ?_)
        refine Y.blk (pc' := 36) (L' := [some (.ref x0), some (.int x1), some (.int x2), some (.int x3), some (.int x4), none]) (st' := [.int x4, .ref v5]) (sg := [(.iload 4, 0)]) (lSa_ok dd12) rfl ?_
        refine Y.aald (t0 := 4) (lIa_ok dd13) rfl h (fun h => ?_) (fun v6 h => ?_)
        · cases h
        · refine Y.getI fl_M_44 (lIa_ok dd14) h (fun v7 h => ?_)
          refine Y.blk (pc' := 42) (L' := [some (.ref x0), some (.int x1), some (.int x2), some (.int x3), some (.int v7), none]) (st' := []) (sg := [(.istore 4, 0)]) (lSa_ok dd15) rfl ?_
          refine Y.goto (off := -34) (tgt := 8) (lIa_ok dd16) (by decide) ?_
          exact ih G4 x0 x1 x2 x3 v7 h
theorem k_M_change_L55 {l : Launch} {D : va_G} {B : Nat} {O : State → Heap → Prop} (hV : zG l D B O) {o : gO} {Gf : gH} (K136 : gH → Nat → Int32 → Int32 → gR) (hK136 : ∀ (G : gH) (x0 : Nat) (x1 : Int32) (x4 : Int32), K136 G x0 x1 x4 = some (o, Gf) → Y (zVm l D B O) m_M_change 13 o Gf 136 [some (.ref x0), some (.int x1), none, none, some (.int x4), none] [] G) : ∀ (n : Nat) (G : gH) (x0 : Nat) (x1 : Int32) (x3 : Int32) (x4 : Int32) (x5 : Int32), f_M_change_L55 K136 n G x0 x1 x3 x4 x5 = some (o, Gf) → Y (zVm l D B O) m_M_change 13 o Gf 55 [some (.ref x0), some (.int x1), none, some (.int x3), some (.int x4), some (.int x5)] [] G := by
  have hdd : lSa m_M_change 55 [(.iload 5, 0), (.iconst 3, nI 3)] = true ∧ lIa m_M_change 58 (.if_icmp .ge 78) 3 = true ∧ lSa m_M_change 61 [(.iload 5, 0), (.iload_n 3, 0)] = true ∧ lIa m_M_change 64 (.if_icmp .eq 66) 3 = true ∧ lSa m_M_change 130 [(.iinc 5 1, nI 1)] = true ∧ lIa m_M_change 133 (.goto (-78)) 3 = true ∧ lSa m_M_change 67 [(.aload_n 0, 0)] = true ∧ lIa m_M_change 68 (.getfield 24) 3 = true ∧ lSa m_M_change 71 [(.iload 5, 0)] = true ∧ lIa m_M_change 73 (.aaload) 1 = true ∧ lIa m_M_change 74 (.ifnull 56) 3 = true ∧ lSa m_M_change 77 [(.aload_n 0, 0), (.aload_n 0, 0)] = true ∧ lIa m_M_change 79 (.getfield 24) 3 = true ∧ lSa m_M_change 82 [(.iload 5, 0)] = true ∧ lIa m_M_change 84 (.aaload) 1 = true ∧ lIa m_M_change 85 (.getfield 89) 3 = true ∧ lIa m_M_change 88 (.invokevirtual 47) 3 = true ∧ lSa m_M_change 91 [(.iload 4, 0)] = true ∧ lIa m_M_change 93 (.if_icmp .ne 37) 3 = true ∧ lSa m_M_change 96 [(.aload_n 0, 0)] = true ∧ lIa m_M_change 97 (.getfield 24) 3 = true ∧ lSa m_M_change 100 [(.iload 5, 0)] = true ∧ lIa m_M_change 102 (.aaload) 1 = true ∧ lIa m_M_change 103 (.getfield 89) 3 = true ∧ lSa m_M_change 106 [(.iconst 2, nI 2)] = true ∧ lIa m_M_change 107 (.if_icmp .lt 12) 3 = true ∧ lSa m_M_change 119 [(.aload_n 0, 0)] = true ∧ lIa m_M_change 120 (.getfield 24) 3 = true ∧ lSa m_M_change 123 [(.iload 5, 0)] = true ∧ lIa m_M_change 125 (.aaload) 1 = true ∧ lSa m_M_change 126 [(.iconst 1, nI 1)] = true ∧ lIa m_M_change 127 (.putfield 99) 3 = true ∧ lSa m_M_change 110 [(.aload_n 0, 0), (.iload 5, 0)] = true ∧ lIa m_M_change 113 (.invokevirtual 92) 3 = true ∧ lIa m_M_change 116 (.goto 14) 3 = true := by decide +kernel
  refine lA8 hdd (fun dd0 dd1 dd2 dd3 dd4 dd5 dd6 dd7 hdd => ?_)
  refine lA8 hdd (fun dd8 dd9 dd10 dd11 dd12 dd13 dd14 dd15 hdd => ?_)
  refine lA8 hdd (fun dd16 dd17 dd18 dd19 dd20 dd21 dd22 dd23 hdd => ?_)
  refine lA8 hdd (fun dd24 dd25 dd26 dd27 dd28 dd29 dd30 dd31 hdd => ?_)
  obtain ⟨dd32, dd33, dd34⟩ := hdd
  intro n
  induction n with
  | zero => intro G x0 x1 x3 x4 x5 h; cases h
  | succ n ih =>
    intro G x0 x1 x3 x4 x5 h
    unfold f_M_change_L55 at h
    refine Y.blk (pc' := 58) (L' := [some (.ref x0), some (.int x1), none, some (.int x3), some (.int x4), some (.int x5)]) (st' := [.int (nI 3), .int x5]) (sg := [(.iload 5, 0), (.iconst 3, nI 3)]) (lSa_ok dd0) rfl ?_
    refine Y.ic_ge (off := 78) (tgt := 136) (lIa_ok dd1) (by decide) h (fun c41 h => ?_) (fun c41 h => ?_)
    · refine Y.less (L' := [some (.ref x0), some (.int x1), none, none, some (.int x4), none]) (zLe_some (zLe_some (zLe_some (zLe_none (zLe_some (zLe_none (zLe_nil))))))) ?_
      exact hK136 G x0 x1 x4 h
    · refine Y.blk (pc' := 64) (L' := [some (.ref x0), some (.int x1), none, some (.int x3), some (.int x4), some (.int x5)]) (st' := [.int x3, .int x5]) (sg := [(.iload 5, 0), (.iload_n 3, 0)]) (lSa_ok dd2) rfl ?_
      refine Y.ic_eq (off := 66) (tgt := 130) (lIa_ok dd3) (by decide) h (fun c40 h => ?_) (fun c40 h => ?_)
      · refine Y.blk (pc' := 133) (L' := [some (.ref x0), some (.int x1), none, some (.int x3), some (.int x4), some (.int (x5 + (nI 1)))]) (st' := []) (sg := [(.iinc 5 1, nI 1)]) (lSa_ok dd4) rfl ?_
        refine Y.goto (off := -78) (tgt := 55) (lIa_ok dd5) (by decide) ?_
        exact ih G x0 x1 x3 x4 (x5 + (nI 1)) h
      · refine Y.blk (pc' := 68) (L' := [some (.ref x0), some (.int x1), none, some (.int x3), some (.int x4), some (.int x5)]) (st' := [.ref x0]) (sg := [(.aload_n 0, 0)]) (lSa_ok dd6) rfl ?_
        refine Y.getA fl_M_24 (lIa_ok dd7) h (fun v18 h => ?_)
        refine Y.blk (pc' := 73) (L' := [some (.ref x0), some (.int x1), none, some (.int x3), some (.int x4), some (.int x5)]) (st' := [.int x5, .ref v18]) (sg := [(.iload 5, 0)]) (lSa_ok dd8) rfl ?_
        refine Y.aald (t0 := 5) (lIa_ok dd9) rfl h (fun h => ?_) (fun v19 h => ?_)
        · refine Y.ifnull_n (off := 56) (tgt := 130) (lIa_ok dd10) (by decide) ?_
          refine Y.blk (pc' := 133) (L' := [some (.ref x0), some (.int x1), none, some (.int x3), some (.int x4), some (.int (x5 + (nI 1)))]) (st' := []) (sg := [(.iinc 5 1, nI 1)]) (lSa_ok dd4) rfl ?_
          refine Y.goto (off := -78) (tgt := 55) (lIa_ok dd5) (by decide) ?_
          exact ih G x0 x1 x3 x4 (x5 + (nI 1)) h
        · refine Y.ifnull_r (off := 56) (lIa_ok dd10) ?_
          refine Y.blk (pc' := 79) (L' := [some (.ref x0), some (.int x1), none, some (.int x3), some (.int x4), some (.int x5)]) (st' := [.ref x0, .ref x0]) (sg := [(.aload_n 0, 0), (.aload_n 0, 0)]) (lSa_ok dd11) rfl ?_
          refine Y.getA fl_M_24 (lIa_ok dd12) h (fun v20 h => ?_)
          refine Y.blk (pc' := 84) (L' := [some (.ref x0), some (.int x1), none, some (.int x3), some (.int x4), some (.int x5)]) (st' := [.int x5, .ref v20, .ref x0]) (sg := [(.iload 5, 0)]) (lSa_ok dd13) rfl ?_
          refine Y.aald (t0 := 5) (lIa_ok dd14) rfl h (fun h => ?_) (fun v21 h => ?_)
          · cases h
          · refine Y.getI fl_M_89 (lIa_ok dd15) h (fun v22 h => ?_)
            obtain ⟨_, o24, e23, m25, h⟩ := gOb_inv h
            refine Y.callI (yC.Vi (b := x0) (As := [.int v22]) (st := []) (r := ("PartlisterModel", T_M, 9)) hV.1 cb_M_rowOf lk_M_47 in_M_rowOf rfl se_M_rowOf (lIa_ok dd16) rfl rfl (Nat.le_of_ble_eq_true rfl) (by decide) e23 m25) (k_M_rowOf zDp hV G x0 v22) h (fun v27 G26 _ h => ?_)
            refine Y.blk (pc' := 93) (L' := [some (.ref x0), some (.int x1), none, some (.int x3), some (.int x4), some (.int x5)]) (st' := [.int x4, .int v27]) (sg := [(.iload 4, 0)]) (lSa_ok dd17) rfl ?_
            refine Y.ic_ne (off := 37) (tgt := 130) (lIa_ok dd18) (by decide) h (fun c39 h => ?_) (fun c39 h => ?_)
            · refine Y.blk (pc' := 97) (L' := [some (.ref x0), some (.int x1), none, some (.int x3), some (.int x4), some (.int x5)]) (st' := [.ref x0]) (sg := [(.aload_n 0, 0)]) (lSa_ok dd19) rfl ?_
              refine Y.getA fl_M_24 (lIa_ok dd20) h (fun v28 h => ?_)
              refine Y.blk (pc' := 102) (L' := [some (.ref x0), some (.int x1), none, some (.int x3), some (.int x4), some (.int x5)]) (st' := [.int x5, .ref v28]) (sg := [(.iload 5, 0)]) (lSa_ok dd21) rfl ?_
              refine Y.aald (t0 := 5) (lIa_ok dd22) rfl h (fun h => ?_) (fun v29 h => ?_)
              · cases h
              · refine Y.getI fl_M_89 (lIa_ok dd23) h (fun v30 h => ?_)
                refine Y.blk (pc' := 107) (L' := [some (.ref x0), some (.int x1), none, some (.int x3), some (.int x4), some (.int x5)]) (st' := [.int (nI 2), .int v30]) (sg := [(.iconst 2, nI 2)]) (lSa_ok dd24) rfl ?_
                refine Y.ic_lt (off := 12) (tgt := 119) (lIa_ok dd25) (by decide) h (fun c38 h => ?_) (fun c38 h => ?_)
                · refine Y.blk (pc' := 120) (L' := [some (.ref x0), some (.int x1), none, some (.int x3), some (.int x4), some (.int x5)]) (st' := [.ref x0]) (sg := [(.aload_n 0, 0)]) (lSa_ok dd26) rfl ?_
                  refine Y.getA fl_M_24 (lIa_ok dd27) h (fun v31 h => ?_)
                  refine Y.blk (pc' := 125) (L' := [some (.ref x0), some (.int x1), none, some (.int x3), some (.int x4), some (.int x5)]) (st' := [.int x5, .ref v31]) (sg := [(.iload 5, 0)]) (lSa_ok dd28) rfl ?_
                  refine Y.aald (t0 := 5) (lIa_ok dd29) rfl h (fun h => ?_) (fun v32 h => ?_)
                  · refine Y.blk (pc' := 127) (L' := [some (.ref x0), some (.int x1), none, some (.int x3), some (.int x4), some (.int x5)]) (st' := [.int (nI 1), .null]) (sg := [(.iconst 1, nI 1)]) (lSa_ok dd30) rfl ?_
                    cases h
                  · refine Y.blk (pc' := 127) (L' := [some (.ref x0), some (.int x1), none, some (.int x3), some (.int x4), some (.int x5)]) (st' := [.int (nI 1), .ref v32]) (sg := [(.iconst 1, nI 1)]) (lSa_ok dd30) rfl ?_
                    refine Y.putf fl_M_99 (by decide) rfl rfl (lIa_ok dd31) h (fun G33 _ _ h => ?_)
                    refine Y.blk (pc' := 133) (L' := [some (.ref x0), some (.int x1), none, some (.int x3), some (.int x4), some (.int (x5 + (nI 1)))]) (st' := []) (sg := [(.iinc 5 1, nI 1)]) (lSa_ok dd4) rfl ?_
                    refine Y.goto (off := -78) (tgt := 55) (lIa_ok dd5) (by decide) ?_
                    exact ih G33 x0 x1 x3 x4 (x5 + (nI 1)) h
                · refine Y.blk (pc' := 113) (L' := [some (.ref x0), some (.int x1), none, some (.int x3), some (.int x4), some (.int x5)]) (st' := [.int x5, .ref x0]) (sg := [(.aload_n 0, 0), (.iload 5, 0)]) (lSa_ok dd32) rfl ?_
                  obtain ⟨_, o35, e34, m36, h⟩ := gOb_inv h
                  refine Y.callN (yC.Vi (b := x0) (As := [.int x5]) (st := []) (r := ("PartlisterModel", T_M, 9)) hV.1 cb_M_endCursor lk_M_92 in_M_endCursor rfl se_M_endCursor (lIa_ok dd33) rfl rfl (Nat.le_of_ble_eq_true rfl) (by decide) e34 m36) (k_M_endCursor hV G26 x0 x5) h (fun G37 _ h => ?_)
                  refine Y.goto (off := 14) (tgt := 130) (lIa_ok dd34) (by decide) ?_
                  refine Y.blk (pc' := 133) (L' := [some (.ref x0), some (.int x1), none, some (.int x3), some (.int x4), some (.int (x5 + (nI 1)))]) (st' := []) (sg := [(.iinc 5 1, nI 1)]) (lSa_ok dd4) rfl ?_
                  refine Y.goto (off := -78) (tgt := 55) (lIa_ok dd5) (by decide) ?_
                  exact ih G37 x0 x1 x3 x4 (x5 + (nI 1)) h
            · refine Y.blk (pc' := 133) (L' := [some (.ref x0), some (.int x1), none, some (.int x3), some (.int x4), some (.int (x5 + (nI 1)))]) (st' := []) (sg := [(.iinc 5 1, nI 1)]) (lSa_ok dd4) rfl ?_
              refine Y.goto (off := -78) (tgt := 55) (lIa_ok dd5) (by decide) ?_
              exact ih G26 x0 x1 x3 x4 (x5 + (nI 1)) h
theorem k_M_change {l : Launch} {D : va_G} {B : Nat} {O : State → Heap → Prop} (hV : zG l D B O) (G : gH) (a0 : Nat) (a1 : Int32) (a2 : Int32) (a3 : Int32) : gMet (zVm l D B O) m_M_change 13 [.ref a0, .int a1, .int a2, .int a3] G (f_M_change G a0 a1 a2 a3) := by
  have hdd : lSa m_M_change 0 [(.iload_n 2, 0)] = true ∧ lIa m_M_change 1 (.ifCond .ne 4) 3 = true ∧ lIa m_M_change 4 (.return_) 1 = true ∧ lSa m_M_change 5 [(.iload_n 1, 0), (.istore 4, 0)] = true ∧ lSa m_M_change 45 [(.aload_n 0, 0), (.iload_n 1, 0)] = true ∧ lIa m_M_change 47 (.invokevirtual 47) 3 = true ∧ lSa m_M_change 50 [(.istore 4, 0), (.iconst 0, nI 0), (.istore 5, 0)] = true ∧ lSa m_M_change 136 [(.aload_n 0, 0), (.iload 4, 0), (.iload_n 1, 0)] = true ∧ lIa m_M_change 140 (.invokevirtual 103) 3 = true ∧ lSa m_M_change 143 [(.pop, 0)] = true ∧ lIa m_M_change 144 (.return_) 1 = true := by decide +kernel
  refine lA8 hdd (fun dd0 dd1 dd2 dd3 dd4 dd5 dd6 dd7 hdd => ?_)
  obtain ⟨dd8, dd9, dd10⟩ := hdd
  refine gMet.of (by decide +kernel) (Nat.le_of_ble_eq_true rfl) [some (.ref a0), some (.int a1), some (.int a2), some (.int a3), none, none] (fun ls h => zEn_ok (n := 6) h) ?_
  intro o Gf h
  unfold f_M_change at h
  refine Y.blk (pc' := 1) (L' := [some (.ref a0), some (.int a1), some (.int a2), some (.int a3), none, none]) (st' := [.int a2]) (sg := [(.iload_n 2, 0)]) (lSa_ok dd0) rfl ?_
  refine Y.if_ne (off := 4) (tgt := 5) (lIa_ok dd1) (by decide) h (fun c51 h => ?_) (fun c51 h => ?_)
  · exact Y.vret rfl (lIa_ok dd2) h
  · refine Y.blk (pc' := 8) (L' := [some (.ref a0), some (.int a1), some (.int a2), some (.int a3), some (.int a1), none]) (st' := []) (sg := [(.iload_n 1, 0), (.istore 4, 0)]) (lSa_ok dd3) rfl ?_
    refine k_M_change_L8 hV _ ?_  zFu G a0 a1 a2 a3 a1 h
    · intro G12 x9 x10 x11 h
      refine Y.blk (pc' := 47) (L' := [some (.ref x9), some (.int x10), none, some (.int x11), none, none]) (st' := [.int x10, .ref x9]) (sg := [(.aload_n 0, 0), (.iload_n 1, 0)]) (lSa_ok dd4) rfl ?_
      obtain ⟨_, o14, e13, m15, h⟩ := gOb_inv h
      refine Y.callI (yC.Vi (b := x9) (As := [.int x10]) (st := []) (r := ("PartlisterModel", T_M, 9)) hV.1 cb_M_rowOf lk_M_47 in_M_rowOf rfl se_M_rowOf (lIa_ok dd5) rfl rfl (Nat.le_of_ble_eq_true rfl) (by decide) e13 m15) (k_M_rowOf zDp hV G12 x9 x10) h (fun v17 G16 _ h => ?_)
      refine Y.blk (pc' := 55) (L' := [some (.ref x9), some (.int x10), none, some (.int x11), some (.int v17), some (.int (nI 0))]) (st' := []) (sg := [(.istore 4, 0), (.iconst 0, nI 0), (.istore 5, 0)]) (lSa_ok dd6) rfl ?_
      refine k_M_change_L55 hV _ ?_  zFu G16 x9 x10 x11 v17 (nI 0) h
      · intro G45 x42 x43 x44 h
        refine Y.blk (pc' := 140) (L' := [some (.ref x42), some (.int x43), none, none, some (.int x44), none]) (st' := [.int x43, .int x44, .ref x42]) (sg := [(.aload_n 0, 0), (.iload 4, 0), (.iload_n 1, 0)]) (lSa_ok dd7) rfl ?_
        obtain ⟨_, o47, e46, m48, h⟩ := gOb_inv h
        refine Y.callI (yC.Vi (b := x42) (As := [.int x44, .int x43]) (st := []) (r := ("PartlisterModel", T_M, 9)) hV.1 cb_M_endParts lk_M_103 in_M_endParts rfl se_M_endParts (lIa_ok dd8) rfl rfl (Nat.le_of_ble_eq_true rfl) (by decide) e46 m48) (k_M_endParts hV G45 x42 x44 x43) h (fun v50 G49 _ h => ?_)
        refine Y.blk (pc' := 144) (L' := [some (.ref x42), some (.int x43), none, none, some (.int x44), none]) (st' := []) (sg := [(.pop, 0)]) (lSa_ok dd9) rfl ?_
        exact Y.vret rfl (lIa_ok dd10) h

def f_M_base_B (rec : gH → Nat → Int32 → gR) (G : gH) (a0 : Nat) (a1 : Int32) : gR :=
  if (nI 2) ≤ a1 then gFA G a0 6 2 fun v1 => gLdq G v1 104 a1 (none) fun v2 => gFI G v2 5 1 fun v3 => gFA G a0 6 2 fun v4 => gLdq G v4 104 a1 (none) fun v5 => gFI G v5 5 0 fun v6 => gOb G a0 6 fun o8 => bI (rec G a0 v6) fun v11 G10 => rI (v3 + v11) G10
  else rI (nI 0) G
def f_M_base : Nat → gH → Nat → Int32 → gR
  | 0, _, _, _ => none
  | d + 1, G, a0, a1 => f_M_base_B (f_M_base d) G a0 a1
theorem k_M_base_B (d : Nat) {l : Launch} {D : va_G} {B : Nat} {O : State → Heap → Prop} (hV : zG l D B O) (rec : gH → Nat → Int32 → gR) (hrec : ∀ (G : gH) (a0 : Nat) (a1 : Int32), gMet (zVm l D B O) m_M_base (2 + d) [.ref a0, .int a1] G (rec G a0 a1)) (G : gH) (a0 : Nat) (a1 : Int32) : gMet (zVm l D B O) m_M_base (2 + (d + 1)) [.ref a0, .int a1] G (f_M_base_B rec G a0 a1) := by
  have hdd : lSa m_M_base 0 [(.iload_n 1, 0), (.iconst 2, nI 2)] = true ∧ lIa m_M_base 2 (.if_icmp .ge 7) 3 = true ∧ lSa m_M_base 9 [(.aload_n 0, 0)] = true ∧ lIa m_M_base 10 (.getfield 18) 3 = true ∧ lSa m_M_base 13 [(.iload_n 1, 0)] = true ∧ lIa m_M_base 14 (.aaload) 1 = true ∧ lIa m_M_base 15 (.getfield 51) 3 = true ∧ lSa m_M_base 18 [(.aload_n 0, 0), (.aload_n 0, 0)] = true ∧ lIa m_M_base 20 (.getfield 18) 3 = true ∧ lSa m_M_base 23 [(.iload_n 1, 0)] = true ∧ lIa m_M_base 24 (.aaload) 1 = true ∧ lIa m_M_base 25 (.getfield 44) 3 = true ∧ lIa m_M_base 28 (.invokevirtual 54) 3 = true ∧ lSa m_M_base 31 [(.iadd, 0)] = true ∧ lIa m_M_base 32 (.ireturn) 1 = true ∧ lSa m_M_base 5 [(.iconst 0, nI 0)] = true ∧ lIa m_M_base 6 (.goto 26) 3 = true := by decide +kernel
  refine lA8 hdd (fun dd0 dd1 dd2 dd3 dd4 dd5 dd6 dd7 hdd => ?_)
  refine lA8 hdd (fun dd8 dd9 dd10 dd11 dd12 dd13 dd14 dd15 hdd => ?_)
  have dd16 := hdd
  refine gMet.of (by decide +kernel) (Nat.le_of_ble_eq_true rfl) [some (.ref a0), some (.int a1)] (fun ls h => zEn_ok (n := 2) h) ?_
  intro o Gf h
  unfold f_M_base_B at h
  refine Y.blk (pc' := 2) (L' := [some (.ref a0), some (.int a1)]) (st' := [.int (nI 2), .int a1]) (sg := [(.iload_n 1, 0), (.iconst 2, nI 2)]) (lSa_ok dd0) rfl ?_
  refine Y.ic_ge (off := 7) (tgt := 9) (lIa_ok dd1) (by decide) h (fun c12 h => ?_) (fun c12 h => ?_)
  · refine Y.blk (pc' := 10) (L' := [some (.ref a0), some (.int a1)]) (st' := [.ref a0]) (sg := [(.aload_n 0, 0)]) (lSa_ok dd2) rfl ?_
    refine Y.getA fl_M_18 (lIa_ok dd3) h (fun v1 h => ?_)
    refine Y.blk (pc' := 14) (L' := [some (.ref a0), some (.int a1)]) (st' := [.int a1, .ref v1]) (sg := [(.iload_n 1, 0)]) (lSa_ok dd4) rfl ?_
    refine Y.aald (t0 := 4) (lIa_ok dd5) rfl h (fun h => ?_) (fun v2 h => ?_)
    · cases h
    · refine Y.getI fl_M_51 (lIa_ok dd6) h (fun v3 h => ?_)
      refine Y.blk (pc' := 20) (L' := [some (.ref a0), some (.int a1)]) (st' := [.ref a0, .ref a0, .int v3]) (sg := [(.aload_n 0, 0), (.aload_n 0, 0)]) (lSa_ok dd7) rfl ?_
      refine Y.getA fl_M_18 (lIa_ok dd8) h (fun v4 h => ?_)
      refine Y.blk (pc' := 24) (L' := [some (.ref a0), some (.int a1)]) (st' := [.int a1, .ref v4, .ref a0, .int v3]) (sg := [(.iload_n 1, 0)]) (lSa_ok dd9) rfl ?_
      refine Y.aald (t0 := 4) (lIa_ok dd10) rfl h (fun h => ?_) (fun v5 h => ?_)
      · cases h
      · refine Y.getI fl_M_44 (lIa_ok dd11) h (fun v6 h => ?_)
        obtain ⟨_, o8, e7, m9, h⟩ := gOb_inv h
        refine Y.callI (yC.Vi (b := a0) (As := [.int v6]) (st := [.int v3]) (r := ("PartlisterModel", T_M, 9)) hV.1 cb_M_base lk_M_54 in_M_base rfl se_M_base (lIa_ok dd12) rfl rfl (Nat.le_of_ble_eq_true rfl) (by omega) e7 m9) (hrec G a0 v6) h (fun v11 G10 _ h => ?_)
        refine Y.blk (pc' := 32) (L' := [some (.ref a0), some (.int a1)]) (st' := [.int (v3 + v11)]) (sg := [(.iadd, 0)]) (lSa_ok dd13) rfl ?_
        exact Y.iret rfl (lIa_ok dd14) h
  · refine Y.blk (pc' := 6) (L' := [some (.ref a0), some (.int a1)]) (st' := [.int (nI 0)]) (sg := [(.iconst 0, nI 0)]) (lSa_ok dd15) rfl ?_
    refine Y.goto (off := 26) (tgt := 32) (lIa_ok dd16) (by decide) ?_
    exact Y.iret rfl (lIa_ok dd14) h
theorem k_M_base (d : Nat) {l : Launch} {D : va_G} {B : Nat} {O : State → Heap → Prop} (hV : zG l D B O)  : ∀ (G : gH) (a0 : Nat) (a1 : Int32), gMet (zVm l D B O) m_M_base (2 + d) [.ref a0, .int a1] G (f_M_base d G a0 a1) := by
  induction d with
  | zero => intro G a0 a1 o Gf h; cases h
  | succ d ih => intro G a0 a1; exact k_M_base_B d hV _ ih G a0 a1

def f_AL_elementData (G : gH) (a0 : Nat) (a1 : Int32) : gR :=
  gFA G a0 9 0 fun v1 => gLdq G v1 103 a1 (none) fun v2 => rA v2 G
theorem k_AL_elementData {l : Launch} {D : va_G} {B : Nat} {O : State → Heap → Prop} (hV : zG l D B O) (G : gH) (a0 : Nat) (a1 : Int32) : gMet (zVm l D B O) m_AL_elementData 2 [.ref a0, .int a1] G (f_AL_elementData G a0 a1) := by
  have hdd : lSa m_AL_elementData 0 [(.aload_n 0, 0)] = true ∧ lIa m_AL_elementData 1 (.getfield 9) 3 = true ∧ lSa m_AL_elementData 4 [(.iload_n 1, 0)] = true ∧ lIa m_AL_elementData 5 (.aaload) 1 = true ∧ lIa m_AL_elementData 6 (.areturn) 1 = true := by decide +kernel
  obtain ⟨dd0, dd1, dd2, dd3, dd4⟩ := hdd
  refine gMet.of (by decide +kernel) (Nat.le_of_ble_eq_true rfl) [some (.ref a0), some (.int a1)] (fun ls h => zEn_ok (n := 2) h) ?_
  intro o Gf h
  unfold f_AL_elementData at h
  refine Y.blk (pc' := 1) (L' := [some (.ref a0), some (.int a1)]) (st' := [.ref a0]) (sg := [(.aload_n 0, 0)]) (lSa_ok dd0) rfl ?_
  refine Y.getA fl_AL_9 (lIa_ok dd1) h (fun v1 h => ?_)
  refine Y.blk (pc' := 5) (L' := [some (.ref a0), some (.int a1)]) (st' := [.int a1, .ref v1]) (sg := [(.iload_n 1, 0)]) (lSa_ok dd2) rfl ?_
  refine Y.aald (t0 := 3) (lIa_ok dd3) rfl h (fun h => ?_) (fun v2 h => ?_)
  · cases h
  · exact Y.aret rfl (by first | exact Or.inl ⟨_, rfl⟩ | exact Or.inr ⟨_, rfl⟩) (lIa_ok dd4) h

def f_PC_checkIndex (G : gH) (a0 : Int32) (a1 : Int32) : gR :=
  if a0 < 0 then none
  else if a0 < a1 then rI a0 G
    else none
theorem k_PC_checkIndex {l : Launch} {D : va_G} {B : Nat} {O : State → Heap → Prop} (hV : zG l D B O) (G : gH) (a0 : Int32) (a1 : Int32) : gMet (zVm l D B O) m_PC_checkIndex 2 [.int a0, .int a1, .null] G (f_PC_checkIndex G a0 a1) := by
  have hdd : lSa m_PC_checkIndex 0 [(.iload_n 0, 0)] = true ∧ lIa m_PC_checkIndex 1 (.ifCond .lt 8) 3 = true ∧ lSa m_PC_checkIndex 9 [(.aload_n 2, 0), (.iload_n 0, 0), (.iload_n 1, 0)] = true ∧ lSa m_PC_checkIndex 4 [(.iload_n 0, 0), (.iload_n 1, 0)] = true ∧ lIa m_PC_checkIndex 6 (.if_icmp .lt 10) 3 = true ∧ lSa m_PC_checkIndex 16 [(.iload_n 0, 0)] = true ∧ lIa m_PC_checkIndex 17 (.ireturn) 1 = true := by decide +kernel
  obtain ⟨dd0, dd1, dd2, dd3, dd4, dd5, dd6⟩ := hdd
  refine gMet.of (by decide +kernel) (Nat.le_of_ble_eq_true rfl) [some (.int a0), some (.int a1), some (.null)] (fun ls h => zEn_ok (n := 3) h) ?_
  intro o Gf h
  unfold f_PC_checkIndex at h
  refine Y.blk (pc' := 1) (L' := [some (.int a0), some (.int a1), some (.null)]) (st' := [.int a0]) (sg := [(.iload_n 0, 0)]) (lSa_ok dd0) rfl ?_
  refine Y.if_lt (off := 8) (tgt := 9) (lIa_ok dd1) (by decide) h (fun c2 h => ?_) (fun c2 h => ?_)
  · refine Y.blk (pc' := 12) (L' := [some (.int a0), some (.int a1), some (.null)]) (st' := [.int a1, .int a0, .null]) (sg := [(.aload_n 2, 0), (.iload_n 0, 0), (.iload_n 1, 0)]) (lSa_ok dd2) rfl ?_
    cases h
  · refine Y.blk (pc' := 6) (L' := [some (.int a0), some (.int a1), some (.null)]) (st' := [.int a1, .int a0]) (sg := [(.iload_n 0, 0), (.iload_n 1, 0)]) (lSa_ok dd3) rfl ?_
    refine Y.ic_lt (off := 10) (tgt := 16) (lIa_ok dd4) (by decide) h (fun c1 h => ?_) (fun c1 h => ?_)
    · refine Y.blk (pc' := 17) (L' := [some (.int a0), some (.int a1), some (.null)]) (st' := [.int a0]) (sg := [(.iload_n 0, 0)]) (lSa_ok dd5) rfl ?_
      exact Y.iret rfl (lIa_ok dd6) h
    · refine Y.blk (pc' := 12) (L' := [some (.int a0), some (.int a1), some (.null)]) (st' := [.int a1, .int a0, .null]) (sg := [(.aload_n 2, 0), (.iload_n 0, 0), (.iload_n 1, 0)]) (lSa_ok dd2) rfl ?_
      cases h

def f_OB_checkIndex (G : gH) (a0 : Int32) (a1 : Int32) : gR :=
  bI (f_PC_checkIndex G a0 a1) fun v3 G2 => rI v3 G2
theorem k_OB_checkIndex {l : Launch} {D : va_G} {B : Nat} {O : State → Heap → Prop} (hV : zG l D B O) (G : gH) (a0 : Int32) (a1 : Int32) : gMet (zVm l D B O) m_OB_checkIndex 3 [.int a0, .int a1] G (f_OB_checkIndex G a0 a1) := by
  have hdd : lSa m_OB_checkIndex 0 [(.iload_n 0, 0), (.iload_n 1, 0), (.aconst_null, 0)] = true ∧ lIa m_OB_checkIndex 3 (.invokestatic 105) 3 = true ∧ lIa m_OB_checkIndex 6 (.ireturn) 1 = true := by decide +kernel
  obtain ⟨dd0, dd1, dd2⟩ := hdd
  refine gMet.of (by decide +kernel) (Nat.le_of_ble_eq_true rfl) [some (.int a0), some (.int a1)] (fun ls h => zEn_ok (n := 2) h) ?_
  intro o Gf h
  unfold f_OB_checkIndex at h
  refine Y.blk (pc' := 3) (L' := [some (.int a0), some (.int a1)]) (st' := [.null, .int a1, .int a0]) (sg := [(.iload_n 0, 0), (.iload_n 1, 0), (.aconst_null, 0)]) (lSa_ok dd0) rfl ?_
  refine Y.callI (yC.S (As := [.int a0, .int a1, .null]) (st := []) hV.1 cb_PC_checkIndex lk_OB_105 st_PC_checkIndex (lIa_ok dd1) rfl rfl (Nat.le_of_ble_eq_true rfl) (by decide)) (k_PC_checkIndex hV G a0 a1) h (fun v3 G2 _ h => ?_)
  exact Y.iret rfl (lIa_ok dd2) h

def f_AL_get (G : gH) (a0 : Nat) (a1 : Int32) : gR :=
  gFI G a0 9 1 fun v1 => bI (f_OB_checkIndex G a1 v1) fun v4 G3 => gOb G3 a0 9 fun o6 => bA (f_AL_elementData G3 a0 a1) fun v9 G8 => rA v9 G8
theorem k_AL_get {l : Launch} {D : va_G} {B : Nat} {O : State → Heap → Prop} (hV : zG l D B O) (G : gH) (a0 : Nat) (a1 : Int32) : gMet (zVm l D B O) m_AL_get 4 [.ref a0, .int a1] G (f_AL_get G a0 a1) := by
  have hdd : lSa m_AL_get 0 [(.iload_n 1, 0), (.aload_n 0, 0)] = true ∧ lIa m_AL_get 2 (.getfield 48) 3 = true ∧ lIa m_AL_get 5 (.invokestatic 118) 3 = true ∧ lSa m_AL_get 8 [(.pop, 0), (.aload_n 0, 0), (.iload_n 1, 0)] = true ∧ lIa m_AL_get 11 (.invokevirtual 123) 3 = true ∧ lIa m_AL_get 14 (.areturn) 1 = true := by decide +kernel
  obtain ⟨dd0, dd1, dd2, dd3, dd4, dd5⟩ := hdd
  refine gMet.of (by decide +kernel) (Nat.le_of_ble_eq_true rfl) [some (.ref a0), some (.int a1)] (fun ls h => zEn_ok (n := 2) h) ?_
  intro o Gf h
  unfold f_AL_get at h
  refine Y.blk (pc' := 2) (L' := [some (.ref a0), some (.int a1)]) (st' := [.ref a0, .int a1]) (sg := [(.iload_n 1, 0), (.aload_n 0, 0)]) (lSa_ok dd0) rfl ?_
  refine Y.getI fl_AL_48 (lIa_ok dd1) h (fun v1 h => ?_)
  refine Y.callI (yC.S (As := [.int a1, .int v1]) (st := []) hV.1 cb_OB_checkIndex lk_AL_118 st_OB_checkIndex (lIa_ok dd2) rfl rfl (Nat.le_of_ble_eq_true rfl) (by decide)) (k_OB_checkIndex hV G a1 v1) h (fun v4 G3 _ h => ?_)
  refine Y.blk (pc' := 11) (L' := [some (.ref a0), some (.int a1)]) (st' := [.int a1, .ref a0]) (sg := [(.pop, 0), (.aload_n 0, 0), (.iload_n 1, 0)]) (lSa_ok dd3) rfl ?_
  obtain ⟨_, o6, e5, m7, h⟩ := gOb_inv h
  refine Y.callA (yC.Vi (b := a0) (As := [.int a1]) (st := []) (r := ("java/util/ArrayList", T_AL, 3)) hV.1 cb_AL_elementData lk_AL_123 in_AL_elementData rfl se_AL_elementData (lIa_ok dd4) rfl rfl (Nat.le_of_ble_eq_true rfl) (by decide) e5 m7) (k_AL_elementData hV G3 a0 a1) h (fun v9 G8 _ h => ?_)
  exact Y.aret rfl (by first | exact Or.inl ⟨_, rfl⟩ | exact Or.inr ⟨_, rfl⟩) (lIa_ok dd5) h

def f_M_row (G : gH) (a0 : Nat) (a1 : Int32) : gR :=
  gFA G a0 6 1 fun v1 => gOb G a0 6 fun o3 => bI (f_M_rowOf zDp G a0 a1) fun v6 G5 => gOb G5 v1 9 fun o8 => bA (f_AL_get G5 v1 v6) fun v11 G10 => gCaO G10 v11 9 (rA v11 G10)
theorem k_M_row {l : Launch} {D : va_G} {B : Nat} {O : State → Heap → Prop} (hV : zG l D B O) (G : gH) (a0 : Nat) (a1 : Int32) : gMet (zVm l D B O) m_M_row 11 [.ref a0, .int a1] G (f_M_row G a0 a1) := by
  have hdd : lSa m_M_row 0 [(.aload_n 0, 0)] = true ∧ lIa m_M_row 1 (.getfield 10) 3 = true ∧ lSa m_M_row 4 [(.aload_n 0, 0), (.iload_n 1, 0)] = true ∧ lIa m_M_row 6 (.invokevirtual 47) 3 = true ∧ lIa m_M_row 9 (.invokevirtual 57) 3 = true ∧ lIa m_M_row 12 (.checkcast 7) 3 = true ∧ lIa m_M_row 15 (.areturn) 1 = true := by decide +kernel
  obtain ⟨dd0, dd1, dd2, dd3, dd4, dd5, dd6⟩ := hdd
  refine gMet.of (by decide +kernel) (Nat.le_of_ble_eq_true rfl) [some (.ref a0), some (.int a1)] (fun ls h => zEn_ok (n := 2) h) ?_
  intro o Gf h
  unfold f_M_row at h
  refine Y.blk (pc' := 1) (L' := [some (.ref a0), some (.int a1)]) (st' := [.ref a0]) (sg := [(.aload_n 0, 0)]) (lSa_ok dd0) rfl ?_
  refine Y.getA fl_M_10 (lIa_ok dd1) h (fun v1 h => ?_)
  refine Y.blk (pc' := 6) (L' := [some (.ref a0), some (.int a1)]) (st' := [.int a1, .ref a0, .ref v1]) (sg := [(.aload_n 0, 0), (.iload_n 1, 0)]) (lSa_ok dd2) rfl ?_
  obtain ⟨_, o3, e2, m4, h⟩ := gOb_inv h
  refine Y.callI (yC.Vi (b := a0) (As := [.int a1]) (st := [.ref v1]) (r := ("PartlisterModel", T_M, 9)) hV.1 cb_M_rowOf lk_M_47 in_M_rowOf rfl se_M_rowOf (lIa_ok dd3) rfl rfl (Nat.le_of_ble_eq_true rfl) (by decide) e2 m4) (k_M_rowOf zDp hV G a0 a1) h (fun v6 G5 _ h => ?_)
  obtain ⟨_, o8, e7, m9, h⟩ := gOb_inv h
  refine Y.callA (yC.Vi (b := v1) (As := [.int v6]) (st := []) (r := ("java/util/ArrayList", T_AL, 3)) hV.1 cb_AL_get lk_M_57 in_AL_get rfl se_AL_get (lIa_ok dd4) rfl rfl (Nat.le_of_ble_eq_true rfl) (by decide) e7 m9) (k_AL_get hV G5 v1 v6) h (fun v11 G10 _ h => ?_)
  refine Y.castO (r := ("java/util/ArrayList", T_AL, 3)) (lIa_ok dd5) rfl ck_M_7 h (fun h => ?_)
  exact Y.aret rfl (by first | exact Or.inl ⟨_, rfl⟩ | exact Or.inr ⟨_, rfl⟩) (lIa_ok dd6) h

def f_AL_rangeCheckForAdd (G : gH) (a0 : Nat) (a1 : Int32) : gR :=
  gFI G a0 9 1 fun v1 => if v1 < a1 then none
  else if 0 ≤ a1 then rV G
    else none
theorem k_AL_rangeCheckForAdd {l : Launch} {D : va_G} {B : Nat} {O : State → Heap → Prop} (hV : zG l D B O) (G : gH) (a0 : Nat) (a1 : Int32) : gMet (zVm l D B O) m_AL_rangeCheckForAdd 2 [.ref a0, .int a1] G (f_AL_rangeCheckForAdd G a0 a1) := by
  have hdd : lSa m_AL_rangeCheckForAdd 0 [(.iload_n 1, 0), (.aload_n 0, 0)] = true ∧ lIa m_AL_rangeCheckForAdd 2 (.getfield 48) 3 = true ∧ lIa m_AL_rangeCheckForAdd 5 (.if_icmp .gt 7) 3 = true ∧ lSa m_AL_rangeCheckForAdd 8 [(.iload_n 1, 0)] = true ∧ lIa m_AL_rangeCheckForAdd 9 (.ifCond .ge 16) 3 = true ∧ lIa m_AL_rangeCheckForAdd 25 (.return_) 1 = true := by decide +kernel
  obtain ⟨dd0, dd1, dd2, dd3, dd4, dd5⟩ := hdd
  refine gMet.of (by decide +kernel) (Nat.le_of_ble_eq_true rfl) [some (.ref a0), some (.int a1)] (fun ls h => zEn_ok (n := 2) h) ?_
  intro o Gf h
  unfold f_AL_rangeCheckForAdd at h
  refine Y.blk (pc' := 2) (L' := [some (.ref a0), some (.int a1)]) (st' := [.ref a0, .int a1]) (sg := [(.iload_n 1, 0), (.aload_n 0, 0)]) (lSa_ok dd0) rfl ?_
  refine Y.getI fl_AL_48 (lIa_ok dd1) h (fun v1 h => ?_)
  refine Y.ic_gt (off := 7) (tgt := 12) (lIa_ok dd2) (by decide) h (fun c3 h => ?_) (fun c3 h => ?_)
  · cases h
  · refine Y.blk (pc' := 9) (L' := [some (.ref a0), some (.int a1)]) (st' := [.int a1]) (sg := [(.iload_n 1, 0)]) (lSa_ok dd3) rfl ?_
    refine Y.if_ge (off := 16) (tgt := 25) (lIa_ok dd4) (by decide) h (fun c2 h => ?_) (fun c2 h => ?_)
    · exact Y.vret rfl (lIa_ok dd5) h
    · cases h

def f_AL_add1 (w : Nat → Nat) (G : gH) (a0 : Nat) (a1 : Int32) (a2 : Nat) : gR :=
  gOb G a0 9 fun o2 => bV (f_AL_rangeCheckForAdd G a0 a1) fun G4 => gFI G4 a0 9 2 fun v5 => gPut G4 a0 9 2 (.int (v5 + (nI 1))) fun G6 => gFI G6 a0 9 1 fun v7 => gFA G6 a0 9 0 fun v8 => gLenq G6 v8 103 fun v9 => if v7 = v9 then gOb G6 a0 9 fun o11 => bA (f_AL_grow1 w G6 a0) fun v14 G13 => gCpQ G13 v14 a1 v14 (a1 + (nI 1)) (v7 - a1) fun G15 => gStX G15 v14 103 a1 a2 fun G16 => gPut G16 a0 9 1 (.int (v7 + (nI 1))) fun G17 => rV G17
  else gCpQ G6 v8 a1 v8 (a1 + (nI 1)) (v7 - a1) fun G18 => gStX G18 v8 103 a1 a2 fun G19 => gPut G19 a0 9 1 (.int (v7 + (nI 1))) fun G20 => rV G20
theorem k_AL_add1 {l : Launch} {D : va_G} {B : Nat} {O : State → Heap → Prop} {w : Nat → Nat} (hV : zGw l D B O w) (G : gH) (a0 : Nat) (a1 : Int32) (a2 : Nat) : gMet (zVm l D B O) m_AL_add1 6 [.ref a0, .int a1, .ref a2] G (f_AL_add1 w G a0 a1 a2) := by
  have hdd : lSa m_AL_add1 0 [(.aload_n 0, 0), (.iload_n 1, 0)] = true ∧ lIa m_AL_add1 2 (.invokevirtual 135) 3 = true ∧ lSa m_AL_add1 5 [(.aload_n 0, 0), (.dup, 0)] = true ∧ lIa m_AL_add1 7 (.getfield 63) 3 = true ∧ lSa m_AL_add1 10 [(.iconst 1, nI 1), (.iadd, 0)] = true ∧ lIa m_AL_add1 12 (.putfield 63) 3 = true ∧ lSa m_AL_add1 15 [(.aload_n 0, 0)] = true ∧ lIa m_AL_add1 16 (.getfield 48) 3 = true ∧ lSa m_AL_add1 19 [(.dup, 0), (.istore_n 3, 0), (.aload_n 0, 0)] = true ∧ lIa m_AL_add1 22 (.getfield 9) 3 = true ∧ lSa m_AL_add1 25 [(.dup, 0), (.astore 4, 0)] = true ∧ lIa m_AL_add1 28 (.arraylength) 1 = true ∧ lIa m_AL_add1 29 (.if_icmp .ne 9) 3 = true ∧ lSa m_AL_add1 32 [(.aload_n 0, 0)] = true ∧ lIa m_AL_add1 33 (.invokevirtual 129) 3 = true ∧ lSa m_AL_add1 36 [(.astore 4, 0), (.aload 4, 0), (.iload_n 1, 0), (.aload 4, 0), (.iload_n 1, 0), (.iconst 1, nI 1), (.iadd, 0), (.iload_n 3, 0), (.iload_n 1, 0), (.isub, 0)] = true ∧ lIa m_AL_add1 49 (.invokestatic 112) 3 = true ∧ lSa m_AL_add1 52 [(.aload 4, 0), (.iload_n 1, 0), (.aload_n 2, 0)] = true ∧ lIa m_AL_add1 56 (.aastore) 1 = true ∧ lSa m_AL_add1 57 [(.aload_n 0, 0), (.iload_n 3, 0), (.iconst 1, nI 1), (.iadd, 0)] = true ∧ lIa m_AL_add1 61 (.putfield 48) 3 = true ∧ lIa m_AL_add1 64 (.return_) 1 = true ∧ lSa m_AL_add1 38 [(.aload 4, 0), (.iload_n 1, 0), (.aload 4, 0), (.iload_n 1, 0), (.iconst 1, nI 1), (.iadd, 0), (.iload_n 3, 0), (.iload_n 1, 0), (.isub, 0)] = true := by decide +kernel
  refine lA8 hdd (fun dd0 dd1 dd2 dd3 dd4 dd5 dd6 dd7 hdd => ?_)
  refine lA8 hdd (fun dd8 dd9 dd10 dd11 dd12 dd13 dd14 dd15 hdd => ?_)
  obtain ⟨dd16, dd17, dd18, dd19, dd20, dd21, dd22⟩ := hdd
  refine gMet.of (by decide +kernel) (Nat.le_of_ble_eq_true rfl) [some (.ref a0), some (.int a1), some (.ref a2), none, none] (fun ls h => zEn_ok (n := 5) h) ?_
  intro o Gf h
  unfold f_AL_add1 at h
  refine Y.blk (pc' := 2) (L' := [some (.ref a0), some (.int a1), some (.ref a2), none, none]) (st' := [.int a1, .ref a0]) (sg := [(.aload_n 0, 0), (.iload_n 1, 0)]) (lSa_ok dd0) rfl ?_
  obtain ⟨_, o2, e1, m3, h⟩ := gOb_inv h
  refine Y.callN (yC.Vi (b := a0) (As := [.int a1]) (st := []) (r := ("java/util/ArrayList", T_AL, 3)) hV.1.1 cb_AL_rangeCheckForAdd lk_AL_135 in_AL_rangeCheckForAdd rfl se_AL_rangeCheckForAdd (lIa_ok dd1) rfl rfl (Nat.le_of_ble_eq_true rfl) (by decide) e1 m3) (k_AL_rangeCheckForAdd hV.1 G a0 a1) h (fun G4 _ h => ?_)
  refine Y.blk (pc' := 7) (L' := [some (.ref a0), some (.int a1), some (.ref a2), none, none]) (st' := [.ref a0, .ref a0]) (sg := [(.aload_n 0, 0), (.dup, 0)]) (lSa_ok dd2) rfl ?_
  refine Y.getI fl_AL_63 (lIa_ok dd3) h (fun v5 h => ?_)
  refine Y.blk (pc' := 12) (L' := [some (.ref a0), some (.int a1), some (.ref a2), none, none]) (st' := [.int (v5 + (nI 1)), .ref a0]) (sg := [(.iconst 1, nI 1), (.iadd, 0)]) (lSa_ok dd4) rfl ?_
  refine Y.putf fl_AL_63 (by decide) rfl rfl (lIa_ok dd5) h (fun G6 _ _ h => ?_)
  refine Y.blk (pc' := 16) (L' := [some (.ref a0), some (.int a1), some (.ref a2), none, none]) (st' := [.ref a0]) (sg := [(.aload_n 0, 0)]) (lSa_ok dd6) rfl ?_
  refine Y.getI fl_AL_48 (lIa_ok dd7) h (fun v7 h => ?_)
  refine Y.blk (pc' := 22) (L' := [some (.ref a0), some (.int a1), some (.ref a2), some (.int v7), none]) (st' := [.ref a0, .int v7]) (sg := [(.dup, 0), (.istore_n 3, 0), (.aload_n 0, 0)]) (lSa_ok dd8) rfl ?_
  refine Y.getA fl_AL_9 (lIa_ok dd9) h (fun v8 h => ?_)
  refine Y.blk (pc' := 28) (L' := [some (.ref a0), some (.int a1), some (.ref a2), some (.int v7), some (.ref v8)]) (st' := [.ref v8, .int v7]) (sg := [(.dup, 0), (.astore 4, 0)]) (lSa_ok dd10) rfl ?_
  refine Y.alenq (t0 := 3) (lIa_ok dd11) rfl h (fun v9 h => ?_)
  refine Y.ic_ne (off := 9) (tgt := 38) (lIa_ok dd12) (by decide) h (fun c21 h => ?_) (fun c21 h => ?_)
  · refine Y.blk (pc' := 33) (L' := [some (.ref a0), some (.int a1), some (.ref a2), some (.int v7), some (.ref v8)]) (st' := [.ref a0]) (sg := [(.aload_n 0, 0)]) (lSa_ok dd13) rfl ?_
    obtain ⟨_, o11, e10, m12, h⟩ := gOb_inv h
    refine Y.callA (yC.Vi (b := a0) (As := []) (st := []) (r := ("java/util/ArrayList", T_AL, 3)) hV.1.1 cb_AL_grow1 lk_AL_129 in_AL_grow1 rfl se_AL_grow1 (lIa_ok dd14) rfl rfl (Nat.le_of_ble_eq_true rfl) (by decide) e10 m12) (k_AL_grow1 hV G6 a0) h (fun v14 G13 _ h => ?_)
    refine Y.blk (pc' := 49) (L' := [some (.ref a0), some (.int a1), some (.ref a2), some (.int v7), some (.ref v14)]) (st' := [.int (v7 - a1), .int (a1 + (nI 1)), .ref v14, .int a1, .ref v14]) (sg := [(.astore 4, 0), (.aload 4, 0), (.iload_n 1, 0), (.aload 4, 0), (.iload_n 1, 0), (.iconst 1, nI 1), (.iadd, 0), (.iload_n 3, 0), (.iload_n 1, 0), (.isub, 0)]) (lSa_ok dd15) rfl ?_
    refine Y.copyQ (t0 := 3) lk_AL_112 nat_copy st_copy ini_SY (by decide) rfl (Nat.le_of_ble_eq_true rfl) (lIa_ok dd16) rfl ⟨_, rfl, ca_AL⟩ rfl h (fun G15 _ _ h => ?_)
    refine Y.blk (pc' := 56) (L' := [some (.ref a0), some (.int a1), some (.ref a2), some (.int v7), some (.ref v14)]) (st' := [.ref a2, .int a1, .ref v14]) (sg := [(.aload 4, 0), (.iload_n 1, 0), (.aload_n 2, 0)]) (lSa_ok dd17) rfl ?_
    refine Y.aastX (t0 := 3) (lIa_ok dd18) rfl rfl rfl h (fun G16 _ _ h => ?_)
    refine Y.blk (pc' := 61) (L' := [some (.ref a0), some (.int a1), some (.ref a2), some (.int v7), some (.ref v14)]) (st' := [.int (v7 + (nI 1)), .ref a0]) (sg := [(.aload_n 0, 0), (.iload_n 3, 0), (.iconst 1, nI 1), (.iadd, 0)]) (lSa_ok dd19) rfl ?_
    refine Y.putf fl_AL_48 (by decide) rfl rfl (lIa_ok dd20) h (fun G17 _ _ h => ?_)
    exact Y.vret rfl (lIa_ok dd21) h
  · refine Y.blk (pc' := 49) (L' := [some (.ref a0), some (.int a1), some (.ref a2), some (.int v7), some (.ref v8)]) (st' := [.int (v7 - a1), .int (a1 + (nI 1)), .ref v8, .int a1, .ref v8]) (sg := [(.aload 4, 0), (.iload_n 1, 0), (.aload 4, 0), (.iload_n 1, 0), (.iconst 1, nI 1), (.iadd, 0), (.iload_n 3, 0), (.iload_n 1, 0), (.isub, 0)]) (lSa_ok dd22) rfl ?_
    refine Y.copyQ (t0 := 3) lk_AL_112 nat_copy st_copy ini_SY (by decide) rfl (Nat.le_of_ble_eq_true rfl) (lIa_ok dd16) rfl ⟨_, rfl, ca_AL⟩ rfl h (fun G18 _ _ h => ?_)
    refine Y.blk (pc' := 56) (L' := [some (.ref a0), some (.int a1), some (.ref a2), some (.int v7), some (.ref v8)]) (st' := [.ref a2, .int a1, .ref v8]) (sg := [(.aload 4, 0), (.iload_n 1, 0), (.aload_n 2, 0)]) (lSa_ok dd17) rfl ?_
    refine Y.aastX (t0 := 3) (lIa_ok dd18) rfl rfl rfl h (fun G19 _ _ h => ?_)
    refine Y.blk (pc' := 61) (L' := [some (.ref a0), some (.int a1), some (.ref a2), some (.int v7), some (.ref v8)]) (st' := [.int (v7 + (nI 1)), .ref a0]) (sg := [(.aload_n 0, 0), (.iload_n 3, 0), (.iconst 1, nI 1), (.iadd, 0)]) (lSa_ok dd19) rfl ?_
    refine Y.putf fl_AL_48 (by decide) rfl rfl (lIa_ok dd20) h (fun G20 _ _ h => ?_)
    exact Y.vret rfl (lIa_ok dd21) h

def f_M_come (w : Nat → Nat) (G : gH) (a0 : Nat) (a1 : Int32) (a2 : Int32) (a3 : Nat) : gR :=
  gOb G a0 6 fun o2 => bA (f_M_row G a0 a1) fun v5 G4 => gOb G4 a0 6 fun o7 => bI (f_M_base zDp G4 a0 a1) fun v10 G9 => gOb G9 v5 9 fun o12 => bV (f_AL_add1 w G9 v5 (v10 + a2) a3) fun G14 => rV G14
theorem k_M_come {l : Launch} {D : va_G} {B : Nat} {O : State → Heap → Prop} {w : Nat → Nat} (hV : zGw l D B O w) (G : gH) (a0 : Nat) (a1 : Int32) (a2 : Int32) (a3 : Nat) : gMet (zVm l D B O) m_M_come 12 [.ref a0, .int a1, .int a2, .ref a3] G (f_M_come w G a0 a1 a2 a3) := by
  have hdd : lSa m_M_come 0 [(.aload_n 0, 0), (.iload_n 1, 0)] = true ∧ lIa m_M_come 2 (.invokevirtual 68) 3 = true ∧ lSa m_M_come 5 [(.aload_n 0, 0), (.iload_n 1, 0)] = true ∧ lIa m_M_come 7 (.invokevirtual 54) 3 = true ∧ lSa m_M_come 10 [(.iload_n 2, 0), (.iadd, 0), (.aload_n 3, 0)] = true ∧ lIa m_M_come 13 (.invokevirtual 107) 3 = true ∧ lIa m_M_come 16 (.return_) 1 = true := by decide +kernel
  obtain ⟨dd0, dd1, dd2, dd3, dd4, dd5, dd6⟩ := hdd
  refine gMet.of (by decide +kernel) (Nat.le_of_ble_eq_true rfl) [some (.ref a0), some (.int a1), some (.int a2), some (.ref a3)] (fun ls h => zEn_ok (n := 4) h) ?_
  intro o Gf h
  unfold f_M_come at h
  refine Y.blk (pc' := 2) (L' := [some (.ref a0), some (.int a1), some (.int a2), some (.ref a3)]) (st' := [.int a1, .ref a0]) (sg := [(.aload_n 0, 0), (.iload_n 1, 0)]) (lSa_ok dd0) rfl ?_
  obtain ⟨_, o2, e1, m3, h⟩ := gOb_inv h
  refine Y.callA (yC.Vi (b := a0) (As := [.int a1]) (st := []) (r := ("PartlisterModel", T_M, 9)) hV.1.1 cb_M_row lk_M_68 in_M_row rfl se_M_row (lIa_ok dd1) rfl rfl (Nat.le_of_ble_eq_true rfl) (by decide) e1 m3) (k_M_row hV.1 G a0 a1) h (fun v5 G4 _ h => ?_)
  refine Y.blk (pc' := 7) (L' := [some (.ref a0), some (.int a1), some (.int a2), some (.ref a3)]) (st' := [.int a1, .ref a0, .ref v5]) (sg := [(.aload_n 0, 0), (.iload_n 1, 0)]) (lSa_ok dd2) rfl ?_
  obtain ⟨_, o7, e6, m8, h⟩ := gOb_inv h
  refine Y.callI (yC.Vi (b := a0) (As := [.int a1]) (st := [.ref v5]) (r := ("PartlisterModel", T_M, 9)) hV.1.1 cb_M_base lk_M_54 in_M_base rfl se_M_base (lIa_ok dd3) rfl rfl (Nat.le_of_ble_eq_true rfl) (by decide) e6 m8) (k_M_base zDp hV.1 G4 a0 a1) h (fun v10 G9 _ h => ?_)
  refine Y.blk (pc' := 13) (L' := [some (.ref a0), some (.int a1), some (.int a2), some (.ref a3)]) (st' := [.ref a3, .int (v10 + a2), .ref v5]) (sg := [(.iload_n 2, 0), (.iadd, 0), (.aload_n 3, 0)]) (lSa_ok dd4) rfl ?_
  obtain ⟨_, o12, e11, m13, h⟩ := gOb_inv h
  refine Y.callN (yC.Vi (b := v5) (As := [.int (v10 + a2), .ref a3]) (st := []) (r := ("java/util/ArrayList", T_AL, 3)) hV.1.1 cb_AL_add1 lk_M_107 in_AL_add1 rfl se_AL_add1 (lIa_ok dd5) rfl rfl (Nat.le_of_ble_eq_true rfl) (by decide) e11 m13) (k_AL_add1 hV G9 v5 (v10 + a2) a3) h (fun G14 _ h => ?_)
  exact Y.vret rfl (lIa_ok dd6) h

def f_AL_size (G : gH) (a0 : Nat) : gR :=
  gFI G a0 9 1 fun v1 => rI v1 G
theorem k_AL_size {l : Launch} {D : va_G} {B : Nat} {O : State → Heap → Prop} (hV : zG l D B O) (G : gH) (a0 : Nat) : gMet (zVm l D B O) m_AL_size 2 [.ref a0] G (f_AL_size G a0) := by
  have hdd : lSa m_AL_size 0 [(.aload_n 0, 0)] = true ∧ lIa m_AL_size 1 (.getfield 48) 3 = true ∧ lIa m_AL_size 4 (.ireturn) 1 = true := by decide +kernel
  obtain ⟨dd0, dd1, dd2⟩ := hdd
  refine gMet.of (by decide +kernel) (Nat.le_of_ble_eq_true rfl) [some (.ref a0)] (fun ls h => zEn_ok (n := 1) h) ?_
  intro o Gf h
  unfold f_AL_size at h
  refine Y.blk (pc' := 1) (L' := [some (.ref a0)]) (st' := [.ref a0]) (sg := [(.aload_n 0, 0)]) (lSa_ok dd0) rfl ?_
  refine Y.getI fl_AL_48 (lIa_ok dd1) h (fun v1 h => ?_)
  exact Y.iret rfl (lIa_ok dd2) h

def f_M_isFull (G : gH) (a0 : Nat) (a1 : Int32) (a2 : Int32) : gR :=
  gOb G a0 6 fun o2 => bA (f_M_row G a0 a1) fun v5 G4 => gOb G4 v5 9 fun o7 => bI (f_AL_size G4 v5) fun v10 G9 => if (v10 + a2) ≤ (nI 31) then rZ (nI 0) G9
  else rZ (nI 1) G9
theorem k_M_isFull {l : Launch} {D : va_G} {B : Nat} {O : State → Heap → Prop} (hV : zG l D B O) (G : gH) (a0 : Nat) (a1 : Int32) (a2 : Int32) : gMet (zVm l D B O) m_M_isFull 12 [.ref a0, .int a1, .int a2] G (f_M_isFull G a0 a1 a2) := by
  have hdd : lSa m_M_isFull 0 [(.aload_n 0, 0), (.iload_n 1, 0)] = true ∧ lIa m_M_isFull 2 (.invokevirtual 68) 3 = true ∧ lIa m_M_isFull 5 (.invokevirtual 61) 3 = true ∧ lSa m_M_isFull 8 [(.iload_n 2, 0), (.iadd, 0), (.bipush 31, nI 31)] = true ∧ lIa m_M_isFull 12 (.if_icmp .le 7) 3 = true ∧ lSa m_M_isFull 19 [(.iconst 0, nI 0)] = true ∧ lIa m_M_isFull 20 (.ireturn) 1 = true ∧ lSa m_M_isFull 15 [(.iconst 1, nI 1)] = true ∧ lIa m_M_isFull 16 (.goto 4) 3 = true := by decide +kernel
  refine lA8 hdd (fun dd0 dd1 dd2 dd3 dd4 dd5 dd6 dd7 hdd => ?_)
  have dd8 := hdd
  refine gMet.of (by decide +kernel) (Nat.le_of_ble_eq_true rfl) [some (.ref a0), some (.int a1), some (.int a2)] (fun ls h => zEn_ok (n := 3) h) ?_
  intro o Gf h
  unfold f_M_isFull at h
  refine Y.blk (pc' := 2) (L' := [some (.ref a0), some (.int a1), some (.int a2)]) (st' := [.int a1, .ref a0]) (sg := [(.aload_n 0, 0), (.iload_n 1, 0)]) (lSa_ok dd0) rfl ?_
  obtain ⟨_, o2, e1, m3, h⟩ := gOb_inv h
  refine Y.callA (yC.Vi (b := a0) (As := [.int a1]) (st := []) (r := ("PartlisterModel", T_M, 9)) hV.1 cb_M_row lk_M_68 in_M_row rfl se_M_row (lIa_ok dd1) rfl rfl (Nat.le_of_ble_eq_true rfl) (by decide) e1 m3) (k_M_row hV G a0 a1) h (fun v5 G4 _ h => ?_)
  obtain ⟨_, o7, e6, m8, h⟩ := gOb_inv h
  refine Y.callI (yC.Vi (b := v5) (As := []) (st := []) (r := ("java/util/ArrayList", T_AL, 3)) hV.1 cb_AL_size lk_M_61 in_AL_size rfl se_AL_size (lIa_ok dd2) rfl rfl (Nat.le_of_ble_eq_true rfl) (by decide) e6 m8) (k_AL_size hV G4 v5) h (fun v10 G9 _ h => ?_)
  refine Y.blk (pc' := 12) (L' := [some (.ref a0), some (.int a1), some (.int a2)]) (st' := [.int (nI 31), .int (v10 + a2)]) (sg := [(.iload_n 2, 0), (.iadd, 0), (.bipush 31, nI 31)]) (lSa_ok dd3) rfl ?_
  refine Y.ic_le (off := 7) (tgt := 19) (lIa_ok dd4) (by decide) h (fun c11 h => ?_) (fun c11 h => ?_)
  · refine Y.blk (pc' := 20) (L' := [some (.ref a0), some (.int a1), some (.int a2)]) (st' := [.int (nI 0)]) (sg := [(.iconst 0, nI 0)]) (lSa_ok dd5) rfl ?_
    exact Y.zret rfl (lIa_ok dd6) h
  · refine Y.blk (pc' := 16) (L' := [some (.ref a0), some (.int a1), some (.int a2)]) (st' := [.int (nI 1)]) (sg := [(.iconst 1, nI 1)]) (lSa_ok dd7) rfl ?_
    refine Y.goto (off := 4) (tgt := 20) (lIa_ok dd8) (by decide) ?_
    exact Y.zret rfl (lIa_ok dd6) h

def f_M_isIn (G : gH) (a0 : Int32) (a1 : Int32) (a2 : Int32) : gR :=
  if a0 < a1 then rZ (nI 0) G
  else if a2 < a0 then rZ (nI 0) G
    else rZ (nI 1) G
theorem k_M_isIn {l : Launch} {D : va_G} {B : Nat} {O : State → Heap → Prop} (hV : zG l D B O) (G : gH) (a0 : Int32) (a1 : Int32) (a2 : Int32) : gMet (zVm l D B O) m_M_isIn 2 [.int a0, .int a1, .int a2] G (f_M_isIn G a0 a1 a2) := by
  have hdd : lSa m_M_isIn 0 [(.iload_n 0, 0), (.iload_n 1, 0)] = true ∧ lIa m_M_isIn 2 (.if_icmp .lt 12) 3 = true ∧ lSa m_M_isIn 14 [(.iconst 0, nI 0)] = true ∧ lIa m_M_isIn 15 (.ireturn) 1 = true ∧ lSa m_M_isIn 5 [(.iload_n 0, 0), (.iload_n 2, 0)] = true ∧ lIa m_M_isIn 7 (.if_icmp .gt 7) 3 = true ∧ lSa m_M_isIn 10 [(.iconst 1, nI 1)] = true ∧ lIa m_M_isIn 11 (.goto 4) 3 = true := by decide +kernel
  obtain ⟨dd0, dd1, dd2, dd3, dd4, dd5, dd6, dd7⟩ := hdd
  refine gMet.of (by decide +kernel) (Nat.le_of_ble_eq_true rfl) [some (.int a0), some (.int a1), some (.int a2)] (fun ls h => zEn_ok (n := 3) h) ?_
  intro o Gf h
  unfold f_M_isIn at h
  refine Y.blk (pc' := 2) (L' := [some (.int a0), some (.int a1), some (.int a2)]) (st' := [.int a1, .int a0]) (sg := [(.iload_n 0, 0), (.iload_n 1, 0)]) (lSa_ok dd0) rfl ?_
  refine Y.ic_lt (off := 12) (tgt := 14) (lIa_ok dd1) (by decide) h (fun c2 h => ?_) (fun c2 h => ?_)
  · refine Y.blk (pc' := 15) (L' := [some (.int a0), some (.int a1), some (.int a2)]) (st' := [.int (nI 0)]) (sg := [(.iconst 0, nI 0)]) (lSa_ok dd2) rfl ?_
    exact Y.zret rfl (lIa_ok dd3) h
  · refine Y.blk (pc' := 7) (L' := [some (.int a0), some (.int a1), some (.int a2)]) (st' := [.int a2, .int a0]) (sg := [(.iload_n 0, 0), (.iload_n 2, 0)]) (lSa_ok dd4) rfl ?_
    refine Y.ic_gt (off := 7) (tgt := 14) (lIa_ok dd5) (by decide) h (fun c1 h => ?_) (fun c1 h => ?_)
    · refine Y.blk (pc' := 15) (L' := [some (.int a0), some (.int a1), some (.int a2)]) (st' := [.int (nI 0)]) (sg := [(.iconst 0, nI 0)]) (lSa_ok dd2) rfl ?_
      exact Y.zret rfl (lIa_ok dd3) h
    · refine Y.blk (pc' := 11) (L' := [some (.int a0), some (.int a1), some (.int a2)]) (st' := [.int (nI 1)]) (sg := [(.iconst 1, nI 1)]) (lSa_ok dd6) rfl ?_
      refine Y.goto (off := 4) (tgt := 15) (lIa_ok dd7) (by decide) ?_
      exact Y.zret rfl (lIa_ok dd3) h

def f_M_isNoList (G : gH) (a0 : Nat) (a1 : Int32) : gR :=
  bI (f_M_isIn G a1 (nI 0) (nI 5)) fun v3 G2 => if v3 = 0 then rZ (nI 1) G2
  else if a1 < (nI 2) then rZ (nI 0) G2
    else gFA G2 a0 6 2 fun v4 => gLdq G2 v4 104 a1 (rZ (nI 1) G2) fun v5 => rZ (nI 0) G2
theorem k_M_isNoList {l : Launch} {D : va_G} {B : Nat} {O : State → Heap → Prop} (hV : zG l D B O) (G : gH) (a0 : Nat) (a1 : Int32) : gMet (zVm l D B O) m_M_isNoList 3 [.ref a0, .int a1] G (f_M_isNoList G a0 a1) := by
  have hdd : lSa m_M_isNoList 0 [(.iload_n 1, 0), (.iconst 0, nI 0), (.iconst 5, nI 5)] = true ∧ lIa m_M_isNoList 3 (.invokestatic 40) 3 = true ∧ lIa m_M_isNoList 6 (.ifCond .eq 17) 3 = true ∧ lSa m_M_isNoList 23 [(.iconst 1, nI 1)] = true ∧ lIa m_M_isNoList 24 (.goto 4) 3 = true ∧ lIa m_M_isNoList 28 (.ireturn) 1 = true ∧ lSa m_M_isNoList 9 [(.iload_n 1, 0), (.iconst 2, nI 2)] = true ∧ lIa m_M_isNoList 11 (.if_icmp .lt 16) 3 = true ∧ lSa m_M_isNoList 27 [(.iconst 0, nI 0)] = true ∧ lSa m_M_isNoList 14 [(.aload_n 0, 0)] = true ∧ lIa m_M_isNoList 15 (.getfield 18) 3 = true ∧ lSa m_M_isNoList 18 [(.iload_n 1, 0)] = true ∧ lIa m_M_isNoList 19 (.aaload) 1 = true ∧ lIa m_M_isNoList 20 (.ifnonnull 7) 3 = true := by decide +kernel
  refine lA8 hdd (fun dd0 dd1 dd2 dd3 dd4 dd5 dd6 dd7 hdd => ?_)
  obtain ⟨dd8, dd9, dd10, dd11, dd12, dd13⟩ := hdd
  refine gMet.of (by decide +kernel) (Nat.le_of_ble_eq_true rfl) [some (.ref a0), some (.int a1)] (fun ls h => zEn_ok (n := 2) h) ?_
  intro o Gf h
  unfold f_M_isNoList at h
  refine Y.blk (pc' := 3) (L' := [some (.ref a0), some (.int a1)]) (st' := [.int (nI 5), .int (nI 0), .int a1]) (sg := [(.iload_n 1, 0), (.iconst 0, nI 0), (.iconst 5, nI 5)]) (lSa_ok dd0) rfl ?_
  refine Y.callI (yC.S (As := [.int a1, .int (nI 0), .int (nI 5)]) (st := []) hV.1 cb_M_isIn lk_M_40 st_M_isIn (lIa_ok dd1) rfl rfl (Nat.le_of_ble_eq_true rfl) (by decide)) (k_M_isIn hV G a1 (nI 0) (nI 5)) h (fun v3 G2 _ h => ?_)
  refine Y.if_eq (off := 17) (tgt := 23) (lIa_ok dd2) (by decide) h (fun c7 h => ?_) (fun c7 h => ?_)
  · refine Y.blk (pc' := 24) (L' := [some (.ref a0), some (.int a1)]) (st' := [.int (nI 1)]) (sg := [(.iconst 1, nI 1)]) (lSa_ok dd3) rfl ?_
    refine Y.goto (off := 4) (tgt := 28) (lIa_ok dd4) (by decide) ?_
    exact Y.zret rfl (lIa_ok dd5) h
  · refine Y.blk (pc' := 11) (L' := [some (.ref a0), some (.int a1)]) (st' := [.int (nI 2), .int a1]) (sg := [(.iload_n 1, 0), (.iconst 2, nI 2)]) (lSa_ok dd6) rfl ?_
    refine Y.ic_lt (off := 16) (tgt := 27) (lIa_ok dd7) (by decide) h (fun c6 h => ?_) (fun c6 h => ?_)
    · refine Y.blk (pc' := 28) (L' := [some (.ref a0), some (.int a1)]) (st' := [.int (nI 0)]) (sg := [(.iconst 0, nI 0)]) (lSa_ok dd8) rfl ?_
      exact Y.zret rfl (lIa_ok dd5) h
    · refine Y.blk (pc' := 15) (L' := [some (.ref a0), some (.int a1)]) (st' := [.ref a0]) (sg := [(.aload_n 0, 0)]) (lSa_ok dd9) rfl ?_
      refine Y.getA fl_M_18 (lIa_ok dd10) h (fun v4 h => ?_)
      refine Y.blk (pc' := 19) (L' := [some (.ref a0), some (.int a1)]) (st' := [.int a1, .ref v4]) (sg := [(.iload_n 1, 0)]) (lSa_ok dd11) rfl ?_
      refine Y.aald (t0 := 4) (lIa_ok dd12) rfl h (fun h => ?_) (fun v5 h => ?_)
      · refine Y.ifnonnull_n (off := 7) (lIa_ok dd13) ?_
        refine Y.blk (pc' := 24) (L' := [some (.ref a0), some (.int a1)]) (st' := [.int (nI 1)]) (sg := [(.iconst 1, nI 1)]) (lSa_ok dd3) rfl ?_
        refine Y.goto (off := 4) (tgt := 28) (lIa_ok dd4) (by decide) ?_
        exact Y.zret rfl (lIa_ok dd5) h
      · refine Y.ifnonnull_r (off := 7) (tgt := 27) (lIa_ok dd13) (by decide) ?_
        refine Y.blk (pc' := 28) (L' := [some (.ref a0), some (.int a1)]) (st' := [.int (nI 0)]) (sg := [(.iconst 0, nI 0)]) (lSa_ok dd8) rfl ?_
        exact Y.zret rfl (lIa_ok dd5) h

def f_M_length (G : gH) (a0 : Nat) (a1 : Int32) : gR :=
  if (nI 2) ≤ a1 then gFA G a0 6 2 fun v1 => gLdq G v1 104 a1 (none) fun v2 => gFI G v2 5 2 fun v3 => rI v3 G
  else gFA G a0 6 1 fun v4 => gOb G v4 9 fun o6 => bA (f_AL_get G v4 a1) fun v9 G8 => gCaO G8 v9 9 (gOb G8 v9 9 fun o11 => bI (f_AL_size G8 v9) fun v14 G13 => rI v14 G13)
theorem k_M_length {l : Launch} {D : va_G} {B : Nat} {O : State → Heap → Prop} (hV : zG l D B O) (G : gH) (a0 : Nat) (a1 : Int32) : gMet (zVm l D B O) m_M_length 5 [.ref a0, .int a1] G (f_M_length G a0 a1) := by
  have hdd : lSa m_M_length 0 [(.iload_n 1, 0), (.iconst 2, nI 2)] = true ∧ lIa m_M_length 2 (.if_icmp .ge 20) 3 = true ∧ lSa m_M_length 22 [(.aload_n 0, 0)] = true ∧ lIa m_M_length 23 (.getfield 18) 3 = true ∧ lSa m_M_length 26 [(.iload_n 1, 0)] = true ∧ lIa m_M_length 27 (.aaload) 1 = true ∧ lIa m_M_length 28 (.getfield 65) 3 = true ∧ lIa m_M_length 31 (.ireturn) 1 = true ∧ lSa m_M_length 5 [(.aload_n 0, 0)] = true ∧ lIa m_M_length 6 (.getfield 10) 3 = true ∧ lSa m_M_length 9 [(.iload_n 1, 0)] = true ∧ lIa m_M_length 10 (.invokevirtual 57) 3 = true ∧ lIa m_M_length 13 (.checkcast 7) 3 = true ∧ lIa m_M_length 16 (.invokevirtual 61) 3 = true ∧ lIa m_M_length 19 (.goto 12) 3 = true := by decide +kernel
  refine lA8 hdd (fun dd0 dd1 dd2 dd3 dd4 dd5 dd6 dd7 hdd => ?_)
  obtain ⟨dd8, dd9, dd10, dd11, dd12, dd13, dd14⟩ := hdd
  refine gMet.of (by decide +kernel) (Nat.le_of_ble_eq_true rfl) [some (.ref a0), some (.int a1)] (fun ls h => zEn_ok (n := 2) h) ?_
  intro o Gf h
  unfold f_M_length at h
  refine Y.blk (pc' := 2) (L' := [some (.ref a0), some (.int a1)]) (st' := [.int (nI 2), .int a1]) (sg := [(.iload_n 1, 0), (.iconst 2, nI 2)]) (lSa_ok dd0) rfl ?_
  refine Y.ic_ge (off := 20) (tgt := 22) (lIa_ok dd1) (by decide) h (fun c15 h => ?_) (fun c15 h => ?_)
  · refine Y.blk (pc' := 23) (L' := [some (.ref a0), some (.int a1)]) (st' := [.ref a0]) (sg := [(.aload_n 0, 0)]) (lSa_ok dd2) rfl ?_
    refine Y.getA fl_M_18 (lIa_ok dd3) h (fun v1 h => ?_)
    refine Y.blk (pc' := 27) (L' := [some (.ref a0), some (.int a1)]) (st' := [.int a1, .ref v1]) (sg := [(.iload_n 1, 0)]) (lSa_ok dd4) rfl ?_
    refine Y.aald (t0 := 4) (lIa_ok dd5) rfl h (fun h => ?_) (fun v2 h => ?_)
    · cases h
    · refine Y.getI fl_M_65 (lIa_ok dd6) h (fun v3 h => ?_)
      exact Y.iret rfl (lIa_ok dd7) h
  · refine Y.blk (pc' := 6) (L' := [some (.ref a0), some (.int a1)]) (st' := [.ref a0]) (sg := [(.aload_n 0, 0)]) (lSa_ok dd8) rfl ?_
    refine Y.getA fl_M_10 (lIa_ok dd9) h (fun v4 h => ?_)
    refine Y.blk (pc' := 10) (L' := [some (.ref a0), some (.int a1)]) (st' := [.int a1, .ref v4]) (sg := [(.iload_n 1, 0)]) (lSa_ok dd10) rfl ?_
    obtain ⟨_, o6, e5, m7, h⟩ := gOb_inv h
    refine Y.callA (yC.Vi (b := v4) (As := [.int a1]) (st := []) (r := ("java/util/ArrayList", T_AL, 3)) hV.1 cb_AL_get lk_M_57 in_AL_get rfl se_AL_get (lIa_ok dd11) rfl rfl (Nat.le_of_ble_eq_true rfl) (by decide) e5 m7) (k_AL_get hV G v4 a1) h (fun v9 G8 _ h => ?_)
    refine Y.castO (r := ("java/util/ArrayList", T_AL, 3)) (lIa_ok dd12) rfl ck_M_7 h (fun h => ?_)
    obtain ⟨_, o11, e10, m12, h⟩ := gOb_inv h
    refine Y.callI (yC.Vi (b := v9) (As := []) (st := []) (r := ("java/util/ArrayList", T_AL, 3)) hV.1 cb_AL_size lk_M_61 in_AL_size rfl se_AL_size (lIa_ok dd13) rfl rfl (Nat.le_of_ble_eq_true rfl) (by decide) e10 m12) (k_AL_size hV G8 v9) h (fun v14 G13 _ h => ?_)
    refine Y.goto (off := 12) (tgt := 31) (lIa_ok dd14) (by decide) ?_
    exact Y.iret rfl (lIa_ok dd7) h

def f_M_make (G : gH) (a0 : Nat) (a1 : Int32) : gR :=
  gFI G a0 6 4 fun v1 => gPut G a0 6 4 (.int (v1 + (nI 1))) fun G2 => gNewA G2 100 (nI 2) fun q3 G4 => gSt G4 q3 100 (nI 0) a1 fun G5 => gFI G5 a0 6 4 fun v6 => gSt G5 q3 100 (nI 1) (v6 - (nI 1)) fun G7 => rA q3 G7
theorem k_M_make {l : Launch} {D : va_G} {B : Nat} {O : State → Heap → Prop} (hV : zG l D B O) (G : gH) (a0 : Nat) (a1 : Int32) : gMet (zVm l D B O) m_M_make 2 [.ref a0, .int a1] G (f_M_make G a0 a1) := by
  have hdd : lSa m_M_make 0 [(.aload_n 0, 0), (.dup, 0)] = true ∧ lIa m_M_make 2 (.getfield 76) 3 = true ∧ lSa m_M_make 5 [(.iconst 1, nI 1), (.iadd, 0)] = true ∧ lIa m_M_make 7 (.putfield 76) 3 = true ∧ lSa m_M_make 10 [(.iconst 2, nI 2)] = true ∧ lSa m_M_make 13 [(.dup, 0), (.iconst 0, nI 0), (.iload_n 1, 0)] = true ∧ lIa m_M_make 16 (.iastore) 1 = true ∧ lSa m_M_make 17 [(.dup, 0), (.iconst 1, nI 1), (.aload_n 0, 0)] = true ∧ lIa m_M_make 20 (.getfield 76) 3 = true ∧ lSa m_M_make 23 [(.iconst 1, nI 1), (.isub, 0)] = true ∧ lIa m_M_make 25 (.iastore) 1 = true ∧ lIa m_M_make 26 (.areturn) 1 = true := by decide +kernel
  refine lA8 hdd (fun dd0 dd1 dd2 dd3 dd4 dd5 dd6 dd7 hdd => ?_)
  obtain ⟨dd8, dd9, dd10, dd11⟩ := hdd
  refine gMet.of (by decide +kernel) (Nat.le_of_ble_eq_true rfl) [some (.ref a0), some (.int a1)] (fun ls h => zEn_ok (n := 2) h) ?_
  intro o Gf h
  unfold f_M_make at h
  refine Y.blk (pc' := 2) (L' := [some (.ref a0), some (.int a1)]) (st' := [.ref a0, .ref a0]) (sg := [(.aload_n 0, 0), (.dup, 0)]) (lSa_ok dd0) rfl ?_
  refine Y.getI fl_M_76 (lIa_ok dd1) h (fun v1 h => ?_)
  refine Y.blk (pc' := 7) (L' := [some (.ref a0), some (.int a1)]) (st' := [.int (v1 + (nI 1)), .ref a0]) (sg := [(.iconst 1, nI 1), (.iadd, 0)]) (lSa_ok dd2) rfl ?_
  refine Y.putf fl_M_76 (by decide) rfl rfl (lIa_ok dd3) h (fun G2 _ _ h => ?_)
  refine Y.blk (pc' := 11) (L' := [some (.ref a0), some (.int a1)]) (st' := [.int (nI 2)]) (sg := [(.iconst 2, nI 2)]) (lSa_ok dd4) rfl ?_
  refine Y.newa (at_ := .int) (t0 := 0) ac_i rfl (by decide) rfl (by decide) (by decide +kernel) h (fun q3 G4 h => ?_)
  refine Y.blk (pc' := 16) (L' := [some (.ref a0), some (.int a1)]) (st' := [.int a1, .int (nI 0), .ref q3, .ref q3]) (sg := [(.dup, 0), (.iconst 0, nI 0), (.iload_n 1, 0)]) (lSa_ok dd5) rfl ?_
  refine Y.iast (t0 := 0) (lIa_ok dd6) rfl (by decide) h (fun G5 _ _ h => ?_)
  refine Y.blk (pc' := 20) (L' := [some (.ref a0), some (.int a1)]) (st' := [.ref a0, .int (nI 1), .ref q3, .ref q3]) (sg := [(.dup, 0), (.iconst 1, nI 1), (.aload_n 0, 0)]) (lSa_ok dd7) rfl ?_
  refine Y.getI fl_M_76 (lIa_ok dd8) h (fun v6 h => ?_)
  refine Y.blk (pc' := 25) (L' := [some (.ref a0), some (.int a1)]) (st' := [.int (v6 - (nI 1)), .int (nI 1), .ref q3, .ref q3]) (sg := [(.iconst 1, nI 1), (.isub, 0)]) (lSa_ok dd9) rfl ?_
  refine Y.iast (t0 := 0) (lIa_ok dd10) rfl (by decide) h (fun G7 _ _ h => ?_)
  exact Y.aret rfl (by first | exact Or.inl ⟨_, rfl⟩ | exact Or.inr ⟨_, rfl⟩) (lIa_ok dd11) h

def f_M_refuse (G : gH) (a0 : Nat) (a1 : Int32) (a2 : Int32) : gR :=
  if a1 = 0 then (gFI G a0 6 0 fun v1 => if v1 ≤ 0 then rZ (nI 0) G
    else rZ (nI 1) G)
  else gFI G a0 6 0 fun v3 => if v3 = 0 then (gPut G a0 6 0 (.int a2) fun G4 => gFI G4 a0 6 0 fun v5 => if v5 ≤ 0 then rZ (nI 0) G4
      else rZ (nI 1) G4)
    else gFI G a0 6 0 fun v7 => if v7 ≤ 0 then rZ (nI 0) G
      else rZ (nI 1) G
theorem k_M_refuse {l : Launch} {D : va_G} {B : Nat} {O : State → Heap → Prop} (hV : zG l D B O) (G : gH) (a0 : Nat) (a1 : Int32) (a2 : Int32) : gMet (zVm l D B O) m_M_refuse 2 [.ref a0, .int a1, .int a2] G (f_M_refuse G a0 a1 a2) := by
  have hdd : lSa m_M_refuse 0 [(.iload_n 1, 0)] = true ∧ lIa m_M_refuse 1 (.ifCond .eq 15) 3 = true ∧ lSa m_M_refuse 16 [(.aload_n 0, 0)] = true ∧ lIa m_M_refuse 17 (.getfield 32) 3 = true ∧ lIa m_M_refuse 20 (.ifCond .le 7) 3 = true ∧ lSa m_M_refuse 27 [(.iconst 0, nI 0)] = true ∧ lIa m_M_refuse 28 (.ireturn) 1 = true ∧ lSa m_M_refuse 23 [(.iconst 1, nI 1)] = true ∧ lIa m_M_refuse 24 (.goto 4) 3 = true ∧ lSa m_M_refuse 4 [(.aload_n 0, 0)] = true ∧ lIa m_M_refuse 5 (.getfield 32) 3 = true ∧ lIa m_M_refuse 8 (.ifCond .ne 8) 3 = true ∧ lSa m_M_refuse 11 [(.aload_n 0, 0), (.iload_n 2, 0)] = true ∧ lIa m_M_refuse 13 (.putfield 32) 3 = true := by decide +kernel
  refine lA8 hdd (fun dd0 dd1 dd2 dd3 dd4 dd5 dd6 dd7 hdd => ?_)
  obtain ⟨dd8, dd9, dd10, dd11, dd12, dd13⟩ := hdd
  refine gMet.of (by decide +kernel) (Nat.le_of_ble_eq_true rfl) [some (.ref a0), some (.int a1), some (.int a2)] (fun ls h => zEn_ok (n := 3) h) ?_
  intro o Gf h
  unfold f_M_refuse at h
  refine Y.blk (pc' := 1) (L' := [some (.ref a0), some (.int a1), some (.int a2)]) (st' := [.int a1]) (sg := [(.iload_n 1, 0)]) (lSa_ok dd0) rfl ?_
  refine Y.if_eq (off := 15) (tgt := 16) (lIa_ok dd1) (by decide) h (fun c10 h => ?_) (fun c10 h => ?_)
  · refine Y.blk (pc' := 17) (L' := [some (.ref a0), some (.int a1), some (.int a2)]) (st' := [.ref a0]) (sg := [(.aload_n 0, 0)]) (lSa_ok dd2) rfl ?_
    refine Y.getI fl_M_32 (lIa_ok dd3) h (fun v1 h => ?_)
    refine Y.if_le (off := 7) (tgt := 27) (lIa_ok dd4) (by decide) h (fun c2 h => ?_) (fun c2 h => ?_)
    · refine Y.blk (pc' := 28) (L' := [some (.ref a0), some (.int a1), some (.int a2)]) (st' := [.int (nI 0)]) (sg := [(.iconst 0, nI 0)]) (lSa_ok dd5) rfl ?_
      exact Y.zret rfl (lIa_ok dd6) h
    · refine Y.blk (pc' := 24) (L' := [some (.ref a0), some (.int a1), some (.int a2)]) (st' := [.int (nI 1)]) (sg := [(.iconst 1, nI 1)]) (lSa_ok dd7) rfl ?_
      refine Y.goto (off := 4) (tgt := 28) (lIa_ok dd8) (by decide) ?_
      exact Y.zret rfl (lIa_ok dd6) h
  · refine Y.blk (pc' := 5) (L' := [some (.ref a0), some (.int a1), some (.int a2)]) (st' := [.ref a0]) (sg := [(.aload_n 0, 0)]) (lSa_ok dd9) rfl ?_
    refine Y.getI fl_M_32 (lIa_ok dd10) h (fun v3 h => ?_)
    refine Y.if_ne (off := 8) (tgt := 16) (lIa_ok dd11) (by decide) h (fun c9 h => ?_) (fun c9 h => ?_)
    · refine Y.blk (pc' := 13) (L' := [some (.ref a0), some (.int a1), some (.int a2)]) (st' := [.int a2, .ref a0]) (sg := [(.aload_n 0, 0), (.iload_n 2, 0)]) (lSa_ok dd12) rfl ?_
      refine Y.putf fl_M_32 (by decide) rfl rfl (lIa_ok dd13) h (fun G4 _ _ h => ?_)
      refine Y.blk (pc' := 17) (L' := [some (.ref a0), some (.int a1), some (.int a2)]) (st' := [.ref a0]) (sg := [(.aload_n 0, 0)]) (lSa_ok dd2) rfl ?_
      refine Y.getI fl_M_32 (lIa_ok dd3) h (fun v5 h => ?_)
      refine Y.if_le (off := 7) (tgt := 27) (lIa_ok dd4) (by decide) h (fun c6 h => ?_) (fun c6 h => ?_)
      · refine Y.blk (pc' := 28) (L' := [some (.ref a0), some (.int a1), some (.int a2)]) (st' := [.int (nI 0)]) (sg := [(.iconst 0, nI 0)]) (lSa_ok dd5) rfl ?_
        exact Y.zret rfl (lIa_ok dd6) h
      · refine Y.blk (pc' := 24) (L' := [some (.ref a0), some (.int a1), some (.int a2)]) (st' := [.int (nI 1)]) (sg := [(.iconst 1, nI 1)]) (lSa_ok dd7) rfl ?_
        refine Y.goto (off := 4) (tgt := 28) (lIa_ok dd8) (by decide) ?_
        exact Y.zret rfl (lIa_ok dd6) h
    · refine Y.blk (pc' := 17) (L' := [some (.ref a0), some (.int a1), some (.int a2)]) (st' := [.ref a0]) (sg := [(.aload_n 0, 0)]) (lSa_ok dd2) rfl ?_
      refine Y.getI fl_M_32 (lIa_ok dd3) h (fun v7 h => ?_)
      refine Y.if_le (off := 7) (tgt := 27) (lIa_ok dd4) (by decide) h (fun c8 h => ?_) (fun c8 h => ?_)
      · refine Y.blk (pc' := 28) (L' := [some (.ref a0), some (.int a1), some (.int a2)]) (st' := [.int (nI 0)]) (sg := [(.iconst 0, nI 0)]) (lSa_ok dd5) rfl ?_
        exact Y.zret rfl (lIa_ok dd6) h
      · refine Y.blk (pc' := 24) (L' := [some (.ref a0), some (.int a1), some (.int a2)]) (st' := [.int (nI 1)]) (sg := [(.iconst 1, nI 1)]) (lSa_ok dd7) rfl ?_
        refine Y.goto (off := 4) (tgt := 28) (lIa_ok dd8) (by decide) ?_
        exact Y.zret rfl (lIa_ok dd6) h

def f_M_start (G : gH) (a0 : Nat) (a1 : Int32) (a2 : Int32) : gR :=
  gPut G a0 6 0 (.int (nI 0)) fun G1 => gOb G1 a0 6 fun o3 => bI (f_M_refuse G1 a0 a1 a2) fun v6 G5 => rZ v6 G5
theorem k_M_start {l : Launch} {D : va_G} {B : Nat} {O : State → Heap → Prop} (hV : zG l D B O) (G : gH) (a0 : Nat) (a1 : Int32) (a2 : Int32) : gMet (zVm l D B O) m_M_start 3 [.ref a0, .int a1, .int a2] G (f_M_start G a0 a1 a2) := by
  have hdd : lSa m_M_start 0 [(.aload_n 0, 0), (.iconst 0, nI 0)] = true ∧ lIa m_M_start 2 (.putfield 32) 3 = true ∧ lSa m_M_start 5 [(.aload_n 0, 0), (.iload_n 1, 0), (.iload_n 2, 0)] = true ∧ lIa m_M_start 8 (.invokevirtual 36) 3 = true ∧ lIa m_M_start 11 (.ireturn) 1 = true := by decide +kernel
  obtain ⟨dd0, dd1, dd2, dd3, dd4⟩ := hdd
  refine gMet.of (by decide +kernel) (Nat.le_of_ble_eq_true rfl) [some (.ref a0), some (.int a1), some (.int a2)] (fun ls h => zEn_ok (n := 3) h) ?_
  intro o Gf h
  unfold f_M_start at h
  refine Y.blk (pc' := 2) (L' := [some (.ref a0), some (.int a1), some (.int a2)]) (st' := [.int (nI 0), .ref a0]) (sg := [(.aload_n 0, 0), (.iconst 0, nI 0)]) (lSa_ok dd0) rfl ?_
  refine Y.putf fl_M_32 (by decide) rfl rfl (lIa_ok dd1) h (fun G1 _ _ h => ?_)
  refine Y.blk (pc' := 8) (L' := [some (.ref a0), some (.int a1), some (.int a2)]) (st' := [.int a2, .int a1, .ref a0]) (sg := [(.aload_n 0, 0), (.iload_n 1, 0), (.iload_n 2, 0)]) (lSa_ok dd2) rfl ?_
  obtain ⟨_, o3, e2, m4, h⟩ := gOb_inv h
  refine Y.callI (yC.Vi (b := a0) (As := [.int a1, .int a2]) (st := []) (r := ("PartlisterModel", T_M, 9)) hV.1 cb_M_refuse lk_M_36 in_M_refuse rfl se_M_refuse (lIa_ok dd3) rfl rfl (Nat.le_of_ble_eq_true rfl) (by decide) e2 m4) (k_M_refuse hV G1 a0 a1 a2) h (fun v6 G5 _ h => ?_)
  exact Y.zret rfl (lIa_ok dd4) h

def f_M_add1 (w : Nat → Nat) (G : gH) (a0 : Nat) (a1 : Int32) (a2 : Int32) : gR :=
  gOb G a0 6 fun o2 => bI (f_M_isNoList G a0 a1) fun v5 G4 => gOb G4 a0 6 fun o7 => bI (f_M_start G4 a0 v5 (nI 1)) fun v10 G9 => if v10 = 0 then (bI (f_M_isIn G9 a2 (nI 0) (nI 30)) fun v13 G12 => if v13 = 0 then (gOb G12 a0 6 fun o15 => bI (f_M_refuse G12 a0 (nI 1) (nI 2)) fun v18 G17 => if v18 = 0 then (gOb G17 a0 6 fun o20 => bI (f_M_isFull G17 a0 a1 (nI 1)) fun v23 G22 => gOb G22 a0 6 fun o25 => bI (f_M_refuse G22 a0 v23 (nI 3)) fun v28 G27 => if v28 = 0 then gOb G27 a0 6 fun o30 => bI (f_M_length G27 a0 a1) fun v33 G32 => gOb G32 a0 6 fun o35 => bA (f_M_make G32 a0 a2) fun v38 G37 => gOb G37 a0 6 fun o40 => bV (f_M_come w G37 a0 a1 v33 v38) fun G42 => gOb G42 a0 6 fun o44 => bV (f_M_change G42 a0 a1 (nI 1) (-1)) fun G46 => gOb G46 a0 6 fun o48 => bI (f_M_length G46 a0 a1) fun v51 G50 => rI v51 G50
        else rI (nI 0) G27)
      else rI (nI 0) G17)
    else gOb G12 a0 6 fun o55 => bI (f_M_refuse G12 a0 (nI 0) (nI 2)) fun v58 G57 => if v58 = 0 then (gOb G57 a0 6 fun o60 => bI (f_M_isFull G57 a0 a1 (nI 1)) fun v63 G62 => gOb G62 a0 6 fun o65 => bI (f_M_refuse G62 a0 v63 (nI 3)) fun v68 G67 => if v68 = 0 then gOb G67 a0 6 fun o70 => bI (f_M_length G67 a0 a1) fun v73 G72 => gOb G72 a0 6 fun o75 => bA (f_M_make G72 a0 a2) fun v78 G77 => gOb G77 a0 6 fun o80 => bV (f_M_come w G77 a0 a1 v73 v78) fun G82 => gOb G82 a0 6 fun o84 => bV (f_M_change G82 a0 a1 (nI 1) (-1)) fun G86 => gOb G86 a0 6 fun o88 => bI (f_M_length G86 a0 a1) fun v91 G90 => rI v91 G90
        else rI (nI 0) G67)
      else rI (nI 0) G57)
  else rI (nI 0) G9
theorem k_M_add1 {l : Launch} {D : va_G} {B : Nat} {O : State → Heap → Prop} {w : Nat → Nat} (hV : zGw l D B O w) (G : gH) (a0 : Nat) (a1 : Int32) (a2 : Int32) : gMet (zVm l D B O) m_M_add1 14 [.ref a0, .int a1, .int a2] G (f_M_add1 w G a0 a1 a2) := by
  have hdd : lSa m_M_add1 0 [(.aload_n 0, 0), (.aload_n 0, 0), (.iload_n 1, 0)] = true ∧ lIa m_M_add1 3 (.invokevirtual 110) 3 = true ∧ lSa m_M_add1 6 [(.iconst 1, nI 1)] = true ∧ lIa m_M_add1 7 (.invokevirtual 114) 3 = true ∧ lIa m_M_add1 10 (.ifCond .ne 40) 3 = true ∧ lSa m_M_add1 13 [(.aload_n 0, 0), (.iload_n 2, 0), (.iconst 0, nI 0), (.bipush 30, nI 30)] = true ∧ lIa m_M_add1 18 (.invokestatic 40) 3 = true ∧ lIa m_M_add1 21 (.ifCond .ne 7) 3 = true ∧ lSa m_M_add1 24 [(.iconst 1, nI 1)] = true ∧ lIa m_M_add1 25 (.goto 4) 3 = true ∧ lSa m_M_add1 29 [(.iconst 2, nI 2)] = true ∧ lIa m_M_add1 30 (.invokevirtual 36) 3 = true ∧ lIa m_M_add1 33 (.ifCond .ne 17) 3 = true ∧ lSa m_M_add1 36 [(.aload_n 0, 0), (.aload_n 0, 0), (.iload_n 1, 0), (.iconst 1, nI 1)] = true ∧ lIa m_M_add1 40 (.invokevirtual 117) 3 = true ∧ lSa m_M_add1 43 [(.iconst 3, nI 3)] = true ∧ lIa m_M_add1 44 (.invokevirtual 36) 3 = true ∧ lIa m_M_add1 47 (.ifCond .eq 5) 3 = true ∧ lSa m_M_add1 52 [(.aload_n 0, 0), (.iload_n 1, 0), (.aload_n 0, 0), (.iload_n 1, 0)] = true ∧ lIa m_M_add1 56 (.invokevirtual 74) 3 = true ∧ lSa m_M_add1 59 [(.aload_n 0, 0), (.iload_n 2, 0)] = true ∧ lIa m_M_add1 61 (.invokevirtual 120) 3 = true ∧ lIa m_M_add1 64 (.invokevirtual 124) 3 = true ∧ lSa m_M_add1 67 [(.aload_n 0, 0), (.iload_n 1, 0), (.iconst 1, nI 1), (.iconst (-1), -1)] = true ∧ lIa m_M_add1 71 (.invokevirtual 128) 3 = true ∧ lSa m_M_add1 74 [(.aload_n 0, 0), (.iload_n 1, 0)] = true ∧ lIa m_M_add1 76 (.invokevirtual 74) 3 = true ∧ lIa m_M_add1 79 (.ireturn) 1 = true ∧ lSa m_M_add1 50 [(.iconst 0, nI 0)] = true ∧ lIa m_M_add1 51 (.ireturn) 1 = true ∧ lSa m_M_add1 28 [(.iconst 0, nI 0), (.iconst 2, nI 2)] = true := by decide +kernel
  refine lA8 hdd (fun dd0 dd1 dd2 dd3 dd4 dd5 dd6 dd7 hdd => ?_)
  refine lA8 hdd (fun dd8 dd9 dd10 dd11 dd12 dd13 dd14 dd15 hdd => ?_)
  refine lA8 hdd (fun dd16 dd17 dd18 dd19 dd20 dd21 dd22 dd23 hdd => ?_)
  obtain ⟨dd24, dd25, dd26, dd27, dd28, dd29, dd30⟩ := hdd
  refine gMet.of (by decide +kernel) (Nat.le_of_ble_eq_true rfl) [some (.ref a0), some (.int a1), some (.int a2)] (fun ls h => zEn_ok (n := 3) h) ?_
  intro o Gf h
  unfold f_M_add1 at h
  refine Y.blk (pc' := 3) (L' := [some (.ref a0), some (.int a1), some (.int a2)]) (st' := [.int a1, .ref a0, .ref a0]) (sg := [(.aload_n 0, 0), (.aload_n 0, 0), (.iload_n 1, 0)]) (lSa_ok dd0) rfl ?_
  obtain ⟨_, o2, e1, m3, h⟩ := gOb_inv h
  refine Y.callI (yC.Vi (b := a0) (As := [.int a1]) (st := [.ref a0]) (r := ("PartlisterModel", T_M, 9)) hV.1.1 cb_M_isNoList lk_M_110 in_M_isNoList rfl se_M_isNoList (lIa_ok dd1) rfl rfl (Nat.le_of_ble_eq_true rfl) (by decide) e1 m3) (k_M_isNoList hV.1 G a0 a1) h (fun v5 G4 _ h => ?_)
  refine Y.blk (pc' := 7) (L' := [some (.ref a0), some (.int a1), some (.int a2)]) (st' := [.int (nI 1), .int v5, .ref a0]) (sg := [(.iconst 1, nI 1)]) (lSa_ok dd2) rfl ?_
  obtain ⟨_, o7, e6, m8, h⟩ := gOb_inv h
  refine Y.callI (yC.Vi (b := a0) (As := [.int v5, .int (nI 1)]) (st := []) (r := ("PartlisterModel", T_M, 9)) hV.1.1 cb_M_start lk_M_114 in_M_start rfl se_M_start (lIa_ok dd3) rfl rfl (Nat.le_of_ble_eq_true rfl) (by decide) e6 m8) (k_M_start hV.1 G4 a0 v5 (nI 1)) h (fun v10 G9 _ h => ?_)
  refine Y.if_ne (off := 40) (tgt := 50) (lIa_ok dd4) (by decide) h (fun c95 h => ?_) (fun c95 h => ?_)
  · refine Y.blk (pc' := 18) (L' := [some (.ref a0), some (.int a1), some (.int a2)]) (st' := [.int (nI 30), .int (nI 0), .int a2, .ref a0]) (sg := [(.aload_n 0, 0), (.iload_n 2, 0), (.iconst 0, nI 0), (.bipush 30, nI 30)]) (lSa_ok dd5) rfl ?_
    refine Y.callI (yC.S (As := [.int a2, .int (nI 0), .int (nI 30)]) (st := [.ref a0]) hV.1.1 cb_M_isIn lk_M_40 st_M_isIn (lIa_ok dd6) rfl rfl (Nat.le_of_ble_eq_true rfl) (by decide)) (k_M_isIn hV.1 G9 a2 (nI 0) (nI 30)) h (fun v13 G12 _ h => ?_)
    refine Y.if_ne (off := 7) (tgt := 28) (lIa_ok dd7) (by decide) h (fun c94 h => ?_) (fun c94 h => ?_)
    · refine Y.blk (pc' := 25) (L' := [some (.ref a0), some (.int a1), some (.int a2)]) (st' := [.int (nI 1), .ref a0]) (sg := [(.iconst 1, nI 1)]) (lSa_ok dd8) rfl ?_
      refine Y.goto (off := 4) (tgt := 29) (lIa_ok dd9) (by decide) ?_
      refine Y.blk (pc' := 30) (L' := [some (.ref a0), some (.int a1), some (.int a2)]) (st' := [.int (nI 2), .int (nI 1), .ref a0]) (sg := [(.iconst 2, nI 2)]) (lSa_ok dd10) rfl ?_
      obtain ⟨_, o15, e14, m16, h⟩ := gOb_inv h
      refine Y.callI (yC.Vi (b := a0) (As := [.int (nI 1), .int (nI 2)]) (st := []) (r := ("PartlisterModel", T_M, 9)) hV.1.1 cb_M_refuse lk_M_36 in_M_refuse rfl se_M_refuse (lIa_ok dd11) rfl rfl (Nat.le_of_ble_eq_true rfl) (by decide) e14 m16) (k_M_refuse hV.1 G12 a0 (nI 1) (nI 2)) h (fun v18 G17 _ h => ?_)
      refine Y.if_ne (off := 17) (tgt := 50) (lIa_ok dd12) (by decide) h (fun c53 h => ?_) (fun c53 h => ?_)
      · refine Y.blk (pc' := 40) (L' := [some (.ref a0), some (.int a1), some (.int a2)]) (st' := [.int (nI 1), .int a1, .ref a0, .ref a0]) (sg := [(.aload_n 0, 0), (.aload_n 0, 0), (.iload_n 1, 0), (.iconst 1, nI 1)]) (lSa_ok dd13) rfl ?_
        obtain ⟨_, o20, e19, m21, h⟩ := gOb_inv h
        refine Y.callI (yC.Vi (b := a0) (As := [.int a1, .int (nI 1)]) (st := [.ref a0]) (r := ("PartlisterModel", T_M, 9)) hV.1.1 cb_M_isFull lk_M_117 in_M_isFull rfl se_M_isFull (lIa_ok dd14) rfl rfl (Nat.le_of_ble_eq_true rfl) (by decide) e19 m21) (k_M_isFull hV.1 G17 a0 a1 (nI 1)) h (fun v23 G22 _ h => ?_)
        refine Y.blk (pc' := 44) (L' := [some (.ref a0), some (.int a1), some (.int a2)]) (st' := [.int (nI 3), .int v23, .ref a0]) (sg := [(.iconst 3, nI 3)]) (lSa_ok dd15) rfl ?_
        obtain ⟨_, o25, e24, m26, h⟩ := gOb_inv h
        refine Y.callI (yC.Vi (b := a0) (As := [.int v23, .int (nI 3)]) (st := []) (r := ("PartlisterModel", T_M, 9)) hV.1.1 cb_M_refuse lk_M_36 in_M_refuse rfl se_M_refuse (lIa_ok dd16) rfl rfl (Nat.le_of_ble_eq_true rfl) (by decide) e24 m26) (k_M_refuse hV.1 G22 a0 v23 (nI 3)) h (fun v28 G27 _ h => ?_)
        refine Y.if_eq (off := 5) (tgt := 52) (lIa_ok dd17) (by decide) h (fun c52 h => ?_) (fun c52 h => ?_)
        · refine Y.blk (pc' := 56) (L' := [some (.ref a0), some (.int a1), some (.int a2)]) (st' := [.int a1, .ref a0, .int a1, .ref a0]) (sg := [(.aload_n 0, 0), (.iload_n 1, 0), (.aload_n 0, 0), (.iload_n 1, 0)]) (lSa_ok dd18) rfl ?_
          obtain ⟨_, o30, e29, m31, h⟩ := gOb_inv h
          refine Y.callI (yC.Vi (b := a0) (As := [.int a1]) (st := [.int a1, .ref a0]) (r := ("PartlisterModel", T_M, 9)) hV.1.1 cb_M_length lk_M_74 in_M_length rfl se_M_length (lIa_ok dd19) rfl rfl (Nat.le_of_ble_eq_true rfl) (by decide) e29 m31) (k_M_length hV.1 G27 a0 a1) h (fun v33 G32 _ h => ?_)
          refine Y.blk (pc' := 61) (L' := [some (.ref a0), some (.int a1), some (.int a2)]) (st' := [.int a2, .ref a0, .int v33, .int a1, .ref a0]) (sg := [(.aload_n 0, 0), (.iload_n 2, 0)]) (lSa_ok dd20) rfl ?_
          obtain ⟨_, o35, e34, m36, h⟩ := gOb_inv h
          refine Y.callA (yC.Vi (b := a0) (As := [.int a2]) (st := [.int v33, .int a1, .ref a0]) (r := ("PartlisterModel", T_M, 9)) hV.1.1 cb_M_make lk_M_120 in_M_make rfl se_M_make (lIa_ok dd21) rfl rfl (Nat.le_of_ble_eq_true rfl) (by decide) e34 m36) (k_M_make hV.1 G32 a0 a2) h (fun v38 G37 _ h => ?_)
          obtain ⟨_, o40, e39, m41, h⟩ := gOb_inv h
          refine Y.callN (yC.Vi (b := a0) (As := [.int a1, .int v33, .ref v38]) (st := []) (r := ("PartlisterModel", T_M, 9)) hV.1.1 cb_M_come lk_M_124 in_M_come rfl se_M_come (lIa_ok dd22) rfl rfl (Nat.le_of_ble_eq_true rfl) (by decide) e39 m41) (k_M_come hV G37 a0 a1 v33 v38) h (fun G42 _ h => ?_)
          refine Y.blk (pc' := 71) (L' := [some (.ref a0), some (.int a1), some (.int a2)]) (st' := [.int (-1), .int (nI 1), .int a1, .ref a0]) (sg := [(.aload_n 0, 0), (.iload_n 1, 0), (.iconst 1, nI 1), (.iconst (-1), -1)]) (lSa_ok dd23) rfl ?_
          obtain ⟨_, o44, e43, m45, h⟩ := gOb_inv h
          refine Y.callN (yC.Vi (b := a0) (As := [.int a1, .int (nI 1), .int (-1)]) (st := []) (r := ("PartlisterModel", T_M, 9)) hV.1.1 cb_M_change lk_M_128 in_M_change rfl se_M_change (lIa_ok dd24) rfl rfl (Nat.le_of_ble_eq_true rfl) (by decide) e43 m45) (k_M_change hV.1 G42 a0 a1 (nI 1) (-1)) h (fun G46 _ h => ?_)
          refine Y.blk (pc' := 76) (L' := [some (.ref a0), some (.int a1), some (.int a2)]) (st' := [.int a1, .ref a0]) (sg := [(.aload_n 0, 0), (.iload_n 1, 0)]) (lSa_ok dd25) rfl ?_
          obtain ⟨_, o48, e47, m49, h⟩ := gOb_inv h
          refine Y.callI (yC.Vi (b := a0) (As := [.int a1]) (st := []) (r := ("PartlisterModel", T_M, 9)) hV.1.1 cb_M_length lk_M_74 in_M_length rfl se_M_length (lIa_ok dd26) rfl rfl (Nat.le_of_ble_eq_true rfl) (by decide) e47 m49) (k_M_length hV.1 G46 a0 a1) h (fun v51 G50 _ h => ?_)
          exact Y.iret rfl (lIa_ok dd27) h
        · refine Y.blk (pc' := 51) (L' := [some (.ref a0), some (.int a1), some (.int a2)]) (st' := [.int (nI 0)]) (sg := [(.iconst 0, nI 0)]) (lSa_ok dd28) rfl ?_
          exact Y.iret rfl (lIa_ok dd29) h
      · refine Y.blk (pc' := 51) (L' := [some (.ref a0), some (.int a1), some (.int a2)]) (st' := [.int (nI 0)]) (sg := [(.iconst 0, nI 0)]) (lSa_ok dd28) rfl ?_
        exact Y.iret rfl (lIa_ok dd29) h
    · refine Y.blk (pc' := 30) (L' := [some (.ref a0), some (.int a1), some (.int a2)]) (st' := [.int (nI 2), .int (nI 0), .ref a0]) (sg := [(.iconst 0, nI 0), (.iconst 2, nI 2)]) (lSa_ok dd30) rfl ?_
      obtain ⟨_, o55, e54, m56, h⟩ := gOb_inv h
      refine Y.callI (yC.Vi (b := a0) (As := [.int (nI 0), .int (nI 2)]) (st := []) (r := ("PartlisterModel", T_M, 9)) hV.1.1 cb_M_refuse lk_M_36 in_M_refuse rfl se_M_refuse (lIa_ok dd11) rfl rfl (Nat.le_of_ble_eq_true rfl) (by decide) e54 m56) (k_M_refuse hV.1 G12 a0 (nI 0) (nI 2)) h (fun v58 G57 _ h => ?_)
      refine Y.if_ne (off := 17) (tgt := 50) (lIa_ok dd12) (by decide) h (fun c93 h => ?_) (fun c93 h => ?_)
      · refine Y.blk (pc' := 40) (L' := [some (.ref a0), some (.int a1), some (.int a2)]) (st' := [.int (nI 1), .int a1, .ref a0, .ref a0]) (sg := [(.aload_n 0, 0), (.aload_n 0, 0), (.iload_n 1, 0), (.iconst 1, nI 1)]) (lSa_ok dd13) rfl ?_
        obtain ⟨_, o60, e59, m61, h⟩ := gOb_inv h
        refine Y.callI (yC.Vi (b := a0) (As := [.int a1, .int (nI 1)]) (st := [.ref a0]) (r := ("PartlisterModel", T_M, 9)) hV.1.1 cb_M_isFull lk_M_117 in_M_isFull rfl se_M_isFull (lIa_ok dd14) rfl rfl (Nat.le_of_ble_eq_true rfl) (by decide) e59 m61) (k_M_isFull hV.1 G57 a0 a1 (nI 1)) h (fun v63 G62 _ h => ?_)
        refine Y.blk (pc' := 44) (L' := [some (.ref a0), some (.int a1), some (.int a2)]) (st' := [.int (nI 3), .int v63, .ref a0]) (sg := [(.iconst 3, nI 3)]) (lSa_ok dd15) rfl ?_
        obtain ⟨_, o65, e64, m66, h⟩ := gOb_inv h
        refine Y.callI (yC.Vi (b := a0) (As := [.int v63, .int (nI 3)]) (st := []) (r := ("PartlisterModel", T_M, 9)) hV.1.1 cb_M_refuse lk_M_36 in_M_refuse rfl se_M_refuse (lIa_ok dd16) rfl rfl (Nat.le_of_ble_eq_true rfl) (by decide) e64 m66) (k_M_refuse hV.1 G62 a0 v63 (nI 3)) h (fun v68 G67 _ h => ?_)
        refine Y.if_eq (off := 5) (tgt := 52) (lIa_ok dd17) (by decide) h (fun c92 h => ?_) (fun c92 h => ?_)
        · refine Y.blk (pc' := 56) (L' := [some (.ref a0), some (.int a1), some (.int a2)]) (st' := [.int a1, .ref a0, .int a1, .ref a0]) (sg := [(.aload_n 0, 0), (.iload_n 1, 0), (.aload_n 0, 0), (.iload_n 1, 0)]) (lSa_ok dd18) rfl ?_
          obtain ⟨_, o70, e69, m71, h⟩ := gOb_inv h
          refine Y.callI (yC.Vi (b := a0) (As := [.int a1]) (st := [.int a1, .ref a0]) (r := ("PartlisterModel", T_M, 9)) hV.1.1 cb_M_length lk_M_74 in_M_length rfl se_M_length (lIa_ok dd19) rfl rfl (Nat.le_of_ble_eq_true rfl) (by decide) e69 m71) (k_M_length hV.1 G67 a0 a1) h (fun v73 G72 _ h => ?_)
          refine Y.blk (pc' := 61) (L' := [some (.ref a0), some (.int a1), some (.int a2)]) (st' := [.int a2, .ref a0, .int v73, .int a1, .ref a0]) (sg := [(.aload_n 0, 0), (.iload_n 2, 0)]) (lSa_ok dd20) rfl ?_
          obtain ⟨_, o75, e74, m76, h⟩ := gOb_inv h
          refine Y.callA (yC.Vi (b := a0) (As := [.int a2]) (st := [.int v73, .int a1, .ref a0]) (r := ("PartlisterModel", T_M, 9)) hV.1.1 cb_M_make lk_M_120 in_M_make rfl se_M_make (lIa_ok dd21) rfl rfl (Nat.le_of_ble_eq_true rfl) (by decide) e74 m76) (k_M_make hV.1 G72 a0 a2) h (fun v78 G77 _ h => ?_)
          obtain ⟨_, o80, e79, m81, h⟩ := gOb_inv h
          refine Y.callN (yC.Vi (b := a0) (As := [.int a1, .int v73, .ref v78]) (st := []) (r := ("PartlisterModel", T_M, 9)) hV.1.1 cb_M_come lk_M_124 in_M_come rfl se_M_come (lIa_ok dd22) rfl rfl (Nat.le_of_ble_eq_true rfl) (by decide) e79 m81) (k_M_come hV G77 a0 a1 v73 v78) h (fun G82 _ h => ?_)
          refine Y.blk (pc' := 71) (L' := [some (.ref a0), some (.int a1), some (.int a2)]) (st' := [.int (-1), .int (nI 1), .int a1, .ref a0]) (sg := [(.aload_n 0, 0), (.iload_n 1, 0), (.iconst 1, nI 1), (.iconst (-1), -1)]) (lSa_ok dd23) rfl ?_
          obtain ⟨_, o84, e83, m85, h⟩ := gOb_inv h
          refine Y.callN (yC.Vi (b := a0) (As := [.int a1, .int (nI 1), .int (-1)]) (st := []) (r := ("PartlisterModel", T_M, 9)) hV.1.1 cb_M_change lk_M_128 in_M_change rfl se_M_change (lIa_ok dd24) rfl rfl (Nat.le_of_ble_eq_true rfl) (by decide) e83 m85) (k_M_change hV.1 G82 a0 a1 (nI 1) (-1)) h (fun G86 _ h => ?_)
          refine Y.blk (pc' := 76) (L' := [some (.ref a0), some (.int a1), some (.int a2)]) (st' := [.int a1, .ref a0]) (sg := [(.aload_n 0, 0), (.iload_n 1, 0)]) (lSa_ok dd25) rfl ?_
          obtain ⟨_, o88, e87, m89, h⟩ := gOb_inv h
          refine Y.callI (yC.Vi (b := a0) (As := [.int a1]) (st := []) (r := ("PartlisterModel", T_M, 9)) hV.1.1 cb_M_length lk_M_74 in_M_length rfl se_M_length (lIa_ok dd26) rfl rfl (Nat.le_of_ble_eq_true rfl) (by decide) e87 m89) (k_M_length hV.1 G86 a0 a1) h (fun v91 G90 _ h => ?_)
          exact Y.iret rfl (lIa_ok dd27) h
        · refine Y.blk (pc' := 51) (L' := [some (.ref a0), some (.int a1), some (.int a2)]) (st' := [.int (nI 0)]) (sg := [(.iconst 0, nI 0)]) (lSa_ok dd28) rfl ?_
          exact Y.iret rfl (lIa_ok dd29) h
      · refine Y.blk (pc' := 51) (L' := [some (.ref a0), some (.int a1), some (.int a2)]) (st' := [.int (nI 0)]) (sg := [(.iconst 0, nI 0)]) (lSa_ok dd28) rfl ?_
        exact Y.iret rfl (lIa_ok dd29) h
  · refine Y.blk (pc' := 51) (L' := [some (.ref a0), some (.int a1), some (.int a2)]) (st' := [.int (nI 0)]) (sg := [(.iconst 0, nI 0)]) (lSa_ok dd28) rfl ?_
    exact Y.iret rfl (lIa_ok dd29) h
end
section
def f_M_add2 (G : gH) (a0 : Int64) (a2 : Int64) : gR :=
  rL ((a0 * (lN 31)) + a2) G
theorem k_M_add2 {l : Launch} {D : va_G} {B : Nat} {O : State → Heap → Prop} (hV : zG l D B O) (G : gH) (a0 : Int64) (a2 : Int64) : gMet (zVm l D B O) m_M_add2 2 [.long a0, .long a2] G (f_M_add2 G a0 a2) := by
  have hdd : lSa m_M_add2 0 [(.lload_n 0, 0)] = true ∧ lIa m_M_add2 1 (.ldc2_w 303) 3 = true ∧ lSa m_M_add2 4 [(.lmul, 0), (.lload_n 2, 0), (.ladd, 0)] = true ∧ lIa m_M_add2 7 (.lreturn) 1 = true := by decide +kernel
  obtain ⟨dd0, dd1, dd2, dd3⟩ := hdd
  refine gMet.of (by decide +kernel) (Nat.le_of_ble_eq_true rfl) [some (.long a0), none, some (.long a2), none] (fun ls h => zEn_ok (n := 4) h) ?_
  intro o Gf h
  unfold f_M_add2 at h
  refine Y.blk (pc' := 1) (L' := [some (.long a0), none, some (.long a2), none]) (st' := [.long a0]) (sg := [(.lload_n 0, 0)]) (lSa_ok dd0) rfl ?_
  refine Y.ldc2 (v := lN 31) co_M_303 (lIa_ok dd1) ?_
  refine Y.blk (pc' := 7) (L' := [some (.long a0), none, some (.long a2), none]) (st' := [.long ((a0 * (lN 31)) + a2)]) (sg := [(.lmul, 0), (.lload_n 2, 0), (.ladd, 0)]) (lSa_ok dd2) rfl ?_
  exact Y.lret rfl (lIa_ok dd3) h

def f_M_at (G : gH) (a0 : Nat) (a1 : Int32) (a2 : Int32) : gR :=
  gOb G a0 6 fun o2 => bA (f_M_row G a0 a1) fun v5 G4 => gOb G4 a0 6 fun o7 => bI (f_M_base zDp G4 a0 a1) fun v10 G9 => gOb G9 v5 9 fun o12 => bA (f_AL_get G9 v5 (v10 + a2)) fun v15 G14 => gCaA G14 v15 100 (rA v15 G14)
theorem k_M_at {l : Launch} {D : va_G} {B : Nat} {O : State → Heap → Prop} (hV : zG l D B O) (G : gH) (a0 : Nat) (a1 : Int32) (a2 : Int32) : gMet (zVm l D B O) m_M_at 12 [.ref a0, .int a1, .int a2] G (f_M_at G a0 a1 a2) := by
  have hdd : lSa m_M_at 0 [(.aload_n 0, 0), (.iload_n 1, 0)] = true ∧ lIa m_M_at 2 (.invokevirtual 68) 3 = true ∧ lSa m_M_at 5 [(.aload_n 0, 0), (.iload_n 1, 0)] = true ∧ lIa m_M_at 7 (.invokevirtual 54) 3 = true ∧ lSa m_M_at 10 [(.iload_n 2, 0), (.iadd, 0)] = true ∧ lIa m_M_at 12 (.invokevirtual 57) 3 = true ∧ lIa m_M_at 15 (.checkcast 72) 3 = true ∧ lIa m_M_at 18 (.areturn) 1 = true := by decide +kernel
  obtain ⟨dd0, dd1, dd2, dd3, dd4, dd5, dd6, dd7⟩ := hdd
  refine gMet.of (by decide +kernel) (Nat.le_of_ble_eq_true rfl) [some (.ref a0), some (.int a1), some (.int a2)] (fun ls h => zEn_ok (n := 3) h) ?_
  intro o Gf h
  unfold f_M_at at h
  refine Y.blk (pc' := 2) (L' := [some (.ref a0), some (.int a1), some (.int a2)]) (st' := [.int a1, .ref a0]) (sg := [(.aload_n 0, 0), (.iload_n 1, 0)]) (lSa_ok dd0) rfl ?_
  obtain ⟨_, o2, e1, m3, h⟩ := gOb_inv h
  refine Y.callA (yC.Vi (b := a0) (As := [.int a1]) (st := []) (r := ("PartlisterModel", T_M, 9)) hV.1 cb_M_row lk_M_68 in_M_row rfl se_M_row (lIa_ok dd1) rfl rfl (Nat.le_of_ble_eq_true rfl) (by decide) e1 m3) (k_M_row hV G a0 a1) h (fun v5 G4 _ h => ?_)
  refine Y.blk (pc' := 7) (L' := [some (.ref a0), some (.int a1), some (.int a2)]) (st' := [.int a1, .ref a0, .ref v5]) (sg := [(.aload_n 0, 0), (.iload_n 1, 0)]) (lSa_ok dd2) rfl ?_
  obtain ⟨_, o7, e6, m8, h⟩ := gOb_inv h
  refine Y.callI (yC.Vi (b := a0) (As := [.int a1]) (st := [.ref v5]) (r := ("PartlisterModel", T_M, 9)) hV.1 cb_M_base lk_M_54 in_M_base rfl se_M_base (lIa_ok dd3) rfl rfl (Nat.le_of_ble_eq_true rfl) (by decide) e6 m8) (k_M_base zDp hV G4 a0 a1) h (fun v10 G9 _ h => ?_)
  refine Y.blk (pc' := 12) (L' := [some (.ref a0), some (.int a1), some (.int a2)]) (st' := [.int (v10 + a2), .ref v5]) (sg := [(.iload_n 2, 0), (.iadd, 0)]) (lSa_ok dd4) rfl ?_
  obtain ⟨_, o12, e11, m13, h⟩ := gOb_inv h
  refine Y.callA (yC.Vi (b := v5) (As := [.int (v10 + a2)]) (st := []) (r := ("java/util/ArrayList", T_AL, 3)) hV.1 cb_AL_get lk_M_57 in_AL_get rfl se_AL_get (lIa_ok dd5) rfl rfl (Nat.le_of_ble_eq_true rfl) (by decide) e11 m13) (k_AL_get hV G9 v5 (v10 + a2)) h (fun v15 G14 _ h => ?_)
  refine Y.castA (t0 := 0) (nm := "[I") (lIa_ok dd6) rfl (by decide) ck_M_72 h (fun h => ?_)
  exact Y.aret rfl (by first | exact Or.inl ⟨_, rfl⟩ | exact Or.inr ⟨_, rfl⟩) (lIa_ok dd7) h

def f_M_copy_L10 (w : Nat → Nat) (K36 : gH → Nat → gR) : Nat → gH → Nat → Int32 → Nat → Int32 → gR
  | 0, _, _, _, _, _ => none
  | n + 1, G, x0, x1, x2, x3 =>
    gOb G x0 6 fun o6 => bI (f_M_length G x0 x1) fun v9 G8 => if v9 ≤ x3 then K36 G8 x2
    else gOb G8 x0 6 fun o11 => bA (f_M_at G8 x0 x1 x3) fun v14 G13 => gOb G13 x2 9 fun o16 => bI (f_AL_add2 w G13 x2 v14) fun v19 G18 => f_M_copy_L10 w K36 n G18 x0 x1 x2 (x3 + (nI 1))
def f_M_copy (w : Nat → Nat) (G : gH) (a0 : Nat) (a1 : Int32) : gR :=
  gNewO G 9 3 [.null, .int 0, .int 0] fun q1 G2 => bV (f_AL_init w G2 q1) fun G4 => f_M_copy_L10 w (fun G22 x21 => rA x21 G22) zFu G4 a0 a1 q1 (nI 0)
theorem k_M_copy_L10 {l : Launch} {D : va_G} {B : Nat} {O : State → Heap → Prop} {w : Nat → Nat} (hV : zGw l D B O w) {o : gO} {Gf : gH} (K36 : gH → Nat → gR) (hK36 : ∀ (G : gH) (x2 : Nat), K36 G x2 = some (o, Gf) → Y (zVm l D B O) m_M_copy 13 o Gf 36 [none, none, some (.ref x2), none] [] G) : ∀ (n : Nat) (G : gH) (x0 : Nat) (x1 : Int32) (x2 : Nat) (x3 : Int32), f_M_copy_L10 w K36 n G x0 x1 x2 x3 = some (o, Gf) → Y (zVm l D B O) m_M_copy 13 o Gf 10 [some (.ref x0), some (.int x1), some (.ref x2), some (.int x3)] [] G := by
  have hdd : lSa m_M_copy 10 [(.iload_n 3, 0), (.aload_n 0, 0), (.iload_n 1, 0)] = true ∧ lIa m_M_copy 13 (.invokevirtual 74) 3 = true ∧ lIa m_M_copy 16 (.if_icmp .ge 20) 3 = true ∧ lSa m_M_copy 19 [(.aload_n 2, 0), (.aload_n 0, 0), (.iload_n 1, 0), (.iload_n 3, 0)] = true ∧ lIa m_M_copy 23 (.invokevirtual 132) 3 = true ∧ lIa m_M_copy 26 (.invokevirtual 28) 3 = true ∧ lSa m_M_copy 29 [(.pop, 0), (.iinc 3 1, nI 1)] = true ∧ lIa m_M_copy 33 (.goto (-23)) 3 = true := by decide +kernel
  obtain ⟨dd0, dd1, dd2, dd3, dd4, dd5, dd6, dd7⟩ := hdd
  intro n
  induction n with
  | zero => intro G x0 x1 x2 x3 h; cases h
  | succ n ih =>
    intro G x0 x1 x2 x3 h
    unfold f_M_copy_L10 at h
    refine Y.blk (pc' := 13) (L' := [some (.ref x0), some (.int x1), some (.ref x2), some (.int x3)]) (st' := [.int x1, .ref x0, .int x3]) (sg := [(.iload_n 3, 0), (.aload_n 0, 0), (.iload_n 1, 0)]) (lSa_ok dd0) rfl ?_
    obtain ⟨_, o6, e5, m7, h⟩ := gOb_inv h
    refine Y.callI (yC.Vi (b := x0) (As := [.int x1]) (st := [.int x3]) (r := ("PartlisterModel", T_M, 9)) hV.1.1 cb_M_length lk_M_74 in_M_length rfl se_M_length (lIa_ok dd1) rfl rfl (Nat.le_of_ble_eq_true rfl) (by decide) e5 m7) (k_M_length hV.1 G x0 x1) h (fun v9 G8 _ h => ?_)
    refine Y.ic_ge (off := 20) (tgt := 36) (lIa_ok dd2) (by decide) h (fun c20 h => ?_) (fun c20 h => ?_)
    · refine Y.less (L' := [none, none, some (.ref x2), none]) (zLe_none (zLe_none (zLe_some (zLe_none (zLe_nil))))) ?_
      exact hK36 G8 x2 h
    · refine Y.blk (pc' := 23) (L' := [some (.ref x0), some (.int x1), some (.ref x2), some (.int x3)]) (st' := [.int x3, .int x1, .ref x0, .ref x2]) (sg := [(.aload_n 2, 0), (.aload_n 0, 0), (.iload_n 1, 0), (.iload_n 3, 0)]) (lSa_ok dd3) rfl ?_
      obtain ⟨_, o11, e10, m12, h⟩ := gOb_inv h
      refine Y.callA (yC.Vi (b := x0) (As := [.int x1, .int x3]) (st := [.ref x2]) (r := ("PartlisterModel", T_M, 9)) hV.1.1 cb_M_at lk_M_132 in_M_at rfl se_M_at (lIa_ok dd4) rfl rfl (Nat.le_of_ble_eq_true rfl) (by decide) e10 m12) (k_M_at hV.1 G8 x0 x1 x3) h (fun v14 G13 _ h => ?_)
      obtain ⟨_, o16, e15, m17, h⟩ := gOb_inv h
      refine Y.callI (yC.Vi (b := x2) (As := [.ref v14]) (st := []) (r := ("java/util/ArrayList", T_AL, 3)) hV.1.1 cb_AL_add2 lk_M_28 in_AL_add2 rfl se_AL_add2 (lIa_ok dd5) rfl rfl (Nat.le_of_ble_eq_true rfl) (by decide) e15 m17) (k_AL_add2 hV G13 x2 v14) h (fun v19 G18 _ h => ?_)
      refine Y.blk (pc' := 33) (L' := [some (.ref x0), some (.int x1), some (.ref x2), some (.int (x3 + (nI 1)))]) (st' := []) (sg := [(.pop, 0), (.iinc 3 1, nI 1)]) (lSa_ok dd6) rfl ?_
      refine Y.goto (off := -23) (tgt := 10) (lIa_ok dd7) (by decide) ?_
      exact ih G18 x0 x1 x2 (x3 + (nI 1)) h
theorem k_M_copy {l : Launch} {D : va_G} {B : Nat} {O : State → Heap → Prop} {w : Nat → Nat} (hV : zGw l D B O w) (G : gH) (a0 : Nat) (a1 : Int32) : gMet (zVm l D B O) m_M_copy 13 [.ref a0, .int a1] G (f_M_copy w G a0 a1) := by
  have hdd : lIa m_M_copy 0 (.new 7) 3 = true ∧ lSa m_M_copy 3 [(.dup, 0)] = true ∧ lIa m_M_copy 4 (.invokespecial 9) 3 = true ∧ lSa m_M_copy 7 [(.astore_n 2, 0), (.iconst 0, nI 0), (.istore_n 3, 0)] = true ∧ lSa m_M_copy 36 [(.aload_n 2, 0)] = true ∧ lIa m_M_copy 37 (.areturn) 1 = true := by decide +kernel
  obtain ⟨dd0, dd1, dd2, dd3, dd4, dd5⟩ := hdd
  refine gMet.of (by decide +kernel) (Nat.le_of_ble_eq_true rfl) [some (.ref a0), some (.int a1), none, none] (fun ls h => zEn_ok (n := 4) h) ?_
  intro o Gf h
  unfold f_M_copy at h
  refine Y.new nc_M_7 (by decide) bk_AL (lIa_ok dd0) h (fun q1 G2 h => ?_)
  refine Y.blk (pc' := 4) (L' := [some (.ref a0), some (.int a1), none, none]) (st' := [.ref q1, .ref q1]) (sg := [(.dup, 0)]) (lSa_ok dd1) rfl ?_
  refine Y.callN (yC.I (b := q1) (As := []) (st := [.ref q1]) hV.1.1 cb_AL_init lk_M_9 in_AL_init rfl rfl (lIa_ok dd2) rfl rfl (Nat.le_of_ble_eq_true rfl) (by decide)) (k_AL_init hV G2 q1) h (fun G4 _ h => ?_)
  refine Y.blk (pc' := 10) (L' := [some (.ref a0), some (.int a1), some (.ref q1), some (.int (nI 0))]) (st' := []) (sg := [(.astore_n 2, 0), (.iconst 0, nI 0), (.istore_n 3, 0)]) (lSa_ok dd3) rfl ?_
  refine k_M_copy_L10 hV _ ?_  zFu G4 a0 a1 q1 (nI 0) h
  · intro G22 x21 h
    refine Y.blk (pc' := 37) (L' := [none, none, some (.ref x21), none]) (st' := [.ref x21]) (sg := [(.aload_n 2, 0)]) (lSa_ok dd4) rfl ?_
    exact Y.aret rfl (by first | exact Or.inl ⟨_, rfl⟩ | exact Or.inr ⟨_, rfl⟩) (lIa_ok dd5) h

def f_M_bring_L10 (w : Nat → Nat) (K45 : gH → Nat → Int32 → Nat → gR) : Nat → gH → Nat → Int32 → Int32 → Nat → Int32 → gR
  | 0, _, _, _, _, _, _ => none
  | n + 1, G, x0, x1, x2, x4, x5 =>
    gOb G x4 9 fun o7 => bI (f_AL_size G x4) fun v10 G9 => if v10 ≤ x5 then K45 G9 x0 x1 x4
    else gOb G9 x4 9 fun o12 => bA (f_AL_get G9 x4 x5) fun v15 G14 => gCaA G14 v15 100 (gOb G14 x0 6 fun o17 => bV (f_M_come w G14 x0 x1 (x2 + x5) v15) fun G19 => f_M_bring_L10 w K45 n G19 x0 x1 x2 x4 (x5 + (nI 1)))
def f_M_bring (w : Nat → Nat) (G : gH) (a0 : Nat) (a1 : Int32) (a2 : Int32) (a3 : Int32) : gR :=
  gOb G a0 6 fun o2 => bA (f_M_copy w G a0 a3) fun v5 G4 => f_M_bring_L10 w (fun G24 x21 x22 x23 => gOb G24 x23 9 fun o26 => bI (f_AL_size G24 x23) fun v29 G28 => gOb G28 x21 6 fun o31 => bV (f_M_change G28 x21 x22 v29 (-1)) fun G33 => gOb G33 x23 9 fun o35 => bI (f_AL_size G33 x23) fun v38 G37 => rI v38 G37) zFu G4 a0 a1 a2 v5 (nI 0)
theorem k_M_bring_L10 {l : Launch} {D : va_G} {B : Nat} {O : State → Heap → Prop} {w : Nat → Nat} (hV : zGw l D B O w) {o : gO} {Gf : gH} (K45 : gH → Nat → Int32 → Nat → gR) (hK45 : ∀ (G : gH) (x0 : Nat) (x1 : Int32) (x4 : Nat), K45 G x0 x1 x4 = some (o, Gf) → Y (zVm l D B O) m_M_bring 14 o Gf 45 [some (.ref x0), some (.int x1), none, none, some (.ref x4), none] [] G) : ∀ (n : Nat) (G : gH) (x0 : Nat) (x1 : Int32) (x2 : Int32) (x4 : Nat) (x5 : Int32), f_M_bring_L10 w K45 n G x0 x1 x2 x4 x5 = some (o, Gf) → Y (zVm l D B O) m_M_bring 14 o Gf 10 [some (.ref x0), some (.int x1), some (.int x2), none, some (.ref x4), some (.int x5)] [] G := by
  have hdd : lSa m_M_bring 10 [(.iload 5, 0), (.aload 4, 0)] = true ∧ lIa m_M_bring 14 (.invokevirtual 61) 3 = true ∧ lIa m_M_bring 17 (.if_icmp .ge 28) 3 = true ∧ lSa m_M_bring 20 [(.aload_n 0, 0), (.iload_n 1, 0), (.iload_n 2, 0), (.iload 5, 0), (.iadd, 0), (.aload 4, 0), (.iload 5, 0)] = true ∧ lIa m_M_bring 30 (.invokevirtual 57) 3 = true ∧ lIa m_M_bring 33 (.checkcast 72) 3 = true ∧ lIa m_M_bring 36 (.invokevirtual 124) 3 = true ∧ lSa m_M_bring 39 [(.iinc 5 1, nI 1)] = true ∧ lIa m_M_bring 42 (.goto (-32)) 3 = true := by decide +kernel
  refine lA8 hdd (fun dd0 dd1 dd2 dd3 dd4 dd5 dd6 dd7 hdd => ?_)
  have dd8 := hdd
  intro n
  induction n with
  | zero => intro G x0 x1 x2 x4 x5 h; cases h
  | succ n ih =>
    intro G x0 x1 x2 x4 x5 h
    unfold f_M_bring_L10 at h
    refine Y.blk (pc' := 14) (L' := [some (.ref x0), some (.int x1), some (.int x2), none, some (.ref x4), some (.int x5)]) (st' := [.ref x4, .int x5]) (sg := [(.iload 5, 0), (.aload 4, 0)]) (lSa_ok dd0) rfl ?_
    obtain ⟨_, o7, e6, m8, h⟩ := gOb_inv h
    refine Y.callI (yC.Vi (b := x4) (As := []) (st := [.int x5]) (r := ("java/util/ArrayList", T_AL, 3)) hV.1.1 cb_AL_size lk_M_61 in_AL_size rfl se_AL_size (lIa_ok dd1) rfl rfl (Nat.le_of_ble_eq_true rfl) (by decide) e6 m8) (k_AL_size hV.1 G x4) h (fun v10 G9 _ h => ?_)
    refine Y.ic_ge (off := 28) (tgt := 45) (lIa_ok dd2) (by decide) h (fun c20 h => ?_) (fun c20 h => ?_)
    · refine Y.less (L' := [some (.ref x0), some (.int x1), none, none, some (.ref x4), none]) (zLe_some (zLe_some (zLe_none (zLe_some (zLe_some (zLe_none (zLe_nil))))))) ?_
      exact hK45 G9 x0 x1 x4 h
    · refine Y.blk (pc' := 30) (L' := [some (.ref x0), some (.int x1), some (.int x2), none, some (.ref x4), some (.int x5)]) (st' := [.int x5, .ref x4, .int (x2 + x5), .int x1, .ref x0]) (sg := [(.aload_n 0, 0), (.iload_n 1, 0), (.iload_n 2, 0), (.iload 5, 0), (.iadd, 0), (.aload 4, 0), (.iload 5, 0)]) (lSa_ok dd3) rfl ?_
      obtain ⟨_, o12, e11, m13, h⟩ := gOb_inv h
      refine Y.callA (yC.Vi (b := x4) (As := [.int x5]) (st := [.int (x2 + x5), .int x1, .ref x0]) (r := ("java/util/ArrayList", T_AL, 3)) hV.1.1 cb_AL_get lk_M_57 in_AL_get rfl se_AL_get (lIa_ok dd4) rfl rfl (Nat.le_of_ble_eq_true rfl) (by decide) e11 m13) (k_AL_get hV.1 G9 x4 x5) h (fun v15 G14 _ h => ?_)
      refine Y.castA (t0 := 0) (nm := "[I") (lIa_ok dd5) rfl (by decide) ck_M_72 h (fun h => ?_)
      obtain ⟨_, o17, e16, m18, h⟩ := gOb_inv h
      refine Y.callN (yC.Vi (b := x0) (As := [.int x1, .int (x2 + x5), .ref v15]) (st := []) (r := ("PartlisterModel", T_M, 9)) hV.1.1 cb_M_come lk_M_124 in_M_come rfl se_M_come (lIa_ok dd6) rfl rfl (Nat.le_of_ble_eq_true rfl) (by decide) e16 m18) (k_M_come hV G14 x0 x1 (x2 + x5) v15) h (fun G19 _ h => ?_)
      refine Y.blk (pc' := 42) (L' := [some (.ref x0), some (.int x1), some (.int x2), none, some (.ref x4), some (.int (x5 + (nI 1)))]) (st' := []) (sg := [(.iinc 5 1, nI 1)]) (lSa_ok dd7) rfl ?_
      refine Y.goto (off := -32) (tgt := 10) (lIa_ok dd8) (by decide) ?_
      exact ih G19 x0 x1 x2 x4 (x5 + (nI 1)) h
theorem k_M_bring {l : Launch} {D : va_G} {B : Nat} {O : State → Heap → Prop} {w : Nat → Nat} (hV : zGw l D B O w) (G : gH) (a0 : Nat) (a1 : Int32) (a2 : Int32) (a3 : Int32) : gMet (zVm l D B O) m_M_bring 14 [.ref a0, .int a1, .int a2, .int a3] G (f_M_bring w G a0 a1 a2 a3) := by
  have hdd : lSa m_M_bring 0 [(.aload_n 0, 0), (.iload_n 3, 0)] = true ∧ lIa m_M_bring 2 (.invokevirtual 136) 3 = true ∧ lSa m_M_bring 5 [(.astore 4, 0), (.iconst 0, nI 0), (.istore 5, 0)] = true ∧ lSa m_M_bring 45 [(.aload_n 0, 0), (.iload_n 1, 0), (.aload 4, 0)] = true ∧ lIa m_M_bring 49 (.invokevirtual 61) 3 = true ∧ lSa m_M_bring 52 [(.iconst (-1), -1)] = true ∧ lIa m_M_bring 53 (.invokevirtual 128) 3 = true ∧ lSa m_M_bring 56 [(.aload 4, 0)] = true ∧ lIa m_M_bring 58 (.invokevirtual 61) 3 = true ∧ lIa m_M_bring 61 (.ireturn) 1 = true := by decide +kernel
  refine lA8 hdd (fun dd0 dd1 dd2 dd3 dd4 dd5 dd6 dd7 hdd => ?_)
  obtain ⟨dd8, dd9⟩ := hdd
  refine gMet.of (by decide +kernel) (Nat.le_of_ble_eq_true rfl) [some (.ref a0), some (.int a1), some (.int a2), some (.int a3), none, none] (fun ls h => zEn_ok (n := 6) h) ?_
  intro o Gf h
  unfold f_M_bring at h
  refine Y.blk (pc' := 2) (L' := [some (.ref a0), some (.int a1), some (.int a2), some (.int a3), none, none]) (st' := [.int a3, .ref a0]) (sg := [(.aload_n 0, 0), (.iload_n 3, 0)]) (lSa_ok dd0) rfl ?_
  obtain ⟨_, o2, e1, m3, h⟩ := gOb_inv h
  refine Y.callA (yC.Vi (b := a0) (As := [.int a3]) (st := []) (r := ("PartlisterModel", T_M, 9)) hV.1.1 cb_M_copy lk_M_136 in_M_copy rfl se_M_copy (lIa_ok dd1) rfl rfl (Nat.le_of_ble_eq_true rfl) (by decide) e1 m3) (k_M_copy hV G a0 a3) h (fun v5 G4 _ h => ?_)
  refine Y.blk (pc' := 10) (L' := [some (.ref a0), some (.int a1), some (.int a2), some (.int a3), some (.ref v5), some (.int (nI 0))]) (st' := []) (sg := [(.astore 4, 0), (.iconst 0, nI 0), (.istore 5, 0)]) (lSa_ok dd2) rfl ?_
  refine Y.less (L' := [some (.ref a0), some (.int a1), some (.int a2), none, some (.ref v5), some (.int (nI 0))]) (zLe_some (zLe_some (zLe_some (zLe_none (zLe_some (zLe_some (zLe_nil))))))) ?_
  refine k_M_bring_L10 hV _ ?_  zFu G4 a0 a1 a2 v5 (nI 0) h
  · intro G24 x21 x22 x23 h
    refine Y.blk (pc' := 49) (L' := [some (.ref x21), some (.int x22), none, none, some (.ref x23), none]) (st' := [.ref x23, .int x22, .ref x21]) (sg := [(.aload_n 0, 0), (.iload_n 1, 0), (.aload 4, 0)]) (lSa_ok dd3) rfl ?_
    obtain ⟨_, o26, e25, m27, h⟩ := gOb_inv h
    refine Y.callI (yC.Vi (b := x23) (As := []) (st := [.int x22, .ref x21]) (r := ("java/util/ArrayList", T_AL, 3)) hV.1.1 cb_AL_size lk_M_61 in_AL_size rfl se_AL_size (lIa_ok dd4) rfl rfl (Nat.le_of_ble_eq_true rfl) (by decide) e25 m27) (k_AL_size hV.1 G24 x23) h (fun v29 G28 _ h => ?_)
    refine Y.blk (pc' := 53) (L' := [some (.ref x21), some (.int x22), none, none, some (.ref x23), none]) (st' := [.int (-1), .int v29, .int x22, .ref x21]) (sg := [(.iconst (-1), -1)]) (lSa_ok dd5) rfl ?_
    obtain ⟨_, o31, e30, m32, h⟩ := gOb_inv h
    refine Y.callN (yC.Vi (b := x21) (As := [.int x22, .int v29, .int (-1)]) (st := []) (r := ("PartlisterModel", T_M, 9)) hV.1.1 cb_M_change lk_M_128 in_M_change rfl se_M_change (lIa_ok dd6) rfl rfl (Nat.le_of_ble_eq_true rfl) (by decide) e30 m32) (k_M_change hV.1 G28 x21 x22 v29 (-1)) h (fun G33 _ h => ?_)
    refine Y.blk (pc' := 58) (L' := [some (.ref x21), some (.int x22), none, none, some (.ref x23), none]) (st' := [.ref x23]) (sg := [(.aload 4, 0)]) (lSa_ok dd7) rfl ?_
    obtain ⟨_, o35, e34, m36, h⟩ := gOb_inv h
    refine Y.callI (yC.Vi (b := x23) (As := []) (st := []) (r := ("java/util/ArrayList", T_AL, 3)) hV.1.1 cb_AL_size lk_M_61 in_AL_size rfl se_AL_size (lIa_ok dd8) rfl rfl (Nat.le_of_ble_eq_true rfl) (by decide) e34 m36) (k_AL_size hV.1 G33 x23) h (fun v38 G37 _ h => ?_)
    exact Y.iret rfl (lIa_ok dd9) h

def f_M_addAll (w : Nat → Nat) (G : gH) (a0 : Nat) (a1 : Int32) (a2 : Int32) (a3 : Int32) : gR :=
  gOb G a0 6 fun o2 => bI (f_M_isNoList G a0 a1) fun v5 G4 => if v5 = 0 then (gOb G4 a0 6 fun o7 => bI (f_M_isNoList G4 a0 a3) fun v10 G9 => if v10 = 0 then (gOb G9 a0 6 fun o12 => bI (f_M_start G9 a0 (nI 0) (nI 1)) fun v15 G14 => if v15 = 0 then (gOb G14 a0 6 fun o17 => bI (f_M_length G14 a0 a1) fun v20 G19 => bI (f_M_isIn G19 a2 (nI 0) v20) fun v23 G22 => if v23 = 0 then (gOb G22 a0 6 fun o25 => bI (f_M_refuse G22 a0 (nI 1) (nI 1)) fun v28 G27 => if v28 = 0 then (gOb G27 a0 6 fun o30 => bI (f_M_rowOf zDp G27 a0 a1) fun v33 G32 => gOb G32 a0 6 fun o35 => bI (f_M_rowOf zDp G32 a0 a3) fun v38 G37 => if v33 = v38 then (gOb G37 a0 6 fun o40 => bI (f_M_refuse G37 a0 (nI 1) (nI 2)) fun v43 G42 => if v43 = 0 then gOb G42 a0 6 fun o45 => bI (f_M_bring w G42 a0 a1 a2 a3) fun v48 G47 => rI v48 G47
              else rI (nI 0) G42)
            else gOb G37 a0 6 fun o51 => bI (f_M_length G37 a0 a3) fun v54 G53 => gOb G53 a0 6 fun o56 => bI (f_M_isFull G53 a0 a1 v54) fun v59 G58 => if v59 = 0 then (gOb G58 a0 6 fun o61 => bI (f_M_refuse G58 a0 (nI 0) (nI 2)) fun v64 G63 => if v64 = 0 then gOb G63 a0 6 fun o66 => bI (f_M_bring w G63 a0 a1 a2 a3) fun v69 G68 => rI v69 G68
                else rI (nI 0) G63)
              else gOb G58 a0 6 fun o72 => bI (f_M_refuse G58 a0 (nI 1) (nI 2)) fun v75 G74 => if v75 = 0 then gOb G74 a0 6 fun o77 => bI (f_M_bring w G74 a0 a1 a2 a3) fun v80 G79 => rI v80 G79
                else rI (nI 0) G74)
          else rI (nI 0) G27)
        else gOb G22 a0 6 fun o86 => bI (f_M_refuse G22 a0 (nI 0) (nI 1)) fun v89 G88 => if v89 = 0 then (gOb G88 a0 6 fun o91 => bI (f_M_rowOf zDp G88 a0 a1) fun v94 G93 => gOb G93 a0 6 fun o96 => bI (f_M_rowOf zDp G93 a0 a3) fun v99 G98 => if v94 = v99 then (gOb G98 a0 6 fun o101 => bI (f_M_refuse G98 a0 (nI 1) (nI 2)) fun v104 G103 => if v104 = 0 then gOb G103 a0 6 fun o106 => bI (f_M_bring w G103 a0 a1 a2 a3) fun v109 G108 => rI v109 G108
              else rI (nI 0) G103)
            else gOb G98 a0 6 fun o112 => bI (f_M_length G98 a0 a3) fun v115 G114 => gOb G114 a0 6 fun o117 => bI (f_M_isFull G114 a0 a1 v115) fun v120 G119 => if v120 = 0 then (gOb G119 a0 6 fun o122 => bI (f_M_refuse G119 a0 (nI 0) (nI 2)) fun v125 G124 => if v125 = 0 then gOb G124 a0 6 fun o127 => bI (f_M_bring w G124 a0 a1 a2 a3) fun v130 G129 => rI v130 G129
                else rI (nI 0) G124)
              else gOb G119 a0 6 fun o133 => bI (f_M_refuse G119 a0 (nI 1) (nI 2)) fun v136 G135 => if v136 = 0 then gOb G135 a0 6 fun o138 => bI (f_M_bring w G135 a0 a1 a2 a3) fun v141 G140 => rI v141 G140
                else rI (nI 0) G135)
          else rI (nI 0) G88)
      else rI (nI 0) G14)
    else gOb G9 a0 6 fun o149 => bI (f_M_start G9 a0 (nI 1) (nI 1)) fun v152 G151 => if v152 = 0 then (gOb G151 a0 6 fun o154 => bI (f_M_length G151 a0 a1) fun v157 G156 => bI (f_M_isIn G156 a2 (nI 0) v157) fun v160 G159 => if v160 = 0 then (gOb G159 a0 6 fun o162 => bI (f_M_refuse G159 a0 (nI 1) (nI 1)) fun v165 G164 => if v165 = 0 then (gOb G164 a0 6 fun o167 => bI (f_M_rowOf zDp G164 a0 a1) fun v170 G169 => gOb G169 a0 6 fun o172 => bI (f_M_rowOf zDp G169 a0 a3) fun v175 G174 => if v170 = v175 then (gOb G174 a0 6 fun o177 => bI (f_M_refuse G174 a0 (nI 1) (nI 2)) fun v180 G179 => if v180 = 0 then gOb G179 a0 6 fun o182 => bI (f_M_bring w G179 a0 a1 a2 a3) fun v185 G184 => rI v185 G184
              else rI (nI 0) G179)
            else gOb G174 a0 6 fun o188 => bI (f_M_length G174 a0 a3) fun v191 G190 => gOb G190 a0 6 fun o193 => bI (f_M_isFull G190 a0 a1 v191) fun v196 G195 => if v196 = 0 then (gOb G195 a0 6 fun o198 => bI (f_M_refuse G195 a0 (nI 0) (nI 2)) fun v201 G200 => if v201 = 0 then gOb G200 a0 6 fun o203 => bI (f_M_bring w G200 a0 a1 a2 a3) fun v206 G205 => rI v206 G205
                else rI (nI 0) G200)
              else gOb G195 a0 6 fun o209 => bI (f_M_refuse G195 a0 (nI 1) (nI 2)) fun v212 G211 => if v212 = 0 then gOb G211 a0 6 fun o214 => bI (f_M_bring w G211 a0 a1 a2 a3) fun v217 G216 => rI v217 G216
                else rI (nI 0) G211)
          else rI (nI 0) G164)
        else gOb G159 a0 6 fun o223 => bI (f_M_refuse G159 a0 (nI 0) (nI 1)) fun v226 G225 => if v226 = 0 then (gOb G225 a0 6 fun o228 => bI (f_M_rowOf zDp G225 a0 a1) fun v231 G230 => gOb G230 a0 6 fun o233 => bI (f_M_rowOf zDp G230 a0 a3) fun v236 G235 => if v231 = v236 then (gOb G235 a0 6 fun o238 => bI (f_M_refuse G235 a0 (nI 1) (nI 2)) fun v241 G240 => if v241 = 0 then gOb G240 a0 6 fun o243 => bI (f_M_bring w G240 a0 a1 a2 a3) fun v246 G245 => rI v246 G245
              else rI (nI 0) G240)
            else gOb G235 a0 6 fun o249 => bI (f_M_length G235 a0 a3) fun v252 G251 => gOb G251 a0 6 fun o254 => bI (f_M_isFull G251 a0 a1 v252) fun v257 G256 => if v257 = 0 then (gOb G256 a0 6 fun o259 => bI (f_M_refuse G256 a0 (nI 0) (nI 2)) fun v262 G261 => if v262 = 0 then gOb G261 a0 6 fun o264 => bI (f_M_bring w G261 a0 a1 a2 a3) fun v267 G266 => rI v267 G266
                else rI (nI 0) G261)
              else gOb G256 a0 6 fun o270 => bI (f_M_refuse G256 a0 (nI 1) (nI 2)) fun v273 G272 => if v273 = 0 then gOb G272 a0 6 fun o275 => bI (f_M_bring w G272 a0 a1 a2 a3) fun v278 G277 => rI v278 G277
                else rI (nI 0) G272)
          else rI (nI 0) G225)
      else rI (nI 0) G151)
  else gOb G4 a0 6 fun o287 => bI (f_M_start G4 a0 (nI 1) (nI 1)) fun v290 G289 => if v290 = 0 then (gOb G289 a0 6 fun o292 => bI (f_M_length G289 a0 a1) fun v295 G294 => bI (f_M_isIn G294 a2 (nI 0) v295) fun v298 G297 => if v298 = 0 then (gOb G297 a0 6 fun o300 => bI (f_M_refuse G297 a0 (nI 1) (nI 1)) fun v303 G302 => if v303 = 0 then (gOb G302 a0 6 fun o305 => bI (f_M_rowOf zDp G302 a0 a1) fun v308 G307 => gOb G307 a0 6 fun o310 => bI (f_M_rowOf zDp G307 a0 a3) fun v313 G312 => if v308 = v313 then (gOb G312 a0 6 fun o315 => bI (f_M_refuse G312 a0 (nI 1) (nI 2)) fun v318 G317 => if v318 = 0 then gOb G317 a0 6 fun o320 => bI (f_M_bring w G317 a0 a1 a2 a3) fun v323 G322 => rI v323 G322
            else rI (nI 0) G317)
          else gOb G312 a0 6 fun o326 => bI (f_M_length G312 a0 a3) fun v329 G328 => gOb G328 a0 6 fun o331 => bI (f_M_isFull G328 a0 a1 v329) fun v334 G333 => if v334 = 0 then (gOb G333 a0 6 fun o336 => bI (f_M_refuse G333 a0 (nI 0) (nI 2)) fun v339 G338 => if v339 = 0 then gOb G338 a0 6 fun o341 => bI (f_M_bring w G338 a0 a1 a2 a3) fun v344 G343 => rI v344 G343
              else rI (nI 0) G338)
            else gOb G333 a0 6 fun o347 => bI (f_M_refuse G333 a0 (nI 1) (nI 2)) fun v350 G349 => if v350 = 0 then gOb G349 a0 6 fun o352 => bI (f_M_bring w G349 a0 a1 a2 a3) fun v355 G354 => rI v355 G354
              else rI (nI 0) G349)
        else rI (nI 0) G302)
      else gOb G297 a0 6 fun o361 => bI (f_M_refuse G297 a0 (nI 0) (nI 1)) fun v364 G363 => if v364 = 0 then (gOb G363 a0 6 fun o366 => bI (f_M_rowOf zDp G363 a0 a1) fun v369 G368 => gOb G368 a0 6 fun o371 => bI (f_M_rowOf zDp G368 a0 a3) fun v374 G373 => if v369 = v374 then (gOb G373 a0 6 fun o376 => bI (f_M_refuse G373 a0 (nI 1) (nI 2)) fun v379 G378 => if v379 = 0 then gOb G378 a0 6 fun o381 => bI (f_M_bring w G378 a0 a1 a2 a3) fun v384 G383 => rI v384 G383
            else rI (nI 0) G378)
          else gOb G373 a0 6 fun o387 => bI (f_M_length G373 a0 a3) fun v390 G389 => gOb G389 a0 6 fun o392 => bI (f_M_isFull G389 a0 a1 v390) fun v395 G394 => if v395 = 0 then (gOb G394 a0 6 fun o397 => bI (f_M_refuse G394 a0 (nI 0) (nI 2)) fun v400 G399 => if v400 = 0 then gOb G399 a0 6 fun o402 => bI (f_M_bring w G399 a0 a1 a2 a3) fun v405 G404 => rI v405 G404
              else rI (nI 0) G399)
            else gOb G394 a0 6 fun o408 => bI (f_M_refuse G394 a0 (nI 1) (nI 2)) fun v411 G410 => if v411 = 0 then gOb G410 a0 6 fun o413 => bI (f_M_bring w G410 a0 a1 a2 a3) fun v416 G415 => rI v416 G415
              else rI (nI 0) G410)
        else rI (nI 0) G363)
    else rI (nI 0) G289
theorem k_M_addAll {l : Launch} {D : va_G} {B : Nat} {O : State → Heap → Prop} {w : Nat → Nat} (hV : zGw l D B O w) (G : gH) (a0 : Nat) (a1 : Int32) (a2 : Int32) (a3 : Int32) : gMet (zVm l D B O) m_M_addAll 15 [.ref a0, .int a1, .int a2, .int a3] G (f_M_addAll w G a0 a1 a2 a3) := by
  have hdd : lSa m_M_addAll 0 [(.aload_n 0, 0), (.aload_n 0, 0), (.iload_n 1, 0)] = true ∧ lIa m_M_addAll 3 (.invokevirtual 110) 3 = true ∧ lIa m_M_addAll 6 (.ifCond .ne 11) 3 = true ∧ lSa m_M_addAll 9 [(.aload_n 0, 0), (.iload_n 3, 0)] = true ∧ lIa m_M_addAll 11 (.invokevirtual 110) 3 = true ∧ lIa m_M_addAll 14 (.ifCond .eq 7) 3 = true ∧ lSa m_M_addAll 21 [(.iconst 0, nI 0), (.iconst 1, nI 1)] = true ∧ lIa m_M_addAll 23 (.invokevirtual 114) 3 = true ∧ lIa m_M_addAll 26 (.ifCond .ne 68) 3 = true ∧ lSa m_M_addAll 29 [(.aload_n 0, 0), (.iload_n 2, 0), (.iconst 0, nI 0), (.aload_n 0, 0), (.iload_n 1, 0)] = true ∧ lIa m_M_addAll 34 (.invokevirtual 74) 3 = true ∧ lIa m_M_addAll 37 (.invokestatic 40) 3 = true ∧ lIa m_M_addAll 40 (.ifCond .ne 7) 3 = true ∧ lSa m_M_addAll 43 [(.iconst 1, nI 1)] = true ∧ lIa m_M_addAll 44 (.goto 4) 3 = true ∧ lSa m_M_addAll 48 [(.iconst 1, nI 1)] = true ∧ lIa m_M_addAll 49 (.invokevirtual 36) 3 = true ∧ lIa m_M_addAll 52 (.ifCond .ne 42) 3 = true ∧ lSa m_M_addAll 55 [(.aload_n 0, 0), (.aload_n 0, 0), (.iload_n 1, 0)] = true ∧ lIa m_M_addAll 58 (.invokevirtual 47) 3 = true ∧ lSa m_M_addAll 61 [(.aload_n 0, 0), (.iload_n 3, 0)] = true ∧ lIa m_M_addAll 63 (.invokevirtual 47) 3 = true ∧ lIa m_M_addAll 66 (.if_icmp .eq 16) 3 = true ∧ lSa m_M_addAll 82 [(.iconst 1, nI 1)] = true ∧ lIa m_M_addAll 83 (.goto 4) 3 = true ∧ lSa m_M_addAll 87 [(.iconst 2, nI 2)] = true ∧ lIa m_M_addAll 88 (.invokevirtual 36) 3 = true ∧ lIa m_M_addAll 91 (.ifCond .eq 5) 3 = true ∧ lSa m_M_addAll 96 [(.aload_n 0, 0), (.iload_n 1, 0), (.iload_n 2, 0), (.iload_n 3, 0)] = true ∧ lIa m_M_addAll 100 (.invokevirtual 139) 3 = true ∧ lIa m_M_addAll 103 (.ireturn) 1 = true ∧ lSa m_M_addAll 94 [(.iconst 0, nI 0)] = true ∧ lIa m_M_addAll 95 (.ireturn) 1 = true ∧ lSa m_M_addAll 69 [(.aload_n 0, 0), (.iload_n 1, 0), (.aload_n 0, 0), (.iload_n 3, 0)] = true ∧ lIa m_M_addAll 73 (.invokevirtual 74) 3 = true ∧ lIa m_M_addAll 76 (.invokevirtual 117) 3 = true ∧ lIa m_M_addAll 79 (.ifCond .eq 7) 3 = true ∧ lSa m_M_addAll 86 [(.iconst 0, nI 0), (.iconst 2, nI 2)] = true ∧ lSa m_M_addAll 47 [(.iconst 0, nI 0), (.iconst 1, nI 1)] = true ∧ lSa m_M_addAll 17 [(.iconst 1, nI 1)] = true ∧ lIa m_M_addAll 18 (.goto 4) 3 = true ∧ lSa m_M_addAll 22 [(.iconst 1, nI 1)] = true := by decide +kernel
  refine lA8 hdd (fun dd0 dd1 dd2 dd3 dd4 dd5 dd6 dd7 hdd => ?_)
  refine lA8 hdd (fun dd8 dd9 dd10 dd11 dd12 dd13 dd14 dd15 hdd => ?_)
  refine lA8 hdd (fun dd16 dd17 dd18 dd19 dd20 dd21 dd22 dd23 hdd => ?_)
  refine lA8 hdd (fun dd24 dd25 dd26 dd27 dd28 dd29 dd30 dd31 hdd => ?_)
  refine lA8 hdd (fun dd32 dd33 dd34 dd35 dd36 dd37 dd38 dd39 hdd => ?_)
  obtain ⟨dd40, dd41⟩ := hdd
  refine gMet.of (by decide +kernel) (Nat.le_of_ble_eq_true rfl) [some (.ref a0), some (.int a1), some (.int a2), some (.int a3)] (fun ls h => zEn_ok (n := 4) h) ?_
  intro o Gf h
  unfold f_M_addAll at h
  refine Y.blk (pc' := 3) (L' := [some (.ref a0), some (.int a1), some (.int a2), some (.int a3)]) (st' := [.int a1, .ref a0, .ref a0]) (sg := [(.aload_n 0, 0), (.aload_n 0, 0), (.iload_n 1, 0)]) (lSa_ok dd0) rfl ?_
  obtain ⟨_, o2, e1, m3, h⟩ := gOb_inv h
  refine Y.callI (yC.Vi (b := a0) (As := [.int a1]) (st := [.ref a0]) (r := ("PartlisterModel", T_M, 9)) hV.1.1 cb_M_isNoList lk_M_110 in_M_isNoList rfl se_M_isNoList (lIa_ok dd1) rfl rfl (Nat.le_of_ble_eq_true rfl) (by decide) e1 m3) (k_M_isNoList hV.1 G a0 a1) h (fun v5 G4 _ h => ?_)
  refine Y.if_ne (off := 11) (tgt := 17) (lIa_ok dd2) (by decide) h (fun c423 h => ?_) (fun c423 h => ?_)
  · refine Y.blk (pc' := 11) (L' := [some (.ref a0), some (.int a1), some (.int a2), some (.int a3)]) (st' := [.int a3, .ref a0, .ref a0]) (sg := [(.aload_n 0, 0), (.iload_n 3, 0)]) (lSa_ok dd3) rfl ?_
    obtain ⟨_, o7, e6, m8, h⟩ := gOb_inv h
    refine Y.callI (yC.Vi (b := a0) (As := [.int a3]) (st := [.ref a0]) (r := ("PartlisterModel", T_M, 9)) hV.1.1 cb_M_isNoList lk_M_110 in_M_isNoList rfl se_M_isNoList (lIa_ok dd4) rfl rfl (Nat.le_of_ble_eq_true rfl) (by decide) e6 m8) (k_M_isNoList hV.1 G4 a0 a3) h (fun v10 G9 _ h => ?_)
    refine Y.if_eq (off := 7) (tgt := 21) (lIa_ok dd5) (by decide) h (fun c285 h => ?_) (fun c285 h => ?_)
    · refine Y.blk (pc' := 23) (L' := [some (.ref a0), some (.int a1), some (.int a2), some (.int a3)]) (st' := [.int (nI 1), .int (nI 0), .ref a0]) (sg := [(.iconst 0, nI 0), (.iconst 1, nI 1)]) (lSa_ok dd6) rfl ?_
      obtain ⟨_, o12, e11, m13, h⟩ := gOb_inv h
      refine Y.callI (yC.Vi (b := a0) (As := [.int (nI 0), .int (nI 1)]) (st := []) (r := ("PartlisterModel", T_M, 9)) hV.1.1 cb_M_start lk_M_114 in_M_start rfl se_M_start (lIa_ok dd7) rfl rfl (Nat.le_of_ble_eq_true rfl) (by decide) e11 m13) (k_M_start hV.1 G9 a0 (nI 0) (nI 1)) h (fun v15 G14 _ h => ?_)
      refine Y.if_ne (off := 68) (tgt := 94) (lIa_ok dd8) (by decide) h (fun c147 h => ?_) (fun c147 h => ?_)
      · refine Y.blk (pc' := 34) (L' := [some (.ref a0), some (.int a1), some (.int a2), some (.int a3)]) (st' := [.int a1, .ref a0, .int (nI 0), .int a2, .ref a0]) (sg := [(.aload_n 0, 0), (.iload_n 2, 0), (.iconst 0, nI 0), (.aload_n 0, 0), (.iload_n 1, 0)]) (lSa_ok dd9) rfl ?_
        obtain ⟨_, o17, e16, m18, h⟩ := gOb_inv h
        refine Y.callI (yC.Vi (b := a0) (As := [.int a1]) (st := [.int (nI 0), .int a2, .ref a0]) (r := ("PartlisterModel", T_M, 9)) hV.1.1 cb_M_length lk_M_74 in_M_length rfl se_M_length (lIa_ok dd10) rfl rfl (Nat.le_of_ble_eq_true rfl) (by decide) e16 m18) (k_M_length hV.1 G14 a0 a1) h (fun v20 G19 _ h => ?_)
        refine Y.callI (yC.S (As := [.int a2, .int (nI 0), .int v20]) (st := [.ref a0]) hV.1.1 cb_M_isIn lk_M_40 st_M_isIn (lIa_ok dd11) rfl rfl (Nat.le_of_ble_eq_true rfl) (by decide)) (k_M_isIn hV.1 G19 a2 (nI 0) v20) h (fun v23 G22 _ h => ?_)
        refine Y.if_ne (off := 7) (tgt := 47) (lIa_ok dd12) (by decide) h (fun c146 h => ?_) (fun c146 h => ?_)
        · refine Y.blk (pc' := 44) (L' := [some (.ref a0), some (.int a1), some (.int a2), some (.int a3)]) (st' := [.int (nI 1), .ref a0]) (sg := [(.iconst 1, nI 1)]) (lSa_ok dd13) rfl ?_
          refine Y.goto (off := 4) (tgt := 48) (lIa_ok dd14) (by decide) ?_
          refine Y.blk (pc' := 49) (L' := [some (.ref a0), some (.int a1), some (.int a2), some (.int a3)]) (st' := [.int (nI 1), .int (nI 1), .ref a0]) (sg := [(.iconst 1, nI 1)]) (lSa_ok dd15) rfl ?_
          obtain ⟨_, o25, e24, m26, h⟩ := gOb_inv h
          refine Y.callI (yC.Vi (b := a0) (As := [.int (nI 1), .int (nI 1)]) (st := []) (r := ("PartlisterModel", T_M, 9)) hV.1.1 cb_M_refuse lk_M_36 in_M_refuse rfl se_M_refuse (lIa_ok dd16) rfl rfl (Nat.le_of_ble_eq_true rfl) (by decide) e24 m26) (k_M_refuse hV.1 G22 a0 (nI 1) (nI 1)) h (fun v28 G27 _ h => ?_)
          refine Y.if_ne (off := 42) (tgt := 94) (lIa_ok dd17) (by decide) h (fun c84 h => ?_) (fun c84 h => ?_)
          · refine Y.blk (pc' := 58) (L' := [some (.ref a0), some (.int a1), some (.int a2), some (.int a3)]) (st' := [.int a1, .ref a0, .ref a0]) (sg := [(.aload_n 0, 0), (.aload_n 0, 0), (.iload_n 1, 0)]) (lSa_ok dd18) rfl ?_
            obtain ⟨_, o30, e29, m31, h⟩ := gOb_inv h
            refine Y.callI (yC.Vi (b := a0) (As := [.int a1]) (st := [.ref a0]) (r := ("PartlisterModel", T_M, 9)) hV.1.1 cb_M_rowOf lk_M_47 in_M_rowOf rfl se_M_rowOf (lIa_ok dd19) rfl rfl (Nat.le_of_ble_eq_true rfl) (by decide) e29 m31) (k_M_rowOf zDp hV.1 G27 a0 a1) h (fun v33 G32 _ h => ?_)
            refine Y.blk (pc' := 63) (L' := [some (.ref a0), some (.int a1), some (.int a2), some (.int a3)]) (st' := [.int a3, .ref a0, .int v33, .ref a0]) (sg := [(.aload_n 0, 0), (.iload_n 3, 0)]) (lSa_ok dd20) rfl ?_
            obtain ⟨_, o35, e34, m36, h⟩ := gOb_inv h
            refine Y.callI (yC.Vi (b := a0) (As := [.int a3]) (st := [.int v33, .ref a0]) (r := ("PartlisterModel", T_M, 9)) hV.1.1 cb_M_rowOf lk_M_47 in_M_rowOf rfl se_M_rowOf (lIa_ok dd21) rfl rfl (Nat.le_of_ble_eq_true rfl) (by decide) e34 m36) (k_M_rowOf zDp hV.1 G32 a0 a3) h (fun v38 G37 _ h => ?_)
            refine Y.ic_eq (off := 16) (tgt := 82) (lIa_ok dd22) (by decide) h (fun c83 h => ?_) (fun c83 h => ?_)
            · refine Y.blk (pc' := 83) (L' := [some (.ref a0), some (.int a1), some (.int a2), some (.int a3)]) (st' := [.int (nI 1), .ref a0]) (sg := [(.iconst 1, nI 1)]) (lSa_ok dd23) rfl ?_
              refine Y.goto (off := 4) (tgt := 87) (lIa_ok dd24) (by decide) ?_
              refine Y.blk (pc' := 88) (L' := [some (.ref a0), some (.int a1), some (.int a2), some (.int a3)]) (st' := [.int (nI 2), .int (nI 1), .ref a0]) (sg := [(.iconst 2, nI 2)]) (lSa_ok dd25) rfl ?_
              obtain ⟨_, o40, e39, m41, h⟩ := gOb_inv h
              refine Y.callI (yC.Vi (b := a0) (As := [.int (nI 1), .int (nI 2)]) (st := []) (r := ("PartlisterModel", T_M, 9)) hV.1.1 cb_M_refuse lk_M_36 in_M_refuse rfl se_M_refuse (lIa_ok dd26) rfl rfl (Nat.le_of_ble_eq_true rfl) (by decide) e39 m41) (k_M_refuse hV.1 G37 a0 (nI 1) (nI 2)) h (fun v43 G42 _ h => ?_)
              refine Y.if_eq (off := 5) (tgt := 96) (lIa_ok dd27) (by decide) h (fun c49 h => ?_) (fun c49 h => ?_)
              · refine Y.blk (pc' := 100) (L' := [some (.ref a0), some (.int a1), some (.int a2), some (.int a3)]) (st' := [.int a3, .int a2, .int a1, .ref a0]) (sg := [(.aload_n 0, 0), (.iload_n 1, 0), (.iload_n 2, 0), (.iload_n 3, 0)]) (lSa_ok dd28) rfl ?_
                obtain ⟨_, o45, e44, m46, h⟩ := gOb_inv h
                refine Y.callI (yC.Vi (b := a0) (As := [.int a1, .int a2, .int a3]) (st := []) (r := ("PartlisterModel", T_M, 9)) hV.1.1 cb_M_bring lk_M_139 in_M_bring rfl se_M_bring (lIa_ok dd29) rfl rfl (Nat.le_of_ble_eq_true rfl) (by decide) e44 m46) (k_M_bring hV G42 a0 a1 a2 a3) h (fun v48 G47 _ h => ?_)
                exact Y.iret rfl (lIa_ok dd30) h
              · refine Y.blk (pc' := 95) (L' := [some (.ref a0), some (.int a1), some (.int a2), some (.int a3)]) (st' := [.int (nI 0)]) (sg := [(.iconst 0, nI 0)]) (lSa_ok dd31) rfl ?_
                exact Y.iret rfl (lIa_ok dd32) h
            · refine Y.blk (pc' := 73) (L' := [some (.ref a0), some (.int a1), some (.int a2), some (.int a3)]) (st' := [.int a3, .ref a0, .int a1, .ref a0, .ref a0]) (sg := [(.aload_n 0, 0), (.iload_n 1, 0), (.aload_n 0, 0), (.iload_n 3, 0)]) (lSa_ok dd33) rfl ?_
              obtain ⟨_, o51, e50, m52, h⟩ := gOb_inv h
              refine Y.callI (yC.Vi (b := a0) (As := [.int a3]) (st := [.int a1, .ref a0, .ref a0]) (r := ("PartlisterModel", T_M, 9)) hV.1.1 cb_M_length lk_M_74 in_M_length rfl se_M_length (lIa_ok dd34) rfl rfl (Nat.le_of_ble_eq_true rfl) (by decide) e50 m52) (k_M_length hV.1 G37 a0 a3) h (fun v54 G53 _ h => ?_)
              obtain ⟨_, o56, e55, m57, h⟩ := gOb_inv h
              refine Y.callI (yC.Vi (b := a0) (As := [.int a1, .int v54]) (st := [.ref a0]) (r := ("PartlisterModel", T_M, 9)) hV.1.1 cb_M_isFull lk_M_117 in_M_isFull rfl se_M_isFull (lIa_ok dd35) rfl rfl (Nat.le_of_ble_eq_true rfl) (by decide) e55 m57) (k_M_isFull hV.1 G53 a0 a1 v54) h (fun v59 G58 _ h => ?_)
              refine Y.if_eq (off := 7) (tgt := 86) (lIa_ok dd36) (by decide) h (fun c82 h => ?_) (fun c82 h => ?_)
              · refine Y.blk (pc' := 88) (L' := [some (.ref a0), some (.int a1), some (.int a2), some (.int a3)]) (st' := [.int (nI 2), .int (nI 0), .ref a0]) (sg := [(.iconst 0, nI 0), (.iconst 2, nI 2)]) (lSa_ok dd37) rfl ?_
                obtain ⟨_, o61, e60, m62, h⟩ := gOb_inv h
                refine Y.callI (yC.Vi (b := a0) (As := [.int (nI 0), .int (nI 2)]) (st := []) (r := ("PartlisterModel", T_M, 9)) hV.1.1 cb_M_refuse lk_M_36 in_M_refuse rfl se_M_refuse (lIa_ok dd26) rfl rfl (Nat.le_of_ble_eq_true rfl) (by decide) e60 m62) (k_M_refuse hV.1 G58 a0 (nI 0) (nI 2)) h (fun v64 G63 _ h => ?_)
                refine Y.if_eq (off := 5) (tgt := 96) (lIa_ok dd27) (by decide) h (fun c70 h => ?_) (fun c70 h => ?_)
                · refine Y.blk (pc' := 100) (L' := [some (.ref a0), some (.int a1), some (.int a2), some (.int a3)]) (st' := [.int a3, .int a2, .int a1, .ref a0]) (sg := [(.aload_n 0, 0), (.iload_n 1, 0), (.iload_n 2, 0), (.iload_n 3, 0)]) (lSa_ok dd28) rfl ?_
                  obtain ⟨_, o66, e65, m67, h⟩ := gOb_inv h
                  refine Y.callI (yC.Vi (b := a0) (As := [.int a1, .int a2, .int a3]) (st := []) (r := ("PartlisterModel", T_M, 9)) hV.1.1 cb_M_bring lk_M_139 in_M_bring rfl se_M_bring (lIa_ok dd29) rfl rfl (Nat.le_of_ble_eq_true rfl) (by decide) e65 m67) (k_M_bring hV G63 a0 a1 a2 a3) h (fun v69 G68 _ h => ?_)
                  exact Y.iret rfl (lIa_ok dd30) h
                · refine Y.blk (pc' := 95) (L' := [some (.ref a0), some (.int a1), some (.int a2), some (.int a3)]) (st' := [.int (nI 0)]) (sg := [(.iconst 0, nI 0)]) (lSa_ok dd31) rfl ?_
                  exact Y.iret rfl (lIa_ok dd32) h
              · refine Y.blk (pc' := 83) (L' := [some (.ref a0), some (.int a1), some (.int a2), some (.int a3)]) (st' := [.int (nI 1), .ref a0]) (sg := [(.iconst 1, nI 1)]) (lSa_ok dd23) rfl ?_
                refine Y.goto (off := 4) (tgt := 87) (lIa_ok dd24) (by decide) ?_
                refine Y.blk (pc' := 88) (L' := [some (.ref a0), some (.int a1), some (.int a2), some (.int a3)]) (st' := [.int (nI 2), .int (nI 1), .ref a0]) (sg := [(.iconst 2, nI 2)]) (lSa_ok dd25) rfl ?_
                obtain ⟨_, o72, e71, m73, h⟩ := gOb_inv h
                refine Y.callI (yC.Vi (b := a0) (As := [.int (nI 1), .int (nI 2)]) (st := []) (r := ("PartlisterModel", T_M, 9)) hV.1.1 cb_M_refuse lk_M_36 in_M_refuse rfl se_M_refuse (lIa_ok dd26) rfl rfl (Nat.le_of_ble_eq_true rfl) (by decide) e71 m73) (k_M_refuse hV.1 G58 a0 (nI 1) (nI 2)) h (fun v75 G74 _ h => ?_)
                refine Y.if_eq (off := 5) (tgt := 96) (lIa_ok dd27) (by decide) h (fun c81 h => ?_) (fun c81 h => ?_)
                · refine Y.blk (pc' := 100) (L' := [some (.ref a0), some (.int a1), some (.int a2), some (.int a3)]) (st' := [.int a3, .int a2, .int a1, .ref a0]) (sg := [(.aload_n 0, 0), (.iload_n 1, 0), (.iload_n 2, 0), (.iload_n 3, 0)]) (lSa_ok dd28) rfl ?_
                  obtain ⟨_, o77, e76, m78, h⟩ := gOb_inv h
                  refine Y.callI (yC.Vi (b := a0) (As := [.int a1, .int a2, .int a3]) (st := []) (r := ("PartlisterModel", T_M, 9)) hV.1.1 cb_M_bring lk_M_139 in_M_bring rfl se_M_bring (lIa_ok dd29) rfl rfl (Nat.le_of_ble_eq_true rfl) (by decide) e76 m78) (k_M_bring hV G74 a0 a1 a2 a3) h (fun v80 G79 _ h => ?_)
                  exact Y.iret rfl (lIa_ok dd30) h
                · refine Y.blk (pc' := 95) (L' := [some (.ref a0), some (.int a1), some (.int a2), some (.int a3)]) (st' := [.int (nI 0)]) (sg := [(.iconst 0, nI 0)]) (lSa_ok dd31) rfl ?_
                  exact Y.iret rfl (lIa_ok dd32) h
          · refine Y.blk (pc' := 95) (L' := [some (.ref a0), some (.int a1), some (.int a2), some (.int a3)]) (st' := [.int (nI 0)]) (sg := [(.iconst 0, nI 0)]) (lSa_ok dd31) rfl ?_
            exact Y.iret rfl (lIa_ok dd32) h
        · refine Y.blk (pc' := 49) (L' := [some (.ref a0), some (.int a1), some (.int a2), some (.int a3)]) (st' := [.int (nI 1), .int (nI 0), .ref a0]) (sg := [(.iconst 0, nI 0), (.iconst 1, nI 1)]) (lSa_ok dd38) rfl ?_
          obtain ⟨_, o86, e85, m87, h⟩ := gOb_inv h
          refine Y.callI (yC.Vi (b := a0) (As := [.int (nI 0), .int (nI 1)]) (st := []) (r := ("PartlisterModel", T_M, 9)) hV.1.1 cb_M_refuse lk_M_36 in_M_refuse rfl se_M_refuse (lIa_ok dd16) rfl rfl (Nat.le_of_ble_eq_true rfl) (by decide) e85 m87) (k_M_refuse hV.1 G22 a0 (nI 0) (nI 1)) h (fun v89 G88 _ h => ?_)
          refine Y.if_ne (off := 42) (tgt := 94) (lIa_ok dd17) (by decide) h (fun c145 h => ?_) (fun c145 h => ?_)
          · refine Y.blk (pc' := 58) (L' := [some (.ref a0), some (.int a1), some (.int a2), some (.int a3)]) (st' := [.int a1, .ref a0, .ref a0]) (sg := [(.aload_n 0, 0), (.aload_n 0, 0), (.iload_n 1, 0)]) (lSa_ok dd18) rfl ?_
            obtain ⟨_, o91, e90, m92, h⟩ := gOb_inv h
            refine Y.callI (yC.Vi (b := a0) (As := [.int a1]) (st := [.ref a0]) (r := ("PartlisterModel", T_M, 9)) hV.1.1 cb_M_rowOf lk_M_47 in_M_rowOf rfl se_M_rowOf (lIa_ok dd19) rfl rfl (Nat.le_of_ble_eq_true rfl) (by decide) e90 m92) (k_M_rowOf zDp hV.1 G88 a0 a1) h (fun v94 G93 _ h => ?_)
            refine Y.blk (pc' := 63) (L' := [some (.ref a0), some (.int a1), some (.int a2), some (.int a3)]) (st' := [.int a3, .ref a0, .int v94, .ref a0]) (sg := [(.aload_n 0, 0), (.iload_n 3, 0)]) (lSa_ok dd20) rfl ?_
            obtain ⟨_, o96, e95, m97, h⟩ := gOb_inv h
            refine Y.callI (yC.Vi (b := a0) (As := [.int a3]) (st := [.int v94, .ref a0]) (r := ("PartlisterModel", T_M, 9)) hV.1.1 cb_M_rowOf lk_M_47 in_M_rowOf rfl se_M_rowOf (lIa_ok dd21) rfl rfl (Nat.le_of_ble_eq_true rfl) (by decide) e95 m97) (k_M_rowOf zDp hV.1 G93 a0 a3) h (fun v99 G98 _ h => ?_)
            refine Y.ic_eq (off := 16) (tgt := 82) (lIa_ok dd22) (by decide) h (fun c144 h => ?_) (fun c144 h => ?_)
            · refine Y.blk (pc' := 83) (L' := [some (.ref a0), some (.int a1), some (.int a2), some (.int a3)]) (st' := [.int (nI 1), .ref a0]) (sg := [(.iconst 1, nI 1)]) (lSa_ok dd23) rfl ?_
              refine Y.goto (off := 4) (tgt := 87) (lIa_ok dd24) (by decide) ?_
              refine Y.blk (pc' := 88) (L' := [some (.ref a0), some (.int a1), some (.int a2), some (.int a3)]) (st' := [.int (nI 2), .int (nI 1), .ref a0]) (sg := [(.iconst 2, nI 2)]) (lSa_ok dd25) rfl ?_
              obtain ⟨_, o101, e100, m102, h⟩ := gOb_inv h
              refine Y.callI (yC.Vi (b := a0) (As := [.int (nI 1), .int (nI 2)]) (st := []) (r := ("PartlisterModel", T_M, 9)) hV.1.1 cb_M_refuse lk_M_36 in_M_refuse rfl se_M_refuse (lIa_ok dd26) rfl rfl (Nat.le_of_ble_eq_true rfl) (by decide) e100 m102) (k_M_refuse hV.1 G98 a0 (nI 1) (nI 2)) h (fun v104 G103 _ h => ?_)
              refine Y.if_eq (off := 5) (tgt := 96) (lIa_ok dd27) (by decide) h (fun c110 h => ?_) (fun c110 h => ?_)
              · refine Y.blk (pc' := 100) (L' := [some (.ref a0), some (.int a1), some (.int a2), some (.int a3)]) (st' := [.int a3, .int a2, .int a1, .ref a0]) (sg := [(.aload_n 0, 0), (.iload_n 1, 0), (.iload_n 2, 0), (.iload_n 3, 0)]) (lSa_ok dd28) rfl ?_
                obtain ⟨_, o106, e105, m107, h⟩ := gOb_inv h
                refine Y.callI (yC.Vi (b := a0) (As := [.int a1, .int a2, .int a3]) (st := []) (r := ("PartlisterModel", T_M, 9)) hV.1.1 cb_M_bring lk_M_139 in_M_bring rfl se_M_bring (lIa_ok dd29) rfl rfl (Nat.le_of_ble_eq_true rfl) (by decide) e105 m107) (k_M_bring hV G103 a0 a1 a2 a3) h (fun v109 G108 _ h => ?_)
                exact Y.iret rfl (lIa_ok dd30) h
              · refine Y.blk (pc' := 95) (L' := [some (.ref a0), some (.int a1), some (.int a2), some (.int a3)]) (st' := [.int (nI 0)]) (sg := [(.iconst 0, nI 0)]) (lSa_ok dd31) rfl ?_
                exact Y.iret rfl (lIa_ok dd32) h
            · refine Y.blk (pc' := 73) (L' := [some (.ref a0), some (.int a1), some (.int a2), some (.int a3)]) (st' := [.int a3, .ref a0, .int a1, .ref a0, .ref a0]) (sg := [(.aload_n 0, 0), (.iload_n 1, 0), (.aload_n 0, 0), (.iload_n 3, 0)]) (lSa_ok dd33) rfl ?_
              obtain ⟨_, o112, e111, m113, h⟩ := gOb_inv h
              refine Y.callI (yC.Vi (b := a0) (As := [.int a3]) (st := [.int a1, .ref a0, .ref a0]) (r := ("PartlisterModel", T_M, 9)) hV.1.1 cb_M_length lk_M_74 in_M_length rfl se_M_length (lIa_ok dd34) rfl rfl (Nat.le_of_ble_eq_true rfl) (by decide) e111 m113) (k_M_length hV.1 G98 a0 a3) h (fun v115 G114 _ h => ?_)
              obtain ⟨_, o117, e116, m118, h⟩ := gOb_inv h
              refine Y.callI (yC.Vi (b := a0) (As := [.int a1, .int v115]) (st := [.ref a0]) (r := ("PartlisterModel", T_M, 9)) hV.1.1 cb_M_isFull lk_M_117 in_M_isFull rfl se_M_isFull (lIa_ok dd35) rfl rfl (Nat.le_of_ble_eq_true rfl) (by decide) e116 m118) (k_M_isFull hV.1 G114 a0 a1 v115) h (fun v120 G119 _ h => ?_)
              refine Y.if_eq (off := 7) (tgt := 86) (lIa_ok dd36) (by decide) h (fun c143 h => ?_) (fun c143 h => ?_)
              · refine Y.blk (pc' := 88) (L' := [some (.ref a0), some (.int a1), some (.int a2), some (.int a3)]) (st' := [.int (nI 2), .int (nI 0), .ref a0]) (sg := [(.iconst 0, nI 0), (.iconst 2, nI 2)]) (lSa_ok dd37) rfl ?_
                obtain ⟨_, o122, e121, m123, h⟩ := gOb_inv h
                refine Y.callI (yC.Vi (b := a0) (As := [.int (nI 0), .int (nI 2)]) (st := []) (r := ("PartlisterModel", T_M, 9)) hV.1.1 cb_M_refuse lk_M_36 in_M_refuse rfl se_M_refuse (lIa_ok dd26) rfl rfl (Nat.le_of_ble_eq_true rfl) (by decide) e121 m123) (k_M_refuse hV.1 G119 a0 (nI 0) (nI 2)) h (fun v125 G124 _ h => ?_)
                refine Y.if_eq (off := 5) (tgt := 96) (lIa_ok dd27) (by decide) h (fun c131 h => ?_) (fun c131 h => ?_)
                · refine Y.blk (pc' := 100) (L' := [some (.ref a0), some (.int a1), some (.int a2), some (.int a3)]) (st' := [.int a3, .int a2, .int a1, .ref a0]) (sg := [(.aload_n 0, 0), (.iload_n 1, 0), (.iload_n 2, 0), (.iload_n 3, 0)]) (lSa_ok dd28) rfl ?_
                  obtain ⟨_, o127, e126, m128, h⟩ := gOb_inv h
                  refine Y.callI (yC.Vi (b := a0) (As := [.int a1, .int a2, .int a3]) (st := []) (r := ("PartlisterModel", T_M, 9)) hV.1.1 cb_M_bring lk_M_139 in_M_bring rfl se_M_bring (lIa_ok dd29) rfl rfl (Nat.le_of_ble_eq_true rfl) (by decide) e126 m128) (k_M_bring hV G124 a0 a1 a2 a3) h (fun v130 G129 _ h => ?_)
                  exact Y.iret rfl (lIa_ok dd30) h
                · refine Y.blk (pc' := 95) (L' := [some (.ref a0), some (.int a1), some (.int a2), some (.int a3)]) (st' := [.int (nI 0)]) (sg := [(.iconst 0, nI 0)]) (lSa_ok dd31) rfl ?_
                  exact Y.iret rfl (lIa_ok dd32) h
              · refine Y.blk (pc' := 83) (L' := [some (.ref a0), some (.int a1), some (.int a2), some (.int a3)]) (st' := [.int (nI 1), .ref a0]) (sg := [(.iconst 1, nI 1)]) (lSa_ok dd23) rfl ?_
                refine Y.goto (off := 4) (tgt := 87) (lIa_ok dd24) (by decide) ?_
                refine Y.blk (pc' := 88) (L' := [some (.ref a0), some (.int a1), some (.int a2), some (.int a3)]) (st' := [.int (nI 2), .int (nI 1), .ref a0]) (sg := [(.iconst 2, nI 2)]) (lSa_ok dd25) rfl ?_
                obtain ⟨_, o133, e132, m134, h⟩ := gOb_inv h
                refine Y.callI (yC.Vi (b := a0) (As := [.int (nI 1), .int (nI 2)]) (st := []) (r := ("PartlisterModel", T_M, 9)) hV.1.1 cb_M_refuse lk_M_36 in_M_refuse rfl se_M_refuse (lIa_ok dd26) rfl rfl (Nat.le_of_ble_eq_true rfl) (by decide) e132 m134) (k_M_refuse hV.1 G119 a0 (nI 1) (nI 2)) h (fun v136 G135 _ h => ?_)
                refine Y.if_eq (off := 5) (tgt := 96) (lIa_ok dd27) (by decide) h (fun c142 h => ?_) (fun c142 h => ?_)
                · refine Y.blk (pc' := 100) (L' := [some (.ref a0), some (.int a1), some (.int a2), some (.int a3)]) (st' := [.int a3, .int a2, .int a1, .ref a0]) (sg := [(.aload_n 0, 0), (.iload_n 1, 0), (.iload_n 2, 0), (.iload_n 3, 0)]) (lSa_ok dd28) rfl ?_
                  obtain ⟨_, o138, e137, m139, h⟩ := gOb_inv h
                  refine Y.callI (yC.Vi (b := a0) (As := [.int a1, .int a2, .int a3]) (st := []) (r := ("PartlisterModel", T_M, 9)) hV.1.1 cb_M_bring lk_M_139 in_M_bring rfl se_M_bring (lIa_ok dd29) rfl rfl (Nat.le_of_ble_eq_true rfl) (by decide) e137 m139) (k_M_bring hV G135 a0 a1 a2 a3) h (fun v141 G140 _ h => ?_)
                  exact Y.iret rfl (lIa_ok dd30) h
                · refine Y.blk (pc' := 95) (L' := [some (.ref a0), some (.int a1), some (.int a2), some (.int a3)]) (st' := [.int (nI 0)]) (sg := [(.iconst 0, nI 0)]) (lSa_ok dd31) rfl ?_
                  exact Y.iret rfl (lIa_ok dd32) h
          · refine Y.blk (pc' := 95) (L' := [some (.ref a0), some (.int a1), some (.int a2), some (.int a3)]) (st' := [.int (nI 0)]) (sg := [(.iconst 0, nI 0)]) (lSa_ok dd31) rfl ?_
            exact Y.iret rfl (lIa_ok dd32) h
      · refine Y.blk (pc' := 95) (L' := [some (.ref a0), some (.int a1), some (.int a2), some (.int a3)]) (st' := [.int (nI 0)]) (sg := [(.iconst 0, nI 0)]) (lSa_ok dd31) rfl ?_
        exact Y.iret rfl (lIa_ok dd32) h
    · refine Y.blk (pc' := 18) (L' := [some (.ref a0), some (.int a1), some (.int a2), some (.int a3)]) (st' := [.int (nI 1), .ref a0]) (sg := [(.iconst 1, nI 1)]) (lSa_ok dd39) rfl ?_
      refine Y.goto (off := 4) (tgt := 22) (lIa_ok dd40) (by decide) ?_
      refine Y.blk (pc' := 23) (L' := [some (.ref a0), some (.int a1), some (.int a2), some (.int a3)]) (st' := [.int (nI 1), .int (nI 1), .ref a0]) (sg := [(.iconst 1, nI 1)]) (lSa_ok dd41) rfl ?_
      obtain ⟨_, o149, e148, m150, h⟩ := gOb_inv h
      refine Y.callI (yC.Vi (b := a0) (As := [.int (nI 1), .int (nI 1)]) (st := []) (r := ("PartlisterModel", T_M, 9)) hV.1.1 cb_M_start lk_M_114 in_M_start rfl se_M_start (lIa_ok dd7) rfl rfl (Nat.le_of_ble_eq_true rfl) (by decide) e148 m150) (k_M_start hV.1 G9 a0 (nI 1) (nI 1)) h (fun v152 G151 _ h => ?_)
      refine Y.if_ne (off := 68) (tgt := 94) (lIa_ok dd8) (by decide) h (fun c284 h => ?_) (fun c284 h => ?_)
      · refine Y.blk (pc' := 34) (L' := [some (.ref a0), some (.int a1), some (.int a2), some (.int a3)]) (st' := [.int a1, .ref a0, .int (nI 0), .int a2, .ref a0]) (sg := [(.aload_n 0, 0), (.iload_n 2, 0), (.iconst 0, nI 0), (.aload_n 0, 0), (.iload_n 1, 0)]) (lSa_ok dd9) rfl ?_
        obtain ⟨_, o154, e153, m155, h⟩ := gOb_inv h
        refine Y.callI (yC.Vi (b := a0) (As := [.int a1]) (st := [.int (nI 0), .int a2, .ref a0]) (r := ("PartlisterModel", T_M, 9)) hV.1.1 cb_M_length lk_M_74 in_M_length rfl se_M_length (lIa_ok dd10) rfl rfl (Nat.le_of_ble_eq_true rfl) (by decide) e153 m155) (k_M_length hV.1 G151 a0 a1) h (fun v157 G156 _ h => ?_)
        refine Y.callI (yC.S (As := [.int a2, .int (nI 0), .int v157]) (st := [.ref a0]) hV.1.1 cb_M_isIn lk_M_40 st_M_isIn (lIa_ok dd11) rfl rfl (Nat.le_of_ble_eq_true rfl) (by decide)) (k_M_isIn hV.1 G156 a2 (nI 0) v157) h (fun v160 G159 _ h => ?_)
        refine Y.if_ne (off := 7) (tgt := 47) (lIa_ok dd12) (by decide) h (fun c283 h => ?_) (fun c283 h => ?_)
        · refine Y.blk (pc' := 44) (L' := [some (.ref a0), some (.int a1), some (.int a2), some (.int a3)]) (st' := [.int (nI 1), .ref a0]) (sg := [(.iconst 1, nI 1)]) (lSa_ok dd13) rfl ?_
          refine Y.goto (off := 4) (tgt := 48) (lIa_ok dd14) (by decide) ?_
          refine Y.blk (pc' := 49) (L' := [some (.ref a0), some (.int a1), some (.int a2), some (.int a3)]) (st' := [.int (nI 1), .int (nI 1), .ref a0]) (sg := [(.iconst 1, nI 1)]) (lSa_ok dd15) rfl ?_
          obtain ⟨_, o162, e161, m163, h⟩ := gOb_inv h
          refine Y.callI (yC.Vi (b := a0) (As := [.int (nI 1), .int (nI 1)]) (st := []) (r := ("PartlisterModel", T_M, 9)) hV.1.1 cb_M_refuse lk_M_36 in_M_refuse rfl se_M_refuse (lIa_ok dd16) rfl rfl (Nat.le_of_ble_eq_true rfl) (by decide) e161 m163) (k_M_refuse hV.1 G159 a0 (nI 1) (nI 1)) h (fun v165 G164 _ h => ?_)
          refine Y.if_ne (off := 42) (tgt := 94) (lIa_ok dd17) (by decide) h (fun c221 h => ?_) (fun c221 h => ?_)
          · refine Y.blk (pc' := 58) (L' := [some (.ref a0), some (.int a1), some (.int a2), some (.int a3)]) (st' := [.int a1, .ref a0, .ref a0]) (sg := [(.aload_n 0, 0), (.aload_n 0, 0), (.iload_n 1, 0)]) (lSa_ok dd18) rfl ?_
            obtain ⟨_, o167, e166, m168, h⟩ := gOb_inv h
            refine Y.callI (yC.Vi (b := a0) (As := [.int a1]) (st := [.ref a0]) (r := ("PartlisterModel", T_M, 9)) hV.1.1 cb_M_rowOf lk_M_47 in_M_rowOf rfl se_M_rowOf (lIa_ok dd19) rfl rfl (Nat.le_of_ble_eq_true rfl) (by decide) e166 m168) (k_M_rowOf zDp hV.1 G164 a0 a1) h (fun v170 G169 _ h => ?_)
            refine Y.blk (pc' := 63) (L' := [some (.ref a0), some (.int a1), some (.int a2), some (.int a3)]) (st' := [.int a3, .ref a0, .int v170, .ref a0]) (sg := [(.aload_n 0, 0), (.iload_n 3, 0)]) (lSa_ok dd20) rfl ?_
            obtain ⟨_, o172, e171, m173, h⟩ := gOb_inv h
            refine Y.callI (yC.Vi (b := a0) (As := [.int a3]) (st := [.int v170, .ref a0]) (r := ("PartlisterModel", T_M, 9)) hV.1.1 cb_M_rowOf lk_M_47 in_M_rowOf rfl se_M_rowOf (lIa_ok dd21) rfl rfl (Nat.le_of_ble_eq_true rfl) (by decide) e171 m173) (k_M_rowOf zDp hV.1 G169 a0 a3) h (fun v175 G174 _ h => ?_)
            refine Y.ic_eq (off := 16) (tgt := 82) (lIa_ok dd22) (by decide) h (fun c220 h => ?_) (fun c220 h => ?_)
            · refine Y.blk (pc' := 83) (L' := [some (.ref a0), some (.int a1), some (.int a2), some (.int a3)]) (st' := [.int (nI 1), .ref a0]) (sg := [(.iconst 1, nI 1)]) (lSa_ok dd23) rfl ?_
              refine Y.goto (off := 4) (tgt := 87) (lIa_ok dd24) (by decide) ?_
              refine Y.blk (pc' := 88) (L' := [some (.ref a0), some (.int a1), some (.int a2), some (.int a3)]) (st' := [.int (nI 2), .int (nI 1), .ref a0]) (sg := [(.iconst 2, nI 2)]) (lSa_ok dd25) rfl ?_
              obtain ⟨_, o177, e176, m178, h⟩ := gOb_inv h
              refine Y.callI (yC.Vi (b := a0) (As := [.int (nI 1), .int (nI 2)]) (st := []) (r := ("PartlisterModel", T_M, 9)) hV.1.1 cb_M_refuse lk_M_36 in_M_refuse rfl se_M_refuse (lIa_ok dd26) rfl rfl (Nat.le_of_ble_eq_true rfl) (by decide) e176 m178) (k_M_refuse hV.1 G174 a0 (nI 1) (nI 2)) h (fun v180 G179 _ h => ?_)
              refine Y.if_eq (off := 5) (tgt := 96) (lIa_ok dd27) (by decide) h (fun c186 h => ?_) (fun c186 h => ?_)
              · refine Y.blk (pc' := 100) (L' := [some (.ref a0), some (.int a1), some (.int a2), some (.int a3)]) (st' := [.int a3, .int a2, .int a1, .ref a0]) (sg := [(.aload_n 0, 0), (.iload_n 1, 0), (.iload_n 2, 0), (.iload_n 3, 0)]) (lSa_ok dd28) rfl ?_
                obtain ⟨_, o182, e181, m183, h⟩ := gOb_inv h
                refine Y.callI (yC.Vi (b := a0) (As := [.int a1, .int a2, .int a3]) (st := []) (r := ("PartlisterModel", T_M, 9)) hV.1.1 cb_M_bring lk_M_139 in_M_bring rfl se_M_bring (lIa_ok dd29) rfl rfl (Nat.le_of_ble_eq_true rfl) (by decide) e181 m183) (k_M_bring hV G179 a0 a1 a2 a3) h (fun v185 G184 _ h => ?_)
                exact Y.iret rfl (lIa_ok dd30) h
              · refine Y.blk (pc' := 95) (L' := [some (.ref a0), some (.int a1), some (.int a2), some (.int a3)]) (st' := [.int (nI 0)]) (sg := [(.iconst 0, nI 0)]) (lSa_ok dd31) rfl ?_
                exact Y.iret rfl (lIa_ok dd32) h
            · refine Y.blk (pc' := 73) (L' := [some (.ref a0), some (.int a1), some (.int a2), some (.int a3)]) (st' := [.int a3, .ref a0, .int a1, .ref a0, .ref a0]) (sg := [(.aload_n 0, 0), (.iload_n 1, 0), (.aload_n 0, 0), (.iload_n 3, 0)]) (lSa_ok dd33) rfl ?_
              obtain ⟨_, o188, e187, m189, h⟩ := gOb_inv h
              refine Y.callI (yC.Vi (b := a0) (As := [.int a3]) (st := [.int a1, .ref a0, .ref a0]) (r := ("PartlisterModel", T_M, 9)) hV.1.1 cb_M_length lk_M_74 in_M_length rfl se_M_length (lIa_ok dd34) rfl rfl (Nat.le_of_ble_eq_true rfl) (by decide) e187 m189) (k_M_length hV.1 G174 a0 a3) h (fun v191 G190 _ h => ?_)
              obtain ⟨_, o193, e192, m194, h⟩ := gOb_inv h
              refine Y.callI (yC.Vi (b := a0) (As := [.int a1, .int v191]) (st := [.ref a0]) (r := ("PartlisterModel", T_M, 9)) hV.1.1 cb_M_isFull lk_M_117 in_M_isFull rfl se_M_isFull (lIa_ok dd35) rfl rfl (Nat.le_of_ble_eq_true rfl) (by decide) e192 m194) (k_M_isFull hV.1 G190 a0 a1 v191) h (fun v196 G195 _ h => ?_)
              refine Y.if_eq (off := 7) (tgt := 86) (lIa_ok dd36) (by decide) h (fun c219 h => ?_) (fun c219 h => ?_)
              · refine Y.blk (pc' := 88) (L' := [some (.ref a0), some (.int a1), some (.int a2), some (.int a3)]) (st' := [.int (nI 2), .int (nI 0), .ref a0]) (sg := [(.iconst 0, nI 0), (.iconst 2, nI 2)]) (lSa_ok dd37) rfl ?_
                obtain ⟨_, o198, e197, m199, h⟩ := gOb_inv h
                refine Y.callI (yC.Vi (b := a0) (As := [.int (nI 0), .int (nI 2)]) (st := []) (r := ("PartlisterModel", T_M, 9)) hV.1.1 cb_M_refuse lk_M_36 in_M_refuse rfl se_M_refuse (lIa_ok dd26) rfl rfl (Nat.le_of_ble_eq_true rfl) (by decide) e197 m199) (k_M_refuse hV.1 G195 a0 (nI 0) (nI 2)) h (fun v201 G200 _ h => ?_)
                refine Y.if_eq (off := 5) (tgt := 96) (lIa_ok dd27) (by decide) h (fun c207 h => ?_) (fun c207 h => ?_)
                · refine Y.blk (pc' := 100) (L' := [some (.ref a0), some (.int a1), some (.int a2), some (.int a3)]) (st' := [.int a3, .int a2, .int a1, .ref a0]) (sg := [(.aload_n 0, 0), (.iload_n 1, 0), (.iload_n 2, 0), (.iload_n 3, 0)]) (lSa_ok dd28) rfl ?_
                  obtain ⟨_, o203, e202, m204, h⟩ := gOb_inv h
                  refine Y.callI (yC.Vi (b := a0) (As := [.int a1, .int a2, .int a3]) (st := []) (r := ("PartlisterModel", T_M, 9)) hV.1.1 cb_M_bring lk_M_139 in_M_bring rfl se_M_bring (lIa_ok dd29) rfl rfl (Nat.le_of_ble_eq_true rfl) (by decide) e202 m204) (k_M_bring hV G200 a0 a1 a2 a3) h (fun v206 G205 _ h => ?_)
                  exact Y.iret rfl (lIa_ok dd30) h
                · refine Y.blk (pc' := 95) (L' := [some (.ref a0), some (.int a1), some (.int a2), some (.int a3)]) (st' := [.int (nI 0)]) (sg := [(.iconst 0, nI 0)]) (lSa_ok dd31) rfl ?_
                  exact Y.iret rfl (lIa_ok dd32) h
              · refine Y.blk (pc' := 83) (L' := [some (.ref a0), some (.int a1), some (.int a2), some (.int a3)]) (st' := [.int (nI 1), .ref a0]) (sg := [(.iconst 1, nI 1)]) (lSa_ok dd23) rfl ?_
                refine Y.goto (off := 4) (tgt := 87) (lIa_ok dd24) (by decide) ?_
                refine Y.blk (pc' := 88) (L' := [some (.ref a0), some (.int a1), some (.int a2), some (.int a3)]) (st' := [.int (nI 2), .int (nI 1), .ref a0]) (sg := [(.iconst 2, nI 2)]) (lSa_ok dd25) rfl ?_
                obtain ⟨_, o209, e208, m210, h⟩ := gOb_inv h
                refine Y.callI (yC.Vi (b := a0) (As := [.int (nI 1), .int (nI 2)]) (st := []) (r := ("PartlisterModel", T_M, 9)) hV.1.1 cb_M_refuse lk_M_36 in_M_refuse rfl se_M_refuse (lIa_ok dd26) rfl rfl (Nat.le_of_ble_eq_true rfl) (by decide) e208 m210) (k_M_refuse hV.1 G195 a0 (nI 1) (nI 2)) h (fun v212 G211 _ h => ?_)
                refine Y.if_eq (off := 5) (tgt := 96) (lIa_ok dd27) (by decide) h (fun c218 h => ?_) (fun c218 h => ?_)
                · refine Y.blk (pc' := 100) (L' := [some (.ref a0), some (.int a1), some (.int a2), some (.int a3)]) (st' := [.int a3, .int a2, .int a1, .ref a0]) (sg := [(.aload_n 0, 0), (.iload_n 1, 0), (.iload_n 2, 0), (.iload_n 3, 0)]) (lSa_ok dd28) rfl ?_
                  obtain ⟨_, o214, e213, m215, h⟩ := gOb_inv h
                  refine Y.callI (yC.Vi (b := a0) (As := [.int a1, .int a2, .int a3]) (st := []) (r := ("PartlisterModel", T_M, 9)) hV.1.1 cb_M_bring lk_M_139 in_M_bring rfl se_M_bring (lIa_ok dd29) rfl rfl (Nat.le_of_ble_eq_true rfl) (by decide) e213 m215) (k_M_bring hV G211 a0 a1 a2 a3) h (fun v217 G216 _ h => ?_)
                  exact Y.iret rfl (lIa_ok dd30) h
                · refine Y.blk (pc' := 95) (L' := [some (.ref a0), some (.int a1), some (.int a2), some (.int a3)]) (st' := [.int (nI 0)]) (sg := [(.iconst 0, nI 0)]) (lSa_ok dd31) rfl ?_
                  exact Y.iret rfl (lIa_ok dd32) h
          · refine Y.blk (pc' := 95) (L' := [some (.ref a0), some (.int a1), some (.int a2), some (.int a3)]) (st' := [.int (nI 0)]) (sg := [(.iconst 0, nI 0)]) (lSa_ok dd31) rfl ?_
            exact Y.iret rfl (lIa_ok dd32) h
        · refine Y.blk (pc' := 49) (L' := [some (.ref a0), some (.int a1), some (.int a2), some (.int a3)]) (st' := [.int (nI 1), .int (nI 0), .ref a0]) (sg := [(.iconst 0, nI 0), (.iconst 1, nI 1)]) (lSa_ok dd38) rfl ?_
          obtain ⟨_, o223, e222, m224, h⟩ := gOb_inv h
          refine Y.callI (yC.Vi (b := a0) (As := [.int (nI 0), .int (nI 1)]) (st := []) (r := ("PartlisterModel", T_M, 9)) hV.1.1 cb_M_refuse lk_M_36 in_M_refuse rfl se_M_refuse (lIa_ok dd16) rfl rfl (Nat.le_of_ble_eq_true rfl) (by decide) e222 m224) (k_M_refuse hV.1 G159 a0 (nI 0) (nI 1)) h (fun v226 G225 _ h => ?_)
          refine Y.if_ne (off := 42) (tgt := 94) (lIa_ok dd17) (by decide) h (fun c282 h => ?_) (fun c282 h => ?_)
          · refine Y.blk (pc' := 58) (L' := [some (.ref a0), some (.int a1), some (.int a2), some (.int a3)]) (st' := [.int a1, .ref a0, .ref a0]) (sg := [(.aload_n 0, 0), (.aload_n 0, 0), (.iload_n 1, 0)]) (lSa_ok dd18) rfl ?_
            obtain ⟨_, o228, e227, m229, h⟩ := gOb_inv h
            refine Y.callI (yC.Vi (b := a0) (As := [.int a1]) (st := [.ref a0]) (r := ("PartlisterModel", T_M, 9)) hV.1.1 cb_M_rowOf lk_M_47 in_M_rowOf rfl se_M_rowOf (lIa_ok dd19) rfl rfl (Nat.le_of_ble_eq_true rfl) (by decide) e227 m229) (k_M_rowOf zDp hV.1 G225 a0 a1) h (fun v231 G230 _ h => ?_)
            refine Y.blk (pc' := 63) (L' := [some (.ref a0), some (.int a1), some (.int a2), some (.int a3)]) (st' := [.int a3, .ref a0, .int v231, .ref a0]) (sg := [(.aload_n 0, 0), (.iload_n 3, 0)]) (lSa_ok dd20) rfl ?_
            obtain ⟨_, o233, e232, m234, h⟩ := gOb_inv h
            refine Y.callI (yC.Vi (b := a0) (As := [.int a3]) (st := [.int v231, .ref a0]) (r := ("PartlisterModel", T_M, 9)) hV.1.1 cb_M_rowOf lk_M_47 in_M_rowOf rfl se_M_rowOf (lIa_ok dd21) rfl rfl (Nat.le_of_ble_eq_true rfl) (by decide) e232 m234) (k_M_rowOf zDp hV.1 G230 a0 a3) h (fun v236 G235 _ h => ?_)
            refine Y.ic_eq (off := 16) (tgt := 82) (lIa_ok dd22) (by decide) h (fun c281 h => ?_) (fun c281 h => ?_)
            · refine Y.blk (pc' := 83) (L' := [some (.ref a0), some (.int a1), some (.int a2), some (.int a3)]) (st' := [.int (nI 1), .ref a0]) (sg := [(.iconst 1, nI 1)]) (lSa_ok dd23) rfl ?_
              refine Y.goto (off := 4) (tgt := 87) (lIa_ok dd24) (by decide) ?_
              refine Y.blk (pc' := 88) (L' := [some (.ref a0), some (.int a1), some (.int a2), some (.int a3)]) (st' := [.int (nI 2), .int (nI 1), .ref a0]) (sg := [(.iconst 2, nI 2)]) (lSa_ok dd25) rfl ?_
              obtain ⟨_, o238, e237, m239, h⟩ := gOb_inv h
              refine Y.callI (yC.Vi (b := a0) (As := [.int (nI 1), .int (nI 2)]) (st := []) (r := ("PartlisterModel", T_M, 9)) hV.1.1 cb_M_refuse lk_M_36 in_M_refuse rfl se_M_refuse (lIa_ok dd26) rfl rfl (Nat.le_of_ble_eq_true rfl) (by decide) e237 m239) (k_M_refuse hV.1 G235 a0 (nI 1) (nI 2)) h (fun v241 G240 _ h => ?_)
              refine Y.if_eq (off := 5) (tgt := 96) (lIa_ok dd27) (by decide) h (fun c247 h => ?_) (fun c247 h => ?_)
              · refine Y.blk (pc' := 100) (L' := [some (.ref a0), some (.int a1), some (.int a2), some (.int a3)]) (st' := [.int a3, .int a2, .int a1, .ref a0]) (sg := [(.aload_n 0, 0), (.iload_n 1, 0), (.iload_n 2, 0), (.iload_n 3, 0)]) (lSa_ok dd28) rfl ?_
                obtain ⟨_, o243, e242, m244, h⟩ := gOb_inv h
                refine Y.callI (yC.Vi (b := a0) (As := [.int a1, .int a2, .int a3]) (st := []) (r := ("PartlisterModel", T_M, 9)) hV.1.1 cb_M_bring lk_M_139 in_M_bring rfl se_M_bring (lIa_ok dd29) rfl rfl (Nat.le_of_ble_eq_true rfl) (by decide) e242 m244) (k_M_bring hV G240 a0 a1 a2 a3) h (fun v246 G245 _ h => ?_)
                exact Y.iret rfl (lIa_ok dd30) h
              · refine Y.blk (pc' := 95) (L' := [some (.ref a0), some (.int a1), some (.int a2), some (.int a3)]) (st' := [.int (nI 0)]) (sg := [(.iconst 0, nI 0)]) (lSa_ok dd31) rfl ?_
                exact Y.iret rfl (lIa_ok dd32) h
            · refine Y.blk (pc' := 73) (L' := [some (.ref a0), some (.int a1), some (.int a2), some (.int a3)]) (st' := [.int a3, .ref a0, .int a1, .ref a0, .ref a0]) (sg := [(.aload_n 0, 0), (.iload_n 1, 0), (.aload_n 0, 0), (.iload_n 3, 0)]) (lSa_ok dd33) rfl ?_
              obtain ⟨_, o249, e248, m250, h⟩ := gOb_inv h
              refine Y.callI (yC.Vi (b := a0) (As := [.int a3]) (st := [.int a1, .ref a0, .ref a0]) (r := ("PartlisterModel", T_M, 9)) hV.1.1 cb_M_length lk_M_74 in_M_length rfl se_M_length (lIa_ok dd34) rfl rfl (Nat.le_of_ble_eq_true rfl) (by decide) e248 m250) (k_M_length hV.1 G235 a0 a3) h (fun v252 G251 _ h => ?_)
              obtain ⟨_, o254, e253, m255, h⟩ := gOb_inv h
              refine Y.callI (yC.Vi (b := a0) (As := [.int a1, .int v252]) (st := [.ref a0]) (r := ("PartlisterModel", T_M, 9)) hV.1.1 cb_M_isFull lk_M_117 in_M_isFull rfl se_M_isFull (lIa_ok dd35) rfl rfl (Nat.le_of_ble_eq_true rfl) (by decide) e253 m255) (k_M_isFull hV.1 G251 a0 a1 v252) h (fun v257 G256 _ h => ?_)
              refine Y.if_eq (off := 7) (tgt := 86) (lIa_ok dd36) (by decide) h (fun c280 h => ?_) (fun c280 h => ?_)
              · refine Y.blk (pc' := 88) (L' := [some (.ref a0), some (.int a1), some (.int a2), some (.int a3)]) (st' := [.int (nI 2), .int (nI 0), .ref a0]) (sg := [(.iconst 0, nI 0), (.iconst 2, nI 2)]) (lSa_ok dd37) rfl ?_
                obtain ⟨_, o259, e258, m260, h⟩ := gOb_inv h
                refine Y.callI (yC.Vi (b := a0) (As := [.int (nI 0), .int (nI 2)]) (st := []) (r := ("PartlisterModel", T_M, 9)) hV.1.1 cb_M_refuse lk_M_36 in_M_refuse rfl se_M_refuse (lIa_ok dd26) rfl rfl (Nat.le_of_ble_eq_true rfl) (by decide) e258 m260) (k_M_refuse hV.1 G256 a0 (nI 0) (nI 2)) h (fun v262 G261 _ h => ?_)
                refine Y.if_eq (off := 5) (tgt := 96) (lIa_ok dd27) (by decide) h (fun c268 h => ?_) (fun c268 h => ?_)
                · refine Y.blk (pc' := 100) (L' := [some (.ref a0), some (.int a1), some (.int a2), some (.int a3)]) (st' := [.int a3, .int a2, .int a1, .ref a0]) (sg := [(.aload_n 0, 0), (.iload_n 1, 0), (.iload_n 2, 0), (.iload_n 3, 0)]) (lSa_ok dd28) rfl ?_
                  obtain ⟨_, o264, e263, m265, h⟩ := gOb_inv h
                  refine Y.callI (yC.Vi (b := a0) (As := [.int a1, .int a2, .int a3]) (st := []) (r := ("PartlisterModel", T_M, 9)) hV.1.1 cb_M_bring lk_M_139 in_M_bring rfl se_M_bring (lIa_ok dd29) rfl rfl (Nat.le_of_ble_eq_true rfl) (by decide) e263 m265) (k_M_bring hV G261 a0 a1 a2 a3) h (fun v267 G266 _ h => ?_)
                  exact Y.iret rfl (lIa_ok dd30) h
                · refine Y.blk (pc' := 95) (L' := [some (.ref a0), some (.int a1), some (.int a2), some (.int a3)]) (st' := [.int (nI 0)]) (sg := [(.iconst 0, nI 0)]) (lSa_ok dd31) rfl ?_
                  exact Y.iret rfl (lIa_ok dd32) h
              · refine Y.blk (pc' := 83) (L' := [some (.ref a0), some (.int a1), some (.int a2), some (.int a3)]) (st' := [.int (nI 1), .ref a0]) (sg := [(.iconst 1, nI 1)]) (lSa_ok dd23) rfl ?_
                refine Y.goto (off := 4) (tgt := 87) (lIa_ok dd24) (by decide) ?_
                refine Y.blk (pc' := 88) (L' := [some (.ref a0), some (.int a1), some (.int a2), some (.int a3)]) (st' := [.int (nI 2), .int (nI 1), .ref a0]) (sg := [(.iconst 2, nI 2)]) (lSa_ok dd25) rfl ?_
                obtain ⟨_, o270, e269, m271, h⟩ := gOb_inv h
                refine Y.callI (yC.Vi (b := a0) (As := [.int (nI 1), .int (nI 2)]) (st := []) (r := ("PartlisterModel", T_M, 9)) hV.1.1 cb_M_refuse lk_M_36 in_M_refuse rfl se_M_refuse (lIa_ok dd26) rfl rfl (Nat.le_of_ble_eq_true rfl) (by decide) e269 m271) (k_M_refuse hV.1 G256 a0 (nI 1) (nI 2)) h (fun v273 G272 _ h => ?_)
                refine Y.if_eq (off := 5) (tgt := 96) (lIa_ok dd27) (by decide) h (fun c279 h => ?_) (fun c279 h => ?_)
                · refine Y.blk (pc' := 100) (L' := [some (.ref a0), some (.int a1), some (.int a2), some (.int a3)]) (st' := [.int a3, .int a2, .int a1, .ref a0]) (sg := [(.aload_n 0, 0), (.iload_n 1, 0), (.iload_n 2, 0), (.iload_n 3, 0)]) (lSa_ok dd28) rfl ?_
                  obtain ⟨_, o275, e274, m276, h⟩ := gOb_inv h
                  refine Y.callI (yC.Vi (b := a0) (As := [.int a1, .int a2, .int a3]) (st := []) (r := ("PartlisterModel", T_M, 9)) hV.1.1 cb_M_bring lk_M_139 in_M_bring rfl se_M_bring (lIa_ok dd29) rfl rfl (Nat.le_of_ble_eq_true rfl) (by decide) e274 m276) (k_M_bring hV G272 a0 a1 a2 a3) h (fun v278 G277 _ h => ?_)
                  exact Y.iret rfl (lIa_ok dd30) h
                · refine Y.blk (pc' := 95) (L' := [some (.ref a0), some (.int a1), some (.int a2), some (.int a3)]) (st' := [.int (nI 0)]) (sg := [(.iconst 0, nI 0)]) (lSa_ok dd31) rfl ?_
                  exact Y.iret rfl (lIa_ok dd32) h
          · refine Y.blk (pc' := 95) (L' := [some (.ref a0), some (.int a1), some (.int a2), some (.int a3)]) (st' := [.int (nI 0)]) (sg := [(.iconst 0, nI 0)]) (lSa_ok dd31) rfl ?_
            exact Y.iret rfl (lIa_ok dd32) h
      · refine Y.blk (pc' := 95) (L' := [some (.ref a0), some (.int a1), some (.int a2), some (.int a3)]) (st' := [.int (nI 0)]) (sg := [(.iconst 0, nI 0)]) (lSa_ok dd31) rfl ?_
        exact Y.iret rfl (lIa_ok dd32) h
  · refine Y.blk (pc' := 18) (L' := [some (.ref a0), some (.int a1), some (.int a2), some (.int a3)]) (st' := [.int (nI 1), .ref a0]) (sg := [(.iconst 1, nI 1)]) (lSa_ok dd39) rfl ?_
    refine Y.goto (off := 4) (tgt := 22) (lIa_ok dd40) (by decide) ?_
    refine Y.blk (pc' := 23) (L' := [some (.ref a0), some (.int a1), some (.int a2), some (.int a3)]) (st' := [.int (nI 1), .int (nI 1), .ref a0]) (sg := [(.iconst 1, nI 1)]) (lSa_ok dd41) rfl ?_
    obtain ⟨_, o287, e286, m288, h⟩ := gOb_inv h
    refine Y.callI (yC.Vi (b := a0) (As := [.int (nI 1), .int (nI 1)]) (st := []) (r := ("PartlisterModel", T_M, 9)) hV.1.1 cb_M_start lk_M_114 in_M_start rfl se_M_start (lIa_ok dd7) rfl rfl (Nat.le_of_ble_eq_true rfl) (by decide) e286 m288) (k_M_start hV.1 G4 a0 (nI 1) (nI 1)) h (fun v290 G289 _ h => ?_)
    refine Y.if_ne (off := 68) (tgt := 94) (lIa_ok dd8) (by decide) h (fun c422 h => ?_) (fun c422 h => ?_)
    · refine Y.blk (pc' := 34) (L' := [some (.ref a0), some (.int a1), some (.int a2), some (.int a3)]) (st' := [.int a1, .ref a0, .int (nI 0), .int a2, .ref a0]) (sg := [(.aload_n 0, 0), (.iload_n 2, 0), (.iconst 0, nI 0), (.aload_n 0, 0), (.iload_n 1, 0)]) (lSa_ok dd9) rfl ?_
      obtain ⟨_, o292, e291, m293, h⟩ := gOb_inv h
      refine Y.callI (yC.Vi (b := a0) (As := [.int a1]) (st := [.int (nI 0), .int a2, .ref a0]) (r := ("PartlisterModel", T_M, 9)) hV.1.1 cb_M_length lk_M_74 in_M_length rfl se_M_length (lIa_ok dd10) rfl rfl (Nat.le_of_ble_eq_true rfl) (by decide) e291 m293) (k_M_length hV.1 G289 a0 a1) h (fun v295 G294 _ h => ?_)
      refine Y.callI (yC.S (As := [.int a2, .int (nI 0), .int v295]) (st := [.ref a0]) hV.1.1 cb_M_isIn lk_M_40 st_M_isIn (lIa_ok dd11) rfl rfl (Nat.le_of_ble_eq_true rfl) (by decide)) (k_M_isIn hV.1 G294 a2 (nI 0) v295) h (fun v298 G297 _ h => ?_)
      refine Y.if_ne (off := 7) (tgt := 47) (lIa_ok dd12) (by decide) h (fun c421 h => ?_) (fun c421 h => ?_)
      · refine Y.blk (pc' := 44) (L' := [some (.ref a0), some (.int a1), some (.int a2), some (.int a3)]) (st' := [.int (nI 1), .ref a0]) (sg := [(.iconst 1, nI 1)]) (lSa_ok dd13) rfl ?_
        refine Y.goto (off := 4) (tgt := 48) (lIa_ok dd14) (by decide) ?_
        refine Y.blk (pc' := 49) (L' := [some (.ref a0), some (.int a1), some (.int a2), some (.int a3)]) (st' := [.int (nI 1), .int (nI 1), .ref a0]) (sg := [(.iconst 1, nI 1)]) (lSa_ok dd15) rfl ?_
        obtain ⟨_, o300, e299, m301, h⟩ := gOb_inv h
        refine Y.callI (yC.Vi (b := a0) (As := [.int (nI 1), .int (nI 1)]) (st := []) (r := ("PartlisterModel", T_M, 9)) hV.1.1 cb_M_refuse lk_M_36 in_M_refuse rfl se_M_refuse (lIa_ok dd16) rfl rfl (Nat.le_of_ble_eq_true rfl) (by decide) e299 m301) (k_M_refuse hV.1 G297 a0 (nI 1) (nI 1)) h (fun v303 G302 _ h => ?_)
        refine Y.if_ne (off := 42) (tgt := 94) (lIa_ok dd17) (by decide) h (fun c359 h => ?_) (fun c359 h => ?_)
        · refine Y.blk (pc' := 58) (L' := [some (.ref a0), some (.int a1), some (.int a2), some (.int a3)]) (st' := [.int a1, .ref a0, .ref a0]) (sg := [(.aload_n 0, 0), (.aload_n 0, 0), (.iload_n 1, 0)]) (lSa_ok dd18) rfl ?_
          obtain ⟨_, o305, e304, m306, h⟩ := gOb_inv h
          refine Y.callI (yC.Vi (b := a0) (As := [.int a1]) (st := [.ref a0]) (r := ("PartlisterModel", T_M, 9)) hV.1.1 cb_M_rowOf lk_M_47 in_M_rowOf rfl se_M_rowOf (lIa_ok dd19) rfl rfl (Nat.le_of_ble_eq_true rfl) (by decide) e304 m306) (k_M_rowOf zDp hV.1 G302 a0 a1) h (fun v308 G307 _ h => ?_)
          refine Y.blk (pc' := 63) (L' := [some (.ref a0), some (.int a1), some (.int a2), some (.int a3)]) (st' := [.int a3, .ref a0, .int v308, .ref a0]) (sg := [(.aload_n 0, 0), (.iload_n 3, 0)]) (lSa_ok dd20) rfl ?_
          obtain ⟨_, o310, e309, m311, h⟩ := gOb_inv h
          refine Y.callI (yC.Vi (b := a0) (As := [.int a3]) (st := [.int v308, .ref a0]) (r := ("PartlisterModel", T_M, 9)) hV.1.1 cb_M_rowOf lk_M_47 in_M_rowOf rfl se_M_rowOf (lIa_ok dd21) rfl rfl (Nat.le_of_ble_eq_true rfl) (by decide) e309 m311) (k_M_rowOf zDp hV.1 G307 a0 a3) h (fun v313 G312 _ h => ?_)
          refine Y.ic_eq (off := 16) (tgt := 82) (lIa_ok dd22) (by decide) h (fun c358 h => ?_) (fun c358 h => ?_)
          · refine Y.blk (pc' := 83) (L' := [some (.ref a0), some (.int a1), some (.int a2), some (.int a3)]) (st' := [.int (nI 1), .ref a0]) (sg := [(.iconst 1, nI 1)]) (lSa_ok dd23) rfl ?_
            refine Y.goto (off := 4) (tgt := 87) (lIa_ok dd24) (by decide) ?_
            refine Y.blk (pc' := 88) (L' := [some (.ref a0), some (.int a1), some (.int a2), some (.int a3)]) (st' := [.int (nI 2), .int (nI 1), .ref a0]) (sg := [(.iconst 2, nI 2)]) (lSa_ok dd25) rfl ?_
            obtain ⟨_, o315, e314, m316, h⟩ := gOb_inv h
            refine Y.callI (yC.Vi (b := a0) (As := [.int (nI 1), .int (nI 2)]) (st := []) (r := ("PartlisterModel", T_M, 9)) hV.1.1 cb_M_refuse lk_M_36 in_M_refuse rfl se_M_refuse (lIa_ok dd26) rfl rfl (Nat.le_of_ble_eq_true rfl) (by decide) e314 m316) (k_M_refuse hV.1 G312 a0 (nI 1) (nI 2)) h (fun v318 G317 _ h => ?_)
            refine Y.if_eq (off := 5) (tgt := 96) (lIa_ok dd27) (by decide) h (fun c324 h => ?_) (fun c324 h => ?_)
            · refine Y.blk (pc' := 100) (L' := [some (.ref a0), some (.int a1), some (.int a2), some (.int a3)]) (st' := [.int a3, .int a2, .int a1, .ref a0]) (sg := [(.aload_n 0, 0), (.iload_n 1, 0), (.iload_n 2, 0), (.iload_n 3, 0)]) (lSa_ok dd28) rfl ?_
              obtain ⟨_, o320, e319, m321, h⟩ := gOb_inv h
              refine Y.callI (yC.Vi (b := a0) (As := [.int a1, .int a2, .int a3]) (st := []) (r := ("PartlisterModel", T_M, 9)) hV.1.1 cb_M_bring lk_M_139 in_M_bring rfl se_M_bring (lIa_ok dd29) rfl rfl (Nat.le_of_ble_eq_true rfl) (by decide) e319 m321) (k_M_bring hV G317 a0 a1 a2 a3) h (fun v323 G322 _ h => ?_)
              exact Y.iret rfl (lIa_ok dd30) h
            · refine Y.blk (pc' := 95) (L' := [some (.ref a0), some (.int a1), some (.int a2), some (.int a3)]) (st' := [.int (nI 0)]) (sg := [(.iconst 0, nI 0)]) (lSa_ok dd31) rfl ?_
              exact Y.iret rfl (lIa_ok dd32) h
          · refine Y.blk (pc' := 73) (L' := [some (.ref a0), some (.int a1), some (.int a2), some (.int a3)]) (st' := [.int a3, .ref a0, .int a1, .ref a0, .ref a0]) (sg := [(.aload_n 0, 0), (.iload_n 1, 0), (.aload_n 0, 0), (.iload_n 3, 0)]) (lSa_ok dd33) rfl ?_
            obtain ⟨_, o326, e325, m327, h⟩ := gOb_inv h
            refine Y.callI (yC.Vi (b := a0) (As := [.int a3]) (st := [.int a1, .ref a0, .ref a0]) (r := ("PartlisterModel", T_M, 9)) hV.1.1 cb_M_length lk_M_74 in_M_length rfl se_M_length (lIa_ok dd34) rfl rfl (Nat.le_of_ble_eq_true rfl) (by decide) e325 m327) (k_M_length hV.1 G312 a0 a3) h (fun v329 G328 _ h => ?_)
            obtain ⟨_, o331, e330, m332, h⟩ := gOb_inv h
            refine Y.callI (yC.Vi (b := a0) (As := [.int a1, .int v329]) (st := [.ref a0]) (r := ("PartlisterModel", T_M, 9)) hV.1.1 cb_M_isFull lk_M_117 in_M_isFull rfl se_M_isFull (lIa_ok dd35) rfl rfl (Nat.le_of_ble_eq_true rfl) (by decide) e330 m332) (k_M_isFull hV.1 G328 a0 a1 v329) h (fun v334 G333 _ h => ?_)
            refine Y.if_eq (off := 7) (tgt := 86) (lIa_ok dd36) (by decide) h (fun c357 h => ?_) (fun c357 h => ?_)
            · refine Y.blk (pc' := 88) (L' := [some (.ref a0), some (.int a1), some (.int a2), some (.int a3)]) (st' := [.int (nI 2), .int (nI 0), .ref a0]) (sg := [(.iconst 0, nI 0), (.iconst 2, nI 2)]) (lSa_ok dd37) rfl ?_
              obtain ⟨_, o336, e335, m337, h⟩ := gOb_inv h
              refine Y.callI (yC.Vi (b := a0) (As := [.int (nI 0), .int (nI 2)]) (st := []) (r := ("PartlisterModel", T_M, 9)) hV.1.1 cb_M_refuse lk_M_36 in_M_refuse rfl se_M_refuse (lIa_ok dd26) rfl rfl (Nat.le_of_ble_eq_true rfl) (by decide) e335 m337) (k_M_refuse hV.1 G333 a0 (nI 0) (nI 2)) h (fun v339 G338 _ h => ?_)
              refine Y.if_eq (off := 5) (tgt := 96) (lIa_ok dd27) (by decide) h (fun c345 h => ?_) (fun c345 h => ?_)
              · refine Y.blk (pc' := 100) (L' := [some (.ref a0), some (.int a1), some (.int a2), some (.int a3)]) (st' := [.int a3, .int a2, .int a1, .ref a0]) (sg := [(.aload_n 0, 0), (.iload_n 1, 0), (.iload_n 2, 0), (.iload_n 3, 0)]) (lSa_ok dd28) rfl ?_
                obtain ⟨_, o341, e340, m342, h⟩ := gOb_inv h
                refine Y.callI (yC.Vi (b := a0) (As := [.int a1, .int a2, .int a3]) (st := []) (r := ("PartlisterModel", T_M, 9)) hV.1.1 cb_M_bring lk_M_139 in_M_bring rfl se_M_bring (lIa_ok dd29) rfl rfl (Nat.le_of_ble_eq_true rfl) (by decide) e340 m342) (k_M_bring hV G338 a0 a1 a2 a3) h (fun v344 G343 _ h => ?_)
                exact Y.iret rfl (lIa_ok dd30) h
              · refine Y.blk (pc' := 95) (L' := [some (.ref a0), some (.int a1), some (.int a2), some (.int a3)]) (st' := [.int (nI 0)]) (sg := [(.iconst 0, nI 0)]) (lSa_ok dd31) rfl ?_
                exact Y.iret rfl (lIa_ok dd32) h
            · refine Y.blk (pc' := 83) (L' := [some (.ref a0), some (.int a1), some (.int a2), some (.int a3)]) (st' := [.int (nI 1), .ref a0]) (sg := [(.iconst 1, nI 1)]) (lSa_ok dd23) rfl ?_
              refine Y.goto (off := 4) (tgt := 87) (lIa_ok dd24) (by decide) ?_
              refine Y.blk (pc' := 88) (L' := [some (.ref a0), some (.int a1), some (.int a2), some (.int a3)]) (st' := [.int (nI 2), .int (nI 1), .ref a0]) (sg := [(.iconst 2, nI 2)]) (lSa_ok dd25) rfl ?_
              obtain ⟨_, o347, e346, m348, h⟩ := gOb_inv h
              refine Y.callI (yC.Vi (b := a0) (As := [.int (nI 1), .int (nI 2)]) (st := []) (r := ("PartlisterModel", T_M, 9)) hV.1.1 cb_M_refuse lk_M_36 in_M_refuse rfl se_M_refuse (lIa_ok dd26) rfl rfl (Nat.le_of_ble_eq_true rfl) (by decide) e346 m348) (k_M_refuse hV.1 G333 a0 (nI 1) (nI 2)) h (fun v350 G349 _ h => ?_)
              refine Y.if_eq (off := 5) (tgt := 96) (lIa_ok dd27) (by decide) h (fun c356 h => ?_) (fun c356 h => ?_)
              · refine Y.blk (pc' := 100) (L' := [some (.ref a0), some (.int a1), some (.int a2), some (.int a3)]) (st' := [.int a3, .int a2, .int a1, .ref a0]) (sg := [(.aload_n 0, 0), (.iload_n 1, 0), (.iload_n 2, 0), (.iload_n 3, 0)]) (lSa_ok dd28) rfl ?_
                obtain ⟨_, o352, e351, m353, h⟩ := gOb_inv h
                refine Y.callI (yC.Vi (b := a0) (As := [.int a1, .int a2, .int a3]) (st := []) (r := ("PartlisterModel", T_M, 9)) hV.1.1 cb_M_bring lk_M_139 in_M_bring rfl se_M_bring (lIa_ok dd29) rfl rfl (Nat.le_of_ble_eq_true rfl) (by decide) e351 m353) (k_M_bring hV G349 a0 a1 a2 a3) h (fun v355 G354 _ h => ?_)
                exact Y.iret rfl (lIa_ok dd30) h
              · refine Y.blk (pc' := 95) (L' := [some (.ref a0), some (.int a1), some (.int a2), some (.int a3)]) (st' := [.int (nI 0)]) (sg := [(.iconst 0, nI 0)]) (lSa_ok dd31) rfl ?_
                exact Y.iret rfl (lIa_ok dd32) h
        · refine Y.blk (pc' := 95) (L' := [some (.ref a0), some (.int a1), some (.int a2), some (.int a3)]) (st' := [.int (nI 0)]) (sg := [(.iconst 0, nI 0)]) (lSa_ok dd31) rfl ?_
          exact Y.iret rfl (lIa_ok dd32) h
      · refine Y.blk (pc' := 49) (L' := [some (.ref a0), some (.int a1), some (.int a2), some (.int a3)]) (st' := [.int (nI 1), .int (nI 0), .ref a0]) (sg := [(.iconst 0, nI 0), (.iconst 1, nI 1)]) (lSa_ok dd38) rfl ?_
        obtain ⟨_, o361, e360, m362, h⟩ := gOb_inv h
        refine Y.callI (yC.Vi (b := a0) (As := [.int (nI 0), .int (nI 1)]) (st := []) (r := ("PartlisterModel", T_M, 9)) hV.1.1 cb_M_refuse lk_M_36 in_M_refuse rfl se_M_refuse (lIa_ok dd16) rfl rfl (Nat.le_of_ble_eq_true rfl) (by decide) e360 m362) (k_M_refuse hV.1 G297 a0 (nI 0) (nI 1)) h (fun v364 G363 _ h => ?_)
        refine Y.if_ne (off := 42) (tgt := 94) (lIa_ok dd17) (by decide) h (fun c420 h => ?_) (fun c420 h => ?_)
        · refine Y.blk (pc' := 58) (L' := [some (.ref a0), some (.int a1), some (.int a2), some (.int a3)]) (st' := [.int a1, .ref a0, .ref a0]) (sg := [(.aload_n 0, 0), (.aload_n 0, 0), (.iload_n 1, 0)]) (lSa_ok dd18) rfl ?_
          obtain ⟨_, o366, e365, m367, h⟩ := gOb_inv h
          refine Y.callI (yC.Vi (b := a0) (As := [.int a1]) (st := [.ref a0]) (r := ("PartlisterModel", T_M, 9)) hV.1.1 cb_M_rowOf lk_M_47 in_M_rowOf rfl se_M_rowOf (lIa_ok dd19) rfl rfl (Nat.le_of_ble_eq_true rfl) (by decide) e365 m367) (k_M_rowOf zDp hV.1 G363 a0 a1) h (fun v369 G368 _ h => ?_)
          refine Y.blk (pc' := 63) (L' := [some (.ref a0), some (.int a1), some (.int a2), some (.int a3)]) (st' := [.int a3, .ref a0, .int v369, .ref a0]) (sg := [(.aload_n 0, 0), (.iload_n 3, 0)]) (lSa_ok dd20) rfl ?_
          obtain ⟨_, o371, e370, m372, h⟩ := gOb_inv h
          refine Y.callI (yC.Vi (b := a0) (As := [.int a3]) (st := [.int v369, .ref a0]) (r := ("PartlisterModel", T_M, 9)) hV.1.1 cb_M_rowOf lk_M_47 in_M_rowOf rfl se_M_rowOf (lIa_ok dd21) rfl rfl (Nat.le_of_ble_eq_true rfl) (by decide) e370 m372) (k_M_rowOf zDp hV.1 G368 a0 a3) h (fun v374 G373 _ h => ?_)
          refine Y.ic_eq (off := 16) (tgt := 82) (lIa_ok dd22) (by decide) h (fun c419 h => ?_) (fun c419 h => ?_)
          · refine Y.blk (pc' := 83) (L' := [some (.ref a0), some (.int a1), some (.int a2), some (.int a3)]) (st' := [.int (nI 1), .ref a0]) (sg := [(.iconst 1, nI 1)]) (lSa_ok dd23) rfl ?_
            refine Y.goto (off := 4) (tgt := 87) (lIa_ok dd24) (by decide) ?_
            refine Y.blk (pc' := 88) (L' := [some (.ref a0), some (.int a1), some (.int a2), some (.int a3)]) (st' := [.int (nI 2), .int (nI 1), .ref a0]) (sg := [(.iconst 2, nI 2)]) (lSa_ok dd25) rfl ?_
            obtain ⟨_, o376, e375, m377, h⟩ := gOb_inv h
            refine Y.callI (yC.Vi (b := a0) (As := [.int (nI 1), .int (nI 2)]) (st := []) (r := ("PartlisterModel", T_M, 9)) hV.1.1 cb_M_refuse lk_M_36 in_M_refuse rfl se_M_refuse (lIa_ok dd26) rfl rfl (Nat.le_of_ble_eq_true rfl) (by decide) e375 m377) (k_M_refuse hV.1 G373 a0 (nI 1) (nI 2)) h (fun v379 G378 _ h => ?_)
            refine Y.if_eq (off := 5) (tgt := 96) (lIa_ok dd27) (by decide) h (fun c385 h => ?_) (fun c385 h => ?_)
            · refine Y.blk (pc' := 100) (L' := [some (.ref a0), some (.int a1), some (.int a2), some (.int a3)]) (st' := [.int a3, .int a2, .int a1, .ref a0]) (sg := [(.aload_n 0, 0), (.iload_n 1, 0), (.iload_n 2, 0), (.iload_n 3, 0)]) (lSa_ok dd28) rfl ?_
              obtain ⟨_, o381, e380, m382, h⟩ := gOb_inv h
              refine Y.callI (yC.Vi (b := a0) (As := [.int a1, .int a2, .int a3]) (st := []) (r := ("PartlisterModel", T_M, 9)) hV.1.1 cb_M_bring lk_M_139 in_M_bring rfl se_M_bring (lIa_ok dd29) rfl rfl (Nat.le_of_ble_eq_true rfl) (by decide) e380 m382) (k_M_bring hV G378 a0 a1 a2 a3) h (fun v384 G383 _ h => ?_)
              exact Y.iret rfl (lIa_ok dd30) h
            · refine Y.blk (pc' := 95) (L' := [some (.ref a0), some (.int a1), some (.int a2), some (.int a3)]) (st' := [.int (nI 0)]) (sg := [(.iconst 0, nI 0)]) (lSa_ok dd31) rfl ?_
              exact Y.iret rfl (lIa_ok dd32) h
          · refine Y.blk (pc' := 73) (L' := [some (.ref a0), some (.int a1), some (.int a2), some (.int a3)]) (st' := [.int a3, .ref a0, .int a1, .ref a0, .ref a0]) (sg := [(.aload_n 0, 0), (.iload_n 1, 0), (.aload_n 0, 0), (.iload_n 3, 0)]) (lSa_ok dd33) rfl ?_
            obtain ⟨_, o387, e386, m388, h⟩ := gOb_inv h
            refine Y.callI (yC.Vi (b := a0) (As := [.int a3]) (st := [.int a1, .ref a0, .ref a0]) (r := ("PartlisterModel", T_M, 9)) hV.1.1 cb_M_length lk_M_74 in_M_length rfl se_M_length (lIa_ok dd34) rfl rfl (Nat.le_of_ble_eq_true rfl) (by decide) e386 m388) (k_M_length hV.1 G373 a0 a3) h (fun v390 G389 _ h => ?_)
            obtain ⟨_, o392, e391, m393, h⟩ := gOb_inv h
            refine Y.callI (yC.Vi (b := a0) (As := [.int a1, .int v390]) (st := [.ref a0]) (r := ("PartlisterModel", T_M, 9)) hV.1.1 cb_M_isFull lk_M_117 in_M_isFull rfl se_M_isFull (lIa_ok dd35) rfl rfl (Nat.le_of_ble_eq_true rfl) (by decide) e391 m393) (k_M_isFull hV.1 G389 a0 a1 v390) h (fun v395 G394 _ h => ?_)
            refine Y.if_eq (off := 7) (tgt := 86) (lIa_ok dd36) (by decide) h (fun c418 h => ?_) (fun c418 h => ?_)
            · refine Y.blk (pc' := 88) (L' := [some (.ref a0), some (.int a1), some (.int a2), some (.int a3)]) (st' := [.int (nI 2), .int (nI 0), .ref a0]) (sg := [(.iconst 0, nI 0), (.iconst 2, nI 2)]) (lSa_ok dd37) rfl ?_
              obtain ⟨_, o397, e396, m398, h⟩ := gOb_inv h
              refine Y.callI (yC.Vi (b := a0) (As := [.int (nI 0), .int (nI 2)]) (st := []) (r := ("PartlisterModel", T_M, 9)) hV.1.1 cb_M_refuse lk_M_36 in_M_refuse rfl se_M_refuse (lIa_ok dd26) rfl rfl (Nat.le_of_ble_eq_true rfl) (by decide) e396 m398) (k_M_refuse hV.1 G394 a0 (nI 0) (nI 2)) h (fun v400 G399 _ h => ?_)
              refine Y.if_eq (off := 5) (tgt := 96) (lIa_ok dd27) (by decide) h (fun c406 h => ?_) (fun c406 h => ?_)
              · refine Y.blk (pc' := 100) (L' := [some (.ref a0), some (.int a1), some (.int a2), some (.int a3)]) (st' := [.int a3, .int a2, .int a1, .ref a0]) (sg := [(.aload_n 0, 0), (.iload_n 1, 0), (.iload_n 2, 0), (.iload_n 3, 0)]) (lSa_ok dd28) rfl ?_
                obtain ⟨_, o402, e401, m403, h⟩ := gOb_inv h
                refine Y.callI (yC.Vi (b := a0) (As := [.int a1, .int a2, .int a3]) (st := []) (r := ("PartlisterModel", T_M, 9)) hV.1.1 cb_M_bring lk_M_139 in_M_bring rfl se_M_bring (lIa_ok dd29) rfl rfl (Nat.le_of_ble_eq_true rfl) (by decide) e401 m403) (k_M_bring hV G399 a0 a1 a2 a3) h (fun v405 G404 _ h => ?_)
                exact Y.iret rfl (lIa_ok dd30) h
              · refine Y.blk (pc' := 95) (L' := [some (.ref a0), some (.int a1), some (.int a2), some (.int a3)]) (st' := [.int (nI 0)]) (sg := [(.iconst 0, nI 0)]) (lSa_ok dd31) rfl ?_
                exact Y.iret rfl (lIa_ok dd32) h
            · refine Y.blk (pc' := 83) (L' := [some (.ref a0), some (.int a1), some (.int a2), some (.int a3)]) (st' := [.int (nI 1), .ref a0]) (sg := [(.iconst 1, nI 1)]) (lSa_ok dd23) rfl ?_
              refine Y.goto (off := 4) (tgt := 87) (lIa_ok dd24) (by decide) ?_
              refine Y.blk (pc' := 88) (L' := [some (.ref a0), some (.int a1), some (.int a2), some (.int a3)]) (st' := [.int (nI 2), .int (nI 1), .ref a0]) (sg := [(.iconst 2, nI 2)]) (lSa_ok dd25) rfl ?_
              obtain ⟨_, o408, e407, m409, h⟩ := gOb_inv h
              refine Y.callI (yC.Vi (b := a0) (As := [.int (nI 1), .int (nI 2)]) (st := []) (r := ("PartlisterModel", T_M, 9)) hV.1.1 cb_M_refuse lk_M_36 in_M_refuse rfl se_M_refuse (lIa_ok dd26) rfl rfl (Nat.le_of_ble_eq_true rfl) (by decide) e407 m409) (k_M_refuse hV.1 G394 a0 (nI 1) (nI 2)) h (fun v411 G410 _ h => ?_)
              refine Y.if_eq (off := 5) (tgt := 96) (lIa_ok dd27) (by decide) h (fun c417 h => ?_) (fun c417 h => ?_)
              · refine Y.blk (pc' := 100) (L' := [some (.ref a0), some (.int a1), some (.int a2), some (.int a3)]) (st' := [.int a3, .int a2, .int a1, .ref a0]) (sg := [(.aload_n 0, 0), (.iload_n 1, 0), (.iload_n 2, 0), (.iload_n 3, 0)]) (lSa_ok dd28) rfl ?_
                obtain ⟨_, o413, e412, m414, h⟩ := gOb_inv h
                refine Y.callI (yC.Vi (b := a0) (As := [.int a1, .int a2, .int a3]) (st := []) (r := ("PartlisterModel", T_M, 9)) hV.1.1 cb_M_bring lk_M_139 in_M_bring rfl se_M_bring (lIa_ok dd29) rfl rfl (Nat.le_of_ble_eq_true rfl) (by decide) e412 m414) (k_M_bring hV G410 a0 a1 a2 a3) h (fun v416 G415 _ h => ?_)
                exact Y.iret rfl (lIa_ok dd30) h
              · refine Y.blk (pc' := 95) (L' := [some (.ref a0), some (.int a1), some (.int a2), some (.int a3)]) (st' := [.int (nI 0)]) (sg := [(.iconst 0, nI 0)]) (lSa_ok dd31) rfl ?_
                exact Y.iret rfl (lIa_ok dd32) h
        · refine Y.blk (pc' := 95) (L' := [some (.ref a0), some (.int a1), some (.int a2), some (.int a3)]) (st' := [.int (nI 0)]) (sg := [(.iconst 0, nI 0)]) (lSa_ok dd31) rfl ?_
          exact Y.iret rfl (lIa_ok dd32) h
    · refine Y.blk (pc' := 95) (L' := [some (.ref a0), some (.int a1), some (.int a2), some (.int a3)]) (st' := [.int (nI 0)]) (sg := [(.iconst 0, nI 0)]) (lSa_ok dd31) rfl ?_
      exact Y.iret rfl (lIa_ok dd32) h
end
section
def f_M_addAt (w : Nat → Nat) (G : gH) (a0 : Nat) (a1 : Int32) (a2 : Int32) (a3 : Int32) : gR :=
  gOb G a0 6 fun o2 => bI (f_M_isNoList G a0 a1) fun v5 G4 => gOb G4 a0 6 fun o7 => bI (f_M_start G4 a0 v5 (nI 1)) fun v10 G9 => if v10 = 0 then (gOb G9 a0 6 fun o12 => bI (f_M_length G9 a0 a1) fun v15 G14 => bI (f_M_isIn G14 a2 (nI 0) v15) fun v18 G17 => if v18 = 0 then (gOb G17 a0 6 fun o20 => bI (f_M_refuse G17 a0 (nI 1) (nI 1)) fun v23 G22 => if v23 = 0 then (bI (f_M_isIn G22 a3 (nI 0) (nI 30)) fun v26 G25 => if v26 = 0 then (gOb G25 a0 6 fun o28 => bI (f_M_refuse G25 a0 (nI 1) (nI 2)) fun v31 G30 => if v31 = 0 then (gOb G30 a0 6 fun o33 => bI (f_M_isFull G30 a0 a1 (nI 1)) fun v36 G35 => gOb G35 a0 6 fun o38 => bI (f_M_refuse G35 a0 v36 (nI 3)) fun v41 G40 => if v41 = 0 then gOb G40 a0 6 fun o43 => bA (f_M_make G40 a0 a3) fun v46 G45 => gOb G45 a0 6 fun o48 => bV (f_M_come w G45 a0 a1 a2 v46) fun G50 => gOb G50 a0 6 fun o52 => bV (f_M_change G50 a0 a1 (nI 1) (-1)) fun G54 => gFI G54 a0 6 4 fun v55 => rI (v55 - (nI 1)) G54
            else rI (nI 0) G40)
          else rI (nI 0) G30)
        else gOb G25 a0 6 fun o59 => bI (f_M_refuse G25 a0 (nI 0) (nI 2)) fun v62 G61 => if v62 = 0 then (gOb G61 a0 6 fun o64 => bI (f_M_isFull G61 a0 a1 (nI 1)) fun v67 G66 => gOb G66 a0 6 fun o69 => bI (f_M_refuse G66 a0 v67 (nI 3)) fun v72 G71 => if v72 = 0 then gOb G71 a0 6 fun o74 => bA (f_M_make G71 a0 a3) fun v77 G76 => gOb G76 a0 6 fun o79 => bV (f_M_come w G76 a0 a1 a2 v77) fun G81 => gOb G81 a0 6 fun o83 => bV (f_M_change G81 a0 a1 (nI 1) (-1)) fun G85 => gFI G85 a0 6 4 fun v86 => rI (v86 - (nI 1)) G85
            else rI (nI 0) G71)
          else rI (nI 0) G61)
      else rI (nI 0) G22)
    else gOb G17 a0 6 fun o92 => bI (f_M_refuse G17 a0 (nI 0) (nI 1)) fun v95 G94 => if v95 = 0 then (bI (f_M_isIn G94 a3 (nI 0) (nI 30)) fun v98 G97 => if v98 = 0 then (gOb G97 a0 6 fun o100 => bI (f_M_refuse G97 a0 (nI 1) (nI 2)) fun v103 G102 => if v103 = 0 then (gOb G102 a0 6 fun o105 => bI (f_M_isFull G102 a0 a1 (nI 1)) fun v108 G107 => gOb G107 a0 6 fun o110 => bI (f_M_refuse G107 a0 v108 (nI 3)) fun v113 G112 => if v113 = 0 then gOb G112 a0 6 fun o115 => bA (f_M_make G112 a0 a3) fun v118 G117 => gOb G117 a0 6 fun o120 => bV (f_M_come w G117 a0 a1 a2 v118) fun G122 => gOb G122 a0 6 fun o124 => bV (f_M_change G122 a0 a1 (nI 1) (-1)) fun G126 => gFI G126 a0 6 4 fun v127 => rI (v127 - (nI 1)) G126
            else rI (nI 0) G112)
          else rI (nI 0) G102)
        else gOb G97 a0 6 fun o131 => bI (f_M_refuse G97 a0 (nI 0) (nI 2)) fun v134 G133 => if v134 = 0 then (gOb G133 a0 6 fun o136 => bI (f_M_isFull G133 a0 a1 (nI 1)) fun v139 G138 => gOb G138 a0 6 fun o141 => bI (f_M_refuse G138 a0 v139 (nI 3)) fun v144 G143 => if v144 = 0 then gOb G143 a0 6 fun o146 => bA (f_M_make G143 a0 a3) fun v149 G148 => gOb G148 a0 6 fun o151 => bV (f_M_come w G148 a0 a1 a2 v149) fun G153 => gOb G153 a0 6 fun o155 => bV (f_M_change G153 a0 a1 (nI 1) (-1)) fun G157 => gFI G157 a0 6 4 fun v158 => rI (v158 - (nI 1)) G157
            else rI (nI 0) G143)
          else rI (nI 0) G133)
      else rI (nI 0) G94)
  else rI (nI 0) G9
theorem k_M_addAt {l : Launch} {D : va_G} {B : Nat} {O : State → Heap → Prop} {w : Nat → Nat} (hV : zGw l D B O w) (G : gH) (a0 : Nat) (a1 : Int32) (a2 : Int32) (a3 : Int32) : gMet (zVm l D B O) m_M_addAt 14 [.ref a0, .int a1, .int a2, .int a3] G (f_M_addAt w G a0 a1 a2 a3) := by
  have hdd : lSa m_M_addAt 0 [(.aload_n 0, 0), (.aload_n 0, 0), (.iload_n 1, 0)] = true ∧ lIa m_M_addAt 3 (.invokevirtual 110) 3 = true ∧ lSa m_M_addAt 6 [(.iconst 1, nI 1)] = true ∧ lIa m_M_addAt 7 (.invokevirtual 114) 3 = true ∧ lIa m_M_addAt 10 (.ifCond .ne 66) 3 = true ∧ lSa m_M_addAt 13 [(.aload_n 0, 0), (.iload_n 2, 0), (.iconst 0, nI 0), (.aload_n 0, 0), (.iload_n 1, 0)] = true ∧ lIa m_M_addAt 18 (.invokevirtual 74) 3 = true ∧ lIa m_M_addAt 21 (.invokestatic 40) 3 = true ∧ lIa m_M_addAt 24 (.ifCond .ne 7) 3 = true ∧ lSa m_M_addAt 27 [(.iconst 1, nI 1)] = true ∧ lIa m_M_addAt 28 (.goto 4) 3 = true ∧ lSa m_M_addAt 32 [(.iconst 1, nI 1)] = true ∧ lIa m_M_addAt 33 (.invokevirtual 36) 3 = true ∧ lIa m_M_addAt 36 (.ifCond .ne 40) 3 = true ∧ lSa m_M_addAt 39 [(.aload_n 0, 0), (.iload_n 3, 0), (.iconst 0, nI 0), (.bipush 30, nI 30)] = true ∧ lIa m_M_addAt 44 (.invokestatic 40) 3 = true ∧ lIa m_M_addAt 47 (.ifCond .ne 7) 3 = true ∧ lSa m_M_addAt 50 [(.iconst 1, nI 1)] = true ∧ lIa m_M_addAt 51 (.goto 4) 3 = true ∧ lSa m_M_addAt 55 [(.iconst 2, nI 2)] = true ∧ lIa m_M_addAt 56 (.invokevirtual 36) 3 = true ∧ lIa m_M_addAt 59 (.ifCond .ne 17) 3 = true ∧ lSa m_M_addAt 62 [(.aload_n 0, 0), (.aload_n 0, 0), (.iload_n 1, 0), (.iconst 1, nI 1)] = true ∧ lIa m_M_addAt 66 (.invokevirtual 117) 3 = true ∧ lSa m_M_addAt 69 [(.iconst 3, nI 3)] = true ∧ lIa m_M_addAt 70 (.invokevirtual 36) 3 = true ∧ lIa m_M_addAt 73 (.ifCond .eq 5) 3 = true ∧ lSa m_M_addAt 78 [(.aload_n 0, 0), (.iload_n 1, 0), (.iload_n 2, 0), (.aload_n 0, 0), (.iload_n 3, 0)] = true ∧ lIa m_M_addAt 83 (.invokevirtual 120) 3 = true ∧ lIa m_M_addAt 86 (.invokevirtual 124) 3 = true ∧ lSa m_M_addAt 89 [(.aload_n 0, 0), (.iload_n 1, 0), (.iconst 1, nI 1), (.iconst (-1), -1)] = true ∧ lIa m_M_addAt 93 (.invokevirtual 128) 3 = true ∧ lSa m_M_addAt 96 [(.aload_n 0, 0)] = true ∧ lIa m_M_addAt 97 (.getfield 76) 3 = true ∧ lSa m_M_addAt 100 [(.iconst 1, nI 1), (.isub, 0)] = true ∧ lIa m_M_addAt 102 (.ireturn) 1 = true ∧ lSa m_M_addAt 76 [(.iconst 0, nI 0)] = true ∧ lIa m_M_addAt 77 (.ireturn) 1 = true ∧ lSa m_M_addAt 54 [(.iconst 0, nI 0), (.iconst 2, nI 2)] = true ∧ lSa m_M_addAt 31 [(.iconst 0, nI 0), (.iconst 1, nI 1)] = true := by decide +kernel
  refine lA8 hdd (fun dd0 dd1 dd2 dd3 dd4 dd5 dd6 dd7 hdd => ?_)
  refine lA8 hdd (fun dd8 dd9 dd10 dd11 dd12 dd13 dd14 dd15 hdd => ?_)
  refine lA8 hdd (fun dd16 dd17 dd18 dd19 dd20 dd21 dd22 dd23 hdd => ?_)
  refine lA8 hdd (fun dd24 dd25 dd26 dd27 dd28 dd29 dd30 dd31 hdd => ?_)
  obtain ⟨dd32, dd33, dd34, dd35, dd36, dd37, dd38, dd39⟩ := hdd
  refine gMet.of (by decide +kernel) (Nat.le_of_ble_eq_true rfl) [some (.ref a0), some (.int a1), some (.int a2), some (.int a3)] (fun ls h => zEn_ok (n := 4) h) ?_
  intro o Gf h
  unfold f_M_addAt at h
  refine Y.blk (pc' := 3) (L' := [some (.ref a0), some (.int a1), some (.int a2), some (.int a3)]) (st' := [.int a1, .ref a0, .ref a0]) (sg := [(.aload_n 0, 0), (.aload_n 0, 0), (.iload_n 1, 0)]) (lSa_ok dd0) rfl ?_
  obtain ⟨_, o2, e1, m3, h⟩ := gOb_inv h
  refine Y.callI (yC.Vi (b := a0) (As := [.int a1]) (st := [.ref a0]) (r := ("PartlisterModel", T_M, 9)) hV.1.1 cb_M_isNoList lk_M_110 in_M_isNoList rfl se_M_isNoList (lIa_ok dd1) rfl rfl (Nat.le_of_ble_eq_true rfl) (by decide) e1 m3) (k_M_isNoList hV.1 G a0 a1) h (fun v5 G4 _ h => ?_)
  refine Y.blk (pc' := 7) (L' := [some (.ref a0), some (.int a1), some (.int a2), some (.int a3)]) (st' := [.int (nI 1), .int v5, .ref a0]) (sg := [(.iconst 1, nI 1)]) (lSa_ok dd2) rfl ?_
  obtain ⟨_, o7, e6, m8, h⟩ := gOb_inv h
  refine Y.callI (yC.Vi (b := a0) (As := [.int v5, .int (nI 1)]) (st := []) (r := ("PartlisterModel", T_M, 9)) hV.1.1 cb_M_start lk_M_114 in_M_start rfl se_M_start (lIa_ok dd3) rfl rfl (Nat.le_of_ble_eq_true rfl) (by decide) e6 m8) (k_M_start hV.1 G4 a0 v5 (nI 1)) h (fun v10 G9 _ h => ?_)
  refine Y.if_ne (off := 66) (tgt := 76) (lIa_ok dd4) (by decide) h (fun c164 h => ?_) (fun c164 h => ?_)
  · refine Y.blk (pc' := 18) (L' := [some (.ref a0), some (.int a1), some (.int a2), some (.int a3)]) (st' := [.int a1, .ref a0, .int (nI 0), .int a2, .ref a0]) (sg := [(.aload_n 0, 0), (.iload_n 2, 0), (.iconst 0, nI 0), (.aload_n 0, 0), (.iload_n 1, 0)]) (lSa_ok dd5) rfl ?_
    obtain ⟨_, o12, e11, m13, h⟩ := gOb_inv h
    refine Y.callI (yC.Vi (b := a0) (As := [.int a1]) (st := [.int (nI 0), .int a2, .ref a0]) (r := ("PartlisterModel", T_M, 9)) hV.1.1 cb_M_length lk_M_74 in_M_length rfl se_M_length (lIa_ok dd6) rfl rfl (Nat.le_of_ble_eq_true rfl) (by decide) e11 m13) (k_M_length hV.1 G9 a0 a1) h (fun v15 G14 _ h => ?_)
    refine Y.callI (yC.S (As := [.int a2, .int (nI 0), .int v15]) (st := [.ref a0]) hV.1.1 cb_M_isIn lk_M_40 st_M_isIn (lIa_ok dd7) rfl rfl (Nat.le_of_ble_eq_true rfl) (by decide)) (k_M_isIn hV.1 G14 a2 (nI 0) v15) h (fun v18 G17 _ h => ?_)
    refine Y.if_ne (off := 7) (tgt := 31) (lIa_ok dd8) (by decide) h (fun c163 h => ?_) (fun c163 h => ?_)
    · refine Y.blk (pc' := 28) (L' := [some (.ref a0), some (.int a1), some (.int a2), some (.int a3)]) (st' := [.int (nI 1), .ref a0]) (sg := [(.iconst 1, nI 1)]) (lSa_ok dd9) rfl ?_
      refine Y.goto (off := 4) (tgt := 32) (lIa_ok dd10) (by decide) ?_
      refine Y.blk (pc' := 33) (L' := [some (.ref a0), some (.int a1), some (.int a2), some (.int a3)]) (st' := [.int (nI 1), .int (nI 1), .ref a0]) (sg := [(.iconst 1, nI 1)]) (lSa_ok dd11) rfl ?_
      obtain ⟨_, o20, e19, m21, h⟩ := gOb_inv h
      refine Y.callI (yC.Vi (b := a0) (As := [.int (nI 1), .int (nI 1)]) (st := []) (r := ("PartlisterModel", T_M, 9)) hV.1.1 cb_M_refuse lk_M_36 in_M_refuse rfl se_M_refuse (lIa_ok dd12) rfl rfl (Nat.le_of_ble_eq_true rfl) (by decide) e19 m21) (k_M_refuse hV.1 G17 a0 (nI 1) (nI 1)) h (fun v23 G22 _ h => ?_)
      refine Y.if_ne (off := 40) (tgt := 76) (lIa_ok dd13) (by decide) h (fun c90 h => ?_) (fun c90 h => ?_)
      · refine Y.blk (pc' := 44) (L' := [some (.ref a0), some (.int a1), some (.int a2), some (.int a3)]) (st' := [.int (nI 30), .int (nI 0), .int a3, .ref a0]) (sg := [(.aload_n 0, 0), (.iload_n 3, 0), (.iconst 0, nI 0), (.bipush 30, nI 30)]) (lSa_ok dd14) rfl ?_
        refine Y.callI (yC.S (As := [.int a3, .int (nI 0), .int (nI 30)]) (st := [.ref a0]) hV.1.1 cb_M_isIn lk_M_40 st_M_isIn (lIa_ok dd15) rfl rfl (Nat.le_of_ble_eq_true rfl) (by decide)) (k_M_isIn hV.1 G22 a3 (nI 0) (nI 30)) h (fun v26 G25 _ h => ?_)
        refine Y.if_ne (off := 7) (tgt := 54) (lIa_ok dd16) (by decide) h (fun c89 h => ?_) (fun c89 h => ?_)
        · refine Y.blk (pc' := 51) (L' := [some (.ref a0), some (.int a1), some (.int a2), some (.int a3)]) (st' := [.int (nI 1), .ref a0]) (sg := [(.iconst 1, nI 1)]) (lSa_ok dd17) rfl ?_
          refine Y.goto (off := 4) (tgt := 55) (lIa_ok dd18) (by decide) ?_
          refine Y.blk (pc' := 56) (L' := [some (.ref a0), some (.int a1), some (.int a2), some (.int a3)]) (st' := [.int (nI 2), .int (nI 1), .ref a0]) (sg := [(.iconst 2, nI 2)]) (lSa_ok dd19) rfl ?_
          obtain ⟨_, o28, e27, m29, h⟩ := gOb_inv h
          refine Y.callI (yC.Vi (b := a0) (As := [.int (nI 1), .int (nI 2)]) (st := []) (r := ("PartlisterModel", T_M, 9)) hV.1.1 cb_M_refuse lk_M_36 in_M_refuse rfl se_M_refuse (lIa_ok dd20) rfl rfl (Nat.le_of_ble_eq_true rfl) (by decide) e27 m29) (k_M_refuse hV.1 G25 a0 (nI 1) (nI 2)) h (fun v31 G30 _ h => ?_)
          refine Y.if_ne (off := 17) (tgt := 76) (lIa_ok dd21) (by decide) h (fun c57 h => ?_) (fun c57 h => ?_)
          · refine Y.blk (pc' := 66) (L' := [some (.ref a0), some (.int a1), some (.int a2), some (.int a3)]) (st' := [.int (nI 1), .int a1, .ref a0, .ref a0]) (sg := [(.aload_n 0, 0), (.aload_n 0, 0), (.iload_n 1, 0), (.iconst 1, nI 1)]) (lSa_ok dd22) rfl ?_
            obtain ⟨_, o33, e32, m34, h⟩ := gOb_inv h
            refine Y.callI (yC.Vi (b := a0) (As := [.int a1, .int (nI 1)]) (st := [.ref a0]) (r := ("PartlisterModel", T_M, 9)) hV.1.1 cb_M_isFull lk_M_117 in_M_isFull rfl se_M_isFull (lIa_ok dd23) rfl rfl (Nat.le_of_ble_eq_true rfl) (by decide) e32 m34) (k_M_isFull hV.1 G30 a0 a1 (nI 1)) h (fun v36 G35 _ h => ?_)
            refine Y.blk (pc' := 70) (L' := [some (.ref a0), some (.int a1), some (.int a2), some (.int a3)]) (st' := [.int (nI 3), .int v36, .ref a0]) (sg := [(.iconst 3, nI 3)]) (lSa_ok dd24) rfl ?_
            obtain ⟨_, o38, e37, m39, h⟩ := gOb_inv h
            refine Y.callI (yC.Vi (b := a0) (As := [.int v36, .int (nI 3)]) (st := []) (r := ("PartlisterModel", T_M, 9)) hV.1.1 cb_M_refuse lk_M_36 in_M_refuse rfl se_M_refuse (lIa_ok dd25) rfl rfl (Nat.le_of_ble_eq_true rfl) (by decide) e37 m39) (k_M_refuse hV.1 G35 a0 v36 (nI 3)) h (fun v41 G40 _ h => ?_)
            refine Y.if_eq (off := 5) (tgt := 78) (lIa_ok dd26) (by decide) h (fun c56 h => ?_) (fun c56 h => ?_)
            · refine Y.blk (pc' := 83) (L' := [some (.ref a0), some (.int a1), some (.int a2), some (.int a3)]) (st' := [.int a3, .ref a0, .int a2, .int a1, .ref a0]) (sg := [(.aload_n 0, 0), (.iload_n 1, 0), (.iload_n 2, 0), (.aload_n 0, 0), (.iload_n 3, 0)]) (lSa_ok dd27) rfl ?_
              obtain ⟨_, o43, e42, m44, h⟩ := gOb_inv h
              refine Y.callA (yC.Vi (b := a0) (As := [.int a3]) (st := [.int a2, .int a1, .ref a0]) (r := ("PartlisterModel", T_M, 9)) hV.1.1 cb_M_make lk_M_120 in_M_make rfl se_M_make (lIa_ok dd28) rfl rfl (Nat.le_of_ble_eq_true rfl) (by decide) e42 m44) (k_M_make hV.1 G40 a0 a3) h (fun v46 G45 _ h => ?_)
              obtain ⟨_, o48, e47, m49, h⟩ := gOb_inv h
              refine Y.callN (yC.Vi (b := a0) (As := [.int a1, .int a2, .ref v46]) (st := []) (r := ("PartlisterModel", T_M, 9)) hV.1.1 cb_M_come lk_M_124 in_M_come rfl se_M_come (lIa_ok dd29) rfl rfl (Nat.le_of_ble_eq_true rfl) (by decide) e47 m49) (k_M_come hV G45 a0 a1 a2 v46) h (fun G50 _ h => ?_)
              refine Y.blk (pc' := 93) (L' := [some (.ref a0), some (.int a1), some (.int a2), some (.int a3)]) (st' := [.int (-1), .int (nI 1), .int a1, .ref a0]) (sg := [(.aload_n 0, 0), (.iload_n 1, 0), (.iconst 1, nI 1), (.iconst (-1), -1)]) (lSa_ok dd30) rfl ?_
              obtain ⟨_, o52, e51, m53, h⟩ := gOb_inv h
              refine Y.callN (yC.Vi (b := a0) (As := [.int a1, .int (nI 1), .int (-1)]) (st := []) (r := ("PartlisterModel", T_M, 9)) hV.1.1 cb_M_change lk_M_128 in_M_change rfl se_M_change (lIa_ok dd31) rfl rfl (Nat.le_of_ble_eq_true rfl) (by decide) e51 m53) (k_M_change hV.1 G50 a0 a1 (nI 1) (-1)) h (fun G54 _ h => ?_)
              refine Y.blk (pc' := 97) (L' := [some (.ref a0), some (.int a1), some (.int a2), some (.int a3)]) (st' := [.ref a0]) (sg := [(.aload_n 0, 0)]) (lSa_ok dd32) rfl ?_
              refine Y.getI fl_M_76 (lIa_ok dd33) h (fun v55 h => ?_)
              refine Y.blk (pc' := 102) (L' := [some (.ref a0), some (.int a1), some (.int a2), some (.int a3)]) (st' := [.int (v55 - (nI 1))]) (sg := [(.iconst 1, nI 1), (.isub, 0)]) (lSa_ok dd34) rfl ?_
              exact Y.iret rfl (lIa_ok dd35) h
            · refine Y.blk (pc' := 77) (L' := [some (.ref a0), some (.int a1), some (.int a2), some (.int a3)]) (st' := [.int (nI 0)]) (sg := [(.iconst 0, nI 0)]) (lSa_ok dd36) rfl ?_
              exact Y.iret rfl (lIa_ok dd37) h
          · refine Y.blk (pc' := 77) (L' := [some (.ref a0), some (.int a1), some (.int a2), some (.int a3)]) (st' := [.int (nI 0)]) (sg := [(.iconst 0, nI 0)]) (lSa_ok dd36) rfl ?_
            exact Y.iret rfl (lIa_ok dd37) h
        · refine Y.blk (pc' := 56) (L' := [some (.ref a0), some (.int a1), some (.int a2), some (.int a3)]) (st' := [.int (nI 2), .int (nI 0), .ref a0]) (sg := [(.iconst 0, nI 0), (.iconst 2, nI 2)]) (lSa_ok dd38) rfl ?_
          obtain ⟨_, o59, e58, m60, h⟩ := gOb_inv h
          refine Y.callI (yC.Vi (b := a0) (As := [.int (nI 0), .int (nI 2)]) (st := []) (r := ("PartlisterModel", T_M, 9)) hV.1.1 cb_M_refuse lk_M_36 in_M_refuse rfl se_M_refuse (lIa_ok dd20) rfl rfl (Nat.le_of_ble_eq_true rfl) (by decide) e58 m60) (k_M_refuse hV.1 G25 a0 (nI 0) (nI 2)) h (fun v62 G61 _ h => ?_)
          refine Y.if_ne (off := 17) (tgt := 76) (lIa_ok dd21) (by decide) h (fun c88 h => ?_) (fun c88 h => ?_)
          · refine Y.blk (pc' := 66) (L' := [some (.ref a0), some (.int a1), some (.int a2), some (.int a3)]) (st' := [.int (nI 1), .int a1, .ref a0, .ref a0]) (sg := [(.aload_n 0, 0), (.aload_n 0, 0), (.iload_n 1, 0), (.iconst 1, nI 1)]) (lSa_ok dd22) rfl ?_
            obtain ⟨_, o64, e63, m65, h⟩ := gOb_inv h
            refine Y.callI (yC.Vi (b := a0) (As := [.int a1, .int (nI 1)]) (st := [.ref a0]) (r := ("PartlisterModel", T_M, 9)) hV.1.1 cb_M_isFull lk_M_117 in_M_isFull rfl se_M_isFull (lIa_ok dd23) rfl rfl (Nat.le_of_ble_eq_true rfl) (by decide) e63 m65) (k_M_isFull hV.1 G61 a0 a1 (nI 1)) h (fun v67 G66 _ h => ?_)
            refine Y.blk (pc' := 70) (L' := [some (.ref a0), some (.int a1), some (.int a2), some (.int a3)]) (st' := [.int (nI 3), .int v67, .ref a0]) (sg := [(.iconst 3, nI 3)]) (lSa_ok dd24) rfl ?_
            obtain ⟨_, o69, e68, m70, h⟩ := gOb_inv h
            refine Y.callI (yC.Vi (b := a0) (As := [.int v67, .int (nI 3)]) (st := []) (r := ("PartlisterModel", T_M, 9)) hV.1.1 cb_M_refuse lk_M_36 in_M_refuse rfl se_M_refuse (lIa_ok dd25) rfl rfl (Nat.le_of_ble_eq_true rfl) (by decide) e68 m70) (k_M_refuse hV.1 G66 a0 v67 (nI 3)) h (fun v72 G71 _ h => ?_)
            refine Y.if_eq (off := 5) (tgt := 78) (lIa_ok dd26) (by decide) h (fun c87 h => ?_) (fun c87 h => ?_)
            · refine Y.blk (pc' := 83) (L' := [some (.ref a0), some (.int a1), some (.int a2), some (.int a3)]) (st' := [.int a3, .ref a0, .int a2, .int a1, .ref a0]) (sg := [(.aload_n 0, 0), (.iload_n 1, 0), (.iload_n 2, 0), (.aload_n 0, 0), (.iload_n 3, 0)]) (lSa_ok dd27) rfl ?_
              obtain ⟨_, o74, e73, m75, h⟩ := gOb_inv h
              refine Y.callA (yC.Vi (b := a0) (As := [.int a3]) (st := [.int a2, .int a1, .ref a0]) (r := ("PartlisterModel", T_M, 9)) hV.1.1 cb_M_make lk_M_120 in_M_make rfl se_M_make (lIa_ok dd28) rfl rfl (Nat.le_of_ble_eq_true rfl) (by decide) e73 m75) (k_M_make hV.1 G71 a0 a3) h (fun v77 G76 _ h => ?_)
              obtain ⟨_, o79, e78, m80, h⟩ := gOb_inv h
              refine Y.callN (yC.Vi (b := a0) (As := [.int a1, .int a2, .ref v77]) (st := []) (r := ("PartlisterModel", T_M, 9)) hV.1.1 cb_M_come lk_M_124 in_M_come rfl se_M_come (lIa_ok dd29) rfl rfl (Nat.le_of_ble_eq_true rfl) (by decide) e78 m80) (k_M_come hV G76 a0 a1 a2 v77) h (fun G81 _ h => ?_)
              refine Y.blk (pc' := 93) (L' := [some (.ref a0), some (.int a1), some (.int a2), some (.int a3)]) (st' := [.int (-1), .int (nI 1), .int a1, .ref a0]) (sg := [(.aload_n 0, 0), (.iload_n 1, 0), (.iconst 1, nI 1), (.iconst (-1), -1)]) (lSa_ok dd30) rfl ?_
              obtain ⟨_, o83, e82, m84, h⟩ := gOb_inv h
              refine Y.callN (yC.Vi (b := a0) (As := [.int a1, .int (nI 1), .int (-1)]) (st := []) (r := ("PartlisterModel", T_M, 9)) hV.1.1 cb_M_change lk_M_128 in_M_change rfl se_M_change (lIa_ok dd31) rfl rfl (Nat.le_of_ble_eq_true rfl) (by decide) e82 m84) (k_M_change hV.1 G81 a0 a1 (nI 1) (-1)) h (fun G85 _ h => ?_)
              refine Y.blk (pc' := 97) (L' := [some (.ref a0), some (.int a1), some (.int a2), some (.int a3)]) (st' := [.ref a0]) (sg := [(.aload_n 0, 0)]) (lSa_ok dd32) rfl ?_
              refine Y.getI fl_M_76 (lIa_ok dd33) h (fun v86 h => ?_)
              refine Y.blk (pc' := 102) (L' := [some (.ref a0), some (.int a1), some (.int a2), some (.int a3)]) (st' := [.int (v86 - (nI 1))]) (sg := [(.iconst 1, nI 1), (.isub, 0)]) (lSa_ok dd34) rfl ?_
              exact Y.iret rfl (lIa_ok dd35) h
            · refine Y.blk (pc' := 77) (L' := [some (.ref a0), some (.int a1), some (.int a2), some (.int a3)]) (st' := [.int (nI 0)]) (sg := [(.iconst 0, nI 0)]) (lSa_ok dd36) rfl ?_
              exact Y.iret rfl (lIa_ok dd37) h
          · refine Y.blk (pc' := 77) (L' := [some (.ref a0), some (.int a1), some (.int a2), some (.int a3)]) (st' := [.int (nI 0)]) (sg := [(.iconst 0, nI 0)]) (lSa_ok dd36) rfl ?_
            exact Y.iret rfl (lIa_ok dd37) h
      · refine Y.blk (pc' := 77) (L' := [some (.ref a0), some (.int a1), some (.int a2), some (.int a3)]) (st' := [.int (nI 0)]) (sg := [(.iconst 0, nI 0)]) (lSa_ok dd36) rfl ?_
        exact Y.iret rfl (lIa_ok dd37) h
    · refine Y.blk (pc' := 33) (L' := [some (.ref a0), some (.int a1), some (.int a2), some (.int a3)]) (st' := [.int (nI 1), .int (nI 0), .ref a0]) (sg := [(.iconst 0, nI 0), (.iconst 1, nI 1)]) (lSa_ok dd39) rfl ?_
      obtain ⟨_, o92, e91, m93, h⟩ := gOb_inv h
      refine Y.callI (yC.Vi (b := a0) (As := [.int (nI 0), .int (nI 1)]) (st := []) (r := ("PartlisterModel", T_M, 9)) hV.1.1 cb_M_refuse lk_M_36 in_M_refuse rfl se_M_refuse (lIa_ok dd12) rfl rfl (Nat.le_of_ble_eq_true rfl) (by decide) e91 m93) (k_M_refuse hV.1 G17 a0 (nI 0) (nI 1)) h (fun v95 G94 _ h => ?_)
      refine Y.if_ne (off := 40) (tgt := 76) (lIa_ok dd13) (by decide) h (fun c162 h => ?_) (fun c162 h => ?_)
      · refine Y.blk (pc' := 44) (L' := [some (.ref a0), some (.int a1), some (.int a2), some (.int a3)]) (st' := [.int (nI 30), .int (nI 0), .int a3, .ref a0]) (sg := [(.aload_n 0, 0), (.iload_n 3, 0), (.iconst 0, nI 0), (.bipush 30, nI 30)]) (lSa_ok dd14) rfl ?_
        refine Y.callI (yC.S (As := [.int a3, .int (nI 0), .int (nI 30)]) (st := [.ref a0]) hV.1.1 cb_M_isIn lk_M_40 st_M_isIn (lIa_ok dd15) rfl rfl (Nat.le_of_ble_eq_true rfl) (by decide)) (k_M_isIn hV.1 G94 a3 (nI 0) (nI 30)) h (fun v98 G97 _ h => ?_)
        refine Y.if_ne (off := 7) (tgt := 54) (lIa_ok dd16) (by decide) h (fun c161 h => ?_) (fun c161 h => ?_)
        · refine Y.blk (pc' := 51) (L' := [some (.ref a0), some (.int a1), some (.int a2), some (.int a3)]) (st' := [.int (nI 1), .ref a0]) (sg := [(.iconst 1, nI 1)]) (lSa_ok dd17) rfl ?_
          refine Y.goto (off := 4) (tgt := 55) (lIa_ok dd18) (by decide) ?_
          refine Y.blk (pc' := 56) (L' := [some (.ref a0), some (.int a1), some (.int a2), some (.int a3)]) (st' := [.int (nI 2), .int (nI 1), .ref a0]) (sg := [(.iconst 2, nI 2)]) (lSa_ok dd19) rfl ?_
          obtain ⟨_, o100, e99, m101, h⟩ := gOb_inv h
          refine Y.callI (yC.Vi (b := a0) (As := [.int (nI 1), .int (nI 2)]) (st := []) (r := ("PartlisterModel", T_M, 9)) hV.1.1 cb_M_refuse lk_M_36 in_M_refuse rfl se_M_refuse (lIa_ok dd20) rfl rfl (Nat.le_of_ble_eq_true rfl) (by decide) e99 m101) (k_M_refuse hV.1 G97 a0 (nI 1) (nI 2)) h (fun v103 G102 _ h => ?_)
          refine Y.if_ne (off := 17) (tgt := 76) (lIa_ok dd21) (by decide) h (fun c129 h => ?_) (fun c129 h => ?_)
          · refine Y.blk (pc' := 66) (L' := [some (.ref a0), some (.int a1), some (.int a2), some (.int a3)]) (st' := [.int (nI 1), .int a1, .ref a0, .ref a0]) (sg := [(.aload_n 0, 0), (.aload_n 0, 0), (.iload_n 1, 0), (.iconst 1, nI 1)]) (lSa_ok dd22) rfl ?_
            obtain ⟨_, o105, e104, m106, h⟩ := gOb_inv h
            refine Y.callI (yC.Vi (b := a0) (As := [.int a1, .int (nI 1)]) (st := [.ref a0]) (r := ("PartlisterModel", T_M, 9)) hV.1.1 cb_M_isFull lk_M_117 in_M_isFull rfl se_M_isFull (lIa_ok dd23) rfl rfl (Nat.le_of_ble_eq_true rfl) (by decide) e104 m106) (k_M_isFull hV.1 G102 a0 a1 (nI 1)) h (fun v108 G107 _ h => ?_)
            refine Y.blk (pc' := 70) (L' := [some (.ref a0), some (.int a1), some (.int a2), some (.int a3)]) (st' := [.int (nI 3), .int v108, .ref a0]) (sg := [(.iconst 3, nI 3)]) (lSa_ok dd24) rfl ?_
            obtain ⟨_, o110, e109, m111, h⟩ := gOb_inv h
            refine Y.callI (yC.Vi (b := a0) (As := [.int v108, .int (nI 3)]) (st := []) (r := ("PartlisterModel", T_M, 9)) hV.1.1 cb_M_refuse lk_M_36 in_M_refuse rfl se_M_refuse (lIa_ok dd25) rfl rfl (Nat.le_of_ble_eq_true rfl) (by decide) e109 m111) (k_M_refuse hV.1 G107 a0 v108 (nI 3)) h (fun v113 G112 _ h => ?_)
            refine Y.if_eq (off := 5) (tgt := 78) (lIa_ok dd26) (by decide) h (fun c128 h => ?_) (fun c128 h => ?_)
            · refine Y.blk (pc' := 83) (L' := [some (.ref a0), some (.int a1), some (.int a2), some (.int a3)]) (st' := [.int a3, .ref a0, .int a2, .int a1, .ref a0]) (sg := [(.aload_n 0, 0), (.iload_n 1, 0), (.iload_n 2, 0), (.aload_n 0, 0), (.iload_n 3, 0)]) (lSa_ok dd27) rfl ?_
              obtain ⟨_, o115, e114, m116, h⟩ := gOb_inv h
              refine Y.callA (yC.Vi (b := a0) (As := [.int a3]) (st := [.int a2, .int a1, .ref a0]) (r := ("PartlisterModel", T_M, 9)) hV.1.1 cb_M_make lk_M_120 in_M_make rfl se_M_make (lIa_ok dd28) rfl rfl (Nat.le_of_ble_eq_true rfl) (by decide) e114 m116) (k_M_make hV.1 G112 a0 a3) h (fun v118 G117 _ h => ?_)
              obtain ⟨_, o120, e119, m121, h⟩ := gOb_inv h
              refine Y.callN (yC.Vi (b := a0) (As := [.int a1, .int a2, .ref v118]) (st := []) (r := ("PartlisterModel", T_M, 9)) hV.1.1 cb_M_come lk_M_124 in_M_come rfl se_M_come (lIa_ok dd29) rfl rfl (Nat.le_of_ble_eq_true rfl) (by decide) e119 m121) (k_M_come hV G117 a0 a1 a2 v118) h (fun G122 _ h => ?_)
              refine Y.blk (pc' := 93) (L' := [some (.ref a0), some (.int a1), some (.int a2), some (.int a3)]) (st' := [.int (-1), .int (nI 1), .int a1, .ref a0]) (sg := [(.aload_n 0, 0), (.iload_n 1, 0), (.iconst 1, nI 1), (.iconst (-1), -1)]) (lSa_ok dd30) rfl ?_
              obtain ⟨_, o124, e123, m125, h⟩ := gOb_inv h
              refine Y.callN (yC.Vi (b := a0) (As := [.int a1, .int (nI 1), .int (-1)]) (st := []) (r := ("PartlisterModel", T_M, 9)) hV.1.1 cb_M_change lk_M_128 in_M_change rfl se_M_change (lIa_ok dd31) rfl rfl (Nat.le_of_ble_eq_true rfl) (by decide) e123 m125) (k_M_change hV.1 G122 a0 a1 (nI 1) (-1)) h (fun G126 _ h => ?_)
              refine Y.blk (pc' := 97) (L' := [some (.ref a0), some (.int a1), some (.int a2), some (.int a3)]) (st' := [.ref a0]) (sg := [(.aload_n 0, 0)]) (lSa_ok dd32) rfl ?_
              refine Y.getI fl_M_76 (lIa_ok dd33) h (fun v127 h => ?_)
              refine Y.blk (pc' := 102) (L' := [some (.ref a0), some (.int a1), some (.int a2), some (.int a3)]) (st' := [.int (v127 - (nI 1))]) (sg := [(.iconst 1, nI 1), (.isub, 0)]) (lSa_ok dd34) rfl ?_
              exact Y.iret rfl (lIa_ok dd35) h
            · refine Y.blk (pc' := 77) (L' := [some (.ref a0), some (.int a1), some (.int a2), some (.int a3)]) (st' := [.int (nI 0)]) (sg := [(.iconst 0, nI 0)]) (lSa_ok dd36) rfl ?_
              exact Y.iret rfl (lIa_ok dd37) h
          · refine Y.blk (pc' := 77) (L' := [some (.ref a0), some (.int a1), some (.int a2), some (.int a3)]) (st' := [.int (nI 0)]) (sg := [(.iconst 0, nI 0)]) (lSa_ok dd36) rfl ?_
            exact Y.iret rfl (lIa_ok dd37) h
        · refine Y.blk (pc' := 56) (L' := [some (.ref a0), some (.int a1), some (.int a2), some (.int a3)]) (st' := [.int (nI 2), .int (nI 0), .ref a0]) (sg := [(.iconst 0, nI 0), (.iconst 2, nI 2)]) (lSa_ok dd38) rfl ?_
          obtain ⟨_, o131, e130, m132, h⟩ := gOb_inv h
          refine Y.callI (yC.Vi (b := a0) (As := [.int (nI 0), .int (nI 2)]) (st := []) (r := ("PartlisterModel", T_M, 9)) hV.1.1 cb_M_refuse lk_M_36 in_M_refuse rfl se_M_refuse (lIa_ok dd20) rfl rfl (Nat.le_of_ble_eq_true rfl) (by decide) e130 m132) (k_M_refuse hV.1 G97 a0 (nI 0) (nI 2)) h (fun v134 G133 _ h => ?_)
          refine Y.if_ne (off := 17) (tgt := 76) (lIa_ok dd21) (by decide) h (fun c160 h => ?_) (fun c160 h => ?_)
          · refine Y.blk (pc' := 66) (L' := [some (.ref a0), some (.int a1), some (.int a2), some (.int a3)]) (st' := [.int (nI 1), .int a1, .ref a0, .ref a0]) (sg := [(.aload_n 0, 0), (.aload_n 0, 0), (.iload_n 1, 0), (.iconst 1, nI 1)]) (lSa_ok dd22) rfl ?_
            obtain ⟨_, o136, e135, m137, h⟩ := gOb_inv h
            refine Y.callI (yC.Vi (b := a0) (As := [.int a1, .int (nI 1)]) (st := [.ref a0]) (r := ("PartlisterModel", T_M, 9)) hV.1.1 cb_M_isFull lk_M_117 in_M_isFull rfl se_M_isFull (lIa_ok dd23) rfl rfl (Nat.le_of_ble_eq_true rfl) (by decide) e135 m137) (k_M_isFull hV.1 G133 a0 a1 (nI 1)) h (fun v139 G138 _ h => ?_)
            refine Y.blk (pc' := 70) (L' := [some (.ref a0), some (.int a1), some (.int a2), some (.int a3)]) (st' := [.int (nI 3), .int v139, .ref a0]) (sg := [(.iconst 3, nI 3)]) (lSa_ok dd24) rfl ?_
            obtain ⟨_, o141, e140, m142, h⟩ := gOb_inv h
            refine Y.callI (yC.Vi (b := a0) (As := [.int v139, .int (nI 3)]) (st := []) (r := ("PartlisterModel", T_M, 9)) hV.1.1 cb_M_refuse lk_M_36 in_M_refuse rfl se_M_refuse (lIa_ok dd25) rfl rfl (Nat.le_of_ble_eq_true rfl) (by decide) e140 m142) (k_M_refuse hV.1 G138 a0 v139 (nI 3)) h (fun v144 G143 _ h => ?_)
            refine Y.if_eq (off := 5) (tgt := 78) (lIa_ok dd26) (by decide) h (fun c159 h => ?_) (fun c159 h => ?_)
            · refine Y.blk (pc' := 83) (L' := [some (.ref a0), some (.int a1), some (.int a2), some (.int a3)]) (st' := [.int a3, .ref a0, .int a2, .int a1, .ref a0]) (sg := [(.aload_n 0, 0), (.iload_n 1, 0), (.iload_n 2, 0), (.aload_n 0, 0), (.iload_n 3, 0)]) (lSa_ok dd27) rfl ?_
              obtain ⟨_, o146, e145, m147, h⟩ := gOb_inv h
              refine Y.callA (yC.Vi (b := a0) (As := [.int a3]) (st := [.int a2, .int a1, .ref a0]) (r := ("PartlisterModel", T_M, 9)) hV.1.1 cb_M_make lk_M_120 in_M_make rfl se_M_make (lIa_ok dd28) rfl rfl (Nat.le_of_ble_eq_true rfl) (by decide) e145 m147) (k_M_make hV.1 G143 a0 a3) h (fun v149 G148 _ h => ?_)
              obtain ⟨_, o151, e150, m152, h⟩ := gOb_inv h
              refine Y.callN (yC.Vi (b := a0) (As := [.int a1, .int a2, .ref v149]) (st := []) (r := ("PartlisterModel", T_M, 9)) hV.1.1 cb_M_come lk_M_124 in_M_come rfl se_M_come (lIa_ok dd29) rfl rfl (Nat.le_of_ble_eq_true rfl) (by decide) e150 m152) (k_M_come hV G148 a0 a1 a2 v149) h (fun G153 _ h => ?_)
              refine Y.blk (pc' := 93) (L' := [some (.ref a0), some (.int a1), some (.int a2), some (.int a3)]) (st' := [.int (-1), .int (nI 1), .int a1, .ref a0]) (sg := [(.aload_n 0, 0), (.iload_n 1, 0), (.iconst 1, nI 1), (.iconst (-1), -1)]) (lSa_ok dd30) rfl ?_
              obtain ⟨_, o155, e154, m156, h⟩ := gOb_inv h
              refine Y.callN (yC.Vi (b := a0) (As := [.int a1, .int (nI 1), .int (-1)]) (st := []) (r := ("PartlisterModel", T_M, 9)) hV.1.1 cb_M_change lk_M_128 in_M_change rfl se_M_change (lIa_ok dd31) rfl rfl (Nat.le_of_ble_eq_true rfl) (by decide) e154 m156) (k_M_change hV.1 G153 a0 a1 (nI 1) (-1)) h (fun G157 _ h => ?_)
              refine Y.blk (pc' := 97) (L' := [some (.ref a0), some (.int a1), some (.int a2), some (.int a3)]) (st' := [.ref a0]) (sg := [(.aload_n 0, 0)]) (lSa_ok dd32) rfl ?_
              refine Y.getI fl_M_76 (lIa_ok dd33) h (fun v158 h => ?_)
              refine Y.blk (pc' := 102) (L' := [some (.ref a0), some (.int a1), some (.int a2), some (.int a3)]) (st' := [.int (v158 - (nI 1))]) (sg := [(.iconst 1, nI 1), (.isub, 0)]) (lSa_ok dd34) rfl ?_
              exact Y.iret rfl (lIa_ok dd35) h
            · refine Y.blk (pc' := 77) (L' := [some (.ref a0), some (.int a1), some (.int a2), some (.int a3)]) (st' := [.int (nI 0)]) (sg := [(.iconst 0, nI 0)]) (lSa_ok dd36) rfl ?_
              exact Y.iret rfl (lIa_ok dd37) h
          · refine Y.blk (pc' := 77) (L' := [some (.ref a0), some (.int a1), some (.int a2), some (.int a3)]) (st' := [.int (nI 0)]) (sg := [(.iconst 0, nI 0)]) (lSa_ok dd36) rfl ?_
            exact Y.iret rfl (lIa_ok dd37) h
      · refine Y.blk (pc' := 77) (L' := [some (.ref a0), some (.int a1), some (.int a2), some (.int a3)]) (st' := [.int (nI 0)]) (sg := [(.iconst 0, nI 0)]) (lSa_ok dd36) rfl ?_
        exact Y.iret rfl (lIa_ok dd37) h
  · refine Y.blk (pc' := 77) (L' := [some (.ref a0), some (.int a1), some (.int a2), some (.int a3)]) (st' := [.int (nI 0)]) (sg := [(.iconst 0, nI 0)]) (lSa_ok dd36) rfl ?_
    exact Y.iret rfl (lIa_ok dd37) h

def f_M_ahead (G : gH) (a0 : Nat) (a1 : Nat) (a2 : Int32) : gR :=
  if a2.toInt = 0 then (gLd G a0 100 (nI 0) fun v1 => gLd G a1 100 (nI 0) fun v2 => rI (v1 - v2) G)
  else if a2.toInt = 1 then (gLd G a1 100 (nI 0) fun v4 => gLd G a0 100 (nI 0) fun v5 => rI (v4 - v5) G)
  else if a2.toInt = 2 then (gLd G a0 100 (nI 0) fun v7 => gRem v7 (nI 5) fun v8 => gLd G a1 100 (nI 0) fun v9 => gRem v9 (nI 5) fun v10 => rI (v8 - v10) G)
  else if a2.toInt = 3 then (gLd G a1 100 (nI 1) fun v12 => gLd G a0 100 (nI 1) fun v13 => rI (v12 - v13) G)
  else gLd G a0 100 (nI 0) fun v15 => gRem v15 (nI 2) fun v16 => gLd G a1 100 (nI 0) fun v17 => gRem v17 (nI 2) fun v18 => if v16 = v18 then gLd G a0 100 (nI 0) fun v19 => gLd G a1 100 (nI 0) fun v20 => rI (v19 - v20) G
    else gLd G a1 100 (nI 0) fun v21 => gRem v21 (nI 2) fun v22 => gLd G a0 100 (nI 0) fun v23 => gRem v23 (nI 2) fun v24 => rI (v22 - v24) G
theorem k_M_ahead {l : Launch} {D : va_G} {B : Nat} {O : State → Heap → Prop} (hV : zG l D B O) (G : gH) (a0 : Nat) (a1 : Nat) (a2 : Int32) : gMet (zVm l D B O) m_M_ahead 2 [.ref a0, .ref a1, .int a2] G (f_M_ahead G a0 a1 a2) := by
  have hdd : lSa m_M_ahead 0 [(.iload_n 2, 0)] = true ∧ lSa m_M_ahead 32 [(.aload_n 0, 0), (.iconst 0, nI 0)] = true ∧ lIa m_M_ahead 34 (.iaload) 1 = true ∧ lSa m_M_ahead 35 [(.aload_n 1, 0), (.iconst 0, nI 0)] = true ∧ lIa m_M_ahead 37 (.iaload) 1 = true ∧ lSa m_M_ahead 38 [(.isub, 0)] = true ∧ lIa m_M_ahead 39 (.ireturn) 1 = true ∧ lSa m_M_ahead 40 [(.aload_n 1, 0), (.iconst 0, nI 0)] = true ∧ lIa m_M_ahead 42 (.iaload) 1 = true ∧ lSa m_M_ahead 43 [(.aload_n 0, 0), (.iconst 0, nI 0)] = true ∧ lIa m_M_ahead 45 (.iaload) 1 = true ∧ lSa m_M_ahead 46 [(.isub, 0)] = true ∧ lIa m_M_ahead 47 (.ireturn) 1 = true ∧ lSa m_M_ahead 48 [(.aload_n 0, 0), (.iconst 0, nI 0)] = true ∧ lIa m_M_ahead 50 (.iaload) 1 = true ∧ lSa m_M_ahead 51 [(.iconst 5, nI 5)] = true ∧ lIa m_M_ahead 52 (.irem) 1 = true ∧ lSa m_M_ahead 53 [(.aload_n 1, 0), (.iconst 0, nI 0)] = true ∧ lIa m_M_ahead 55 (.iaload) 1 = true ∧ lSa m_M_ahead 56 [(.iconst 5, nI 5)] = true ∧ lIa m_M_ahead 57 (.irem) 1 = true ∧ lSa m_M_ahead 58 [(.isub, 0)] = true ∧ lIa m_M_ahead 59 (.ireturn) 1 = true ∧ lSa m_M_ahead 60 [(.aload_n 1, 0), (.iconst 1, nI 1)] = true ∧ lIa m_M_ahead 62 (.iaload) 1 = true ∧ lSa m_M_ahead 63 [(.aload_n 0, 0), (.iconst 1, nI 1)] = true ∧ lIa m_M_ahead 65 (.iaload) 1 = true ∧ lSa m_M_ahead 66 [(.isub, 0)] = true ∧ lIa m_M_ahead 67 (.ireturn) 1 = true ∧ lSa m_M_ahead 68 [(.aload_n 0, 0), (.iconst 0, nI 0)] = true ∧ lIa m_M_ahead 70 (.iaload) 1 = true ∧ lSa m_M_ahead 71 [(.iconst 2, nI 2)] = true ∧ lIa m_M_ahead 72 (.irem) 1 = true ∧ lSa m_M_ahead 73 [(.aload_n 1, 0), (.iconst 0, nI 0)] = true ∧ lIa m_M_ahead 75 (.iaload) 1 = true ∧ lSa m_M_ahead 76 [(.iconst 2, nI 2)] = true ∧ lIa m_M_ahead 77 (.irem) 1 = true ∧ lIa m_M_ahead 78 (.if_icmp .ne 13) 3 = true ∧ lSa m_M_ahead 81 [(.aload_n 0, 0), (.iconst 0, nI 0)] = true ∧ lIa m_M_ahead 83 (.iaload) 1 = true ∧ lSa m_M_ahead 84 [(.aload_n 1, 0), (.iconst 0, nI 0)] = true ∧ lIa m_M_ahead 86 (.iaload) 1 = true ∧ lSa m_M_ahead 87 [(.isub, 0)] = true ∧ lIa m_M_ahead 88 (.goto 14) 3 = true ∧ lIa m_M_ahead 102 (.ireturn) 1 = true ∧ lSa m_M_ahead 91 [(.aload_n 1, 0), (.iconst 0, nI 0)] = true ∧ lIa m_M_ahead 93 (.iaload) 1 = true ∧ lSa m_M_ahead 94 [(.iconst 2, nI 2)] = true ∧ lIa m_M_ahead 95 (.irem) 1 = true ∧ lSa m_M_ahead 96 [(.aload_n 0, 0), (.iconst 0, nI 0)] = true ∧ lIa m_M_ahead 98 (.iaload) 1 = true ∧ lSa m_M_ahead 99 [(.iconst 2, nI 2)] = true ∧ lIa m_M_ahead 100 (.irem) 1 = true ∧ lSa m_M_ahead 101 [(.isub, 0)] = true := by decide +kernel
  refine lA8 hdd (fun dd0 dd1 dd2 dd3 dd4 dd5 dd6 dd7 hdd => ?_)
  refine lA8 hdd (fun dd8 dd9 dd10 dd11 dd12 dd13 dd14 dd15 hdd => ?_)
  refine lA8 hdd (fun dd16 dd17 dd18 dd19 dd20 dd21 dd22 dd23 hdd => ?_)
  refine lA8 hdd (fun dd24 dd25 dd26 dd27 dd28 dd29 dd30 dd31 hdd => ?_)
  refine lA8 hdd (fun dd32 dd33 dd34 dd35 dd36 dd37 dd38 dd39 hdd => ?_)
  refine lA8 hdd (fun dd40 dd41 dd42 dd43 dd44 dd45 dd46 dd47 hdd => ?_)
  obtain ⟨dd48, dd49, dd50, dd51, dd52, dd53⟩ := hdd
  refine gMet.of (by decide +kernel) (Nat.le_of_ble_eq_true rfl) [some (.ref a0), some (.ref a1), some (.int a2)] (fun ls h => zEn_ok (n := 3) h) ?_
  intro o Gf h
  unfold f_M_ahead at h
  refine Y.blk (pc' := 1) (L' := [some (.ref a0), some (.ref a1), some (.int a2)]) (st' := [.int a2]) (sg := [(.iload_n 2, 0)]) (lSa_ok dd0) rfl ?_
  refine Y.swC (j := 0) (off := 31) (tgt := 32) (dflt := 67) (lo := 0) (hi := 3) (offs := #[31, 39, 47, 59]) (len := 31) (by decide +kernel) (by decide) (by decide) (by decide) h (fun c3 h => ?_) (fun c3 h => ?_)
  · refine Y.blk (pc' := 34) (L' := [some (.ref a0), some (.ref a1), some (.int a2)]) (st' := [.int (nI 0), .ref a0]) (sg := [(.aload_n 0, 0), (.iconst 0, nI 0)]) (lSa_ok dd1) rfl ?_
    refine Y.iald (t0 := 0) (lIa_ok dd2) rfl h (fun v1 h => ?_)
    refine Y.blk (pc' := 37) (L' := [some (.ref a0), some (.ref a1), some (.int a2)]) (st' := [.int (nI 0), .ref a1, .int v1]) (sg := [(.aload_n 1, 0), (.iconst 0, nI 0)]) (lSa_ok dd3) rfl ?_
    refine Y.iald (t0 := 0) (lIa_ok dd4) rfl h (fun v2 h => ?_)
    refine Y.blk (pc' := 39) (L' := [some (.ref a0), some (.ref a1), some (.int a2)]) (st' := [.int (v1 - v2)]) (sg := [(.isub, 0)]) (lSa_ok dd5) rfl ?_
    exact Y.iret rfl (lIa_ok dd6) h
  refine Y.swC (j := 1) (off := 39) (tgt := 40) (dflt := 67) (lo := 0) (hi := 3) (offs := #[31, 39, 47, 59]) (len := 31) (by decide +kernel) (by decide) (by decide) (by decide) h (fun c6 h => ?_) (fun c6 h => ?_)
  · refine Y.blk (pc' := 42) (L' := [some (.ref a0), some (.ref a1), some (.int a2)]) (st' := [.int (nI 0), .ref a1]) (sg := [(.aload_n 1, 0), (.iconst 0, nI 0)]) (lSa_ok dd7) rfl ?_
    refine Y.iald (t0 := 0) (lIa_ok dd8) rfl h (fun v4 h => ?_)
    refine Y.blk (pc' := 45) (L' := [some (.ref a0), some (.ref a1), some (.int a2)]) (st' := [.int (nI 0), .ref a0, .int v4]) (sg := [(.aload_n 0, 0), (.iconst 0, nI 0)]) (lSa_ok dd9) rfl ?_
    refine Y.iald (t0 := 0) (lIa_ok dd10) rfl h (fun v5 h => ?_)
    refine Y.blk (pc' := 47) (L' := [some (.ref a0), some (.ref a1), some (.int a2)]) (st' := [.int (v4 - v5)]) (sg := [(.isub, 0)]) (lSa_ok dd11) rfl ?_
    exact Y.iret rfl (lIa_ok dd12) h
  refine Y.swC (j := 2) (off := 47) (tgt := 48) (dflt := 67) (lo := 0) (hi := 3) (offs := #[31, 39, 47, 59]) (len := 31) (by decide +kernel) (by decide) (by decide) (by decide) h (fun c11 h => ?_) (fun c11 h => ?_)
  · refine Y.blk (pc' := 50) (L' := [some (.ref a0), some (.ref a1), some (.int a2)]) (st' := [.int (nI 0), .ref a0]) (sg := [(.aload_n 0, 0), (.iconst 0, nI 0)]) (lSa_ok dd13) rfl ?_
    refine Y.iald (t0 := 0) (lIa_ok dd14) rfl h (fun v7 h => ?_)
    refine Y.blk (pc' := 52) (L' := [some (.ref a0), some (.ref a1), some (.int a2)]) (st' := [.int (nI 5), .int v7]) (sg := [(.iconst 5, nI 5)]) (lSa_ok dd15) rfl ?_
    refine Y.irem (lIa_ok dd16) h (fun v8 h => ?_)
    refine Y.blk (pc' := 55) (L' := [some (.ref a0), some (.ref a1), some (.int a2)]) (st' := [.int (nI 0), .ref a1, .int v8]) (sg := [(.aload_n 1, 0), (.iconst 0, nI 0)]) (lSa_ok dd17) rfl ?_
    refine Y.iald (t0 := 0) (lIa_ok dd18) rfl h (fun v9 h => ?_)
    refine Y.blk (pc' := 57) (L' := [some (.ref a0), some (.ref a1), some (.int a2)]) (st' := [.int (nI 5), .int v9, .int v8]) (sg := [(.iconst 5, nI 5)]) (lSa_ok dd19) rfl ?_
    refine Y.irem (lIa_ok dd20) h (fun v10 h => ?_)
    refine Y.blk (pc' := 59) (L' := [some (.ref a0), some (.ref a1), some (.int a2)]) (st' := [.int (v8 - v10)]) (sg := [(.isub, 0)]) (lSa_ok dd21) rfl ?_
    exact Y.iret rfl (lIa_ok dd22) h
  refine Y.swC (j := 3) (off := 59) (tgt := 60) (dflt := 67) (lo := 0) (hi := 3) (offs := #[31, 39, 47, 59]) (len := 31) (by decide +kernel) (by decide) (by decide) (by decide) h (fun c14 h => ?_) (fun c14 h => ?_)
  · refine Y.blk (pc' := 62) (L' := [some (.ref a0), some (.ref a1), some (.int a2)]) (st' := [.int (nI 1), .ref a1]) (sg := [(.aload_n 1, 0), (.iconst 1, nI 1)]) (lSa_ok dd23) rfl ?_
    refine Y.iald (t0 := 0) (lIa_ok dd24) rfl h (fun v12 h => ?_)
    refine Y.blk (pc' := 65) (L' := [some (.ref a0), some (.ref a1), some (.int a2)]) (st' := [.int (nI 1), .ref a0, .int v12]) (sg := [(.aload_n 0, 0), (.iconst 1, nI 1)]) (lSa_ok dd25) rfl ?_
    refine Y.iald (t0 := 0) (lIa_ok dd26) rfl h (fun v13 h => ?_)
    refine Y.blk (pc' := 67) (L' := [some (.ref a0), some (.ref a1), some (.int a2)]) (st' := [.int (v12 - v13)]) (sg := [(.isub, 0)]) (lSa_ok dd27) rfl ?_
    exact Y.iret rfl (lIa_ok dd28) h
  refine Y.swOut (dflt := 67) (lo := 0) (hi := 3) (offs := #[31, 39, 47, 59]) (len := 31) (tgt := 68) (by decide +kernel) (by omega) (by decide) ?_
  refine Y.blk (pc' := 70) (L' := [some (.ref a0), some (.ref a1), some (.int a2)]) (st' := [.int (nI 0), .ref a0]) (sg := [(.aload_n 0, 0), (.iconst 0, nI 0)]) (lSa_ok dd29) rfl ?_
  refine Y.iald (t0 := 0) (lIa_ok dd30) rfl h (fun v15 h => ?_)
  refine Y.blk (pc' := 72) (L' := [some (.ref a0), some (.ref a1), some (.int a2)]) (st' := [.int (nI 2), .int v15]) (sg := [(.iconst 2, nI 2)]) (lSa_ok dd31) rfl ?_
  refine Y.irem (lIa_ok dd32) h (fun v16 h => ?_)
  refine Y.blk (pc' := 75) (L' := [some (.ref a0), some (.ref a1), some (.int a2)]) (st' := [.int (nI 0), .ref a1, .int v16]) (sg := [(.aload_n 1, 0), (.iconst 0, nI 0)]) (lSa_ok dd33) rfl ?_
  refine Y.iald (t0 := 0) (lIa_ok dd34) rfl h (fun v17 h => ?_)
  refine Y.blk (pc' := 77) (L' := [some (.ref a0), some (.ref a1), some (.int a2)]) (st' := [.int (nI 2), .int v17, .int v16]) (sg := [(.iconst 2, nI 2)]) (lSa_ok dd35) rfl ?_
  refine Y.irem (lIa_ok dd36) h (fun v18 h => ?_)
  refine Y.ic_ne (off := 13) (tgt := 91) (lIa_ok dd37) (by decide) h (fun c25 h => ?_) (fun c25 h => ?_)
  · refine Y.blk (pc' := 83) (L' := [some (.ref a0), some (.ref a1), some (.int a2)]) (st' := [.int (nI 0), .ref a0]) (sg := [(.aload_n 0, 0), (.iconst 0, nI 0)]) (lSa_ok dd38) rfl ?_
    refine Y.iald (t0 := 0) (lIa_ok dd39) rfl h (fun v19 h => ?_)
    refine Y.blk (pc' := 86) (L' := [some (.ref a0), some (.ref a1), some (.int a2)]) (st' := [.int (nI 0), .ref a1, .int v19]) (sg := [(.aload_n 1, 0), (.iconst 0, nI 0)]) (lSa_ok dd40) rfl ?_
    refine Y.iald (t0 := 0) (lIa_ok dd41) rfl h (fun v20 h => ?_)
    refine Y.blk (pc' := 88) (L' := [some (.ref a0), some (.ref a1), some (.int a2)]) (st' := [.int (v19 - v20)]) (sg := [(.isub, 0)]) (lSa_ok dd42) rfl ?_
    refine Y.goto (off := 14) (tgt := 102) (lIa_ok dd43) (by decide) ?_
    exact Y.iret rfl (lIa_ok dd44) h
  · refine Y.blk (pc' := 93) (L' := [some (.ref a0), some (.ref a1), some (.int a2)]) (st' := [.int (nI 0), .ref a1]) (sg := [(.aload_n 1, 0), (.iconst 0, nI 0)]) (lSa_ok dd45) rfl ?_
    refine Y.iald (t0 := 0) (lIa_ok dd46) rfl h (fun v21 h => ?_)
    refine Y.blk (pc' := 95) (L' := [some (.ref a0), some (.ref a1), some (.int a2)]) (st' := [.int (nI 2), .int v21]) (sg := [(.iconst 2, nI 2)]) (lSa_ok dd47) rfl ?_
    refine Y.irem (lIa_ok dd48) h (fun v22 h => ?_)
    refine Y.blk (pc' := 98) (L' := [some (.ref a0), some (.ref a1), some (.int a2)]) (st' := [.int (nI 0), .ref a0, .int v22]) (sg := [(.aload_n 0, 0), (.iconst 0, nI 0)]) (lSa_ok dd49) rfl ?_
    refine Y.iald (t0 := 0) (lIa_ok dd50) rfl h (fun v23 h => ?_)
    refine Y.blk (pc' := 100) (L' := [some (.ref a0), some (.ref a1), some (.int a2)]) (st' := [.int (nI 2), .int v23, .int v22]) (sg := [(.iconst 2, nI 2)]) (lSa_ok dd51) rfl ?_
    refine Y.irem (lIa_ok dd52) h (fun v24 h => ?_)
    refine Y.blk (pc' := 102) (L' := [some (.ref a0), some (.ref a1), some (.int a2)]) (st' := [.int (v22 - v24)]) (sg := [(.isub, 0)]) (lSa_ok dd53) rfl ?_
    exact Y.iret rfl (lIa_ok dd44) h

def f_M_append (w : Nat → Nat) (G : gH) (a0 : Nat) (a1 : Int32) (a2 : Int32) : gR :=
  gOb G a0 6 fun o2 => bI (f_M_isNoList G a0 a1) fun v5 G4 => if v5 = 0 then (gOb G4 a0 6 fun o7 => bI (f_M_isNoList G4 a0 a2) fun v10 G9 => if v10 = 0 then (gOb G9 a0 6 fun o12 => bI (f_M_start G9 a0 (nI 0) (nI 1)) fun v15 G14 => if v15 = 0 then (gOb G14 a0 6 fun o17 => bI (f_M_rowOf zDp G14 a0 a1) fun v20 G19 => gOb G19 a0 6 fun o22 => bI (f_M_rowOf zDp G19 a0 a2) fun v25 G24 => if v20 = v25 then (gOb G24 a0 6 fun o27 => bI (f_M_refuse G24 a0 (nI 1) (nI 2)) fun v30 G29 => if v30 = 0 then gOb G29 a0 6 fun o32 => bI (f_M_length G29 a0 a1) fun v35 G34 => gOb G34 a0 6 fun o37 => bI (f_M_bring w G34 a0 a1 v35 a2) fun v40 G39 => gOb G39 a0 6 fun o42 => bI (f_M_length G39 a0 a1) fun v45 G44 => rI v45 G44
          else rI (nI 0) G29)
        else gOb G24 a0 6 fun o48 => bI (f_M_length G24 a0 a2) fun v51 G50 => gOb G50 a0 6 fun o53 => bI (f_M_isFull G50 a0 a1 v51) fun v56 G55 => if v56 = 0 then (gOb G55 a0 6 fun o58 => bI (f_M_refuse G55 a0 (nI 0) (nI 2)) fun v61 G60 => if v61 = 0 then gOb G60 a0 6 fun o63 => bI (f_M_length G60 a0 a1) fun v66 G65 => gOb G65 a0 6 fun o68 => bI (f_M_bring w G65 a0 a1 v66 a2) fun v71 G70 => gOb G70 a0 6 fun o73 => bI (f_M_length G70 a0 a1) fun v76 G75 => rI v76 G75
            else rI (nI 0) G60)
          else gOb G55 a0 6 fun o79 => bI (f_M_refuse G55 a0 (nI 1) (nI 2)) fun v82 G81 => if v82 = 0 then gOb G81 a0 6 fun o84 => bI (f_M_length G81 a0 a1) fun v87 G86 => gOb G86 a0 6 fun o89 => bI (f_M_bring w G86 a0 a1 v87 a2) fun v92 G91 => gOb G91 a0 6 fun o94 => bI (f_M_length G91 a0 a1) fun v97 G96 => rI v97 G96
            else rI (nI 0) G81)
      else rI (nI 0) G14)
    else gOb G9 a0 6 fun o103 => bI (f_M_start G9 a0 (nI 1) (nI 1)) fun v106 G105 => if v106 = 0 then (gOb G105 a0 6 fun o108 => bI (f_M_rowOf zDp G105 a0 a1) fun v111 G110 => gOb G110 a0 6 fun o113 => bI (f_M_rowOf zDp G110 a0 a2) fun v116 G115 => if v111 = v116 then (gOb G115 a0 6 fun o118 => bI (f_M_refuse G115 a0 (nI 1) (nI 2)) fun v121 G120 => if v121 = 0 then gOb G120 a0 6 fun o123 => bI (f_M_length G120 a0 a1) fun v126 G125 => gOb G125 a0 6 fun o128 => bI (f_M_bring w G125 a0 a1 v126 a2) fun v131 G130 => gOb G130 a0 6 fun o133 => bI (f_M_length G130 a0 a1) fun v136 G135 => rI v136 G135
          else rI (nI 0) G120)
        else gOb G115 a0 6 fun o139 => bI (f_M_length G115 a0 a2) fun v142 G141 => gOb G141 a0 6 fun o144 => bI (f_M_isFull G141 a0 a1 v142) fun v147 G146 => if v147 = 0 then (gOb G146 a0 6 fun o149 => bI (f_M_refuse G146 a0 (nI 0) (nI 2)) fun v152 G151 => if v152 = 0 then gOb G151 a0 6 fun o154 => bI (f_M_length G151 a0 a1) fun v157 G156 => gOb G156 a0 6 fun o159 => bI (f_M_bring w G156 a0 a1 v157 a2) fun v162 G161 => gOb G161 a0 6 fun o164 => bI (f_M_length G161 a0 a1) fun v167 G166 => rI v167 G166
            else rI (nI 0) G151)
          else gOb G146 a0 6 fun o170 => bI (f_M_refuse G146 a0 (nI 1) (nI 2)) fun v173 G172 => if v173 = 0 then gOb G172 a0 6 fun o175 => bI (f_M_length G172 a0 a1) fun v178 G177 => gOb G177 a0 6 fun o180 => bI (f_M_bring w G177 a0 a1 v178 a2) fun v183 G182 => gOb G182 a0 6 fun o185 => bI (f_M_length G182 a0 a1) fun v188 G187 => rI v188 G187
            else rI (nI 0) G172)
      else rI (nI 0) G105)
  else gOb G4 a0 6 fun o195 => bI (f_M_start G4 a0 (nI 1) (nI 1)) fun v198 G197 => if v198 = 0 then (gOb G197 a0 6 fun o200 => bI (f_M_rowOf zDp G197 a0 a1) fun v203 G202 => gOb G202 a0 6 fun o205 => bI (f_M_rowOf zDp G202 a0 a2) fun v208 G207 => if v203 = v208 then (gOb G207 a0 6 fun o210 => bI (f_M_refuse G207 a0 (nI 1) (nI 2)) fun v213 G212 => if v213 = 0 then gOb G212 a0 6 fun o215 => bI (f_M_length G212 a0 a1) fun v218 G217 => gOb G217 a0 6 fun o220 => bI (f_M_bring w G217 a0 a1 v218 a2) fun v223 G222 => gOb G222 a0 6 fun o225 => bI (f_M_length G222 a0 a1) fun v228 G227 => rI v228 G227
        else rI (nI 0) G212)
      else gOb G207 a0 6 fun o231 => bI (f_M_length G207 a0 a2) fun v234 G233 => gOb G233 a0 6 fun o236 => bI (f_M_isFull G233 a0 a1 v234) fun v239 G238 => if v239 = 0 then (gOb G238 a0 6 fun o241 => bI (f_M_refuse G238 a0 (nI 0) (nI 2)) fun v244 G243 => if v244 = 0 then gOb G243 a0 6 fun o246 => bI (f_M_length G243 a0 a1) fun v249 G248 => gOb G248 a0 6 fun o251 => bI (f_M_bring w G248 a0 a1 v249 a2) fun v254 G253 => gOb G253 a0 6 fun o256 => bI (f_M_length G253 a0 a1) fun v259 G258 => rI v259 G258
          else rI (nI 0) G243)
        else gOb G238 a0 6 fun o262 => bI (f_M_refuse G238 a0 (nI 1) (nI 2)) fun v265 G264 => if v265 = 0 then gOb G264 a0 6 fun o267 => bI (f_M_length G264 a0 a1) fun v270 G269 => gOb G269 a0 6 fun o272 => bI (f_M_bring w G269 a0 a1 v270 a2) fun v275 G274 => gOb G274 a0 6 fun o277 => bI (f_M_length G274 a0 a1) fun v280 G279 => rI v280 G279
          else rI (nI 0) G264)
    else rI (nI 0) G197
theorem k_M_append {l : Launch} {D : va_G} {B : Nat} {O : State → Heap → Prop} {w : Nat → Nat} (hV : zGw l D B O w) (G : gH) (a0 : Nat) (a1 : Int32) (a2 : Int32) : gMet (zVm l D B O) m_M_append 15 [.ref a0, .int a1, .int a2] G (f_M_append w G a0 a1 a2) := by
  have hdd : lSa m_M_append 0 [(.aload_n 0, 0), (.aload_n 0, 0), (.iload_n 1, 0)] = true ∧ lIa m_M_append 3 (.invokevirtual 110) 3 = true ∧ lIa m_M_append 6 (.ifCond .ne 11) 3 = true ∧ lSa m_M_append 9 [(.aload_n 0, 0), (.iload_n 2, 0)] = true ∧ lIa m_M_append 11 (.invokevirtual 110) 3 = true ∧ lIa m_M_append 14 (.ifCond .eq 7) 3 = true ∧ lSa m_M_append 21 [(.iconst 0, nI 0), (.iconst 1, nI 1)] = true ∧ lIa m_M_append 23 (.invokevirtual 114) 3 = true ∧ lIa m_M_append 26 (.ifCond .ne 42) 3 = true ∧ lSa m_M_append 29 [(.aload_n 0, 0), (.aload_n 0, 0), (.iload_n 1, 0)] = true ∧ lIa m_M_append 32 (.invokevirtual 47) 3 = true ∧ lSa m_M_append 35 [(.aload_n 0, 0), (.iload_n 2, 0)] = true ∧ lIa m_M_append 37 (.invokevirtual 47) 3 = true ∧ lIa m_M_append 40 (.if_icmp .eq 16) 3 = true ∧ lSa m_M_append 56 [(.iconst 1, nI 1)] = true ∧ lIa m_M_append 57 (.goto 4) 3 = true ∧ lSa m_M_append 61 [(.iconst 2, nI 2)] = true ∧ lIa m_M_append 62 (.invokevirtual 36) 3 = true ∧ lIa m_M_append 65 (.ifCond .eq 5) 3 = true ∧ lSa m_M_append 70 [(.aload_n 0, 0), (.iload_n 1, 0), (.aload_n 0, 0), (.iload_n 1, 0)] = true ∧ lIa m_M_append 74 (.invokevirtual 74) 3 = true ∧ lSa m_M_append 77 [(.iload_n 2, 0)] = true ∧ lIa m_M_append 78 (.invokevirtual 139) 3 = true ∧ lSa m_M_append 81 [(.pop, 0), (.aload_n 0, 0), (.iload_n 1, 0)] = true ∧ lIa m_M_append 84 (.invokevirtual 74) 3 = true ∧ lIa m_M_append 87 (.ireturn) 1 = true ∧ lSa m_M_append 68 [(.iconst 0, nI 0)] = true ∧ lIa m_M_append 69 (.ireturn) 1 = true ∧ lSa m_M_append 43 [(.aload_n 0, 0), (.iload_n 1, 0), (.aload_n 0, 0), (.iload_n 2, 0)] = true ∧ lIa m_M_append 47 (.invokevirtual 74) 3 = true ∧ lIa m_M_append 50 (.invokevirtual 117) 3 = true ∧ lIa m_M_append 53 (.ifCond .eq 7) 3 = true ∧ lSa m_M_append 60 [(.iconst 0, nI 0), (.iconst 2, nI 2)] = true ∧ lSa m_M_append 17 [(.iconst 1, nI 1)] = true ∧ lIa m_M_append 18 (.goto 4) 3 = true ∧ lSa m_M_append 22 [(.iconst 1, nI 1)] = true := by decide +kernel
  refine lA8 hdd (fun dd0 dd1 dd2 dd3 dd4 dd5 dd6 dd7 hdd => ?_)
  refine lA8 hdd (fun dd8 dd9 dd10 dd11 dd12 dd13 dd14 dd15 hdd => ?_)
  refine lA8 hdd (fun dd16 dd17 dd18 dd19 dd20 dd21 dd22 dd23 hdd => ?_)
  refine lA8 hdd (fun dd24 dd25 dd26 dd27 dd28 dd29 dd30 dd31 hdd => ?_)
  obtain ⟨dd32, dd33, dd34, dd35⟩ := hdd
  refine gMet.of (by decide +kernel) (Nat.le_of_ble_eq_true rfl) [some (.ref a0), some (.int a1), some (.int a2)] (fun ls h => zEn_ok (n := 3) h) ?_
  intro o Gf h
  unfold f_M_append at h
  refine Y.blk (pc' := 3) (L' := [some (.ref a0), some (.int a1), some (.int a2)]) (st' := [.int a1, .ref a0, .ref a0]) (sg := [(.aload_n 0, 0), (.aload_n 0, 0), (.iload_n 1, 0)]) (lSa_ok dd0) rfl ?_
  obtain ⟨_, o2, e1, m3, h⟩ := gOb_inv h
  refine Y.callI (yC.Vi (b := a0) (As := [.int a1]) (st := [.ref a0]) (r := ("PartlisterModel", T_M, 9)) hV.1.1 cb_M_isNoList lk_M_110 in_M_isNoList rfl se_M_isNoList (lIa_ok dd1) rfl rfl (Nat.le_of_ble_eq_true rfl) (by decide) e1 m3) (k_M_isNoList hV.1 G a0 a1) h (fun v5 G4 _ h => ?_)
  refine Y.if_ne (off := 11) (tgt := 17) (lIa_ok dd2) (by decide) h (fun c285 h => ?_) (fun c285 h => ?_)
  · refine Y.blk (pc' := 11) (L' := [some (.ref a0), some (.int a1), some (.int a2)]) (st' := [.int a2, .ref a0, .ref a0]) (sg := [(.aload_n 0, 0), (.iload_n 2, 0)]) (lSa_ok dd3) rfl ?_
    obtain ⟨_, o7, e6, m8, h⟩ := gOb_inv h
    refine Y.callI (yC.Vi (b := a0) (As := [.int a2]) (st := [.ref a0]) (r := ("PartlisterModel", T_M, 9)) hV.1.1 cb_M_isNoList lk_M_110 in_M_isNoList rfl se_M_isNoList (lIa_ok dd4) rfl rfl (Nat.le_of_ble_eq_true rfl) (by decide) e6 m8) (k_M_isNoList hV.1 G4 a0 a2) h (fun v10 G9 _ h => ?_)
    refine Y.if_eq (off := 7) (tgt := 21) (lIa_ok dd5) (by decide) h (fun c193 h => ?_) (fun c193 h => ?_)
    · refine Y.blk (pc' := 23) (L' := [some (.ref a0), some (.int a1), some (.int a2)]) (st' := [.int (nI 1), .int (nI 0), .ref a0]) (sg := [(.iconst 0, nI 0), (.iconst 1, nI 1)]) (lSa_ok dd6) rfl ?_
      obtain ⟨_, o12, e11, m13, h⟩ := gOb_inv h
      refine Y.callI (yC.Vi (b := a0) (As := [.int (nI 0), .int (nI 1)]) (st := []) (r := ("PartlisterModel", T_M, 9)) hV.1.1 cb_M_start lk_M_114 in_M_start rfl se_M_start (lIa_ok dd7) rfl rfl (Nat.le_of_ble_eq_true rfl) (by decide) e11 m13) (k_M_start hV.1 G9 a0 (nI 0) (nI 1)) h (fun v15 G14 _ h => ?_)
      refine Y.if_ne (off := 42) (tgt := 68) (lIa_ok dd8) (by decide) h (fun c101 h => ?_) (fun c101 h => ?_)
      · refine Y.blk (pc' := 32) (L' := [some (.ref a0), some (.int a1), some (.int a2)]) (st' := [.int a1, .ref a0, .ref a0]) (sg := [(.aload_n 0, 0), (.aload_n 0, 0), (.iload_n 1, 0)]) (lSa_ok dd9) rfl ?_
        obtain ⟨_, o17, e16, m18, h⟩ := gOb_inv h
        refine Y.callI (yC.Vi (b := a0) (As := [.int a1]) (st := [.ref a0]) (r := ("PartlisterModel", T_M, 9)) hV.1.1 cb_M_rowOf lk_M_47 in_M_rowOf rfl se_M_rowOf (lIa_ok dd10) rfl rfl (Nat.le_of_ble_eq_true rfl) (by decide) e16 m18) (k_M_rowOf zDp hV.1 G14 a0 a1) h (fun v20 G19 _ h => ?_)
        refine Y.blk (pc' := 37) (L' := [some (.ref a0), some (.int a1), some (.int a2)]) (st' := [.int a2, .ref a0, .int v20, .ref a0]) (sg := [(.aload_n 0, 0), (.iload_n 2, 0)]) (lSa_ok dd11) rfl ?_
        obtain ⟨_, o22, e21, m23, h⟩ := gOb_inv h
        refine Y.callI (yC.Vi (b := a0) (As := [.int a2]) (st := [.int v20, .ref a0]) (r := ("PartlisterModel", T_M, 9)) hV.1.1 cb_M_rowOf lk_M_47 in_M_rowOf rfl se_M_rowOf (lIa_ok dd12) rfl rfl (Nat.le_of_ble_eq_true rfl) (by decide) e21 m23) (k_M_rowOf zDp hV.1 G19 a0 a2) h (fun v25 G24 _ h => ?_)
        refine Y.ic_eq (off := 16) (tgt := 56) (lIa_ok dd13) (by decide) h (fun c100 h => ?_) (fun c100 h => ?_)
        · refine Y.blk (pc' := 57) (L' := [some (.ref a0), some (.int a1), some (.int a2)]) (st' := [.int (nI 1), .ref a0]) (sg := [(.iconst 1, nI 1)]) (lSa_ok dd14) rfl ?_
          refine Y.goto (off := 4) (tgt := 61) (lIa_ok dd15) (by decide) ?_
          refine Y.blk (pc' := 62) (L' := [some (.ref a0), some (.int a1), some (.int a2)]) (st' := [.int (nI 2), .int (nI 1), .ref a0]) (sg := [(.iconst 2, nI 2)]) (lSa_ok dd16) rfl ?_
          obtain ⟨_, o27, e26, m28, h⟩ := gOb_inv h
          refine Y.callI (yC.Vi (b := a0) (As := [.int (nI 1), .int (nI 2)]) (st := []) (r := ("PartlisterModel", T_M, 9)) hV.1.1 cb_M_refuse lk_M_36 in_M_refuse rfl se_M_refuse (lIa_ok dd17) rfl rfl (Nat.le_of_ble_eq_true rfl) (by decide) e26 m28) (k_M_refuse hV.1 G24 a0 (nI 1) (nI 2)) h (fun v30 G29 _ h => ?_)
          refine Y.if_eq (off := 5) (tgt := 70) (lIa_ok dd18) (by decide) h (fun c46 h => ?_) (fun c46 h => ?_)
          · refine Y.blk (pc' := 74) (L' := [some (.ref a0), some (.int a1), some (.int a2)]) (st' := [.int a1, .ref a0, .int a1, .ref a0]) (sg := [(.aload_n 0, 0), (.iload_n 1, 0), (.aload_n 0, 0), (.iload_n 1, 0)]) (lSa_ok dd19) rfl ?_
            obtain ⟨_, o32, e31, m33, h⟩ := gOb_inv h
            refine Y.callI (yC.Vi (b := a0) (As := [.int a1]) (st := [.int a1, .ref a0]) (r := ("PartlisterModel", T_M, 9)) hV.1.1 cb_M_length lk_M_74 in_M_length rfl se_M_length (lIa_ok dd20) rfl rfl (Nat.le_of_ble_eq_true rfl) (by decide) e31 m33) (k_M_length hV.1 G29 a0 a1) h (fun v35 G34 _ h => ?_)
            refine Y.blk (pc' := 78) (L' := [some (.ref a0), some (.int a1), some (.int a2)]) (st' := [.int a2, .int v35, .int a1, .ref a0]) (sg := [(.iload_n 2, 0)]) (lSa_ok dd21) rfl ?_
            obtain ⟨_, o37, e36, m38, h⟩ := gOb_inv h
            refine Y.callI (yC.Vi (b := a0) (As := [.int a1, .int v35, .int a2]) (st := []) (r := ("PartlisterModel", T_M, 9)) hV.1.1 cb_M_bring lk_M_139 in_M_bring rfl se_M_bring (lIa_ok dd22) rfl rfl (Nat.le_of_ble_eq_true rfl) (by decide) e36 m38) (k_M_bring hV G34 a0 a1 v35 a2) h (fun v40 G39 _ h => ?_)
            refine Y.blk (pc' := 84) (L' := [some (.ref a0), some (.int a1), some (.int a2)]) (st' := [.int a1, .ref a0]) (sg := [(.pop, 0), (.aload_n 0, 0), (.iload_n 1, 0)]) (lSa_ok dd23) rfl ?_
            obtain ⟨_, o42, e41, m43, h⟩ := gOb_inv h
            refine Y.callI (yC.Vi (b := a0) (As := [.int a1]) (st := []) (r := ("PartlisterModel", T_M, 9)) hV.1.1 cb_M_length lk_M_74 in_M_length rfl se_M_length (lIa_ok dd24) rfl rfl (Nat.le_of_ble_eq_true rfl) (by decide) e41 m43) (k_M_length hV.1 G39 a0 a1) h (fun v45 G44 _ h => ?_)
            exact Y.iret rfl (lIa_ok dd25) h
          · refine Y.blk (pc' := 69) (L' := [some (.ref a0), some (.int a1), some (.int a2)]) (st' := [.int (nI 0)]) (sg := [(.iconst 0, nI 0)]) (lSa_ok dd26) rfl ?_
            exact Y.iret rfl (lIa_ok dd27) h
        · refine Y.blk (pc' := 47) (L' := [some (.ref a0), some (.int a1), some (.int a2)]) (st' := [.int a2, .ref a0, .int a1, .ref a0, .ref a0]) (sg := [(.aload_n 0, 0), (.iload_n 1, 0), (.aload_n 0, 0), (.iload_n 2, 0)]) (lSa_ok dd28) rfl ?_
          obtain ⟨_, o48, e47, m49, h⟩ := gOb_inv h
          refine Y.callI (yC.Vi (b := a0) (As := [.int a2]) (st := [.int a1, .ref a0, .ref a0]) (r := ("PartlisterModel", T_M, 9)) hV.1.1 cb_M_length lk_M_74 in_M_length rfl se_M_length (lIa_ok dd29) rfl rfl (Nat.le_of_ble_eq_true rfl) (by decide) e47 m49) (k_M_length hV.1 G24 a0 a2) h (fun v51 G50 _ h => ?_)
          obtain ⟨_, o53, e52, m54, h⟩ := gOb_inv h
          refine Y.callI (yC.Vi (b := a0) (As := [.int a1, .int v51]) (st := [.ref a0]) (r := ("PartlisterModel", T_M, 9)) hV.1.1 cb_M_isFull lk_M_117 in_M_isFull rfl se_M_isFull (lIa_ok dd30) rfl rfl (Nat.le_of_ble_eq_true rfl) (by decide) e52 m54) (k_M_isFull hV.1 G50 a0 a1 v51) h (fun v56 G55 _ h => ?_)
          refine Y.if_eq (off := 7) (tgt := 60) (lIa_ok dd31) (by decide) h (fun c99 h => ?_) (fun c99 h => ?_)
          · refine Y.blk (pc' := 62) (L' := [some (.ref a0), some (.int a1), some (.int a2)]) (st' := [.int (nI 2), .int (nI 0), .ref a0]) (sg := [(.iconst 0, nI 0), (.iconst 2, nI 2)]) (lSa_ok dd32) rfl ?_
            obtain ⟨_, o58, e57, m59, h⟩ := gOb_inv h
            refine Y.callI (yC.Vi (b := a0) (As := [.int (nI 0), .int (nI 2)]) (st := []) (r := ("PartlisterModel", T_M, 9)) hV.1.1 cb_M_refuse lk_M_36 in_M_refuse rfl se_M_refuse (lIa_ok dd17) rfl rfl (Nat.le_of_ble_eq_true rfl) (by decide) e57 m59) (k_M_refuse hV.1 G55 a0 (nI 0) (nI 2)) h (fun v61 G60 _ h => ?_)
            refine Y.if_eq (off := 5) (tgt := 70) (lIa_ok dd18) (by decide) h (fun c77 h => ?_) (fun c77 h => ?_)
            · refine Y.blk (pc' := 74) (L' := [some (.ref a0), some (.int a1), some (.int a2)]) (st' := [.int a1, .ref a0, .int a1, .ref a0]) (sg := [(.aload_n 0, 0), (.iload_n 1, 0), (.aload_n 0, 0), (.iload_n 1, 0)]) (lSa_ok dd19) rfl ?_
              obtain ⟨_, o63, e62, m64, h⟩ := gOb_inv h
              refine Y.callI (yC.Vi (b := a0) (As := [.int a1]) (st := [.int a1, .ref a0]) (r := ("PartlisterModel", T_M, 9)) hV.1.1 cb_M_length lk_M_74 in_M_length rfl se_M_length (lIa_ok dd20) rfl rfl (Nat.le_of_ble_eq_true rfl) (by decide) e62 m64) (k_M_length hV.1 G60 a0 a1) h (fun v66 G65 _ h => ?_)
              refine Y.blk (pc' := 78) (L' := [some (.ref a0), some (.int a1), some (.int a2)]) (st' := [.int a2, .int v66, .int a1, .ref a0]) (sg := [(.iload_n 2, 0)]) (lSa_ok dd21) rfl ?_
              obtain ⟨_, o68, e67, m69, h⟩ := gOb_inv h
              refine Y.callI (yC.Vi (b := a0) (As := [.int a1, .int v66, .int a2]) (st := []) (r := ("PartlisterModel", T_M, 9)) hV.1.1 cb_M_bring lk_M_139 in_M_bring rfl se_M_bring (lIa_ok dd22) rfl rfl (Nat.le_of_ble_eq_true rfl) (by decide) e67 m69) (k_M_bring hV G65 a0 a1 v66 a2) h (fun v71 G70 _ h => ?_)
              refine Y.blk (pc' := 84) (L' := [some (.ref a0), some (.int a1), some (.int a2)]) (st' := [.int a1, .ref a0]) (sg := [(.pop, 0), (.aload_n 0, 0), (.iload_n 1, 0)]) (lSa_ok dd23) rfl ?_
              obtain ⟨_, o73, e72, m74, h⟩ := gOb_inv h
              refine Y.callI (yC.Vi (b := a0) (As := [.int a1]) (st := []) (r := ("PartlisterModel", T_M, 9)) hV.1.1 cb_M_length lk_M_74 in_M_length rfl se_M_length (lIa_ok dd24) rfl rfl (Nat.le_of_ble_eq_true rfl) (by decide) e72 m74) (k_M_length hV.1 G70 a0 a1) h (fun v76 G75 _ h => ?_)
              exact Y.iret rfl (lIa_ok dd25) h
            · refine Y.blk (pc' := 69) (L' := [some (.ref a0), some (.int a1), some (.int a2)]) (st' := [.int (nI 0)]) (sg := [(.iconst 0, nI 0)]) (lSa_ok dd26) rfl ?_
              exact Y.iret rfl (lIa_ok dd27) h
          · refine Y.blk (pc' := 57) (L' := [some (.ref a0), some (.int a1), some (.int a2)]) (st' := [.int (nI 1), .ref a0]) (sg := [(.iconst 1, nI 1)]) (lSa_ok dd14) rfl ?_
            refine Y.goto (off := 4) (tgt := 61) (lIa_ok dd15) (by decide) ?_
            refine Y.blk (pc' := 62) (L' := [some (.ref a0), some (.int a1), some (.int a2)]) (st' := [.int (nI 2), .int (nI 1), .ref a0]) (sg := [(.iconst 2, nI 2)]) (lSa_ok dd16) rfl ?_
            obtain ⟨_, o79, e78, m80, h⟩ := gOb_inv h
            refine Y.callI (yC.Vi (b := a0) (As := [.int (nI 1), .int (nI 2)]) (st := []) (r := ("PartlisterModel", T_M, 9)) hV.1.1 cb_M_refuse lk_M_36 in_M_refuse rfl se_M_refuse (lIa_ok dd17) rfl rfl (Nat.le_of_ble_eq_true rfl) (by decide) e78 m80) (k_M_refuse hV.1 G55 a0 (nI 1) (nI 2)) h (fun v82 G81 _ h => ?_)
            refine Y.if_eq (off := 5) (tgt := 70) (lIa_ok dd18) (by decide) h (fun c98 h => ?_) (fun c98 h => ?_)
            · refine Y.blk (pc' := 74) (L' := [some (.ref a0), some (.int a1), some (.int a2)]) (st' := [.int a1, .ref a0, .int a1, .ref a0]) (sg := [(.aload_n 0, 0), (.iload_n 1, 0), (.aload_n 0, 0), (.iload_n 1, 0)]) (lSa_ok dd19) rfl ?_
              obtain ⟨_, o84, e83, m85, h⟩ := gOb_inv h
              refine Y.callI (yC.Vi (b := a0) (As := [.int a1]) (st := [.int a1, .ref a0]) (r := ("PartlisterModel", T_M, 9)) hV.1.1 cb_M_length lk_M_74 in_M_length rfl se_M_length (lIa_ok dd20) rfl rfl (Nat.le_of_ble_eq_true rfl) (by decide) e83 m85) (k_M_length hV.1 G81 a0 a1) h (fun v87 G86 _ h => ?_)
              refine Y.blk (pc' := 78) (L' := [some (.ref a0), some (.int a1), some (.int a2)]) (st' := [.int a2, .int v87, .int a1, .ref a0]) (sg := [(.iload_n 2, 0)]) (lSa_ok dd21) rfl ?_
              obtain ⟨_, o89, e88, m90, h⟩ := gOb_inv h
              refine Y.callI (yC.Vi (b := a0) (As := [.int a1, .int v87, .int a2]) (st := []) (r := ("PartlisterModel", T_M, 9)) hV.1.1 cb_M_bring lk_M_139 in_M_bring rfl se_M_bring (lIa_ok dd22) rfl rfl (Nat.le_of_ble_eq_true rfl) (by decide) e88 m90) (k_M_bring hV G86 a0 a1 v87 a2) h (fun v92 G91 _ h => ?_)
              refine Y.blk (pc' := 84) (L' := [some (.ref a0), some (.int a1), some (.int a2)]) (st' := [.int a1, .ref a0]) (sg := [(.pop, 0), (.aload_n 0, 0), (.iload_n 1, 0)]) (lSa_ok dd23) rfl ?_
              obtain ⟨_, o94, e93, m95, h⟩ := gOb_inv h
              refine Y.callI (yC.Vi (b := a0) (As := [.int a1]) (st := []) (r := ("PartlisterModel", T_M, 9)) hV.1.1 cb_M_length lk_M_74 in_M_length rfl se_M_length (lIa_ok dd24) rfl rfl (Nat.le_of_ble_eq_true rfl) (by decide) e93 m95) (k_M_length hV.1 G91 a0 a1) h (fun v97 G96 _ h => ?_)
              exact Y.iret rfl (lIa_ok dd25) h
            · refine Y.blk (pc' := 69) (L' := [some (.ref a0), some (.int a1), some (.int a2)]) (st' := [.int (nI 0)]) (sg := [(.iconst 0, nI 0)]) (lSa_ok dd26) rfl ?_
              exact Y.iret rfl (lIa_ok dd27) h
      · refine Y.blk (pc' := 69) (L' := [some (.ref a0), some (.int a1), some (.int a2)]) (st' := [.int (nI 0)]) (sg := [(.iconst 0, nI 0)]) (lSa_ok dd26) rfl ?_
        exact Y.iret rfl (lIa_ok dd27) h
    · refine Y.blk (pc' := 18) (L' := [some (.ref a0), some (.int a1), some (.int a2)]) (st' := [.int (nI 1), .ref a0]) (sg := [(.iconst 1, nI 1)]) (lSa_ok dd33) rfl ?_
      refine Y.goto (off := 4) (tgt := 22) (lIa_ok dd34) (by decide) ?_
      refine Y.blk (pc' := 23) (L' := [some (.ref a0), some (.int a1), some (.int a2)]) (st' := [.int (nI 1), .int (nI 1), .ref a0]) (sg := [(.iconst 1, nI 1)]) (lSa_ok dd35) rfl ?_
      obtain ⟨_, o103, e102, m104, h⟩ := gOb_inv h
      refine Y.callI (yC.Vi (b := a0) (As := [.int (nI 1), .int (nI 1)]) (st := []) (r := ("PartlisterModel", T_M, 9)) hV.1.1 cb_M_start lk_M_114 in_M_start rfl se_M_start (lIa_ok dd7) rfl rfl (Nat.le_of_ble_eq_true rfl) (by decide) e102 m104) (k_M_start hV.1 G9 a0 (nI 1) (nI 1)) h (fun v106 G105 _ h => ?_)
      refine Y.if_ne (off := 42) (tgt := 68) (lIa_ok dd8) (by decide) h (fun c192 h => ?_) (fun c192 h => ?_)
      · refine Y.blk (pc' := 32) (L' := [some (.ref a0), some (.int a1), some (.int a2)]) (st' := [.int a1, .ref a0, .ref a0]) (sg := [(.aload_n 0, 0), (.aload_n 0, 0), (.iload_n 1, 0)]) (lSa_ok dd9) rfl ?_
        obtain ⟨_, o108, e107, m109, h⟩ := gOb_inv h
        refine Y.callI (yC.Vi (b := a0) (As := [.int a1]) (st := [.ref a0]) (r := ("PartlisterModel", T_M, 9)) hV.1.1 cb_M_rowOf lk_M_47 in_M_rowOf rfl se_M_rowOf (lIa_ok dd10) rfl rfl (Nat.le_of_ble_eq_true rfl) (by decide) e107 m109) (k_M_rowOf zDp hV.1 G105 a0 a1) h (fun v111 G110 _ h => ?_)
        refine Y.blk (pc' := 37) (L' := [some (.ref a0), some (.int a1), some (.int a2)]) (st' := [.int a2, .ref a0, .int v111, .ref a0]) (sg := [(.aload_n 0, 0), (.iload_n 2, 0)]) (lSa_ok dd11) rfl ?_
        obtain ⟨_, o113, e112, m114, h⟩ := gOb_inv h
        refine Y.callI (yC.Vi (b := a0) (As := [.int a2]) (st := [.int v111, .ref a0]) (r := ("PartlisterModel", T_M, 9)) hV.1.1 cb_M_rowOf lk_M_47 in_M_rowOf rfl se_M_rowOf (lIa_ok dd12) rfl rfl (Nat.le_of_ble_eq_true rfl) (by decide) e112 m114) (k_M_rowOf zDp hV.1 G110 a0 a2) h (fun v116 G115 _ h => ?_)
        refine Y.ic_eq (off := 16) (tgt := 56) (lIa_ok dd13) (by decide) h (fun c191 h => ?_) (fun c191 h => ?_)
        · refine Y.blk (pc' := 57) (L' := [some (.ref a0), some (.int a1), some (.int a2)]) (st' := [.int (nI 1), .ref a0]) (sg := [(.iconst 1, nI 1)]) (lSa_ok dd14) rfl ?_
          refine Y.goto (off := 4) (tgt := 61) (lIa_ok dd15) (by decide) ?_
          refine Y.blk (pc' := 62) (L' := [some (.ref a0), some (.int a1), some (.int a2)]) (st' := [.int (nI 2), .int (nI 1), .ref a0]) (sg := [(.iconst 2, nI 2)]) (lSa_ok dd16) rfl ?_
          obtain ⟨_, o118, e117, m119, h⟩ := gOb_inv h
          refine Y.callI (yC.Vi (b := a0) (As := [.int (nI 1), .int (nI 2)]) (st := []) (r := ("PartlisterModel", T_M, 9)) hV.1.1 cb_M_refuse lk_M_36 in_M_refuse rfl se_M_refuse (lIa_ok dd17) rfl rfl (Nat.le_of_ble_eq_true rfl) (by decide) e117 m119) (k_M_refuse hV.1 G115 a0 (nI 1) (nI 2)) h (fun v121 G120 _ h => ?_)
          refine Y.if_eq (off := 5) (tgt := 70) (lIa_ok dd18) (by decide) h (fun c137 h => ?_) (fun c137 h => ?_)
          · refine Y.blk (pc' := 74) (L' := [some (.ref a0), some (.int a1), some (.int a2)]) (st' := [.int a1, .ref a0, .int a1, .ref a0]) (sg := [(.aload_n 0, 0), (.iload_n 1, 0), (.aload_n 0, 0), (.iload_n 1, 0)]) (lSa_ok dd19) rfl ?_
            obtain ⟨_, o123, e122, m124, h⟩ := gOb_inv h
            refine Y.callI (yC.Vi (b := a0) (As := [.int a1]) (st := [.int a1, .ref a0]) (r := ("PartlisterModel", T_M, 9)) hV.1.1 cb_M_length lk_M_74 in_M_length rfl se_M_length (lIa_ok dd20) rfl rfl (Nat.le_of_ble_eq_true rfl) (by decide) e122 m124) (k_M_length hV.1 G120 a0 a1) h (fun v126 G125 _ h => ?_)
            refine Y.blk (pc' := 78) (L' := [some (.ref a0), some (.int a1), some (.int a2)]) (st' := [.int a2, .int v126, .int a1, .ref a0]) (sg := [(.iload_n 2, 0)]) (lSa_ok dd21) rfl ?_
            obtain ⟨_, o128, e127, m129, h⟩ := gOb_inv h
            refine Y.callI (yC.Vi (b := a0) (As := [.int a1, .int v126, .int a2]) (st := []) (r := ("PartlisterModel", T_M, 9)) hV.1.1 cb_M_bring lk_M_139 in_M_bring rfl se_M_bring (lIa_ok dd22) rfl rfl (Nat.le_of_ble_eq_true rfl) (by decide) e127 m129) (k_M_bring hV G125 a0 a1 v126 a2) h (fun v131 G130 _ h => ?_)
            refine Y.blk (pc' := 84) (L' := [some (.ref a0), some (.int a1), some (.int a2)]) (st' := [.int a1, .ref a0]) (sg := [(.pop, 0), (.aload_n 0, 0), (.iload_n 1, 0)]) (lSa_ok dd23) rfl ?_
            obtain ⟨_, o133, e132, m134, h⟩ := gOb_inv h
            refine Y.callI (yC.Vi (b := a0) (As := [.int a1]) (st := []) (r := ("PartlisterModel", T_M, 9)) hV.1.1 cb_M_length lk_M_74 in_M_length rfl se_M_length (lIa_ok dd24) rfl rfl (Nat.le_of_ble_eq_true rfl) (by decide) e132 m134) (k_M_length hV.1 G130 a0 a1) h (fun v136 G135 _ h => ?_)
            exact Y.iret rfl (lIa_ok dd25) h
          · refine Y.blk (pc' := 69) (L' := [some (.ref a0), some (.int a1), some (.int a2)]) (st' := [.int (nI 0)]) (sg := [(.iconst 0, nI 0)]) (lSa_ok dd26) rfl ?_
            exact Y.iret rfl (lIa_ok dd27) h
        · refine Y.blk (pc' := 47) (L' := [some (.ref a0), some (.int a1), some (.int a2)]) (st' := [.int a2, .ref a0, .int a1, .ref a0, .ref a0]) (sg := [(.aload_n 0, 0), (.iload_n 1, 0), (.aload_n 0, 0), (.iload_n 2, 0)]) (lSa_ok dd28) rfl ?_
          obtain ⟨_, o139, e138, m140, h⟩ := gOb_inv h
          refine Y.callI (yC.Vi (b := a0) (As := [.int a2]) (st := [.int a1, .ref a0, .ref a0]) (r := ("PartlisterModel", T_M, 9)) hV.1.1 cb_M_length lk_M_74 in_M_length rfl se_M_length (lIa_ok dd29) rfl rfl (Nat.le_of_ble_eq_true rfl) (by decide) e138 m140) (k_M_length hV.1 G115 a0 a2) h (fun v142 G141 _ h => ?_)
          obtain ⟨_, o144, e143, m145, h⟩ := gOb_inv h
          refine Y.callI (yC.Vi (b := a0) (As := [.int a1, .int v142]) (st := [.ref a0]) (r := ("PartlisterModel", T_M, 9)) hV.1.1 cb_M_isFull lk_M_117 in_M_isFull rfl se_M_isFull (lIa_ok dd30) rfl rfl (Nat.le_of_ble_eq_true rfl) (by decide) e143 m145) (k_M_isFull hV.1 G141 a0 a1 v142) h (fun v147 G146 _ h => ?_)
          refine Y.if_eq (off := 7) (tgt := 60) (lIa_ok dd31) (by decide) h (fun c190 h => ?_) (fun c190 h => ?_)
          · refine Y.blk (pc' := 62) (L' := [some (.ref a0), some (.int a1), some (.int a2)]) (st' := [.int (nI 2), .int (nI 0), .ref a0]) (sg := [(.iconst 0, nI 0), (.iconst 2, nI 2)]) (lSa_ok dd32) rfl ?_
            obtain ⟨_, o149, e148, m150, h⟩ := gOb_inv h
            refine Y.callI (yC.Vi (b := a0) (As := [.int (nI 0), .int (nI 2)]) (st := []) (r := ("PartlisterModel", T_M, 9)) hV.1.1 cb_M_refuse lk_M_36 in_M_refuse rfl se_M_refuse (lIa_ok dd17) rfl rfl (Nat.le_of_ble_eq_true rfl) (by decide) e148 m150) (k_M_refuse hV.1 G146 a0 (nI 0) (nI 2)) h (fun v152 G151 _ h => ?_)
            refine Y.if_eq (off := 5) (tgt := 70) (lIa_ok dd18) (by decide) h (fun c168 h => ?_) (fun c168 h => ?_)
            · refine Y.blk (pc' := 74) (L' := [some (.ref a0), some (.int a1), some (.int a2)]) (st' := [.int a1, .ref a0, .int a1, .ref a0]) (sg := [(.aload_n 0, 0), (.iload_n 1, 0), (.aload_n 0, 0), (.iload_n 1, 0)]) (lSa_ok dd19) rfl ?_
              obtain ⟨_, o154, e153, m155, h⟩ := gOb_inv h
              refine Y.callI (yC.Vi (b := a0) (As := [.int a1]) (st := [.int a1, .ref a0]) (r := ("PartlisterModel", T_M, 9)) hV.1.1 cb_M_length lk_M_74 in_M_length rfl se_M_length (lIa_ok dd20) rfl rfl (Nat.le_of_ble_eq_true rfl) (by decide) e153 m155) (k_M_length hV.1 G151 a0 a1) h (fun v157 G156 _ h => ?_)
              refine Y.blk (pc' := 78) (L' := [some (.ref a0), some (.int a1), some (.int a2)]) (st' := [.int a2, .int v157, .int a1, .ref a0]) (sg := [(.iload_n 2, 0)]) (lSa_ok dd21) rfl ?_
              obtain ⟨_, o159, e158, m160, h⟩ := gOb_inv h
              refine Y.callI (yC.Vi (b := a0) (As := [.int a1, .int v157, .int a2]) (st := []) (r := ("PartlisterModel", T_M, 9)) hV.1.1 cb_M_bring lk_M_139 in_M_bring rfl se_M_bring (lIa_ok dd22) rfl rfl (Nat.le_of_ble_eq_true rfl) (by decide) e158 m160) (k_M_bring hV G156 a0 a1 v157 a2) h (fun v162 G161 _ h => ?_)
              refine Y.blk (pc' := 84) (L' := [some (.ref a0), some (.int a1), some (.int a2)]) (st' := [.int a1, .ref a0]) (sg := [(.pop, 0), (.aload_n 0, 0), (.iload_n 1, 0)]) (lSa_ok dd23) rfl ?_
              obtain ⟨_, o164, e163, m165, h⟩ := gOb_inv h
              refine Y.callI (yC.Vi (b := a0) (As := [.int a1]) (st := []) (r := ("PartlisterModel", T_M, 9)) hV.1.1 cb_M_length lk_M_74 in_M_length rfl se_M_length (lIa_ok dd24) rfl rfl (Nat.le_of_ble_eq_true rfl) (by decide) e163 m165) (k_M_length hV.1 G161 a0 a1) h (fun v167 G166 _ h => ?_)
              exact Y.iret rfl (lIa_ok dd25) h
            · refine Y.blk (pc' := 69) (L' := [some (.ref a0), some (.int a1), some (.int a2)]) (st' := [.int (nI 0)]) (sg := [(.iconst 0, nI 0)]) (lSa_ok dd26) rfl ?_
              exact Y.iret rfl (lIa_ok dd27) h
          · refine Y.blk (pc' := 57) (L' := [some (.ref a0), some (.int a1), some (.int a2)]) (st' := [.int (nI 1), .ref a0]) (sg := [(.iconst 1, nI 1)]) (lSa_ok dd14) rfl ?_
            refine Y.goto (off := 4) (tgt := 61) (lIa_ok dd15) (by decide) ?_
            refine Y.blk (pc' := 62) (L' := [some (.ref a0), some (.int a1), some (.int a2)]) (st' := [.int (nI 2), .int (nI 1), .ref a0]) (sg := [(.iconst 2, nI 2)]) (lSa_ok dd16) rfl ?_
            obtain ⟨_, o170, e169, m171, h⟩ := gOb_inv h
            refine Y.callI (yC.Vi (b := a0) (As := [.int (nI 1), .int (nI 2)]) (st := []) (r := ("PartlisterModel", T_M, 9)) hV.1.1 cb_M_refuse lk_M_36 in_M_refuse rfl se_M_refuse (lIa_ok dd17) rfl rfl (Nat.le_of_ble_eq_true rfl) (by decide) e169 m171) (k_M_refuse hV.1 G146 a0 (nI 1) (nI 2)) h (fun v173 G172 _ h => ?_)
            refine Y.if_eq (off := 5) (tgt := 70) (lIa_ok dd18) (by decide) h (fun c189 h => ?_) (fun c189 h => ?_)
            · refine Y.blk (pc' := 74) (L' := [some (.ref a0), some (.int a1), some (.int a2)]) (st' := [.int a1, .ref a0, .int a1, .ref a0]) (sg := [(.aload_n 0, 0), (.iload_n 1, 0), (.aload_n 0, 0), (.iload_n 1, 0)]) (lSa_ok dd19) rfl ?_
              obtain ⟨_, o175, e174, m176, h⟩ := gOb_inv h
              refine Y.callI (yC.Vi (b := a0) (As := [.int a1]) (st := [.int a1, .ref a0]) (r := ("PartlisterModel", T_M, 9)) hV.1.1 cb_M_length lk_M_74 in_M_length rfl se_M_length (lIa_ok dd20) rfl rfl (Nat.le_of_ble_eq_true rfl) (by decide) e174 m176) (k_M_length hV.1 G172 a0 a1) h (fun v178 G177 _ h => ?_)
              refine Y.blk (pc' := 78) (L' := [some (.ref a0), some (.int a1), some (.int a2)]) (st' := [.int a2, .int v178, .int a1, .ref a0]) (sg := [(.iload_n 2, 0)]) (lSa_ok dd21) rfl ?_
              obtain ⟨_, o180, e179, m181, h⟩ := gOb_inv h
              refine Y.callI (yC.Vi (b := a0) (As := [.int a1, .int v178, .int a2]) (st := []) (r := ("PartlisterModel", T_M, 9)) hV.1.1 cb_M_bring lk_M_139 in_M_bring rfl se_M_bring (lIa_ok dd22) rfl rfl (Nat.le_of_ble_eq_true rfl) (by decide) e179 m181) (k_M_bring hV G177 a0 a1 v178 a2) h (fun v183 G182 _ h => ?_)
              refine Y.blk (pc' := 84) (L' := [some (.ref a0), some (.int a1), some (.int a2)]) (st' := [.int a1, .ref a0]) (sg := [(.pop, 0), (.aload_n 0, 0), (.iload_n 1, 0)]) (lSa_ok dd23) rfl ?_
              obtain ⟨_, o185, e184, m186, h⟩ := gOb_inv h
              refine Y.callI (yC.Vi (b := a0) (As := [.int a1]) (st := []) (r := ("PartlisterModel", T_M, 9)) hV.1.1 cb_M_length lk_M_74 in_M_length rfl se_M_length (lIa_ok dd24) rfl rfl (Nat.le_of_ble_eq_true rfl) (by decide) e184 m186) (k_M_length hV.1 G182 a0 a1) h (fun v188 G187 _ h => ?_)
              exact Y.iret rfl (lIa_ok dd25) h
            · refine Y.blk (pc' := 69) (L' := [some (.ref a0), some (.int a1), some (.int a2)]) (st' := [.int (nI 0)]) (sg := [(.iconst 0, nI 0)]) (lSa_ok dd26) rfl ?_
              exact Y.iret rfl (lIa_ok dd27) h
      · refine Y.blk (pc' := 69) (L' := [some (.ref a0), some (.int a1), some (.int a2)]) (st' := [.int (nI 0)]) (sg := [(.iconst 0, nI 0)]) (lSa_ok dd26) rfl ?_
        exact Y.iret rfl (lIa_ok dd27) h
  · refine Y.blk (pc' := 18) (L' := [some (.ref a0), some (.int a1), some (.int a2)]) (st' := [.int (nI 1), .ref a0]) (sg := [(.iconst 1, nI 1)]) (lSa_ok dd33) rfl ?_
    refine Y.goto (off := 4) (tgt := 22) (lIa_ok dd34) (by decide) ?_
    refine Y.blk (pc' := 23) (L' := [some (.ref a0), some (.int a1), some (.int a2)]) (st' := [.int (nI 1), .int (nI 1), .ref a0]) (sg := [(.iconst 1, nI 1)]) (lSa_ok dd35) rfl ?_
    obtain ⟨_, o195, e194, m196, h⟩ := gOb_inv h
    refine Y.callI (yC.Vi (b := a0) (As := [.int (nI 1), .int (nI 1)]) (st := []) (r := ("PartlisterModel", T_M, 9)) hV.1.1 cb_M_start lk_M_114 in_M_start rfl se_M_start (lIa_ok dd7) rfl rfl (Nat.le_of_ble_eq_true rfl) (by decide) e194 m196) (k_M_start hV.1 G4 a0 (nI 1) (nI 1)) h (fun v198 G197 _ h => ?_)
    refine Y.if_ne (off := 42) (tgt := 68) (lIa_ok dd8) (by decide) h (fun c284 h => ?_) (fun c284 h => ?_)
    · refine Y.blk (pc' := 32) (L' := [some (.ref a0), some (.int a1), some (.int a2)]) (st' := [.int a1, .ref a0, .ref a0]) (sg := [(.aload_n 0, 0), (.aload_n 0, 0), (.iload_n 1, 0)]) (lSa_ok dd9) rfl ?_
      obtain ⟨_, o200, e199, m201, h⟩ := gOb_inv h
      refine Y.callI (yC.Vi (b := a0) (As := [.int a1]) (st := [.ref a0]) (r := ("PartlisterModel", T_M, 9)) hV.1.1 cb_M_rowOf lk_M_47 in_M_rowOf rfl se_M_rowOf (lIa_ok dd10) rfl rfl (Nat.le_of_ble_eq_true rfl) (by decide) e199 m201) (k_M_rowOf zDp hV.1 G197 a0 a1) h (fun v203 G202 _ h => ?_)
      refine Y.blk (pc' := 37) (L' := [some (.ref a0), some (.int a1), some (.int a2)]) (st' := [.int a2, .ref a0, .int v203, .ref a0]) (sg := [(.aload_n 0, 0), (.iload_n 2, 0)]) (lSa_ok dd11) rfl ?_
      obtain ⟨_, o205, e204, m206, h⟩ := gOb_inv h
      refine Y.callI (yC.Vi (b := a0) (As := [.int a2]) (st := [.int v203, .ref a0]) (r := ("PartlisterModel", T_M, 9)) hV.1.1 cb_M_rowOf lk_M_47 in_M_rowOf rfl se_M_rowOf (lIa_ok dd12) rfl rfl (Nat.le_of_ble_eq_true rfl) (by decide) e204 m206) (k_M_rowOf zDp hV.1 G202 a0 a2) h (fun v208 G207 _ h => ?_)
      refine Y.ic_eq (off := 16) (tgt := 56) (lIa_ok dd13) (by decide) h (fun c283 h => ?_) (fun c283 h => ?_)
      · refine Y.blk (pc' := 57) (L' := [some (.ref a0), some (.int a1), some (.int a2)]) (st' := [.int (nI 1), .ref a0]) (sg := [(.iconst 1, nI 1)]) (lSa_ok dd14) rfl ?_
        refine Y.goto (off := 4) (tgt := 61) (lIa_ok dd15) (by decide) ?_
        refine Y.blk (pc' := 62) (L' := [some (.ref a0), some (.int a1), some (.int a2)]) (st' := [.int (nI 2), .int (nI 1), .ref a0]) (sg := [(.iconst 2, nI 2)]) (lSa_ok dd16) rfl ?_
        obtain ⟨_, o210, e209, m211, h⟩ := gOb_inv h
        refine Y.callI (yC.Vi (b := a0) (As := [.int (nI 1), .int (nI 2)]) (st := []) (r := ("PartlisterModel", T_M, 9)) hV.1.1 cb_M_refuse lk_M_36 in_M_refuse rfl se_M_refuse (lIa_ok dd17) rfl rfl (Nat.le_of_ble_eq_true rfl) (by decide) e209 m211) (k_M_refuse hV.1 G207 a0 (nI 1) (nI 2)) h (fun v213 G212 _ h => ?_)
        refine Y.if_eq (off := 5) (tgt := 70) (lIa_ok dd18) (by decide) h (fun c229 h => ?_) (fun c229 h => ?_)
        · refine Y.blk (pc' := 74) (L' := [some (.ref a0), some (.int a1), some (.int a2)]) (st' := [.int a1, .ref a0, .int a1, .ref a0]) (sg := [(.aload_n 0, 0), (.iload_n 1, 0), (.aload_n 0, 0), (.iload_n 1, 0)]) (lSa_ok dd19) rfl ?_
          obtain ⟨_, o215, e214, m216, h⟩ := gOb_inv h
          refine Y.callI (yC.Vi (b := a0) (As := [.int a1]) (st := [.int a1, .ref a0]) (r := ("PartlisterModel", T_M, 9)) hV.1.1 cb_M_length lk_M_74 in_M_length rfl se_M_length (lIa_ok dd20) rfl rfl (Nat.le_of_ble_eq_true rfl) (by decide) e214 m216) (k_M_length hV.1 G212 a0 a1) h (fun v218 G217 _ h => ?_)
          refine Y.blk (pc' := 78) (L' := [some (.ref a0), some (.int a1), some (.int a2)]) (st' := [.int a2, .int v218, .int a1, .ref a0]) (sg := [(.iload_n 2, 0)]) (lSa_ok dd21) rfl ?_
          obtain ⟨_, o220, e219, m221, h⟩ := gOb_inv h
          refine Y.callI (yC.Vi (b := a0) (As := [.int a1, .int v218, .int a2]) (st := []) (r := ("PartlisterModel", T_M, 9)) hV.1.1 cb_M_bring lk_M_139 in_M_bring rfl se_M_bring (lIa_ok dd22) rfl rfl (Nat.le_of_ble_eq_true rfl) (by decide) e219 m221) (k_M_bring hV G217 a0 a1 v218 a2) h (fun v223 G222 _ h => ?_)
          refine Y.blk (pc' := 84) (L' := [some (.ref a0), some (.int a1), some (.int a2)]) (st' := [.int a1, .ref a0]) (sg := [(.pop, 0), (.aload_n 0, 0), (.iload_n 1, 0)]) (lSa_ok dd23) rfl ?_
          obtain ⟨_, o225, e224, m226, h⟩ := gOb_inv h
          refine Y.callI (yC.Vi (b := a0) (As := [.int a1]) (st := []) (r := ("PartlisterModel", T_M, 9)) hV.1.1 cb_M_length lk_M_74 in_M_length rfl se_M_length (lIa_ok dd24) rfl rfl (Nat.le_of_ble_eq_true rfl) (by decide) e224 m226) (k_M_length hV.1 G222 a0 a1) h (fun v228 G227 _ h => ?_)
          exact Y.iret rfl (lIa_ok dd25) h
        · refine Y.blk (pc' := 69) (L' := [some (.ref a0), some (.int a1), some (.int a2)]) (st' := [.int (nI 0)]) (sg := [(.iconst 0, nI 0)]) (lSa_ok dd26) rfl ?_
          exact Y.iret rfl (lIa_ok dd27) h
      · refine Y.blk (pc' := 47) (L' := [some (.ref a0), some (.int a1), some (.int a2)]) (st' := [.int a2, .ref a0, .int a1, .ref a0, .ref a0]) (sg := [(.aload_n 0, 0), (.iload_n 1, 0), (.aload_n 0, 0), (.iload_n 2, 0)]) (lSa_ok dd28) rfl ?_
        obtain ⟨_, o231, e230, m232, h⟩ := gOb_inv h
        refine Y.callI (yC.Vi (b := a0) (As := [.int a2]) (st := [.int a1, .ref a0, .ref a0]) (r := ("PartlisterModel", T_M, 9)) hV.1.1 cb_M_length lk_M_74 in_M_length rfl se_M_length (lIa_ok dd29) rfl rfl (Nat.le_of_ble_eq_true rfl) (by decide) e230 m232) (k_M_length hV.1 G207 a0 a2) h (fun v234 G233 _ h => ?_)
        obtain ⟨_, o236, e235, m237, h⟩ := gOb_inv h
        refine Y.callI (yC.Vi (b := a0) (As := [.int a1, .int v234]) (st := [.ref a0]) (r := ("PartlisterModel", T_M, 9)) hV.1.1 cb_M_isFull lk_M_117 in_M_isFull rfl se_M_isFull (lIa_ok dd30) rfl rfl (Nat.le_of_ble_eq_true rfl) (by decide) e235 m237) (k_M_isFull hV.1 G233 a0 a1 v234) h (fun v239 G238 _ h => ?_)
        refine Y.if_eq (off := 7) (tgt := 60) (lIa_ok dd31) (by decide) h (fun c282 h => ?_) (fun c282 h => ?_)
        · refine Y.blk (pc' := 62) (L' := [some (.ref a0), some (.int a1), some (.int a2)]) (st' := [.int (nI 2), .int (nI 0), .ref a0]) (sg := [(.iconst 0, nI 0), (.iconst 2, nI 2)]) (lSa_ok dd32) rfl ?_
          obtain ⟨_, o241, e240, m242, h⟩ := gOb_inv h
          refine Y.callI (yC.Vi (b := a0) (As := [.int (nI 0), .int (nI 2)]) (st := []) (r := ("PartlisterModel", T_M, 9)) hV.1.1 cb_M_refuse lk_M_36 in_M_refuse rfl se_M_refuse (lIa_ok dd17) rfl rfl (Nat.le_of_ble_eq_true rfl) (by decide) e240 m242) (k_M_refuse hV.1 G238 a0 (nI 0) (nI 2)) h (fun v244 G243 _ h => ?_)
          refine Y.if_eq (off := 5) (tgt := 70) (lIa_ok dd18) (by decide) h (fun c260 h => ?_) (fun c260 h => ?_)
          · refine Y.blk (pc' := 74) (L' := [some (.ref a0), some (.int a1), some (.int a2)]) (st' := [.int a1, .ref a0, .int a1, .ref a0]) (sg := [(.aload_n 0, 0), (.iload_n 1, 0), (.aload_n 0, 0), (.iload_n 1, 0)]) (lSa_ok dd19) rfl ?_
            obtain ⟨_, o246, e245, m247, h⟩ := gOb_inv h
            refine Y.callI (yC.Vi (b := a0) (As := [.int a1]) (st := [.int a1, .ref a0]) (r := ("PartlisterModel", T_M, 9)) hV.1.1 cb_M_length lk_M_74 in_M_length rfl se_M_length (lIa_ok dd20) rfl rfl (Nat.le_of_ble_eq_true rfl) (by decide) e245 m247) (k_M_length hV.1 G243 a0 a1) h (fun v249 G248 _ h => ?_)
            refine Y.blk (pc' := 78) (L' := [some (.ref a0), some (.int a1), some (.int a2)]) (st' := [.int a2, .int v249, .int a1, .ref a0]) (sg := [(.iload_n 2, 0)]) (lSa_ok dd21) rfl ?_
            obtain ⟨_, o251, e250, m252, h⟩ := gOb_inv h
            refine Y.callI (yC.Vi (b := a0) (As := [.int a1, .int v249, .int a2]) (st := []) (r := ("PartlisterModel", T_M, 9)) hV.1.1 cb_M_bring lk_M_139 in_M_bring rfl se_M_bring (lIa_ok dd22) rfl rfl (Nat.le_of_ble_eq_true rfl) (by decide) e250 m252) (k_M_bring hV G248 a0 a1 v249 a2) h (fun v254 G253 _ h => ?_)
            refine Y.blk (pc' := 84) (L' := [some (.ref a0), some (.int a1), some (.int a2)]) (st' := [.int a1, .ref a0]) (sg := [(.pop, 0), (.aload_n 0, 0), (.iload_n 1, 0)]) (lSa_ok dd23) rfl ?_
            obtain ⟨_, o256, e255, m257, h⟩ := gOb_inv h
            refine Y.callI (yC.Vi (b := a0) (As := [.int a1]) (st := []) (r := ("PartlisterModel", T_M, 9)) hV.1.1 cb_M_length lk_M_74 in_M_length rfl se_M_length (lIa_ok dd24) rfl rfl (Nat.le_of_ble_eq_true rfl) (by decide) e255 m257) (k_M_length hV.1 G253 a0 a1) h (fun v259 G258 _ h => ?_)
            exact Y.iret rfl (lIa_ok dd25) h
          · refine Y.blk (pc' := 69) (L' := [some (.ref a0), some (.int a1), some (.int a2)]) (st' := [.int (nI 0)]) (sg := [(.iconst 0, nI 0)]) (lSa_ok dd26) rfl ?_
            exact Y.iret rfl (lIa_ok dd27) h
        · refine Y.blk (pc' := 57) (L' := [some (.ref a0), some (.int a1), some (.int a2)]) (st' := [.int (nI 1), .ref a0]) (sg := [(.iconst 1, nI 1)]) (lSa_ok dd14) rfl ?_
          refine Y.goto (off := 4) (tgt := 61) (lIa_ok dd15) (by decide) ?_
          refine Y.blk (pc' := 62) (L' := [some (.ref a0), some (.int a1), some (.int a2)]) (st' := [.int (nI 2), .int (nI 1), .ref a0]) (sg := [(.iconst 2, nI 2)]) (lSa_ok dd16) rfl ?_
          obtain ⟨_, o262, e261, m263, h⟩ := gOb_inv h
          refine Y.callI (yC.Vi (b := a0) (As := [.int (nI 1), .int (nI 2)]) (st := []) (r := ("PartlisterModel", T_M, 9)) hV.1.1 cb_M_refuse lk_M_36 in_M_refuse rfl se_M_refuse (lIa_ok dd17) rfl rfl (Nat.le_of_ble_eq_true rfl) (by decide) e261 m263) (k_M_refuse hV.1 G238 a0 (nI 1) (nI 2)) h (fun v265 G264 _ h => ?_)
          refine Y.if_eq (off := 5) (tgt := 70) (lIa_ok dd18) (by decide) h (fun c281 h => ?_) (fun c281 h => ?_)
          · refine Y.blk (pc' := 74) (L' := [some (.ref a0), some (.int a1), some (.int a2)]) (st' := [.int a1, .ref a0, .int a1, .ref a0]) (sg := [(.aload_n 0, 0), (.iload_n 1, 0), (.aload_n 0, 0), (.iload_n 1, 0)]) (lSa_ok dd19) rfl ?_
            obtain ⟨_, o267, e266, m268, h⟩ := gOb_inv h
            refine Y.callI (yC.Vi (b := a0) (As := [.int a1]) (st := [.int a1, .ref a0]) (r := ("PartlisterModel", T_M, 9)) hV.1.1 cb_M_length lk_M_74 in_M_length rfl se_M_length (lIa_ok dd20) rfl rfl (Nat.le_of_ble_eq_true rfl) (by decide) e266 m268) (k_M_length hV.1 G264 a0 a1) h (fun v270 G269 _ h => ?_)
            refine Y.blk (pc' := 78) (L' := [some (.ref a0), some (.int a1), some (.int a2)]) (st' := [.int a2, .int v270, .int a1, .ref a0]) (sg := [(.iload_n 2, 0)]) (lSa_ok dd21) rfl ?_
            obtain ⟨_, o272, e271, m273, h⟩ := gOb_inv h
            refine Y.callI (yC.Vi (b := a0) (As := [.int a1, .int v270, .int a2]) (st := []) (r := ("PartlisterModel", T_M, 9)) hV.1.1 cb_M_bring lk_M_139 in_M_bring rfl se_M_bring (lIa_ok dd22) rfl rfl (Nat.le_of_ble_eq_true rfl) (by decide) e271 m273) (k_M_bring hV G269 a0 a1 v270 a2) h (fun v275 G274 _ h => ?_)
            refine Y.blk (pc' := 84) (L' := [some (.ref a0), some (.int a1), some (.int a2)]) (st' := [.int a1, .ref a0]) (sg := [(.pop, 0), (.aload_n 0, 0), (.iload_n 1, 0)]) (lSa_ok dd23) rfl ?_
            obtain ⟨_, o277, e276, m278, h⟩ := gOb_inv h
            refine Y.callI (yC.Vi (b := a0) (As := [.int a1]) (st := []) (r := ("PartlisterModel", T_M, 9)) hV.1.1 cb_M_length lk_M_74 in_M_length rfl se_M_length (lIa_ok dd24) rfl rfl (Nat.le_of_ble_eq_true rfl) (by decide) e276 m278) (k_M_length hV.1 G274 a0 a1) h (fun v280 G279 _ h => ?_)
            exact Y.iret rfl (lIa_ok dd25) h
          · refine Y.blk (pc' := 69) (L' := [some (.ref a0), some (.int a1), some (.int a2)]) (st' := [.int (nI 0)]) (sg := [(.iconst 0, nI 0)]) (lSa_ok dd26) rfl ?_
            exact Y.iret rfl (lIa_ok dd27) h
    · refine Y.blk (pc' := 69) (L' := [some (.ref a0), some (.int a1), some (.int a2)]) (st' := [.int (nI 0)]) (sg := [(.iconst 0, nI 0)]) (lSa_ok dd26) rfl ?_
      exact Y.iret rfl (lIa_ok dd27) h
end
section
def f_M_areNone (G : gH) (a0 : Nat) (a1 : Int32) (a2 : Int32) : gR :=
  gOb G a0 6 fun o2 => bI (f_M_isNoList G a0 a1) fun v5 G4 => if v5 = 0 then (gOb G4 a0 6 fun o7 => bI (f_M_isNoList G4 a0 a2) fun v10 G9 => if v10 = 0 then gOb G9 a0 6 fun o12 => bI (f_M_start G9 a0 (nI 0) (nI 1)) fun v15 G14 => rZ v15 G14
    else gOb G9 a0 6 fun o17 => bI (f_M_start G9 a0 (nI 1) (nI 1)) fun v20 G19 => rZ v20 G19)
  else gOb G4 a0 6 fun o23 => bI (f_M_start G4 a0 (nI 1) (nI 1)) fun v26 G25 => rZ v26 G25
theorem k_M_areNone {l : Launch} {D : va_G} {B : Nat} {O : State → Heap → Prop} (hV : zG l D B O) (G : gH) (a0 : Nat) (a1 : Int32) (a2 : Int32) : gMet (zVm l D B O) m_M_areNone 4 [.ref a0, .int a1, .int a2] G (f_M_areNone G a0 a1 a2) := by
  have hdd : lSa m_M_areNone 0 [(.aload_n 0, 0), (.aload_n 0, 0), (.iload_n 1, 0)] = true ∧ lIa m_M_areNone 3 (.invokevirtual 110) 3 = true ∧ lIa m_M_areNone 6 (.ifCond .ne 11) 3 = true ∧ lSa m_M_areNone 9 [(.aload_n 0, 0), (.iload_n 2, 0)] = true ∧ lIa m_M_areNone 11 (.invokevirtual 110) 3 = true ∧ lIa m_M_areNone 14 (.ifCond .eq 7) 3 = true ∧ lSa m_M_areNone 21 [(.iconst 0, nI 0), (.iconst 1, nI 1)] = true ∧ lIa m_M_areNone 23 (.invokevirtual 114) 3 = true ∧ lIa m_M_areNone 26 (.ireturn) 1 = true ∧ lSa m_M_areNone 17 [(.iconst 1, nI 1)] = true ∧ lIa m_M_areNone 18 (.goto 4) 3 = true ∧ lSa m_M_areNone 22 [(.iconst 1, nI 1)] = true := by decide +kernel
  refine lA8 hdd (fun dd0 dd1 dd2 dd3 dd4 dd5 dd6 dd7 hdd => ?_)
  obtain ⟨dd8, dd9, dd10, dd11⟩ := hdd
  refine gMet.of (by decide +kernel) (Nat.le_of_ble_eq_true rfl) [some (.ref a0), some (.int a1), some (.int a2)] (fun ls h => zEn_ok (n := 3) h) ?_
  intro o Gf h
  unfold f_M_areNone at h
  refine Y.blk (pc' := 3) (L' := [some (.ref a0), some (.int a1), some (.int a2)]) (st' := [.int a1, .ref a0, .ref a0]) (sg := [(.aload_n 0, 0), (.aload_n 0, 0), (.iload_n 1, 0)]) (lSa_ok dd0) rfl ?_
  obtain ⟨_, o2, e1, m3, h⟩ := gOb_inv h
  refine Y.callI (yC.Vi (b := a0) (As := [.int a1]) (st := [.ref a0]) (r := ("PartlisterModel", T_M, 9)) hV.1 cb_M_isNoList lk_M_110 in_M_isNoList rfl se_M_isNoList (lIa_ok dd1) rfl rfl (Nat.le_of_ble_eq_true rfl) (by decide) e1 m3) (k_M_isNoList hV G a0 a1) h (fun v5 G4 _ h => ?_)
  refine Y.if_ne (off := 11) (tgt := 17) (lIa_ok dd2) (by decide) h (fun c27 h => ?_) (fun c27 h => ?_)
  · refine Y.blk (pc' := 11) (L' := [some (.ref a0), some (.int a1), some (.int a2)]) (st' := [.int a2, .ref a0, .ref a0]) (sg := [(.aload_n 0, 0), (.iload_n 2, 0)]) (lSa_ok dd3) rfl ?_
    obtain ⟨_, o7, e6, m8, h⟩ := gOb_inv h
    refine Y.callI (yC.Vi (b := a0) (As := [.int a2]) (st := [.ref a0]) (r := ("PartlisterModel", T_M, 9)) hV.1 cb_M_isNoList lk_M_110 in_M_isNoList rfl se_M_isNoList (lIa_ok dd4) rfl rfl (Nat.le_of_ble_eq_true rfl) (by decide) e6 m8) (k_M_isNoList hV G4 a0 a2) h (fun v10 G9 _ h => ?_)
    refine Y.if_eq (off := 7) (tgt := 21) (lIa_ok dd5) (by decide) h (fun c21 h => ?_) (fun c21 h => ?_)
    · refine Y.blk (pc' := 23) (L' := [some (.ref a0), some (.int a1), some (.int a2)]) (st' := [.int (nI 1), .int (nI 0), .ref a0]) (sg := [(.iconst 0, nI 0), (.iconst 1, nI 1)]) (lSa_ok dd6) rfl ?_
      obtain ⟨_, o12, e11, m13, h⟩ := gOb_inv h
      refine Y.callI (yC.Vi (b := a0) (As := [.int (nI 0), .int (nI 1)]) (st := []) (r := ("PartlisterModel", T_M, 9)) hV.1 cb_M_start lk_M_114 in_M_start rfl se_M_start (lIa_ok dd7) rfl rfl (Nat.le_of_ble_eq_true rfl) (by decide) e11 m13) (k_M_start hV G9 a0 (nI 0) (nI 1)) h (fun v15 G14 _ h => ?_)
      exact Y.zret rfl (lIa_ok dd8) h
    · refine Y.blk (pc' := 18) (L' := [some (.ref a0), some (.int a1), some (.int a2)]) (st' := [.int (nI 1), .ref a0]) (sg := [(.iconst 1, nI 1)]) (lSa_ok dd9) rfl ?_
      refine Y.goto (off := 4) (tgt := 22) (lIa_ok dd10) (by decide) ?_
      refine Y.blk (pc' := 23) (L' := [some (.ref a0), some (.int a1), some (.int a2)]) (st' := [.int (nI 1), .int (nI 1), .ref a0]) (sg := [(.iconst 1, nI 1)]) (lSa_ok dd11) rfl ?_
      obtain ⟨_, o17, e16, m18, h⟩ := gOb_inv h
      refine Y.callI (yC.Vi (b := a0) (As := [.int (nI 1), .int (nI 1)]) (st := []) (r := ("PartlisterModel", T_M, 9)) hV.1 cb_M_start lk_M_114 in_M_start rfl se_M_start (lIa_ok dd7) rfl rfl (Nat.le_of_ble_eq_true rfl) (by decide) e16 m18) (k_M_start hV G9 a0 (nI 1) (nI 1)) h (fun v20 G19 _ h => ?_)
      exact Y.zret rfl (lIa_ok dd8) h
  · refine Y.blk (pc' := 18) (L' := [some (.ref a0), some (.int a1), some (.int a2)]) (st' := [.int (nI 1), .ref a0]) (sg := [(.iconst 1, nI 1)]) (lSa_ok dd9) rfl ?_
    refine Y.goto (off := 4) (tgt := 22) (lIa_ok dd10) (by decide) ?_
    refine Y.blk (pc' := 23) (L' := [some (.ref a0), some (.int a1), some (.int a2)]) (st' := [.int (nI 1), .int (nI 1), .ref a0]) (sg := [(.iconst 1, nI 1)]) (lSa_ok dd11) rfl ?_
    obtain ⟨_, o23, e22, m24, h⟩ := gOb_inv h
    refine Y.callI (yC.Vi (b := a0) (As := [.int (nI 1), .int (nI 1)]) (st := []) (r := ("PartlisterModel", T_M, 9)) hV.1 cb_M_start lk_M_114 in_M_start rfl se_M_start (lIa_ok dd7) rfl rfl (Nat.le_of_ble_eq_true rfl) (by decide) e22 m24) (k_M_start hV G4 a0 (nI 1) (nI 1)) h (fun v26 G25 _ h => ?_)
    exact Y.zret rfl (lIa_ok dd8) h

def f_M_firstOf_L2 (K23 : gH → Int32 → gR) (K31 : gH → gR) : Nat → gH → Nat → Int32 → Int32 → Int32 → gR
  | 0, _, _, _, _, _ => none
  | n + 1, G, x0, x1, x2, x3 =>
    gOb G x0 6 fun o2 => bI (f_M_length G x0 x1) fun v5 G4 => if v5 ≤ x3 then K31 G4
    else gOb G4 x0 6 fun o7 => bA (f_M_at G4 x0 x1 x3) fun v10 G9 => gLd G9 v10 100 (nI 0) fun v11 => if v11 = x2 then K23 G9 x3
      else f_M_firstOf_L2 K23 K31 n G9 x0 x1 x2 (x3 + (nI 1))
def f_M_firstOf (G : gH) (a0 : Nat) (a1 : Int32) (a2 : Int32) : gR :=
  f_M_firstOf_L2 (fun G15 x14 => rI x14 G15) (fun G16 => rI (-1) G16) zFu G a0 a1 a2 (nI 0)
theorem k_M_firstOf_L2 {l : Launch} {D : va_G} {B : Nat} {O : State → Heap → Prop} (hV : zG l D B O) {o : gO} {Gf : gH} (K23 : gH → Int32 → gR) (K31 : gH → gR) (hK23 : ∀ (G : gH) (x3 : Int32), K23 G x3 = some (o, Gf) → Y (zVm l D B O) m_M_firstOf 13 o Gf 23 [none, none, none, some (.int x3)] [] G) (hK31 : ∀ (G : gH), K31 G  = some (o, Gf) → Y (zVm l D B O) m_M_firstOf 13 o Gf 31 [none, none, none, none] [] G) : ∀ (n : Nat) (G : gH) (x0 : Nat) (x1 : Int32) (x2 : Int32) (x3 : Int32), f_M_firstOf_L2 K23 K31 n G x0 x1 x2 x3 = some (o, Gf) → Y (zVm l D B O) m_M_firstOf 13 o Gf 2 [some (.ref x0), some (.int x1), some (.int x2), some (.int x3)] [] G := by
  have hdd : lSa m_M_firstOf 2 [(.iload_n 3, 0), (.aload_n 0, 0), (.iload_n 1, 0)] = true ∧ lIa m_M_firstOf 5 (.invokevirtual 74) 3 = true ∧ lIa m_M_firstOf 8 (.if_icmp .ge 23) 3 = true ∧ lSa m_M_firstOf 11 [(.aload_n 0, 0), (.iload_n 1, 0), (.iload_n 3, 0)] = true ∧ lIa m_M_firstOf 14 (.invokevirtual 132) 3 = true ∧ lSa m_M_firstOf 17 [(.iconst 0, nI 0)] = true ∧ lIa m_M_firstOf 18 (.iaload) 1 = true ∧ lSa m_M_firstOf 19 [(.iload_n 2, 0)] = true ∧ lIa m_M_firstOf 20 (.if_icmp .ne 5) 3 = true ∧ lSa m_M_firstOf 25 [(.iinc 3 1, nI 1)] = true ∧ lIa m_M_firstOf 28 (.goto (-26)) 3 = true := by decide +kernel
  refine lA8 hdd (fun dd0 dd1 dd2 dd3 dd4 dd5 dd6 dd7 hdd => ?_)
  obtain ⟨dd8, dd9, dd10⟩ := hdd
  intro n
  induction n with
  | zero => intro G x0 x1 x2 x3 h; cases h
  | succ n ih =>
    intro G x0 x1 x2 x3 h
    unfold f_M_firstOf_L2 at h
    refine Y.blk (pc' := 5) (L' := [some (.ref x0), some (.int x1), some (.int x2), some (.int x3)]) (st' := [.int x1, .ref x0, .int x3]) (sg := [(.iload_n 3, 0), (.aload_n 0, 0), (.iload_n 1, 0)]) (lSa_ok dd0) rfl ?_
    obtain ⟨_, o2, e1, m3, h⟩ := gOb_inv h
    refine Y.callI (yC.Vi (b := x0) (As := [.int x1]) (st := [.int x3]) (r := ("PartlisterModel", T_M, 9)) hV.1 cb_M_length lk_M_74 in_M_length rfl se_M_length (lIa_ok dd1) rfl rfl (Nat.le_of_ble_eq_true rfl) (by decide) e1 m3) (k_M_length hV G x0 x1) h (fun v5 G4 _ h => ?_)
    refine Y.ic_ge (off := 23) (tgt := 31) (lIa_ok dd2) (by decide) h (fun c13 h => ?_) (fun c13 h => ?_)
    · refine Y.less (L' := [none, none, none, none]) (zLe_none (zLe_none (zLe_none (zLe_none (zLe_nil))))) ?_
      exact hK31 G4  h
    · refine Y.blk (pc' := 14) (L' := [some (.ref x0), some (.int x1), some (.int x2), some (.int x3)]) (st' := [.int x3, .int x1, .ref x0]) (sg := [(.aload_n 0, 0), (.iload_n 1, 0), (.iload_n 3, 0)]) (lSa_ok dd3) rfl ?_
      obtain ⟨_, o7, e6, m8, h⟩ := gOb_inv h
      refine Y.callA (yC.Vi (b := x0) (As := [.int x1, .int x3]) (st := []) (r := ("PartlisterModel", T_M, 9)) hV.1 cb_M_at lk_M_132 in_M_at rfl se_M_at (lIa_ok dd4) rfl rfl (Nat.le_of_ble_eq_true rfl) (by decide) e6 m8) (k_M_at hV G4 x0 x1 x3) h (fun v10 G9 _ h => ?_)
      refine Y.blk (pc' := 18) (L' := [some (.ref x0), some (.int x1), some (.int x2), some (.int x3)]) (st' := [.int (nI 0), .ref v10]) (sg := [(.iconst 0, nI 0)]) (lSa_ok dd5) rfl ?_
      refine Y.iald (t0 := 0) (lIa_ok dd6) rfl h (fun v11 h => ?_)
      refine Y.blk (pc' := 20) (L' := [some (.ref x0), some (.int x1), some (.int x2), some (.int x3)]) (st' := [.int x2, .int v11]) (sg := [(.iload_n 2, 0)]) (lSa_ok dd7) rfl ?_
      refine Y.ic_ne (off := 5) (tgt := 25) (lIa_ok dd8) (by decide) h (fun c12 h => ?_) (fun c12 h => ?_)
      · refine Y.less (L' := [none, none, none, some (.int x3)]) (zLe_none (zLe_none (zLe_none (zLe_some (zLe_nil))))) ?_
        exact hK23 G9 x3 h
      · refine Y.blk (pc' := 28) (L' := [some (.ref x0), some (.int x1), some (.int x2), some (.int (x3 + (nI 1)))]) (st' := []) (sg := [(.iinc 3 1, nI 1)]) (lSa_ok dd9) rfl ?_
        refine Y.goto (off := -26) (tgt := 2) (lIa_ok dd10) (by decide) ?_
        exact ih G9 x0 x1 x2 (x3 + (nI 1)) h
theorem k_M_firstOf {l : Launch} {D : va_G} {B : Nat} {O : State → Heap → Prop} (hV : zG l D B O) (G : gH) (a0 : Nat) (a1 : Int32) (a2 : Int32) : gMet (zVm l D B O) m_M_firstOf 13 [.ref a0, .int a1, .int a2] G (f_M_firstOf G a0 a1 a2) := by
  have hdd : lSa m_M_firstOf 0 [(.iconst 0, nI 0), (.istore_n 3, 0)] = true ∧ lSa m_M_firstOf 23 [(.iload_n 3, 0)] = true ∧ lIa m_M_firstOf 24 (.ireturn) 1 = true ∧ lSa m_M_firstOf 31 [(.iconst (-1), -1)] = true ∧ lIa m_M_firstOf 32 (.ireturn) 1 = true := by decide +kernel
  obtain ⟨dd0, dd1, dd2, dd3, dd4⟩ := hdd
  refine gMet.of (by decide +kernel) (Nat.le_of_ble_eq_true rfl) [some (.ref a0), some (.int a1), some (.int a2), none] (fun ls h => zEn_ok (n := 4) h) ?_
  intro o Gf h
  unfold f_M_firstOf at h
  refine Y.blk (pc' := 2) (L' := [some (.ref a0), some (.int a1), some (.int a2), some (.int (nI 0))]) (st' := []) (sg := [(.iconst 0, nI 0), (.istore_n 3, 0)]) (lSa_ok dd0) rfl ?_
  refine k_M_firstOf_L2 hV _ _ ?_ ?_  zFu G a0 a1 a2 (nI 0) h
  · intro G15 x14 h
    refine Y.blk (pc' := 24) (L' := [none, none, none, some (.int x14)]) (st' := [.int x14]) (sg := [(.iload_n 3, 0)]) (lSa_ok dd1) rfl ?_
    exact Y.iret rfl (lIa_ok dd2) h
  · intro G16 h
    refine Y.blk (pc' := 32) (L' := [none, none, none, none]) (st' := [.int (-1)]) (sg := [(.iconst (-1), -1)]) (lSa_ok dd3) rfl ?_
    exact Y.iret rfl (lIa_ok dd4) h

def f_M_hasNoneOf_L2 (K28 : gH → gR) (K36 : gH → gR) : Nat → gH → Nat → Int32 → Int32 → Int32 → gR
  | 0, _, _, _, _, _ => none
  | n + 1, G, x0, x1, x2, x3 =>
    gOb G x0 6 fun o2 => bI (f_M_length G x0 x2) fun v5 G4 => if v5 ≤ x3 then K36 G4
    else gOb G4 x0 6 fun o7 => bA (f_M_at G4 x0 x2 x3) fun v10 G9 => gLd G9 v10 100 (nI 0) fun v11 => gOb G9 x0 6 fun o13 => bI (f_M_firstOf G9 x0 x1 v11) fun v16 G15 => if v16 = (-1) then f_M_hasNoneOf_L2 K28 K36 n G15 x0 x1 x2 (x3 + (nI 1))
      else K28 G15
def f_M_hasNoneOf (G : gH) (a0 : Nat) (a1 : Int32) (a2 : Int32) : gR :=
  f_M_hasNoneOf_L2 (fun G19 => rZ (nI 0) G19) (fun G20 => rZ (nI 1) G20) zFu G a0 a1 a2 (nI 0)
theorem k_M_hasNoneOf_L2 {l : Launch} {D : va_G} {B : Nat} {O : State → Heap → Prop} (hV : zG l D B O) {o : gO} {Gf : gH} (K28 : gH → gR) (K36 : gH → gR) (hK28 : ∀ (G : gH), K28 G  = some (o, Gf) → Y (zVm l D B O) m_M_hasNoneOf 14 o Gf 28 [none, none, none, none] [] G) (hK36 : ∀ (G : gH), K36 G  = some (o, Gf) → Y (zVm l D B O) m_M_hasNoneOf 14 o Gf 36 [none, none, none, none] [] G) : ∀ (n : Nat) (G : gH) (x0 : Nat) (x1 : Int32) (x2 : Int32) (x3 : Int32), f_M_hasNoneOf_L2 K28 K36 n G x0 x1 x2 x3 = some (o, Gf) → Y (zVm l D B O) m_M_hasNoneOf 14 o Gf 2 [some (.ref x0), some (.int x1), some (.int x2), some (.int x3)] [] G := by
  have hdd : lSa m_M_hasNoneOf 2 [(.iload_n 3, 0), (.aload_n 0, 0), (.iload_n 2, 0)] = true ∧ lIa m_M_hasNoneOf 5 (.invokevirtual 74) 3 = true ∧ lIa m_M_hasNoneOf 8 (.if_icmp .ge 28) 3 = true ∧ lSa m_M_hasNoneOf 11 [(.aload_n 0, 0), (.iload_n 1, 0), (.aload_n 0, 0), (.iload_n 2, 0), (.iload_n 3, 0)] = true ∧ lIa m_M_hasNoneOf 16 (.invokevirtual 132) 3 = true ∧ lSa m_M_hasNoneOf 19 [(.iconst 0, nI 0)] = true ∧ lIa m_M_hasNoneOf 20 (.iaload) 1 = true ∧ lIa m_M_hasNoneOf 21 (.invokevirtual 163) 3 = true ∧ lSa m_M_hasNoneOf 24 [(.iconst (-1), -1)] = true ∧ lIa m_M_hasNoneOf 25 (.if_icmp .eq 5) 3 = true ∧ lSa m_M_hasNoneOf 30 [(.iinc 3 1, nI 1)] = true ∧ lIa m_M_hasNoneOf 33 (.goto (-31)) 3 = true := by decide +kernel
  refine lA8 hdd (fun dd0 dd1 dd2 dd3 dd4 dd5 dd6 dd7 hdd => ?_)
  obtain ⟨dd8, dd9, dd10, dd11⟩ := hdd
  intro n
  induction n with
  | zero => intro G x0 x1 x2 x3 h; cases h
  | succ n ih =>
    intro G x0 x1 x2 x3 h
    unfold f_M_hasNoneOf_L2 at h
    refine Y.blk (pc' := 5) (L' := [some (.ref x0), some (.int x1), some (.int x2), some (.int x3)]) (st' := [.int x2, .ref x0, .int x3]) (sg := [(.iload_n 3, 0), (.aload_n 0, 0), (.iload_n 2, 0)]) (lSa_ok dd0) rfl ?_
    obtain ⟨_, o2, e1, m3, h⟩ := gOb_inv h
    refine Y.callI (yC.Vi (b := x0) (As := [.int x2]) (st := [.int x3]) (r := ("PartlisterModel", T_M, 9)) hV.1 cb_M_length lk_M_74 in_M_length rfl se_M_length (lIa_ok dd1) rfl rfl (Nat.le_of_ble_eq_true rfl) (by decide) e1 m3) (k_M_length hV G x0 x2) h (fun v5 G4 _ h => ?_)
    refine Y.ic_ge (off := 28) (tgt := 36) (lIa_ok dd2) (by decide) h (fun c18 h => ?_) (fun c18 h => ?_)
    · refine Y.less (L' := [none, none, none, none]) (zLe_none (zLe_none (zLe_none (zLe_none (zLe_nil))))) ?_
      exact hK36 G4  h
    · refine Y.blk (pc' := 16) (L' := [some (.ref x0), some (.int x1), some (.int x2), some (.int x3)]) (st' := [.int x3, .int x2, .ref x0, .int x1, .ref x0]) (sg := [(.aload_n 0, 0), (.iload_n 1, 0), (.aload_n 0, 0), (.iload_n 2, 0), (.iload_n 3, 0)]) (lSa_ok dd3) rfl ?_
      obtain ⟨_, o7, e6, m8, h⟩ := gOb_inv h
      refine Y.callA (yC.Vi (b := x0) (As := [.int x2, .int x3]) (st := [.int x1, .ref x0]) (r := ("PartlisterModel", T_M, 9)) hV.1 cb_M_at lk_M_132 in_M_at rfl se_M_at (lIa_ok dd4) rfl rfl (Nat.le_of_ble_eq_true rfl) (by decide) e6 m8) (k_M_at hV G4 x0 x2 x3) h (fun v10 G9 _ h => ?_)
      refine Y.blk (pc' := 20) (L' := [some (.ref x0), some (.int x1), some (.int x2), some (.int x3)]) (st' := [.int (nI 0), .ref v10, .int x1, .ref x0]) (sg := [(.iconst 0, nI 0)]) (lSa_ok dd5) rfl ?_
      refine Y.iald (t0 := 0) (lIa_ok dd6) rfl h (fun v11 h => ?_)
      obtain ⟨_, o13, e12, m14, h⟩ := gOb_inv h
      refine Y.callI (yC.Vi (b := x0) (As := [.int x1, .int v11]) (st := []) (r := ("PartlisterModel", T_M, 9)) hV.1 cb_M_firstOf lk_M_163 in_M_firstOf rfl se_M_firstOf (lIa_ok dd7) rfl rfl (Nat.le_of_ble_eq_true rfl) (by decide) e12 m14) (k_M_firstOf hV G9 x0 x1 v11) h (fun v16 G15 _ h => ?_)
      refine Y.blk (pc' := 25) (L' := [some (.ref x0), some (.int x1), some (.int x2), some (.int x3)]) (st' := [.int (-1), .int v16]) (sg := [(.iconst (-1), -1)]) (lSa_ok dd8) rfl ?_
      refine Y.ic_eq (off := 5) (tgt := 30) (lIa_ok dd9) (by decide) h (fun c17 h => ?_) (fun c17 h => ?_)
      · refine Y.blk (pc' := 33) (L' := [some (.ref x0), some (.int x1), some (.int x2), some (.int (x3 + (nI 1)))]) (st' := []) (sg := [(.iinc 3 1, nI 1)]) (lSa_ok dd10) rfl ?_
        refine Y.goto (off := -31) (tgt := 2) (lIa_ok dd11) (by decide) ?_
        exact ih G15 x0 x1 x2 (x3 + (nI 1)) h
      · refine Y.less (L' := [none, none, none, none]) (zLe_none (zLe_none (zLe_none (zLe_none (zLe_nil))))) ?_
        exact hK28 G15  h
theorem k_M_hasNoneOf {l : Launch} {D : va_G} {B : Nat} {O : State → Heap → Prop} (hV : zG l D B O) (G : gH) (a0 : Nat) (a1 : Int32) (a2 : Int32) : gMet (zVm l D B O) m_M_hasNoneOf 14 [.ref a0, .int a1, .int a2] G (f_M_hasNoneOf G a0 a1 a2) := by
  have hdd : lSa m_M_hasNoneOf 0 [(.iconst 0, nI 0), (.istore_n 3, 0)] = true ∧ lSa m_M_hasNoneOf 28 [(.iconst 0, nI 0)] = true ∧ lIa m_M_hasNoneOf 29 (.ireturn) 1 = true ∧ lSa m_M_hasNoneOf 36 [(.iconst 1, nI 1)] = true ∧ lIa m_M_hasNoneOf 37 (.ireturn) 1 = true := by decide +kernel
  obtain ⟨dd0, dd1, dd2, dd3, dd4⟩ := hdd
  refine gMet.of (by decide +kernel) (Nat.le_of_ble_eq_true rfl) [some (.ref a0), some (.int a1), some (.int a2), none] (fun ls h => zEn_ok (n := 4) h) ?_
  intro o Gf h
  unfold f_M_hasNoneOf at h
  refine Y.blk (pc' := 2) (L' := [some (.ref a0), some (.int a1), some (.int a2), some (.int (nI 0))]) (st' := []) (sg := [(.iconst 0, nI 0), (.istore_n 3, 0)]) (lSa_ok dd0) rfl ?_
  refine k_M_hasNoneOf_L2 hV _ _ ?_ ?_  zFu G a0 a1 a2 (nI 0) h
  · intro G19 h
    refine Y.blk (pc' := 29) (L' := [none, none, none, none]) (st' := [.int (nI 0)]) (sg := [(.iconst 0, nI 0)]) (lSa_ok dd1) rfl ?_
    exact Y.zret rfl (lIa_ok dd2) h
  · intro G20 h
    refine Y.blk (pc' := 37) (L' := [none, none, none, none]) (st' := [.int (nI 1)]) (sg := [(.iconst 1, nI 1)]) (lSa_ok dd3) rfl ?_
    exact Y.zret rfl (lIa_ok dd4) h

def f_M_areApart (G : gH) (a0 : Nat) (a1 : Int32) (a2 : Int32) : gR :=
  gOb G a0 6 fun o2 => bI (f_M_areNone G a0 a1 a2) fun v5 G4 => if v5 = 0 then (gOb G4 a0 6 fun o7 => bI (f_M_hasNoneOf G4 a0 a1 a2) fun v10 G9 => if v10 = 0 then rZ (nI 0) G9
    else rZ (nI 1) G9)
  else rZ (nI 0) G4
theorem k_M_areApart {l : Launch} {D : va_G} {B : Nat} {O : State → Heap → Prop} (hV : zG l D B O) (G : gH) (a0 : Nat) (a1 : Int32) (a2 : Int32) : gMet (zVm l D B O) m_M_areApart 15 [.ref a0, .int a1, .int a2] G (f_M_areApart G a0 a1 a2) := by
  have hdd : lSa m_M_areApart 0 [(.aload_n 0, 0), (.iload_n 1, 0), (.iload_n 2, 0)] = true ∧ lIa m_M_areApart 3 (.invokevirtual 235) 3 = true ∧ lIa m_M_areApart 6 (.ifCond .ne 16) 3 = true ∧ lSa m_M_areApart 9 [(.aload_n 0, 0), (.iload_n 1, 0), (.iload_n 2, 0)] = true ∧ lIa m_M_areApart 12 (.invokevirtual 241) 3 = true ∧ lIa m_M_areApart 15 (.ifCond .eq 7) 3 = true ∧ lSa m_M_areApart 22 [(.iconst 0, nI 0)] = true ∧ lIa m_M_areApart 23 (.ireturn) 1 = true ∧ lSa m_M_areApart 18 [(.iconst 1, nI 1)] = true ∧ lIa m_M_areApart 19 (.goto 4) 3 = true := by decide +kernel
  refine lA8 hdd (fun dd0 dd1 dd2 dd3 dd4 dd5 dd6 dd7 hdd => ?_)
  obtain ⟨dd8, dd9⟩ := hdd
  refine gMet.of (by decide +kernel) (Nat.le_of_ble_eq_true rfl) [some (.ref a0), some (.int a1), some (.int a2)] (fun ls h => zEn_ok (n := 3) h) ?_
  intro o Gf h
  unfold f_M_areApart at h
  refine Y.blk (pc' := 3) (L' := [some (.ref a0), some (.int a1), some (.int a2)]) (st' := [.int a2, .int a1, .ref a0]) (sg := [(.aload_n 0, 0), (.iload_n 1, 0), (.iload_n 2, 0)]) (lSa_ok dd0) rfl ?_
  obtain ⟨_, o2, e1, m3, h⟩ := gOb_inv h
  refine Y.callI (yC.Vi (b := a0) (As := [.int a1, .int a2]) (st := []) (r := ("PartlisterModel", T_M, 9)) hV.1 cb_M_areNone lk_M_235 in_M_areNone rfl se_M_areNone (lIa_ok dd1) rfl rfl (Nat.le_of_ble_eq_true rfl) (by decide) e1 m3) (k_M_areNone hV G a0 a1 a2) h (fun v5 G4 _ h => ?_)
  refine Y.if_ne (off := 16) (tgt := 22) (lIa_ok dd2) (by decide) h (fun c12 h => ?_) (fun c12 h => ?_)
  · refine Y.blk (pc' := 12) (L' := [some (.ref a0), some (.int a1), some (.int a2)]) (st' := [.int a2, .int a1, .ref a0]) (sg := [(.aload_n 0, 0), (.iload_n 1, 0), (.iload_n 2, 0)]) (lSa_ok dd3) rfl ?_
    obtain ⟨_, o7, e6, m8, h⟩ := gOb_inv h
    refine Y.callI (yC.Vi (b := a0) (As := [.int a1, .int a2]) (st := []) (r := ("PartlisterModel", T_M, 9)) hV.1 cb_M_hasNoneOf lk_M_241 in_M_hasNoneOf rfl se_M_hasNoneOf (lIa_ok dd4) rfl rfl (Nat.le_of_ble_eq_true rfl) (by decide) e6 m8) (k_M_hasNoneOf hV G4 a0 a1 a2) h (fun v10 G9 _ h => ?_)
    refine Y.if_eq (off := 7) (tgt := 22) (lIa_ok dd5) (by decide) h (fun c11 h => ?_) (fun c11 h => ?_)
    · refine Y.blk (pc' := 23) (L' := [some (.ref a0), some (.int a1), some (.int a2)]) (st' := [.int (nI 0)]) (sg := [(.iconst 0, nI 0)]) (lSa_ok dd6) rfl ?_
      exact Y.zret rfl (lIa_ok dd7) h
    · refine Y.blk (pc' := 19) (L' := [some (.ref a0), some (.int a1), some (.int a2)]) (st' := [.int (nI 1)]) (sg := [(.iconst 1, nI 1)]) (lSa_ok dd8) rfl ?_
      refine Y.goto (off := 4) (tgt := 23) (lIa_ok dd9) (by decide) ?_
      exact Y.zret rfl (lIa_ok dd7) h
  · refine Y.blk (pc' := 23) (L' := [some (.ref a0), some (.int a1), some (.int a2)]) (st' := [.int (nI 0)]) (sg := [(.iconst 0, nI 0)]) (lSa_ok dd6) rfl ?_
    exact Y.zret rfl (lIa_ok dd7) h

def f_M_areOne (G : gH) (a0 : Nat) (a1 : Int32) (a2 : Int32) : gR :=
  gOb G a0 6 fun o2 => bI (f_M_isNoList G a0 a1) fun v5 G4 => if v5 = 0 then (gOb G4 a0 6 fun o7 => bI (f_M_isNoList G4 a0 a2) fun v10 G9 => if v10 = 0 then (gOb G9 a0 6 fun o12 => bI (f_M_start G9 a0 (nI 0) (nI 1)) fun v15 G14 => if v15 = 0 then (gOb G14 a0 6 fun o17 => bI (f_M_rowOf zDp G14 a0 a1) fun v20 G19 => gOb G19 a0 6 fun o22 => bI (f_M_rowOf zDp G19 a0 a2) fun v25 G24 => if v20 = v25 then (gOb G24 a0 6 fun o27 => bI (f_M_refuse G24 a0 (nI 1) (nI 2)) fun v30 G29 => if v30 = 0 then rZ (nI 0) G29
          else rZ (nI 1) G29)
        else gOb G24 a0 6 fun o33 => bI (f_M_refuse G24 a0 (nI 0) (nI 2)) fun v36 G35 => if v36 = 0 then rZ (nI 0) G35
          else rZ (nI 1) G35)
      else rZ (nI 1) G14)
    else gOb G9 a0 6 fun o41 => bI (f_M_start G9 a0 (nI 1) (nI 1)) fun v44 G43 => if v44 = 0 then (gOb G43 a0 6 fun o46 => bI (f_M_rowOf zDp G43 a0 a1) fun v49 G48 => gOb G48 a0 6 fun o51 => bI (f_M_rowOf zDp G48 a0 a2) fun v54 G53 => if v49 = v54 then (gOb G53 a0 6 fun o56 => bI (f_M_refuse G53 a0 (nI 1) (nI 2)) fun v59 G58 => if v59 = 0 then rZ (nI 0) G58
          else rZ (nI 1) G58)
        else gOb G53 a0 6 fun o62 => bI (f_M_refuse G53 a0 (nI 0) (nI 2)) fun v65 G64 => if v65 = 0 then rZ (nI 0) G64
          else rZ (nI 1) G64)
      else rZ (nI 1) G43)
  else gOb G4 a0 6 fun o71 => bI (f_M_start G4 a0 (nI 1) (nI 1)) fun v74 G73 => if v74 = 0 then (gOb G73 a0 6 fun o76 => bI (f_M_rowOf zDp G73 a0 a1) fun v79 G78 => gOb G78 a0 6 fun o81 => bI (f_M_rowOf zDp G78 a0 a2) fun v84 G83 => if v79 = v84 then (gOb G83 a0 6 fun o86 => bI (f_M_refuse G83 a0 (nI 1) (nI 2)) fun v89 G88 => if v89 = 0 then rZ (nI 0) G88
        else rZ (nI 1) G88)
      else gOb G83 a0 6 fun o92 => bI (f_M_refuse G83 a0 (nI 0) (nI 2)) fun v95 G94 => if v95 = 0 then rZ (nI 0) G94
        else rZ (nI 1) G94)
    else rZ (nI 1) G73
theorem k_M_areOne {l : Launch} {D : va_G} {B : Nat} {O : State → Heap → Prop} (hV : zG l D B O) (G : gH) (a0 : Nat) (a1 : Int32) (a2 : Int32) : gMet (zVm l D B O) m_M_areOne 11 [.ref a0, .int a1, .int a2] G (f_M_areOne G a0 a1 a2) := by
  have hdd : lSa m_M_areOne 0 [(.aload_n 0, 0), (.aload_n 0, 0), (.iload_n 1, 0)] = true ∧ lIa m_M_areOne 3 (.invokevirtual 110) 3 = true ∧ lIa m_M_areOne 6 (.ifCond .ne 11) 3 = true ∧ lSa m_M_areOne 9 [(.aload_n 0, 0), (.iload_n 2, 0)] = true ∧ lIa m_M_areOne 11 (.invokevirtual 110) 3 = true ∧ lIa m_M_areOne 14 (.ifCond .eq 7) 3 = true ∧ lSa m_M_areOne 21 [(.iconst 0, nI 0), (.iconst 1, nI 1)] = true ∧ lIa m_M_areOne 23 (.invokevirtual 114) 3 = true ∧ lIa m_M_areOne 26 (.ifCond .ne 29) 3 = true ∧ lSa m_M_areOne 29 [(.aload_n 0, 0), (.aload_n 0, 0), (.iload_n 1, 0)] = true ∧ lIa m_M_areOne 32 (.invokevirtual 47) 3 = true ∧ lSa m_M_areOne 35 [(.aload_n 0, 0), (.iload_n 2, 0)] = true ∧ lIa m_M_areOne 37 (.invokevirtual 47) 3 = true ∧ lIa m_M_areOne 40 (.if_icmp .ne 7) 3 = true ∧ lSa m_M_areOne 43 [(.iconst 1, nI 1)] = true ∧ lIa m_M_areOne 44 (.goto 4) 3 = true ∧ lSa m_M_areOne 48 [(.iconst 2, nI 2)] = true ∧ lIa m_M_areOne 49 (.invokevirtual 36) 3 = true ∧ lIa m_M_areOne 52 (.ifCond .eq 7) 3 = true ∧ lSa m_M_areOne 59 [(.iconst 0, nI 0)] = true ∧ lIa m_M_areOne 60 (.ireturn) 1 = true ∧ lSa m_M_areOne 55 [(.iconst 1, nI 1)] = true ∧ lIa m_M_areOne 56 (.goto 4) 3 = true ∧ lSa m_M_areOne 47 [(.iconst 0, nI 0), (.iconst 2, nI 2)] = true ∧ lSa m_M_areOne 17 [(.iconst 1, nI 1)] = true ∧ lIa m_M_areOne 18 (.goto 4) 3 = true ∧ lSa m_M_areOne 22 [(.iconst 1, nI 1)] = true := by decide +kernel
  refine lA8 hdd (fun dd0 dd1 dd2 dd3 dd4 dd5 dd6 dd7 hdd => ?_)
  refine lA8 hdd (fun dd8 dd9 dd10 dd11 dd12 dd13 dd14 dd15 hdd => ?_)
  refine lA8 hdd (fun dd16 dd17 dd18 dd19 dd20 dd21 dd22 dd23 hdd => ?_)
  obtain ⟨dd24, dd25, dd26⟩ := hdd
  refine gMet.of (by decide +kernel) (Nat.le_of_ble_eq_true rfl) [some (.ref a0), some (.int a1), some (.int a2)] (fun ls h => zEn_ok (n := 3) h) ?_
  intro o Gf h
  unfold f_M_areOne at h
  refine Y.blk (pc' := 3) (L' := [some (.ref a0), some (.int a1), some (.int a2)]) (st' := [.int a1, .ref a0, .ref a0]) (sg := [(.aload_n 0, 0), (.aload_n 0, 0), (.iload_n 1, 0)]) (lSa_ok dd0) rfl ?_
  obtain ⟨_, o2, e1, m3, h⟩ := gOb_inv h
  refine Y.callI (yC.Vi (b := a0) (As := [.int a1]) (st := [.ref a0]) (r := ("PartlisterModel", T_M, 9)) hV.1 cb_M_isNoList lk_M_110 in_M_isNoList rfl se_M_isNoList (lIa_ok dd1) rfl rfl (Nat.le_of_ble_eq_true rfl) (by decide) e1 m3) (k_M_isNoList hV G a0 a1) h (fun v5 G4 _ h => ?_)
  refine Y.if_ne (off := 11) (tgt := 17) (lIa_ok dd2) (by decide) h (fun c99 h => ?_) (fun c99 h => ?_)
  · refine Y.blk (pc' := 11) (L' := [some (.ref a0), some (.int a1), some (.int a2)]) (st' := [.int a2, .ref a0, .ref a0]) (sg := [(.aload_n 0, 0), (.iload_n 2, 0)]) (lSa_ok dd3) rfl ?_
    obtain ⟨_, o7, e6, m8, h⟩ := gOb_inv h
    refine Y.callI (yC.Vi (b := a0) (As := [.int a2]) (st := [.ref a0]) (r := ("PartlisterModel", T_M, 9)) hV.1 cb_M_isNoList lk_M_110 in_M_isNoList rfl se_M_isNoList (lIa_ok dd4) rfl rfl (Nat.le_of_ble_eq_true rfl) (by decide) e6 m8) (k_M_isNoList hV G4 a0 a2) h (fun v10 G9 _ h => ?_)
    refine Y.if_eq (off := 7) (tgt := 21) (lIa_ok dd5) (by decide) h (fun c69 h => ?_) (fun c69 h => ?_)
    · refine Y.blk (pc' := 23) (L' := [some (.ref a0), some (.int a1), some (.int a2)]) (st' := [.int (nI 1), .int (nI 0), .ref a0]) (sg := [(.iconst 0, nI 0), (.iconst 1, nI 1)]) (lSa_ok dd6) rfl ?_
      obtain ⟨_, o12, e11, m13, h⟩ := gOb_inv h
      refine Y.callI (yC.Vi (b := a0) (As := [.int (nI 0), .int (nI 1)]) (st := []) (r := ("PartlisterModel", T_M, 9)) hV.1 cb_M_start lk_M_114 in_M_start rfl se_M_start (lIa_ok dd7) rfl rfl (Nat.le_of_ble_eq_true rfl) (by decide) e11 m13) (k_M_start hV G9 a0 (nI 0) (nI 1)) h (fun v15 G14 _ h => ?_)
      refine Y.if_ne (off := 29) (tgt := 55) (lIa_ok dd8) (by decide) h (fun c39 h => ?_) (fun c39 h => ?_)
      · refine Y.blk (pc' := 32) (L' := [some (.ref a0), some (.int a1), some (.int a2)]) (st' := [.int a1, .ref a0, .ref a0]) (sg := [(.aload_n 0, 0), (.aload_n 0, 0), (.iload_n 1, 0)]) (lSa_ok dd9) rfl ?_
        obtain ⟨_, o17, e16, m18, h⟩ := gOb_inv h
        refine Y.callI (yC.Vi (b := a0) (As := [.int a1]) (st := [.ref a0]) (r := ("PartlisterModel", T_M, 9)) hV.1 cb_M_rowOf lk_M_47 in_M_rowOf rfl se_M_rowOf (lIa_ok dd10) rfl rfl (Nat.le_of_ble_eq_true rfl) (by decide) e16 m18) (k_M_rowOf zDp hV G14 a0 a1) h (fun v20 G19 _ h => ?_)
        refine Y.blk (pc' := 37) (L' := [some (.ref a0), some (.int a1), some (.int a2)]) (st' := [.int a2, .ref a0, .int v20, .ref a0]) (sg := [(.aload_n 0, 0), (.iload_n 2, 0)]) (lSa_ok dd11) rfl ?_
        obtain ⟨_, o22, e21, m23, h⟩ := gOb_inv h
        refine Y.callI (yC.Vi (b := a0) (As := [.int a2]) (st := [.int v20, .ref a0]) (r := ("PartlisterModel", T_M, 9)) hV.1 cb_M_rowOf lk_M_47 in_M_rowOf rfl se_M_rowOf (lIa_ok dd12) rfl rfl (Nat.le_of_ble_eq_true rfl) (by decide) e21 m23) (k_M_rowOf zDp hV G19 a0 a2) h (fun v25 G24 _ h => ?_)
        refine Y.ic_ne (off := 7) (tgt := 47) (lIa_ok dd13) (by decide) h (fun c38 h => ?_) (fun c38 h => ?_)
        · refine Y.blk (pc' := 44) (L' := [some (.ref a0), some (.int a1), some (.int a2)]) (st' := [.int (nI 1), .ref a0]) (sg := [(.iconst 1, nI 1)]) (lSa_ok dd14) rfl ?_
          refine Y.goto (off := 4) (tgt := 48) (lIa_ok dd15) (by decide) ?_
          refine Y.blk (pc' := 49) (L' := [some (.ref a0), some (.int a1), some (.int a2)]) (st' := [.int (nI 2), .int (nI 1), .ref a0]) (sg := [(.iconst 2, nI 2)]) (lSa_ok dd16) rfl ?_
          obtain ⟨_, o27, e26, m28, h⟩ := gOb_inv h
          refine Y.callI (yC.Vi (b := a0) (As := [.int (nI 1), .int (nI 2)]) (st := []) (r := ("PartlisterModel", T_M, 9)) hV.1 cb_M_refuse lk_M_36 in_M_refuse rfl se_M_refuse (lIa_ok dd17) rfl rfl (Nat.le_of_ble_eq_true rfl) (by decide) e26 m28) (k_M_refuse hV G24 a0 (nI 1) (nI 2)) h (fun v30 G29 _ h => ?_)
          refine Y.if_eq (off := 7) (tgt := 59) (lIa_ok dd18) (by decide) h (fun c31 h => ?_) (fun c31 h => ?_)
          · refine Y.blk (pc' := 60) (L' := [some (.ref a0), some (.int a1), some (.int a2)]) (st' := [.int (nI 0)]) (sg := [(.iconst 0, nI 0)]) (lSa_ok dd19) rfl ?_
            exact Y.zret rfl (lIa_ok dd20) h
          · refine Y.blk (pc' := 56) (L' := [some (.ref a0), some (.int a1), some (.int a2)]) (st' := [.int (nI 1)]) (sg := [(.iconst 1, nI 1)]) (lSa_ok dd21) rfl ?_
            refine Y.goto (off := 4) (tgt := 60) (lIa_ok dd22) (by decide) ?_
            exact Y.zret rfl (lIa_ok dd20) h
        · refine Y.blk (pc' := 49) (L' := [some (.ref a0), some (.int a1), some (.int a2)]) (st' := [.int (nI 2), .int (nI 0), .ref a0]) (sg := [(.iconst 0, nI 0), (.iconst 2, nI 2)]) (lSa_ok dd23) rfl ?_
          obtain ⟨_, o33, e32, m34, h⟩ := gOb_inv h
          refine Y.callI (yC.Vi (b := a0) (As := [.int (nI 0), .int (nI 2)]) (st := []) (r := ("PartlisterModel", T_M, 9)) hV.1 cb_M_refuse lk_M_36 in_M_refuse rfl se_M_refuse (lIa_ok dd17) rfl rfl (Nat.le_of_ble_eq_true rfl) (by decide) e32 m34) (k_M_refuse hV G24 a0 (nI 0) (nI 2)) h (fun v36 G35 _ h => ?_)
          refine Y.if_eq (off := 7) (tgt := 59) (lIa_ok dd18) (by decide) h (fun c37 h => ?_) (fun c37 h => ?_)
          · refine Y.blk (pc' := 60) (L' := [some (.ref a0), some (.int a1), some (.int a2)]) (st' := [.int (nI 0)]) (sg := [(.iconst 0, nI 0)]) (lSa_ok dd19) rfl ?_
            exact Y.zret rfl (lIa_ok dd20) h
          · refine Y.blk (pc' := 56) (L' := [some (.ref a0), some (.int a1), some (.int a2)]) (st' := [.int (nI 1)]) (sg := [(.iconst 1, nI 1)]) (lSa_ok dd21) rfl ?_
            refine Y.goto (off := 4) (tgt := 60) (lIa_ok dd22) (by decide) ?_
            exact Y.zret rfl (lIa_ok dd20) h
      · refine Y.blk (pc' := 56) (L' := [some (.ref a0), some (.int a1), some (.int a2)]) (st' := [.int (nI 1)]) (sg := [(.iconst 1, nI 1)]) (lSa_ok dd21) rfl ?_
        refine Y.goto (off := 4) (tgt := 60) (lIa_ok dd22) (by decide) ?_
        exact Y.zret rfl (lIa_ok dd20) h
    · refine Y.blk (pc' := 18) (L' := [some (.ref a0), some (.int a1), some (.int a2)]) (st' := [.int (nI 1), .ref a0]) (sg := [(.iconst 1, nI 1)]) (lSa_ok dd24) rfl ?_
      refine Y.goto (off := 4) (tgt := 22) (lIa_ok dd25) (by decide) ?_
      refine Y.blk (pc' := 23) (L' := [some (.ref a0), some (.int a1), some (.int a2)]) (st' := [.int (nI 1), .int (nI 1), .ref a0]) (sg := [(.iconst 1, nI 1)]) (lSa_ok dd26) rfl ?_
      obtain ⟨_, o41, e40, m42, h⟩ := gOb_inv h
      refine Y.callI (yC.Vi (b := a0) (As := [.int (nI 1), .int (nI 1)]) (st := []) (r := ("PartlisterModel", T_M, 9)) hV.1 cb_M_start lk_M_114 in_M_start rfl se_M_start (lIa_ok dd7) rfl rfl (Nat.le_of_ble_eq_true rfl) (by decide) e40 m42) (k_M_start hV G9 a0 (nI 1) (nI 1)) h (fun v44 G43 _ h => ?_)
      refine Y.if_ne (off := 29) (tgt := 55) (lIa_ok dd8) (by decide) h (fun c68 h => ?_) (fun c68 h => ?_)
      · refine Y.blk (pc' := 32) (L' := [some (.ref a0), some (.int a1), some (.int a2)]) (st' := [.int a1, .ref a0, .ref a0]) (sg := [(.aload_n 0, 0), (.aload_n 0, 0), (.iload_n 1, 0)]) (lSa_ok dd9) rfl ?_
        obtain ⟨_, o46, e45, m47, h⟩ := gOb_inv h
        refine Y.callI (yC.Vi (b := a0) (As := [.int a1]) (st := [.ref a0]) (r := ("PartlisterModel", T_M, 9)) hV.1 cb_M_rowOf lk_M_47 in_M_rowOf rfl se_M_rowOf (lIa_ok dd10) rfl rfl (Nat.le_of_ble_eq_true rfl) (by decide) e45 m47) (k_M_rowOf zDp hV G43 a0 a1) h (fun v49 G48 _ h => ?_)
        refine Y.blk (pc' := 37) (L' := [some (.ref a0), some (.int a1), some (.int a2)]) (st' := [.int a2, .ref a0, .int v49, .ref a0]) (sg := [(.aload_n 0, 0), (.iload_n 2, 0)]) (lSa_ok dd11) rfl ?_
        obtain ⟨_, o51, e50, m52, h⟩ := gOb_inv h
        refine Y.callI (yC.Vi (b := a0) (As := [.int a2]) (st := [.int v49, .ref a0]) (r := ("PartlisterModel", T_M, 9)) hV.1 cb_M_rowOf lk_M_47 in_M_rowOf rfl se_M_rowOf (lIa_ok dd12) rfl rfl (Nat.le_of_ble_eq_true rfl) (by decide) e50 m52) (k_M_rowOf zDp hV G48 a0 a2) h (fun v54 G53 _ h => ?_)
        refine Y.ic_ne (off := 7) (tgt := 47) (lIa_ok dd13) (by decide) h (fun c67 h => ?_) (fun c67 h => ?_)
        · refine Y.blk (pc' := 44) (L' := [some (.ref a0), some (.int a1), some (.int a2)]) (st' := [.int (nI 1), .ref a0]) (sg := [(.iconst 1, nI 1)]) (lSa_ok dd14) rfl ?_
          refine Y.goto (off := 4) (tgt := 48) (lIa_ok dd15) (by decide) ?_
          refine Y.blk (pc' := 49) (L' := [some (.ref a0), some (.int a1), some (.int a2)]) (st' := [.int (nI 2), .int (nI 1), .ref a0]) (sg := [(.iconst 2, nI 2)]) (lSa_ok dd16) rfl ?_
          obtain ⟨_, o56, e55, m57, h⟩ := gOb_inv h
          refine Y.callI (yC.Vi (b := a0) (As := [.int (nI 1), .int (nI 2)]) (st := []) (r := ("PartlisterModel", T_M, 9)) hV.1 cb_M_refuse lk_M_36 in_M_refuse rfl se_M_refuse (lIa_ok dd17) rfl rfl (Nat.le_of_ble_eq_true rfl) (by decide) e55 m57) (k_M_refuse hV G53 a0 (nI 1) (nI 2)) h (fun v59 G58 _ h => ?_)
          refine Y.if_eq (off := 7) (tgt := 59) (lIa_ok dd18) (by decide) h (fun c60 h => ?_) (fun c60 h => ?_)
          · refine Y.blk (pc' := 60) (L' := [some (.ref a0), some (.int a1), some (.int a2)]) (st' := [.int (nI 0)]) (sg := [(.iconst 0, nI 0)]) (lSa_ok dd19) rfl ?_
            exact Y.zret rfl (lIa_ok dd20) h
          · refine Y.blk (pc' := 56) (L' := [some (.ref a0), some (.int a1), some (.int a2)]) (st' := [.int (nI 1)]) (sg := [(.iconst 1, nI 1)]) (lSa_ok dd21) rfl ?_
            refine Y.goto (off := 4) (tgt := 60) (lIa_ok dd22) (by decide) ?_
            exact Y.zret rfl (lIa_ok dd20) h
        · refine Y.blk (pc' := 49) (L' := [some (.ref a0), some (.int a1), some (.int a2)]) (st' := [.int (nI 2), .int (nI 0), .ref a0]) (sg := [(.iconst 0, nI 0), (.iconst 2, nI 2)]) (lSa_ok dd23) rfl ?_
          obtain ⟨_, o62, e61, m63, h⟩ := gOb_inv h
          refine Y.callI (yC.Vi (b := a0) (As := [.int (nI 0), .int (nI 2)]) (st := []) (r := ("PartlisterModel", T_M, 9)) hV.1 cb_M_refuse lk_M_36 in_M_refuse rfl se_M_refuse (lIa_ok dd17) rfl rfl (Nat.le_of_ble_eq_true rfl) (by decide) e61 m63) (k_M_refuse hV G53 a0 (nI 0) (nI 2)) h (fun v65 G64 _ h => ?_)
          refine Y.if_eq (off := 7) (tgt := 59) (lIa_ok dd18) (by decide) h (fun c66 h => ?_) (fun c66 h => ?_)
          · refine Y.blk (pc' := 60) (L' := [some (.ref a0), some (.int a1), some (.int a2)]) (st' := [.int (nI 0)]) (sg := [(.iconst 0, nI 0)]) (lSa_ok dd19) rfl ?_
            exact Y.zret rfl (lIa_ok dd20) h
          · refine Y.blk (pc' := 56) (L' := [some (.ref a0), some (.int a1), some (.int a2)]) (st' := [.int (nI 1)]) (sg := [(.iconst 1, nI 1)]) (lSa_ok dd21) rfl ?_
            refine Y.goto (off := 4) (tgt := 60) (lIa_ok dd22) (by decide) ?_
            exact Y.zret rfl (lIa_ok dd20) h
      · refine Y.blk (pc' := 56) (L' := [some (.ref a0), some (.int a1), some (.int a2)]) (st' := [.int (nI 1)]) (sg := [(.iconst 1, nI 1)]) (lSa_ok dd21) rfl ?_
        refine Y.goto (off := 4) (tgt := 60) (lIa_ok dd22) (by decide) ?_
        exact Y.zret rfl (lIa_ok dd20) h
  · refine Y.blk (pc' := 18) (L' := [some (.ref a0), some (.int a1), some (.int a2)]) (st' := [.int (nI 1), .ref a0]) (sg := [(.iconst 1, nI 1)]) (lSa_ok dd24) rfl ?_
    refine Y.goto (off := 4) (tgt := 22) (lIa_ok dd25) (by decide) ?_
    refine Y.blk (pc' := 23) (L' := [some (.ref a0), some (.int a1), some (.int a2)]) (st' := [.int (nI 1), .int (nI 1), .ref a0]) (sg := [(.iconst 1, nI 1)]) (lSa_ok dd26) rfl ?_
    obtain ⟨_, o71, e70, m72, h⟩ := gOb_inv h
    refine Y.callI (yC.Vi (b := a0) (As := [.int (nI 1), .int (nI 1)]) (st := []) (r := ("PartlisterModel", T_M, 9)) hV.1 cb_M_start lk_M_114 in_M_start rfl se_M_start (lIa_ok dd7) rfl rfl (Nat.le_of_ble_eq_true rfl) (by decide) e70 m72) (k_M_start hV G4 a0 (nI 1) (nI 1)) h (fun v74 G73 _ h => ?_)
    refine Y.if_ne (off := 29) (tgt := 55) (lIa_ok dd8) (by decide) h (fun c98 h => ?_) (fun c98 h => ?_)
    · refine Y.blk (pc' := 32) (L' := [some (.ref a0), some (.int a1), some (.int a2)]) (st' := [.int a1, .ref a0, .ref a0]) (sg := [(.aload_n 0, 0), (.aload_n 0, 0), (.iload_n 1, 0)]) (lSa_ok dd9) rfl ?_
      obtain ⟨_, o76, e75, m77, h⟩ := gOb_inv h
      refine Y.callI (yC.Vi (b := a0) (As := [.int a1]) (st := [.ref a0]) (r := ("PartlisterModel", T_M, 9)) hV.1 cb_M_rowOf lk_M_47 in_M_rowOf rfl se_M_rowOf (lIa_ok dd10) rfl rfl (Nat.le_of_ble_eq_true rfl) (by decide) e75 m77) (k_M_rowOf zDp hV G73 a0 a1) h (fun v79 G78 _ h => ?_)
      refine Y.blk (pc' := 37) (L' := [some (.ref a0), some (.int a1), some (.int a2)]) (st' := [.int a2, .ref a0, .int v79, .ref a0]) (sg := [(.aload_n 0, 0), (.iload_n 2, 0)]) (lSa_ok dd11) rfl ?_
      obtain ⟨_, o81, e80, m82, h⟩ := gOb_inv h
      refine Y.callI (yC.Vi (b := a0) (As := [.int a2]) (st := [.int v79, .ref a0]) (r := ("PartlisterModel", T_M, 9)) hV.1 cb_M_rowOf lk_M_47 in_M_rowOf rfl se_M_rowOf (lIa_ok dd12) rfl rfl (Nat.le_of_ble_eq_true rfl) (by decide) e80 m82) (k_M_rowOf zDp hV G78 a0 a2) h (fun v84 G83 _ h => ?_)
      refine Y.ic_ne (off := 7) (tgt := 47) (lIa_ok dd13) (by decide) h (fun c97 h => ?_) (fun c97 h => ?_)
      · refine Y.blk (pc' := 44) (L' := [some (.ref a0), some (.int a1), some (.int a2)]) (st' := [.int (nI 1), .ref a0]) (sg := [(.iconst 1, nI 1)]) (lSa_ok dd14) rfl ?_
        refine Y.goto (off := 4) (tgt := 48) (lIa_ok dd15) (by decide) ?_
        refine Y.blk (pc' := 49) (L' := [some (.ref a0), some (.int a1), some (.int a2)]) (st' := [.int (nI 2), .int (nI 1), .ref a0]) (sg := [(.iconst 2, nI 2)]) (lSa_ok dd16) rfl ?_
        obtain ⟨_, o86, e85, m87, h⟩ := gOb_inv h
        refine Y.callI (yC.Vi (b := a0) (As := [.int (nI 1), .int (nI 2)]) (st := []) (r := ("PartlisterModel", T_M, 9)) hV.1 cb_M_refuse lk_M_36 in_M_refuse rfl se_M_refuse (lIa_ok dd17) rfl rfl (Nat.le_of_ble_eq_true rfl) (by decide) e85 m87) (k_M_refuse hV G83 a0 (nI 1) (nI 2)) h (fun v89 G88 _ h => ?_)
        refine Y.if_eq (off := 7) (tgt := 59) (lIa_ok dd18) (by decide) h (fun c90 h => ?_) (fun c90 h => ?_)
        · refine Y.blk (pc' := 60) (L' := [some (.ref a0), some (.int a1), some (.int a2)]) (st' := [.int (nI 0)]) (sg := [(.iconst 0, nI 0)]) (lSa_ok dd19) rfl ?_
          exact Y.zret rfl (lIa_ok dd20) h
        · refine Y.blk (pc' := 56) (L' := [some (.ref a0), some (.int a1), some (.int a2)]) (st' := [.int (nI 1)]) (sg := [(.iconst 1, nI 1)]) (lSa_ok dd21) rfl ?_
          refine Y.goto (off := 4) (tgt := 60) (lIa_ok dd22) (by decide) ?_
          exact Y.zret rfl (lIa_ok dd20) h
      · refine Y.blk (pc' := 49) (L' := [some (.ref a0), some (.int a1), some (.int a2)]) (st' := [.int (nI 2), .int (nI 0), .ref a0]) (sg := [(.iconst 0, nI 0), (.iconst 2, nI 2)]) (lSa_ok dd23) rfl ?_
        obtain ⟨_, o92, e91, m93, h⟩ := gOb_inv h
        refine Y.callI (yC.Vi (b := a0) (As := [.int (nI 0), .int (nI 2)]) (st := []) (r := ("PartlisterModel", T_M, 9)) hV.1 cb_M_refuse lk_M_36 in_M_refuse rfl se_M_refuse (lIa_ok dd17) rfl rfl (Nat.le_of_ble_eq_true rfl) (by decide) e91 m93) (k_M_refuse hV G83 a0 (nI 0) (nI 2)) h (fun v95 G94 _ h => ?_)
        refine Y.if_eq (off := 7) (tgt := 59) (lIa_ok dd18) (by decide) h (fun c96 h => ?_) (fun c96 h => ?_)
        · refine Y.blk (pc' := 60) (L' := [some (.ref a0), some (.int a1), some (.int a2)]) (st' := [.int (nI 0)]) (sg := [(.iconst 0, nI 0)]) (lSa_ok dd19) rfl ?_
          exact Y.zret rfl (lIa_ok dd20) h
        · refine Y.blk (pc' := 56) (L' := [some (.ref a0), some (.int a1), some (.int a2)]) (st' := [.int (nI 1)]) (sg := [(.iconst 1, nI 1)]) (lSa_ok dd21) rfl ?_
          refine Y.goto (off := 4) (tgt := 60) (lIa_ok dd22) (by decide) ?_
          exact Y.zret rfl (lIa_ok dd20) h
    · refine Y.blk (pc' := 56) (L' := [some (.ref a0), some (.int a1), some (.int a2)]) (st' := [.int (nI 1)]) (sg := [(.iconst 1, nI 1)]) (lSa_ok dd21) rfl ?_
      refine Y.goto (off := 4) (tgt := 60) (lIa_ok dd22) (by decide) ?_
      exact Y.zret rfl (lIa_ok dd20) h

def f_M_endCursors_L2 (K44 : gH → gR) : Nat → gH → Nat → Int32 → Int32 → gR
  | 0, _, _, _, _ => none
  | n + 1, G, x0, x1, x2 =>
    if (nI 3) ≤ x2 then K44 G
    else gFA G x0 6 3 fun v1 => gLdq G v1 105 x2 (f_M_endCursors_L2 K44 n G x0 x1 (x2 + (nI 1))) fun v2 => gFA G x0 6 3 fun v3 => gLdq G v3 105 x2 (none) fun v4 => gFI G v4 4 0 fun v5 => gOb G x0 6 fun o7 => bI (f_M_rowOf zDp G x0 v5) fun v10 G9 => if v10 = x1 then gOb G9 x0 6 fun o12 => bV (f_M_endCursor G9 x0 x2) fun G14 => f_M_endCursors_L2 K44 n G14 x0 x1 (x2 + (nI 1))
          else f_M_endCursors_L2 K44 n G9 x0 x1 (x2 + (nI 1))
def f_M_endCursors (G : gH) (a0 : Nat) (a1 : Int32) : gR :=
  f_M_endCursors_L2 (fun G17 => rV G17) zFu G a0 a1 (nI 0)
theorem k_M_endCursors_L2 {l : Launch} {D : va_G} {B : Nat} {O : State → Heap → Prop} (hV : zG l D B O) {o : gO} {Gf : gH} (K44 : gH → gR) (hK44 : ∀ (G : gH), K44 G  = some (o, Gf) → Y (zVm l D B O) m_M_endCursors 11 o Gf 44 [none, none, none] [] G) : ∀ (n : Nat) (G : gH) (x0 : Nat) (x1 : Int32) (x2 : Int32), f_M_endCursors_L2 K44 n G x0 x1 x2 = some (o, Gf) → Y (zVm l D B O) m_M_endCursors 11 o Gf 2 [some (.ref x0), some (.int x1), some (.int x2)] [] G := by
  have hdd : lSa m_M_endCursors 2 [(.iload_n 2, 0), (.iconst 3, nI 3)] = true ∧ lIa m_M_endCursors 4 (.if_icmp .ge 40) 3 = true ∧ lSa m_M_endCursors 7 [(.aload_n 0, 0)] = true ∧ lIa m_M_endCursors 8 (.getfield 24) 3 = true ∧ lSa m_M_endCursors 11 [(.iload_n 2, 0)] = true ∧ lIa m_M_endCursors 12 (.aaload) 1 = true ∧ lIa m_M_endCursors 13 (.ifnull 25) 3 = true ∧ lSa m_M_endCursors 38 [(.iinc 2 1, nI 1)] = true ∧ lIa m_M_endCursors 41 (.goto (-39)) 3 = true ∧ lSa m_M_endCursors 16 [(.aload_n 0, 0), (.aload_n 0, 0)] = true ∧ lIa m_M_endCursors 18 (.getfield 24) 3 = true ∧ lSa m_M_endCursors 21 [(.iload_n 2, 0)] = true ∧ lIa m_M_endCursors 22 (.aaload) 1 = true ∧ lIa m_M_endCursors 23 (.getfield 89) 3 = true ∧ lIa m_M_endCursors 26 (.invokevirtual 47) 3 = true ∧ lSa m_M_endCursors 29 [(.iload_n 1, 0)] = true ∧ lIa m_M_endCursors 30 (.if_icmp .ne 8) 3 = true ∧ lSa m_M_endCursors 33 [(.aload_n 0, 0), (.iload_n 2, 0)] = true ∧ lIa m_M_endCursors 35 (.invokevirtual 92) 3 = true := by decide +kernel
  refine lA8 hdd (fun dd0 dd1 dd2 dd3 dd4 dd5 dd6 dd7 hdd => ?_)
  refine lA8 hdd (fun dd8 dd9 dd10 dd11 dd12 dd13 dd14 dd15 hdd => ?_)
  obtain ⟨dd16, dd17, dd18⟩ := hdd
  intro n
  induction n with
  | zero => intro G x0 x1 x2 h; cases h
  | succ n ih =>
    intro G x0 x1 x2 h
    unfold f_M_endCursors_L2 at h
    refine Y.blk (pc' := 4) (L' := [some (.ref x0), some (.int x1), some (.int x2)]) (st' := [.int (nI 3), .int x2]) (sg := [(.iload_n 2, 0), (.iconst 3, nI 3)]) (lSa_ok dd0) rfl ?_
    refine Y.ic_ge (off := 40) (tgt := 44) (lIa_ok dd1) (by decide) h (fun c16 h => ?_) (fun c16 h => ?_)
    · refine Y.less (L' := [none, none, none]) (zLe_none (zLe_none (zLe_none (zLe_nil)))) ?_
      exact hK44 G  h
    · refine Y.blk (pc' := 8) (L' := [some (.ref x0), some (.int x1), some (.int x2)]) (st' := [.ref x0]) (sg := [(.aload_n 0, 0)]) (lSa_ok dd2) rfl ?_
      refine Y.getA fl_M_24 (lIa_ok dd3) h (fun v1 h => ?_)
      refine Y.blk (pc' := 12) (L' := [some (.ref x0), some (.int x1), some (.int x2)]) (st' := [.int x2, .ref v1]) (sg := [(.iload_n 2, 0)]) (lSa_ok dd4) rfl ?_
      refine Y.aald (t0 := 5) (lIa_ok dd5) rfl h (fun h => ?_) (fun v2 h => ?_)
      · refine Y.ifnull_n (off := 25) (tgt := 38) (lIa_ok dd6) (by decide) ?_
        refine Y.blk (pc' := 41) (L' := [some (.ref x0), some (.int x1), some (.int (x2 + (nI 1)))]) (st' := []) (sg := [(.iinc 2 1, nI 1)]) (lSa_ok dd7) rfl ?_
        refine Y.goto (off := -39) (tgt := 2) (lIa_ok dd8) (by decide) ?_
        exact ih G x0 x1 (x2 + (nI 1)) h
      · refine Y.ifnull_r (off := 25) (lIa_ok dd6) ?_
        refine Y.blk (pc' := 18) (L' := [some (.ref x0), some (.int x1), some (.int x2)]) (st' := [.ref x0, .ref x0]) (sg := [(.aload_n 0, 0), (.aload_n 0, 0)]) (lSa_ok dd9) rfl ?_
        refine Y.getA fl_M_24 (lIa_ok dd10) h (fun v3 h => ?_)
        refine Y.blk (pc' := 22) (L' := [some (.ref x0), some (.int x1), some (.int x2)]) (st' := [.int x2, .ref v3, .ref x0]) (sg := [(.iload_n 2, 0)]) (lSa_ok dd11) rfl ?_
        refine Y.aald (t0 := 5) (lIa_ok dd12) rfl h (fun h => ?_) (fun v4 h => ?_)
        · cases h
        · refine Y.getI fl_M_89 (lIa_ok dd13) h (fun v5 h => ?_)
          obtain ⟨_, o7, e6, m8, h⟩ := gOb_inv h
          refine Y.callI (yC.Vi (b := x0) (As := [.int v5]) (st := []) (r := ("PartlisterModel", T_M, 9)) hV.1 cb_M_rowOf lk_M_47 in_M_rowOf rfl se_M_rowOf (lIa_ok dd14) rfl rfl (Nat.le_of_ble_eq_true rfl) (by decide) e6 m8) (k_M_rowOf zDp hV G x0 v5) h (fun v10 G9 _ h => ?_)
          refine Y.blk (pc' := 30) (L' := [some (.ref x0), some (.int x1), some (.int x2)]) (st' := [.int x1, .int v10]) (sg := [(.iload_n 1, 0)]) (lSa_ok dd15) rfl ?_
          refine Y.ic_ne (off := 8) (tgt := 38) (lIa_ok dd16) (by decide) h (fun c15 h => ?_) (fun c15 h => ?_)
          · refine Y.blk (pc' := 35) (L' := [some (.ref x0), some (.int x1), some (.int x2)]) (st' := [.int x2, .ref x0]) (sg := [(.aload_n 0, 0), (.iload_n 2, 0)]) (lSa_ok dd17) rfl ?_
            obtain ⟨_, o12, e11, m13, h⟩ := gOb_inv h
            refine Y.callN (yC.Vi (b := x0) (As := [.int x2]) (st := []) (r := ("PartlisterModel", T_M, 9)) hV.1 cb_M_endCursor lk_M_92 in_M_endCursor rfl se_M_endCursor (lIa_ok dd18) rfl rfl (Nat.le_of_ble_eq_true rfl) (by decide) e11 m13) (k_M_endCursor hV G9 x0 x2) h (fun G14 _ h => ?_)
            refine Y.blk (pc' := 41) (L' := [some (.ref x0), some (.int x1), some (.int (x2 + (nI 1)))]) (st' := []) (sg := [(.iinc 2 1, nI 1)]) (lSa_ok dd7) rfl ?_
            refine Y.goto (off := -39) (tgt := 2) (lIa_ok dd8) (by decide) ?_
            exact ih G14 x0 x1 (x2 + (nI 1)) h
          · refine Y.blk (pc' := 41) (L' := [some (.ref x0), some (.int x1), some (.int (x2 + (nI 1)))]) (st' := []) (sg := [(.iinc 2 1, nI 1)]) (lSa_ok dd7) rfl ?_
            refine Y.goto (off := -39) (tgt := 2) (lIa_ok dd8) (by decide) ?_
            exact ih G9 x0 x1 (x2 + (nI 1)) h
theorem k_M_endCursors {l : Launch} {D : va_G} {B : Nat} {O : State → Heap → Prop} (hV : zG l D B O) (G : gH) (a0 : Nat) (a1 : Int32) : gMet (zVm l D B O) m_M_endCursors 11 [.ref a0, .int a1] G (f_M_endCursors G a0 a1) := by
  have hdd : lSa m_M_endCursors 0 [(.iconst 0, nI 0), (.istore_n 2, 0)] = true ∧ lIa m_M_endCursors 44 (.return_) 1 = true := by decide +kernel
  obtain ⟨dd0, dd1⟩ := hdd
  refine gMet.of (by decide +kernel) (Nat.le_of_ble_eq_true rfl) [some (.ref a0), some (.int a1), none] (fun ls h => zEn_ok (n := 3) h) ?_
  intro o Gf h
  unfold f_M_endCursors at h
  refine Y.blk (pc' := 2) (L' := [some (.ref a0), some (.int a1), some (.int (nI 0))]) (st' := []) (sg := [(.iconst 0, nI 0), (.istore_n 2, 0)]) (lSa_ok dd0) rfl ?_
  refine k_M_endCursors_L2 hV _ ?_  zFu G a0 a1 (nI 0) h
  · intro G17 h
    exact Y.vret rfl (lIa_ok dd1) h

def f_AL_set (G : gH) (a0 : Nat) (a1 : Int32) (a2 : Nat) : gR :=
  gFI G a0 9 1 fun v1 => bI (f_OB_checkIndex G a1 v1) fun v4 G3 => gOb G3 a0 9 fun o6 => bA (f_AL_elementData G3 a0 a1) fun v9 G8 => gFA G8 a0 9 0 fun v10 => gStX G8 v10 103 a1 a2 fun G11 => rA v9 G11
theorem k_AL_set {l : Launch} {D : va_G} {B : Nat} {O : State → Heap → Prop} (hV : zG l D B O) (G : gH) (a0 : Nat) (a1 : Int32) (a2 : Nat) : gMet (zVm l D B O) m_AL_set 4 [.ref a0, .int a1, .ref a2] G (f_AL_set G a0 a1 a2) := by
  have hdd : lSa m_AL_set 0 [(.iload_n 1, 0), (.aload_n 0, 0)] = true ∧ lIa m_AL_set 2 (.getfield 48) 3 = true ∧ lIa m_AL_set 5 (.invokestatic 118) 3 = true ∧ lSa m_AL_set 8 [(.pop, 0), (.aload_n 0, 0), (.iload_n 1, 0)] = true ∧ lIa m_AL_set 11 (.invokevirtual 123) 3 = true ∧ lSa m_AL_set 14 [(.astore_n 3, 0), (.aload_n 0, 0)] = true ∧ lIa m_AL_set 16 (.getfield 9) 3 = true ∧ lSa m_AL_set 19 [(.iload_n 1, 0), (.aload_n 2, 0)] = true ∧ lIa m_AL_set 21 (.aastore) 1 = true ∧ lSa m_AL_set 22 [(.aload_n 3, 0)] = true ∧ lIa m_AL_set 23 (.areturn) 1 = true := by decide +kernel
  refine lA8 hdd (fun dd0 dd1 dd2 dd3 dd4 dd5 dd6 dd7 hdd => ?_)
  obtain ⟨dd8, dd9, dd10⟩ := hdd
  refine gMet.of (by decide +kernel) (Nat.le_of_ble_eq_true rfl) [some (.ref a0), some (.int a1), some (.ref a2), none] (fun ls h => zEn_ok (n := 4) h) ?_
  intro o Gf h
  unfold f_AL_set at h
  refine Y.blk (pc' := 2) (L' := [some (.ref a0), some (.int a1), some (.ref a2), none]) (st' := [.ref a0, .int a1]) (sg := [(.iload_n 1, 0), (.aload_n 0, 0)]) (lSa_ok dd0) rfl ?_
  refine Y.getI fl_AL_48 (lIa_ok dd1) h (fun v1 h => ?_)
  refine Y.callI (yC.S (As := [.int a1, .int v1]) (st := []) hV.1 cb_OB_checkIndex lk_AL_118 st_OB_checkIndex (lIa_ok dd2) rfl rfl (Nat.le_of_ble_eq_true rfl) (by decide)) (k_OB_checkIndex hV G a1 v1) h (fun v4 G3 _ h => ?_)
  refine Y.blk (pc' := 11) (L' := [some (.ref a0), some (.int a1), some (.ref a2), none]) (st' := [.int a1, .ref a0]) (sg := [(.pop, 0), (.aload_n 0, 0), (.iload_n 1, 0)]) (lSa_ok dd3) rfl ?_
  obtain ⟨_, o6, e5, m7, h⟩ := gOb_inv h
  refine Y.callA (yC.Vi (b := a0) (As := [.int a1]) (st := []) (r := ("java/util/ArrayList", T_AL, 3)) hV.1 cb_AL_elementData lk_AL_123 in_AL_elementData rfl se_AL_elementData (lIa_ok dd4) rfl rfl (Nat.le_of_ble_eq_true rfl) (by decide) e5 m7) (k_AL_elementData hV G3 a0 a1) h (fun v9 G8 _ h => ?_)
  refine Y.blk (pc' := 16) (L' := [some (.ref a0), some (.int a1), some (.ref a2), some (.ref v9)]) (st' := [.ref a0]) (sg := [(.astore_n 3, 0), (.aload_n 0, 0)]) (lSa_ok dd5) rfl ?_
  refine Y.getA fl_AL_9 (lIa_ok dd6) h (fun v10 h => ?_)
  refine Y.blk (pc' := 21) (L' := [some (.ref a0), some (.int a1), some (.ref a2), some (.ref v9)]) (st' := [.ref a2, .int a1, .ref v10]) (sg := [(.iload_n 1, 0), (.aload_n 2, 0)]) (lSa_ok dd7) rfl ?_
  refine Y.aastX (t0 := 3) (lIa_ok dd8) rfl rfl rfl h (fun G11 _ _ h => ?_)
  refine Y.blk (pc' := 23) (L' := [some (.ref a0), some (.int a1), some (.ref a2), some (.ref v9)]) (st' := [.ref v9]) (sg := [(.aload_n 3, 0)]) (lSa_ok dd9) rfl ?_
  exact Y.aret rfl (by first | exact Or.inl ⟨_, rfl⟩ | exact Or.inr ⟨_, rfl⟩) (lIa_ok dd10) h

def f_M_assign (w : Nat → Nat) (G : gH) (a0 : Nat) (a1 : Int32) (a2 : Int32) : gR :=
  bI (f_M_isIn G a1 (nI 0) (nI 1)) fun v3 G2 => if v3 = 0 then (gOb G2 a0 6 fun o5 => bI (f_M_start G2 a0 (nI 1) (nI 1)) fun v8 G7 => if v8 = 0 then gFA G7 a0 6 1 fun v9 => gOb G7 v9 9 fun o11 => bA (f_AL_get G7 v9 a1) fun v14 G13 => gCaO G13 v14 9 (gOb G13 v14 9 fun o16 => bI (f_AL_size G13 v14) fun v19 G18 => gOb G18 a0 6 fun o21 => bA (f_M_copy w G18 a0 a2) fun v24 G23 => gOb G23 a0 6 fun o26 => bI (f_M_endParts G23 a0 a1 a1) fun v29 G28 => gOb G28 a0 6 fun o31 => bV (f_M_endCursors G28 a0 a1) fun G33 => gFA G33 a0 6 1 fun v34 => gOb G33 v34 9 fun o36 => bA (f_AL_set G33 v34 a1 v24) fun v39 G38 => rI v19 G38)
    else rI (nI 0) G7)
  else gOb G2 a0 6 fun o42 => bI (f_M_isNoList G2 a0 a2) fun v45 G44 => if v45 = 0 then (gOb G44 a0 6 fun o47 => bI (f_M_start G44 a0 (nI 0) (nI 1)) fun v50 G49 => if v50 = 0 then gFA G49 a0 6 1 fun v51 => gOb G49 v51 9 fun o53 => bA (f_AL_get G49 v51 a1) fun v56 G55 => gCaO G55 v56 9 (gOb G55 v56 9 fun o58 => bI (f_AL_size G55 v56) fun v61 G60 => gOb G60 a0 6 fun o63 => bA (f_M_copy w G60 a0 a2) fun v66 G65 => gOb G65 a0 6 fun o68 => bI (f_M_endParts G65 a0 a1 a1) fun v71 G70 => gOb G70 a0 6 fun o73 => bV (f_M_endCursors G70 a0 a1) fun G75 => gFA G75 a0 6 1 fun v76 => gOb G75 v76 9 fun o78 => bA (f_AL_set G75 v76 a1 v66) fun v81 G80 => rI v61 G80)
      else rI (nI 0) G49)
    else gOb G44 a0 6 fun o84 => bI (f_M_start G44 a0 (nI 1) (nI 1)) fun v87 G86 => if v87 = 0 then gFA G86 a0 6 1 fun v88 => gOb G86 v88 9 fun o90 => bA (f_AL_get G86 v88 a1) fun v93 G92 => gCaO G92 v93 9 (gOb G92 v93 9 fun o95 => bI (f_AL_size G92 v93) fun v98 G97 => gOb G97 a0 6 fun o100 => bA (f_M_copy w G97 a0 a2) fun v103 G102 => gOb G102 a0 6 fun o105 => bI (f_M_endParts G102 a0 a1 a1) fun v108 G107 => gOb G107 a0 6 fun o110 => bV (f_M_endCursors G107 a0 a1) fun G112 => gFA G112 a0 6 1 fun v113 => gOb G112 v113 9 fun o115 => bA (f_AL_set G112 v113 a1 v103) fun v118 G117 => rI v98 G117)
      else rI (nI 0) G86
theorem k_M_assign {l : Launch} {D : va_G} {B : Nat} {O : State → Heap → Prop} {w : Nat → Nat} (hV : zGw l D B O w) (G : gH) (a0 : Nat) (a1 : Int32) (a2 : Int32) : gMet (zVm l D B O) m_M_assign 14 [.ref a0, .int a1, .int a2] G (f_M_assign w G a0 a1 a2) := by
  have hdd : lSa m_M_assign 0 [(.aload_n 0, 0), (.iload_n 1, 0), (.iconst 0, nI 0), (.iconst 1, nI 1)] = true ∧ lIa m_M_assign 4 (.invokestatic 40) 3 = true ∧ lIa m_M_assign 7 (.ifCond .eq 11) 3 = true ∧ lSa m_M_assign 18 [(.iconst 1, nI 1)] = true ∧ lIa m_M_assign 19 (.goto 4) 3 = true ∧ lSa m_M_assign 23 [(.iconst 1, nI 1)] = true ∧ lIa m_M_assign 24 (.invokevirtual 114) 3 = true ∧ lIa m_M_assign 27 (.ifCond .eq 5) 3 = true ∧ lSa m_M_assign 32 [(.aload_n 0, 0)] = true ∧ lIa m_M_assign 33 (.getfield 10) 3 = true ∧ lSa m_M_assign 36 [(.iload_n 1, 0)] = true ∧ lIa m_M_assign 37 (.invokevirtual 57) 3 = true ∧ lIa m_M_assign 40 (.checkcast 7) 3 = true ∧ lIa m_M_assign 43 (.invokevirtual 61) 3 = true ∧ lSa m_M_assign 46 [(.istore_n 3, 0), (.aload_n 0, 0), (.iload_n 2, 0)] = true ∧ lIa m_M_assign 49 (.invokevirtual 136) 3 = true ∧ lSa m_M_assign 52 [(.astore 4, 0), (.aload_n 0, 0), (.iload_n 1, 0), (.iload_n 1, 0)] = true ∧ lIa m_M_assign 57 (.invokevirtual 103) 3 = true ∧ lSa m_M_assign 60 [(.pop, 0), (.aload_n 0, 0), (.iload_n 1, 0)] = true ∧ lIa m_M_assign 63 (.invokevirtual 177) 3 = true ∧ lSa m_M_assign 66 [(.aload_n 0, 0)] = true ∧ lIa m_M_assign 67 (.getfield 10) 3 = true ∧ lSa m_M_assign 70 [(.iload_n 1, 0), (.aload 4, 0)] = true ∧ lIa m_M_assign 73 (.invokevirtual 143) 3 = true ∧ lSa m_M_assign 76 [(.pop, 0), (.iload_n 3, 0)] = true ∧ lIa m_M_assign 78 (.ireturn) 1 = true ∧ lSa m_M_assign 30 [(.iconst 0, nI 0)] = true ∧ lIa m_M_assign 31 (.ireturn) 1 = true ∧ lSa m_M_assign 10 [(.aload_n 0, 0), (.iload_n 2, 0)] = true ∧ lIa m_M_assign 12 (.invokevirtual 110) 3 = true ∧ lIa m_M_assign 15 (.ifCond .eq 7) 3 = true ∧ lSa m_M_assign 22 [(.iconst 0, nI 0), (.iconst 1, nI 1)] = true := by decide +kernel
  refine lA8 hdd (fun dd0 dd1 dd2 dd3 dd4 dd5 dd6 dd7 hdd => ?_)
  refine lA8 hdd (fun dd8 dd9 dd10 dd11 dd12 dd13 dd14 dd15 hdd => ?_)
  refine lA8 hdd (fun dd16 dd17 dd18 dd19 dd20 dd21 dd22 dd23 hdd => ?_)
  obtain ⟨dd24, dd25, dd26, dd27, dd28, dd29, dd30, dd31⟩ := hdd
  refine gMet.of (by decide +kernel) (Nat.le_of_ble_eq_true rfl) [some (.ref a0), some (.int a1), some (.int a2), none, none] (fun ls h => zEn_ok (n := 5) h) ?_
  intro o Gf h
  unfold f_M_assign at h
  refine Y.blk (pc' := 4) (L' := [some (.ref a0), some (.int a1), some (.int a2), none, none]) (st' := [.int (nI 1), .int (nI 0), .int a1, .ref a0]) (sg := [(.aload_n 0, 0), (.iload_n 1, 0), (.iconst 0, nI 0), (.iconst 1, nI 1)]) (lSa_ok dd0) rfl ?_
  refine Y.callI (yC.S (As := [.int a1, .int (nI 0), .int (nI 1)]) (st := [.ref a0]) hV.1.1 cb_M_isIn lk_M_40 st_M_isIn (lIa_ok dd1) rfl rfl (Nat.le_of_ble_eq_true rfl) (by decide)) (k_M_isIn hV.1 G a1 (nI 0) (nI 1)) h (fun v3 G2 _ h => ?_)
  refine Y.if_eq (off := 11) (tgt := 18) (lIa_ok dd2) (by decide) h (fun c121 h => ?_) (fun c121 h => ?_)
  · refine Y.blk (pc' := 19) (L' := [some (.ref a0), some (.int a1), some (.int a2), none, none]) (st' := [.int (nI 1), .ref a0]) (sg := [(.iconst 1, nI 1)]) (lSa_ok dd3) rfl ?_
    refine Y.goto (off := 4) (tgt := 23) (lIa_ok dd4) (by decide) ?_
    refine Y.blk (pc' := 24) (L' := [some (.ref a0), some (.int a1), some (.int a2), none, none]) (st' := [.int (nI 1), .int (nI 1), .ref a0]) (sg := [(.iconst 1, nI 1)]) (lSa_ok dd5) rfl ?_
    obtain ⟨_, o5, e4, m6, h⟩ := gOb_inv h
    refine Y.callI (yC.Vi (b := a0) (As := [.int (nI 1), .int (nI 1)]) (st := []) (r := ("PartlisterModel", T_M, 9)) hV.1.1 cb_M_start lk_M_114 in_M_start rfl se_M_start (lIa_ok dd6) rfl rfl (Nat.le_of_ble_eq_true rfl) (by decide) e4 m6) (k_M_start hV.1 G2 a0 (nI 1) (nI 1)) h (fun v8 G7 _ h => ?_)
    refine Y.if_eq (off := 5) (tgt := 32) (lIa_ok dd7) (by decide) h (fun c40 h => ?_) (fun c40 h => ?_)
    · refine Y.blk (pc' := 33) (L' := [some (.ref a0), some (.int a1), some (.int a2), none, none]) (st' := [.ref a0]) (sg := [(.aload_n 0, 0)]) (lSa_ok dd8) rfl ?_
      refine Y.getA fl_M_10 (lIa_ok dd9) h (fun v9 h => ?_)
      refine Y.blk (pc' := 37) (L' := [some (.ref a0), some (.int a1), some (.int a2), none, none]) (st' := [.int a1, .ref v9]) (sg := [(.iload_n 1, 0)]) (lSa_ok dd10) rfl ?_
      obtain ⟨_, o11, e10, m12, h⟩ := gOb_inv h
      refine Y.callA (yC.Vi (b := v9) (As := [.int a1]) (st := []) (r := ("java/util/ArrayList", T_AL, 3)) hV.1.1 cb_AL_get lk_M_57 in_AL_get rfl se_AL_get (lIa_ok dd11) rfl rfl (Nat.le_of_ble_eq_true rfl) (by decide) e10 m12) (k_AL_get hV.1 G7 v9 a1) h (fun v14 G13 _ h => ?_)
      refine Y.castO (r := ("java/util/ArrayList", T_AL, 3)) (lIa_ok dd12) rfl ck_M_7 h (fun h => ?_)
      obtain ⟨_, o16, e15, m17, h⟩ := gOb_inv h
      refine Y.callI (yC.Vi (b := v14) (As := []) (st := []) (r := ("java/util/ArrayList", T_AL, 3)) hV.1.1 cb_AL_size lk_M_61 in_AL_size rfl se_AL_size (lIa_ok dd13) rfl rfl (Nat.le_of_ble_eq_true rfl) (by decide) e15 m17) (k_AL_size hV.1 G13 v14) h (fun v19 G18 _ h => ?_)
      refine Y.blk (pc' := 49) (L' := [some (.ref a0), some (.int a1), some (.int a2), some (.int v19), none]) (st' := [.int a2, .ref a0]) (sg := [(.istore_n 3, 0), (.aload_n 0, 0), (.iload_n 2, 0)]) (lSa_ok dd14) rfl ?_
      obtain ⟨_, o21, e20, m22, h⟩ := gOb_inv h
      refine Y.callA (yC.Vi (b := a0) (As := [.int a2]) (st := []) (r := ("PartlisterModel", T_M, 9)) hV.1.1 cb_M_copy lk_M_136 in_M_copy rfl se_M_copy (lIa_ok dd15) rfl rfl (Nat.le_of_ble_eq_true rfl) (by decide) e20 m22) (k_M_copy hV G18 a0 a2) h (fun v24 G23 _ h => ?_)
      refine Y.blk (pc' := 57) (L' := [some (.ref a0), some (.int a1), some (.int a2), some (.int v19), some (.ref v24)]) (st' := [.int a1, .int a1, .ref a0]) (sg := [(.astore 4, 0), (.aload_n 0, 0), (.iload_n 1, 0), (.iload_n 1, 0)]) (lSa_ok dd16) rfl ?_
      obtain ⟨_, o26, e25, m27, h⟩ := gOb_inv h
      refine Y.callI (yC.Vi (b := a0) (As := [.int a1, .int a1]) (st := []) (r := ("PartlisterModel", T_M, 9)) hV.1.1 cb_M_endParts lk_M_103 in_M_endParts rfl se_M_endParts (lIa_ok dd17) rfl rfl (Nat.le_of_ble_eq_true rfl) (by decide) e25 m27) (k_M_endParts hV.1 G23 a0 a1 a1) h (fun v29 G28 _ h => ?_)
      refine Y.blk (pc' := 63) (L' := [some (.ref a0), some (.int a1), some (.int a2), some (.int v19), some (.ref v24)]) (st' := [.int a1, .ref a0]) (sg := [(.pop, 0), (.aload_n 0, 0), (.iload_n 1, 0)]) (lSa_ok dd18) rfl ?_
      obtain ⟨_, o31, e30, m32, h⟩ := gOb_inv h
      refine Y.callN (yC.Vi (b := a0) (As := [.int a1]) (st := []) (r := ("PartlisterModel", T_M, 9)) hV.1.1 cb_M_endCursors lk_M_177 in_M_endCursors rfl se_M_endCursors (lIa_ok dd19) rfl rfl (Nat.le_of_ble_eq_true rfl) (by decide) e30 m32) (k_M_endCursors hV.1 G28 a0 a1) h (fun G33 _ h => ?_)
      refine Y.blk (pc' := 67) (L' := [some (.ref a0), some (.int a1), some (.int a2), some (.int v19), some (.ref v24)]) (st' := [.ref a0]) (sg := [(.aload_n 0, 0)]) (lSa_ok dd20) rfl ?_
      refine Y.getA fl_M_10 (lIa_ok dd21) h (fun v34 h => ?_)
      refine Y.blk (pc' := 73) (L' := [some (.ref a0), some (.int a1), some (.int a2), some (.int v19), some (.ref v24)]) (st' := [.ref v24, .int a1, .ref v34]) (sg := [(.iload_n 1, 0), (.aload 4, 0)]) (lSa_ok dd22) rfl ?_
      obtain ⟨_, o36, e35, m37, h⟩ := gOb_inv h
      refine Y.callA (yC.Vi (b := v34) (As := [.int a1, .ref v24]) (st := []) (r := ("java/util/ArrayList", T_AL, 3)) hV.1.1 cb_AL_set lk_M_143 in_AL_set rfl se_AL_set (lIa_ok dd23) rfl rfl (Nat.le_of_ble_eq_true rfl) (by decide) e35 m37) (k_AL_set hV.1 G33 v34 a1 v24) h (fun v39 G38 _ h => ?_)
      refine Y.blk (pc' := 78) (L' := [some (.ref a0), some (.int a1), some (.int a2), some (.int v19), some (.ref v24)]) (st' := [.int v19]) (sg := [(.pop, 0), (.iload_n 3, 0)]) (lSa_ok dd24) rfl ?_
      exact Y.iret rfl (lIa_ok dd25) h
    · refine Y.blk (pc' := 31) (L' := [some (.ref a0), some (.int a1), some (.int a2), none, none]) (st' := [.int (nI 0)]) (sg := [(.iconst 0, nI 0)]) (lSa_ok dd26) rfl ?_
      exact Y.iret rfl (lIa_ok dd27) h
  · refine Y.blk (pc' := 12) (L' := [some (.ref a0), some (.int a1), some (.int a2), none, none]) (st' := [.int a2, .ref a0, .ref a0]) (sg := [(.aload_n 0, 0), (.iload_n 2, 0)]) (lSa_ok dd28) rfl ?_
    obtain ⟨_, o42, e41, m43, h⟩ := gOb_inv h
    refine Y.callI (yC.Vi (b := a0) (As := [.int a2]) (st := [.ref a0]) (r := ("PartlisterModel", T_M, 9)) hV.1.1 cb_M_isNoList lk_M_110 in_M_isNoList rfl se_M_isNoList (lIa_ok dd29) rfl rfl (Nat.le_of_ble_eq_true rfl) (by decide) e41 m43) (k_M_isNoList hV.1 G2 a0 a2) h (fun v45 G44 _ h => ?_)
    refine Y.if_eq (off := 7) (tgt := 22) (lIa_ok dd30) (by decide) h (fun c120 h => ?_) (fun c120 h => ?_)
    · refine Y.blk (pc' := 24) (L' := [some (.ref a0), some (.int a1), some (.int a2), none, none]) (st' := [.int (nI 1), .int (nI 0), .ref a0]) (sg := [(.iconst 0, nI 0), (.iconst 1, nI 1)]) (lSa_ok dd31) rfl ?_
      obtain ⟨_, o47, e46, m48, h⟩ := gOb_inv h
      refine Y.callI (yC.Vi (b := a0) (As := [.int (nI 0), .int (nI 1)]) (st := []) (r := ("PartlisterModel", T_M, 9)) hV.1.1 cb_M_start lk_M_114 in_M_start rfl se_M_start (lIa_ok dd6) rfl rfl (Nat.le_of_ble_eq_true rfl) (by decide) e46 m48) (k_M_start hV.1 G44 a0 (nI 0) (nI 1)) h (fun v50 G49 _ h => ?_)
      refine Y.if_eq (off := 5) (tgt := 32) (lIa_ok dd7) (by decide) h (fun c82 h => ?_) (fun c82 h => ?_)
      · refine Y.blk (pc' := 33) (L' := [some (.ref a0), some (.int a1), some (.int a2), none, none]) (st' := [.ref a0]) (sg := [(.aload_n 0, 0)]) (lSa_ok dd8) rfl ?_
        refine Y.getA fl_M_10 (lIa_ok dd9) h (fun v51 h => ?_)
        refine Y.blk (pc' := 37) (L' := [some (.ref a0), some (.int a1), some (.int a2), none, none]) (st' := [.int a1, .ref v51]) (sg := [(.iload_n 1, 0)]) (lSa_ok dd10) rfl ?_
        obtain ⟨_, o53, e52, m54, h⟩ := gOb_inv h
        refine Y.callA (yC.Vi (b := v51) (As := [.int a1]) (st := []) (r := ("java/util/ArrayList", T_AL, 3)) hV.1.1 cb_AL_get lk_M_57 in_AL_get rfl se_AL_get (lIa_ok dd11) rfl rfl (Nat.le_of_ble_eq_true rfl) (by decide) e52 m54) (k_AL_get hV.1 G49 v51 a1) h (fun v56 G55 _ h => ?_)
        refine Y.castO (r := ("java/util/ArrayList", T_AL, 3)) (lIa_ok dd12) rfl ck_M_7 h (fun h => ?_)
        obtain ⟨_, o58, e57, m59, h⟩ := gOb_inv h
        refine Y.callI (yC.Vi (b := v56) (As := []) (st := []) (r := ("java/util/ArrayList", T_AL, 3)) hV.1.1 cb_AL_size lk_M_61 in_AL_size rfl se_AL_size (lIa_ok dd13) rfl rfl (Nat.le_of_ble_eq_true rfl) (by decide) e57 m59) (k_AL_size hV.1 G55 v56) h (fun v61 G60 _ h => ?_)
        refine Y.blk (pc' := 49) (L' := [some (.ref a0), some (.int a1), some (.int a2), some (.int v61), none]) (st' := [.int a2, .ref a0]) (sg := [(.istore_n 3, 0), (.aload_n 0, 0), (.iload_n 2, 0)]) (lSa_ok dd14) rfl ?_
        obtain ⟨_, o63, e62, m64, h⟩ := gOb_inv h
        refine Y.callA (yC.Vi (b := a0) (As := [.int a2]) (st := []) (r := ("PartlisterModel", T_M, 9)) hV.1.1 cb_M_copy lk_M_136 in_M_copy rfl se_M_copy (lIa_ok dd15) rfl rfl (Nat.le_of_ble_eq_true rfl) (by decide) e62 m64) (k_M_copy hV G60 a0 a2) h (fun v66 G65 _ h => ?_)
        refine Y.blk (pc' := 57) (L' := [some (.ref a0), some (.int a1), some (.int a2), some (.int v61), some (.ref v66)]) (st' := [.int a1, .int a1, .ref a0]) (sg := [(.astore 4, 0), (.aload_n 0, 0), (.iload_n 1, 0), (.iload_n 1, 0)]) (lSa_ok dd16) rfl ?_
        obtain ⟨_, o68, e67, m69, h⟩ := gOb_inv h
        refine Y.callI (yC.Vi (b := a0) (As := [.int a1, .int a1]) (st := []) (r := ("PartlisterModel", T_M, 9)) hV.1.1 cb_M_endParts lk_M_103 in_M_endParts rfl se_M_endParts (lIa_ok dd17) rfl rfl (Nat.le_of_ble_eq_true rfl) (by decide) e67 m69) (k_M_endParts hV.1 G65 a0 a1 a1) h (fun v71 G70 _ h => ?_)
        refine Y.blk (pc' := 63) (L' := [some (.ref a0), some (.int a1), some (.int a2), some (.int v61), some (.ref v66)]) (st' := [.int a1, .ref a0]) (sg := [(.pop, 0), (.aload_n 0, 0), (.iload_n 1, 0)]) (lSa_ok dd18) rfl ?_
        obtain ⟨_, o73, e72, m74, h⟩ := gOb_inv h
        refine Y.callN (yC.Vi (b := a0) (As := [.int a1]) (st := []) (r := ("PartlisterModel", T_M, 9)) hV.1.1 cb_M_endCursors lk_M_177 in_M_endCursors rfl se_M_endCursors (lIa_ok dd19) rfl rfl (Nat.le_of_ble_eq_true rfl) (by decide) e72 m74) (k_M_endCursors hV.1 G70 a0 a1) h (fun G75 _ h => ?_)
        refine Y.blk (pc' := 67) (L' := [some (.ref a0), some (.int a1), some (.int a2), some (.int v61), some (.ref v66)]) (st' := [.ref a0]) (sg := [(.aload_n 0, 0)]) (lSa_ok dd20) rfl ?_
        refine Y.getA fl_M_10 (lIa_ok dd21) h (fun v76 h => ?_)
        refine Y.blk (pc' := 73) (L' := [some (.ref a0), some (.int a1), some (.int a2), some (.int v61), some (.ref v66)]) (st' := [.ref v66, .int a1, .ref v76]) (sg := [(.iload_n 1, 0), (.aload 4, 0)]) (lSa_ok dd22) rfl ?_
        obtain ⟨_, o78, e77, m79, h⟩ := gOb_inv h
        refine Y.callA (yC.Vi (b := v76) (As := [.int a1, .ref v66]) (st := []) (r := ("java/util/ArrayList", T_AL, 3)) hV.1.1 cb_AL_set lk_M_143 in_AL_set rfl se_AL_set (lIa_ok dd23) rfl rfl (Nat.le_of_ble_eq_true rfl) (by decide) e77 m79) (k_AL_set hV.1 G75 v76 a1 v66) h (fun v81 G80 _ h => ?_)
        refine Y.blk (pc' := 78) (L' := [some (.ref a0), some (.int a1), some (.int a2), some (.int v61), some (.ref v66)]) (st' := [.int v61]) (sg := [(.pop, 0), (.iload_n 3, 0)]) (lSa_ok dd24) rfl ?_
        exact Y.iret rfl (lIa_ok dd25) h
      · refine Y.blk (pc' := 31) (L' := [some (.ref a0), some (.int a1), some (.int a2), none, none]) (st' := [.int (nI 0)]) (sg := [(.iconst 0, nI 0)]) (lSa_ok dd26) rfl ?_
        exact Y.iret rfl (lIa_ok dd27) h
    · refine Y.blk (pc' := 19) (L' := [some (.ref a0), some (.int a1), some (.int a2), none, none]) (st' := [.int (nI 1), .ref a0]) (sg := [(.iconst 1, nI 1)]) (lSa_ok dd3) rfl ?_
      refine Y.goto (off := 4) (tgt := 23) (lIa_ok dd4) (by decide) ?_
      refine Y.blk (pc' := 24) (L' := [some (.ref a0), some (.int a1), some (.int a2), none, none]) (st' := [.int (nI 1), .int (nI 1), .ref a0]) (sg := [(.iconst 1, nI 1)]) (lSa_ok dd5) rfl ?_
      obtain ⟨_, o84, e83, m85, h⟩ := gOb_inv h
      refine Y.callI (yC.Vi (b := a0) (As := [.int (nI 1), .int (nI 1)]) (st := []) (r := ("PartlisterModel", T_M, 9)) hV.1.1 cb_M_start lk_M_114 in_M_start rfl se_M_start (lIa_ok dd6) rfl rfl (Nat.le_of_ble_eq_true rfl) (by decide) e83 m85) (k_M_start hV.1 G44 a0 (nI 1) (nI 1)) h (fun v87 G86 _ h => ?_)
      refine Y.if_eq (off := 5) (tgt := 32) (lIa_ok dd7) (by decide) h (fun c119 h => ?_) (fun c119 h => ?_)
      · refine Y.blk (pc' := 33) (L' := [some (.ref a0), some (.int a1), some (.int a2), none, none]) (st' := [.ref a0]) (sg := [(.aload_n 0, 0)]) (lSa_ok dd8) rfl ?_
        refine Y.getA fl_M_10 (lIa_ok dd9) h (fun v88 h => ?_)
        refine Y.blk (pc' := 37) (L' := [some (.ref a0), some (.int a1), some (.int a2), none, none]) (st' := [.int a1, .ref v88]) (sg := [(.iload_n 1, 0)]) (lSa_ok dd10) rfl ?_
        obtain ⟨_, o90, e89, m91, h⟩ := gOb_inv h
        refine Y.callA (yC.Vi (b := v88) (As := [.int a1]) (st := []) (r := ("java/util/ArrayList", T_AL, 3)) hV.1.1 cb_AL_get lk_M_57 in_AL_get rfl se_AL_get (lIa_ok dd11) rfl rfl (Nat.le_of_ble_eq_true rfl) (by decide) e89 m91) (k_AL_get hV.1 G86 v88 a1) h (fun v93 G92 _ h => ?_)
        refine Y.castO (r := ("java/util/ArrayList", T_AL, 3)) (lIa_ok dd12) rfl ck_M_7 h (fun h => ?_)
        obtain ⟨_, o95, e94, m96, h⟩ := gOb_inv h
        refine Y.callI (yC.Vi (b := v93) (As := []) (st := []) (r := ("java/util/ArrayList", T_AL, 3)) hV.1.1 cb_AL_size lk_M_61 in_AL_size rfl se_AL_size (lIa_ok dd13) rfl rfl (Nat.le_of_ble_eq_true rfl) (by decide) e94 m96) (k_AL_size hV.1 G92 v93) h (fun v98 G97 _ h => ?_)
        refine Y.blk (pc' := 49) (L' := [some (.ref a0), some (.int a1), some (.int a2), some (.int v98), none]) (st' := [.int a2, .ref a0]) (sg := [(.istore_n 3, 0), (.aload_n 0, 0), (.iload_n 2, 0)]) (lSa_ok dd14) rfl ?_
        obtain ⟨_, o100, e99, m101, h⟩ := gOb_inv h
        refine Y.callA (yC.Vi (b := a0) (As := [.int a2]) (st := []) (r := ("PartlisterModel", T_M, 9)) hV.1.1 cb_M_copy lk_M_136 in_M_copy rfl se_M_copy (lIa_ok dd15) rfl rfl (Nat.le_of_ble_eq_true rfl) (by decide) e99 m101) (k_M_copy hV G97 a0 a2) h (fun v103 G102 _ h => ?_)
        refine Y.blk (pc' := 57) (L' := [some (.ref a0), some (.int a1), some (.int a2), some (.int v98), some (.ref v103)]) (st' := [.int a1, .int a1, .ref a0]) (sg := [(.astore 4, 0), (.aload_n 0, 0), (.iload_n 1, 0), (.iload_n 1, 0)]) (lSa_ok dd16) rfl ?_
        obtain ⟨_, o105, e104, m106, h⟩ := gOb_inv h
        refine Y.callI (yC.Vi (b := a0) (As := [.int a1, .int a1]) (st := []) (r := ("PartlisterModel", T_M, 9)) hV.1.1 cb_M_endParts lk_M_103 in_M_endParts rfl se_M_endParts (lIa_ok dd17) rfl rfl (Nat.le_of_ble_eq_true rfl) (by decide) e104 m106) (k_M_endParts hV.1 G102 a0 a1 a1) h (fun v108 G107 _ h => ?_)
        refine Y.blk (pc' := 63) (L' := [some (.ref a0), some (.int a1), some (.int a2), some (.int v98), some (.ref v103)]) (st' := [.int a1, .ref a0]) (sg := [(.pop, 0), (.aload_n 0, 0), (.iload_n 1, 0)]) (lSa_ok dd18) rfl ?_
        obtain ⟨_, o110, e109, m111, h⟩ := gOb_inv h
        refine Y.callN (yC.Vi (b := a0) (As := [.int a1]) (st := []) (r := ("PartlisterModel", T_M, 9)) hV.1.1 cb_M_endCursors lk_M_177 in_M_endCursors rfl se_M_endCursors (lIa_ok dd19) rfl rfl (Nat.le_of_ble_eq_true rfl) (by decide) e109 m111) (k_M_endCursors hV.1 G107 a0 a1) h (fun G112 _ h => ?_)
        refine Y.blk (pc' := 67) (L' := [some (.ref a0), some (.int a1), some (.int a2), some (.int v98), some (.ref v103)]) (st' := [.ref a0]) (sg := [(.aload_n 0, 0)]) (lSa_ok dd20) rfl ?_
        refine Y.getA fl_M_10 (lIa_ok dd21) h (fun v113 h => ?_)
        refine Y.blk (pc' := 73) (L' := [some (.ref a0), some (.int a1), some (.int a2), some (.int v98), some (.ref v103)]) (st' := [.ref v103, .int a1, .ref v113]) (sg := [(.iload_n 1, 0), (.aload 4, 0)]) (lSa_ok dd22) rfl ?_
        obtain ⟨_, o115, e114, m116, h⟩ := gOb_inv h
        refine Y.callA (yC.Vi (b := v113) (As := [.int a1, .ref v103]) (st := []) (r := ("java/util/ArrayList", T_AL, 3)) hV.1.1 cb_AL_set lk_M_143 in_AL_set rfl se_AL_set (lIa_ok dd23) rfl rfl (Nat.le_of_ble_eq_true rfl) (by decide) e114 m116) (k_AL_set hV.1 G112 v113 a1 v103) h (fun v118 G117 _ h => ?_)
        refine Y.blk (pc' := 78) (L' := [some (.ref a0), some (.int a1), some (.int a2), some (.int v98), some (.ref v103)]) (st' := [.int v98]) (sg := [(.pop, 0), (.iload_n 3, 0)]) (lSa_ok dd24) rfl ?_
        exact Y.iret rfl (lIa_ok dd25) h
      · refine Y.blk (pc' := 31) (L' := [some (.ref a0), some (.int a1), some (.int a2), none, none]) (st' := [.int (nI 0)]) (sg := [(.iconst 0, nI 0)]) (lSa_ok dd26) rfl ?_
        exact Y.iret rfl (lIa_ok dd27) h
end
section
def f_AL_fastRemove (G : gH) (a0 : Nat) (a1 : Nat) (a2 : Int32) : gR :=
  gFI G a0 9 2 fun v1 => gPut G a0 9 2 (.int (v1 + (nI 1))) fun G2 => gFI G2 a0 9 1 fun v3 => if (v3 - (nI 1)) ≤ a2 then gPut G2 a0 9 1 (.int (v3 - (nI 1))) fun G4 => gStN G4 a1 103 (v3 - (nI 1)) fun G5 => rV G5
  else gCpQ G2 a1 (a2 + (nI 1)) a1 a2 ((v3 - (nI 1)) - a2) fun G6 => gPut G6 a0 9 1 (.int (v3 - (nI 1))) fun G7 => gStN G7 a1 103 (v3 - (nI 1)) fun G8 => rV G8
theorem k_AL_fastRemove {l : Launch} {D : va_G} {B : Nat} {O : State → Heap → Prop} (hV : zG l D B O) (G : gH) (a0 : Nat) (a1 : Nat) (a2 : Int32) : gMet (zVm l D B O) m_AL_fastRemove 2 [.ref a0, .ref a1, .int a2] G (f_AL_fastRemove G a0 a1 a2) := by
  have hdd : lSa m_AL_fastRemove 0 [(.aload_n 0, 0), (.dup, 0)] = true ∧ lIa m_AL_fastRemove 2 (.getfield 63) 3 = true ∧ lSa m_AL_fastRemove 5 [(.iconst 1, nI 1), (.iadd, 0)] = true ∧ lIa m_AL_fastRemove 7 (.putfield 63) 3 = true ∧ lSa m_AL_fastRemove 10 [(.aload_n 0, 0)] = true ∧ lIa m_AL_fastRemove 11 (.getfield 48) 3 = true ∧ lSa m_AL_fastRemove 14 [(.iconst 1, nI 1), (.isub, 0), (.dup, 0), (.istore_n 3, 0), (.iload_n 2, 0)] = true ∧ lIa m_AL_fastRemove 19 (.if_icmp .le 15) 3 = true ∧ lSa m_AL_fastRemove 34 [(.aload_n 1, 0), (.aload_n 0, 0), (.iload_n 3, 0), (.dup_x1, 0)] = true ∧ lIa m_AL_fastRemove 38 (.putfield 48) 3 = true ∧ lSa m_AL_fastRemove 41 [(.aconst_null, 0)] = true ∧ lIa m_AL_fastRemove 42 (.aastore) 1 = true ∧ lIa m_AL_fastRemove 43 (.return_) 1 = true ∧ lSa m_AL_fastRemove 22 [(.aload_n 1, 0), (.iload_n 2, 0), (.iconst 1, nI 1), (.iadd, 0), (.aload_n 1, 0), (.iload_n 2, 0), (.iload_n 3, 0), (.iload_n 2, 0), (.isub, 0)] = true ∧ lIa m_AL_fastRemove 31 (.invokestatic 112) 3 = true := by decide +kernel
  refine lA8 hdd (fun dd0 dd1 dd2 dd3 dd4 dd5 dd6 dd7 hdd => ?_)
  obtain ⟨dd8, dd9, dd10, dd11, dd12, dd13, dd14⟩ := hdd
  refine gMet.of (by decide +kernel) (Nat.le_of_ble_eq_true rfl) [some (.ref a0), some (.ref a1), some (.int a2), none] (fun ls h => zEn_ok (n := 4) h) ?_
  intro o Gf h
  unfold f_AL_fastRemove at h
  refine Y.blk (pc' := 2) (L' := [some (.ref a0), some (.ref a1), some (.int a2), none]) (st' := [.ref a0, .ref a0]) (sg := [(.aload_n 0, 0), (.dup, 0)]) (lSa_ok dd0) rfl ?_
  refine Y.getI fl_AL_63 (lIa_ok dd1) h (fun v1 h => ?_)
  refine Y.blk (pc' := 7) (L' := [some (.ref a0), some (.ref a1), some (.int a2), none]) (st' := [.int (v1 + (nI 1)), .ref a0]) (sg := [(.iconst 1, nI 1), (.iadd, 0)]) (lSa_ok dd2) rfl ?_
  refine Y.putf fl_AL_63 (by decide) rfl rfl (lIa_ok dd3) h (fun G2 _ _ h => ?_)
  refine Y.blk (pc' := 11) (L' := [some (.ref a0), some (.ref a1), some (.int a2), none]) (st' := [.ref a0]) (sg := [(.aload_n 0, 0)]) (lSa_ok dd4) rfl ?_
  refine Y.getI fl_AL_48 (lIa_ok dd5) h (fun v3 h => ?_)
  refine Y.blk (pc' := 19) (L' := [some (.ref a0), some (.ref a1), some (.int a2), some (.int (v3 - (nI 1)))]) (st' := [.int a2, .int (v3 - (nI 1))]) (sg := [(.iconst 1, nI 1), (.isub, 0), (.dup, 0), (.istore_n 3, 0), (.iload_n 2, 0)]) (lSa_ok dd6) rfl ?_
  refine Y.ic_le (off := 15) (tgt := 34) (lIa_ok dd7) (by decide) h (fun c9 h => ?_) (fun c9 h => ?_)
  · refine Y.blk (pc' := 38) (L' := [some (.ref a0), some (.ref a1), some (.int a2), some (.int (v3 - (nI 1)))]) (st' := [.int (v3 - (nI 1)), .ref a0, .int (v3 - (nI 1)), .ref a1]) (sg := [(.aload_n 1, 0), (.aload_n 0, 0), (.iload_n 3, 0), (.dup_x1, 0)]) (lSa_ok dd8) rfl ?_
    refine Y.putf fl_AL_48 (by decide) rfl rfl (lIa_ok dd9) h (fun G4 _ _ h => ?_)
    refine Y.blk (pc' := 42) (L' := [some (.ref a0), some (.ref a1), some (.int a2), some (.int (v3 - (nI 1)))]) (st' := [.null, .int (v3 - (nI 1)), .ref a1]) (sg := [(.aconst_null, 0)]) (lSa_ok dd10) rfl ?_
    refine Y.aastN (t0 := 3) (lIa_ok dd11) rfl (by decide) h (fun G5 _ _ h => ?_)
    exact Y.vret rfl (lIa_ok dd12) h
  · refine Y.blk (pc' := 31) (L' := [some (.ref a0), some (.ref a1), some (.int a2), some (.int (v3 - (nI 1)))]) (st' := [.int ((v3 - (nI 1)) - a2), .int a2, .ref a1, .int (a2 + (nI 1)), .ref a1]) (sg := [(.aload_n 1, 0), (.iload_n 2, 0), (.iconst 1, nI 1), (.iadd, 0), (.aload_n 1, 0), (.iload_n 2, 0), (.iload_n 3, 0), (.iload_n 2, 0), (.isub, 0)]) (lSa_ok dd13) rfl ?_
    refine Y.copyQ (t0 := 3) lk_AL_112 nat_copy st_copy ini_SY (by decide) rfl (Nat.le_of_ble_eq_true rfl) (lIa_ok dd14) rfl ⟨_, rfl, ca_AL⟩ rfl h (fun G6 _ _ h => ?_)
    refine Y.blk (pc' := 38) (L' := [some (.ref a0), some (.ref a1), some (.int a2), some (.int (v3 - (nI 1)))]) (st' := [.int (v3 - (nI 1)), .ref a0, .int (v3 - (nI 1)), .ref a1]) (sg := [(.aload_n 1, 0), (.aload_n 0, 0), (.iload_n 3, 0), (.dup_x1, 0)]) (lSa_ok dd8) rfl ?_
    refine Y.putf fl_AL_48 (by decide) rfl rfl (lIa_ok dd9) h (fun G7 _ _ h => ?_)
    refine Y.blk (pc' := 42) (L' := [some (.ref a0), some (.ref a1), some (.int a2), some (.int (v3 - (nI 1)))]) (st' := [.null, .int (v3 - (nI 1)), .ref a1]) (sg := [(.aconst_null, 0)]) (lSa_ok dd10) rfl ?_
    refine Y.aastN (t0 := 3) (lIa_ok dd11) rfl (by decide) h (fun G8 _ _ h => ?_)
    exact Y.vret rfl (lIa_ok dd12) h

def f_AL_remove (G : gH) (a0 : Nat) (a1 : Int32) : gR :=
  gFI G a0 9 1 fun v1 => bI (f_OB_checkIndex G a1 v1) fun v4 G3 => gFA G3 a0 9 0 fun v5 => gLdq G3 v5 103 a1 (gOb G3 a0 9 fun o8 => bV (f_AL_fastRemove G3 a0 v5 a1) fun G10 => none) fun v6 => gOb G3 a0 9 fun o12 => bV (f_AL_fastRemove G3 a0 v5 a1) fun G14 => rA v6 G14
theorem k_AL_remove {l : Launch} {D : va_G} {B : Nat} {O : State → Heap → Prop} (hV : zG l D B O) (G : gH) (a0 : Nat) (a1 : Int32) : gMet (zVm l D B O) m_AL_remove 4 [.ref a0, .int a1] G (f_AL_remove G a0 a1) := by
  have hdd : lSa m_AL_remove 0 [(.iload_n 1, 0), (.aload_n 0, 0)] = true ∧ lIa m_AL_remove 2 (.getfield 48) 3 = true ∧ lIa m_AL_remove 5 (.invokestatic 118) 3 = true ∧ lSa m_AL_remove 8 [(.pop, 0), (.aload_n 0, 0)] = true ∧ lIa m_AL_remove 10 (.getfield 9) 3 = true ∧ lSa m_AL_remove 13 [(.astore_n 2, 0), (.aload_n 2, 0), (.iload_n 1, 0)] = true ∧ lIa m_AL_remove 16 (.aaload) 1 = true ∧ lSa m_AL_remove 17 [(.astore_n 3, 0), (.aload_n 0, 0), (.aload_n 2, 0), (.iload_n 1, 0)] = true ∧ lIa m_AL_remove 21 (.invokevirtual 144) 3 = true ∧ lSa m_AL_remove 24 [(.aload_n 3, 0)] = true ∧ lIa m_AL_remove 25 (.areturn) 1 = true := by decide +kernel
  refine lA8 hdd (fun dd0 dd1 dd2 dd3 dd4 dd5 dd6 dd7 hdd => ?_)
  obtain ⟨dd8, dd9, dd10⟩ := hdd
  refine gMet.of (by decide +kernel) (Nat.le_of_ble_eq_true rfl) [some (.ref a0), some (.int a1), none, none] (fun ls h => zEn_ok (n := 4) h) ?_
  intro o Gf h
  unfold f_AL_remove at h
  refine Y.blk (pc' := 2) (L' := [some (.ref a0), some (.int a1), none, none]) (st' := [.ref a0, .int a1]) (sg := [(.iload_n 1, 0), (.aload_n 0, 0)]) (lSa_ok dd0) rfl ?_
  refine Y.getI fl_AL_48 (lIa_ok dd1) h (fun v1 h => ?_)
  refine Y.callI (yC.S (As := [.int a1, .int v1]) (st := []) hV.1 cb_OB_checkIndex lk_AL_118 st_OB_checkIndex (lIa_ok dd2) rfl rfl (Nat.le_of_ble_eq_true rfl) (by decide)) (k_OB_checkIndex hV G a1 v1) h (fun v4 G3 _ h => ?_)
  refine Y.blk (pc' := 10) (L' := [some (.ref a0), some (.int a1), none, none]) (st' := [.ref a0]) (sg := [(.pop, 0), (.aload_n 0, 0)]) (lSa_ok dd3) rfl ?_
  refine Y.getA fl_AL_9 (lIa_ok dd4) h (fun v5 h => ?_)
  refine Y.blk (pc' := 16) (L' := [some (.ref a0), some (.int a1), some (.ref v5), none]) (st' := [.int a1, .ref v5]) (sg := [(.astore_n 2, 0), (.aload_n 2, 0), (.iload_n 1, 0)]) (lSa_ok dd5) rfl ?_
  refine Y.aald (t0 := 3) (lIa_ok dd6) rfl h (fun h => ?_) (fun v6 h => ?_)
  · refine Y.blk (pc' := 21) (L' := [some (.ref a0), some (.int a1), some (.ref v5), some (.null)]) (st' := [.int a1, .ref v5, .ref a0]) (sg := [(.astore_n 3, 0), (.aload_n 0, 0), (.aload_n 2, 0), (.iload_n 1, 0)]) (lSa_ok dd7) rfl ?_
    obtain ⟨_, o8, e7, m9, h⟩ := gOb_inv h
    refine Y.callN (yC.Vi (b := a0) (As := [.ref v5, .int a1]) (st := []) (r := ("java/util/ArrayList", T_AL, 3)) hV.1 cb_AL_fastRemove lk_AL_144 in_AL_fastRemove rfl se_AL_fastRemove (lIa_ok dd8) rfl rfl (Nat.le_of_ble_eq_true rfl) (by decide) e7 m9) (k_AL_fastRemove hV G3 a0 v5 a1) h (fun G10 _ h => ?_)
    refine Y.blk (pc' := 25) (L' := [some (.ref a0), some (.int a1), some (.ref v5), some (.null)]) (st' := [.null]) (sg := [(.aload_n 3, 0)]) (lSa_ok dd9) rfl ?_
    cases h
  · refine Y.blk (pc' := 21) (L' := [some (.ref a0), some (.int a1), some (.ref v5), some (.ref v6)]) (st' := [.int a1, .ref v5, .ref a0]) (sg := [(.astore_n 3, 0), (.aload_n 0, 0), (.aload_n 2, 0), (.iload_n 1, 0)]) (lSa_ok dd7) rfl ?_
    obtain ⟨_, o12, e11, m13, h⟩ := gOb_inv h
    refine Y.callN (yC.Vi (b := a0) (As := [.ref v5, .int a1]) (st := []) (r := ("java/util/ArrayList", T_AL, 3)) hV.1 cb_AL_fastRemove lk_AL_144 in_AL_fastRemove rfl se_AL_fastRemove (lIa_ok dd8) rfl rfl (Nat.le_of_ble_eq_true rfl) (by decide) e11 m13) (k_AL_fastRemove hV G3 a0 v5 a1) h (fun G14 _ h => ?_)
    refine Y.blk (pc' := 25) (L' := [some (.ref a0), some (.int a1), some (.ref v5), some (.ref v6)]) (st' := [.ref v6]) (sg := [(.aload_n 3, 0)]) (lSa_ok dd9) rfl ?_
    exact Y.aret rfl (by first | exact Or.inl ⟨_, rfl⟩ | exact Or.inr ⟨_, rfl⟩) (lIa_ok dd10) h

def f_M_take (G : gH) (a0 : Nat) (a1 : Int32) (a2 : Int32) : gR :=
  gOb G a0 6 fun o2 => bA (f_M_row G a0 a1) fun v5 G4 => gOb G4 a0 6 fun o7 => bI (f_M_base zDp G4 a0 a1) fun v10 G9 => gOb G9 v5 9 fun o12 => bA (f_AL_remove G9 v5 (v10 + a2)) fun v15 G14 => gCaA G14 v15 100 (rA v15 G14)
theorem k_M_take {l : Launch} {D : va_G} {B : Nat} {O : State → Heap → Prop} (hV : zG l D B O) (G : gH) (a0 : Nat) (a1 : Int32) (a2 : Int32) : gMet (zVm l D B O) m_M_take 12 [.ref a0, .int a1, .int a2] G (f_M_take G a0 a1 a2) := by
  have hdd : lSa m_M_take 0 [(.aload_n 0, 0), (.iload_n 1, 0)] = true ∧ lIa m_M_take 2 (.invokevirtual 68) 3 = true ∧ lSa m_M_take 5 [(.aload_n 0, 0), (.iload_n 1, 0)] = true ∧ lIa m_M_take 7 (.invokevirtual 54) 3 = true ∧ lSa m_M_take 10 [(.iload_n 2, 0), (.iadd, 0)] = true ∧ lIa m_M_take 12 (.invokevirtual 154) 3 = true ∧ lIa m_M_take 15 (.checkcast 72) 3 = true ∧ lIa m_M_take 18 (.areturn) 1 = true := by decide +kernel
  obtain ⟨dd0, dd1, dd2, dd3, dd4, dd5, dd6, dd7⟩ := hdd
  refine gMet.of (by decide +kernel) (Nat.le_of_ble_eq_true rfl) [some (.ref a0), some (.int a1), some (.int a2)] (fun ls h => zEn_ok (n := 3) h) ?_
  intro o Gf h
  unfold f_M_take at h
  refine Y.blk (pc' := 2) (L' := [some (.ref a0), some (.int a1), some (.int a2)]) (st' := [.int a1, .ref a0]) (sg := [(.aload_n 0, 0), (.iload_n 1, 0)]) (lSa_ok dd0) rfl ?_
  obtain ⟨_, o2, e1, m3, h⟩ := gOb_inv h
  refine Y.callA (yC.Vi (b := a0) (As := [.int a1]) (st := []) (r := ("PartlisterModel", T_M, 9)) hV.1 cb_M_row lk_M_68 in_M_row rfl se_M_row (lIa_ok dd1) rfl rfl (Nat.le_of_ble_eq_true rfl) (by decide) e1 m3) (k_M_row hV G a0 a1) h (fun v5 G4 _ h => ?_)
  refine Y.blk (pc' := 7) (L' := [some (.ref a0), some (.int a1), some (.int a2)]) (st' := [.int a1, .ref a0, .ref v5]) (sg := [(.aload_n 0, 0), (.iload_n 1, 0)]) (lSa_ok dd2) rfl ?_
  obtain ⟨_, o7, e6, m8, h⟩ := gOb_inv h
  refine Y.callI (yC.Vi (b := a0) (As := [.int a1]) (st := [.ref v5]) (r := ("PartlisterModel", T_M, 9)) hV.1 cb_M_base lk_M_54 in_M_base rfl se_M_base (lIa_ok dd3) rfl rfl (Nat.le_of_ble_eq_true rfl) (by decide) e6 m8) (k_M_base zDp hV G4 a0 a1) h (fun v10 G9 _ h => ?_)
  refine Y.blk (pc' := 12) (L' := [some (.ref a0), some (.int a1), some (.int a2)]) (st' := [.int (v10 + a2), .ref v5]) (sg := [(.iload_n 2, 0), (.iadd, 0)]) (lSa_ok dd4) rfl ?_
  obtain ⟨_, o12, e11, m13, h⟩ := gOb_inv h
  refine Y.callA (yC.Vi (b := v5) (As := [.int (v10 + a2)]) (st := []) (r := ("java/util/ArrayList", T_AL, 3)) hV.1 cb_AL_remove lk_M_154 in_AL_remove rfl se_AL_remove (lIa_ok dd5) rfl rfl (Nat.le_of_ble_eq_true rfl) (by decide) e11 m13) (k_AL_remove hV G9 v5 (v10 + a2)) h (fun v15 G14 _ h => ?_)
  refine Y.castA (t0 := 0) (nm := "[I") (lIa_ok dd6) rfl (by decide) ck_M_72 h (fun h => ?_)
  exact Y.aret rfl (by first | exact Or.inl ⟨_, rfl⟩ | exact Or.inr ⟨_, rfl⟩) (lIa_ok dd7) h

def f_M_clear_L25 (K42 : gH → Nat → Int32 → Int32 → gR) : Nat → gH → Nat → Int32 → Int32 → Int32 → gR
  | 0, _, _, _, _, _ => none
  | n + 1, G, x0, x1, x2, x3 =>
    if x3 < 0 then K42 G x0 x1 x2
    else gOb G x0 6 fun o17 => bA (f_M_take G x0 x1 x3) fun v20 G19 => f_M_clear_L25 K42 n G19 x0 x1 x2 (x3 + (-1))
def f_M_clear (G : gH) (a0 : Nat) (a1 : Int32) : gR :=
  gOb G a0 6 fun o2 => bI (f_M_isNoList G a0 a1) fun v5 G4 => gOb G4 a0 6 fun o7 => bI (f_M_start G4 a0 v5 (nI 1)) fun v10 G9 => if v10 = 0 then gOb G9 a0 6 fun o12 => bI (f_M_length G9 a0 a1) fun v15 G14 => f_M_clear_L25 (fun G25 x22 x23 x24 => gOb G25 x22 6 fun o27 => bV (f_M_change G25 x22 x23 (-x24) (-1)) fun G29 => rI x24 G29) zFu G14 a0 a1 v15 (v15 - (nI 1))
  else rI (nI 0) G9
theorem k_M_clear_L25 {l : Launch} {D : va_G} {B : Nat} {O : State → Heap → Prop} (hV : zG l D B O) {o : gO} {Gf : gH} (K42 : gH → Nat → Int32 → Int32 → gR) (hK42 : ∀ (G : gH) (x0 : Nat) (x1 : Int32) (x2 : Int32), K42 G x0 x1 x2 = some (o, Gf) → Y (zVm l D B O) m_M_clear 14 o Gf 42 [some (.ref x0), some (.int x1), some (.int x2), none] [] G) : ∀ (n : Nat) (G : gH) (x0 : Nat) (x1 : Int32) (x2 : Int32) (x3 : Int32), f_M_clear_L25 K42 n G x0 x1 x2 x3 = some (o, Gf) → Y (zVm l D B O) m_M_clear 14 o Gf 25 [some (.ref x0), some (.int x1), some (.int x2), some (.int x3)] [] G := by
  have hdd : lSa m_M_clear 25 [(.iload_n 3, 0)] = true ∧ lIa m_M_clear 26 (.ifCond .lt 16) 3 = true ∧ lSa m_M_clear 29 [(.aload_n 0, 0), (.iload_n 1, 0), (.iload_n 3, 0)] = true ∧ lIa m_M_clear 32 (.invokevirtual 157) 3 = true ∧ lSa m_M_clear 35 [(.pop, 0), (.iinc 3 (-1), -1)] = true ∧ lIa m_M_clear 39 (.goto (-14)) 3 = true := by decide +kernel
  obtain ⟨dd0, dd1, dd2, dd3, dd4, dd5⟩ := hdd
  intro n
  induction n with
  | zero => intro G x0 x1 x2 x3 h; cases h
  | succ n ih =>
    intro G x0 x1 x2 x3 h
    unfold f_M_clear_L25 at h
    refine Y.blk (pc' := 26) (L' := [some (.ref x0), some (.int x1), some (.int x2), some (.int x3)]) (st' := [.int x3]) (sg := [(.iload_n 3, 0)]) (lSa_ok dd0) rfl ?_
    refine Y.if_lt (off := 16) (tgt := 42) (lIa_ok dd1) (by decide) h (fun c21 h => ?_) (fun c21 h => ?_)
    · refine Y.less (L' := [some (.ref x0), some (.int x1), some (.int x2), none]) (zLe_some (zLe_some (zLe_some (zLe_none (zLe_nil))))) ?_
      exact hK42 G x0 x1 x2 h
    · refine Y.blk (pc' := 32) (L' := [some (.ref x0), some (.int x1), some (.int x2), some (.int x3)]) (st' := [.int x3, .int x1, .ref x0]) (sg := [(.aload_n 0, 0), (.iload_n 1, 0), (.iload_n 3, 0)]) (lSa_ok dd2) rfl ?_
      obtain ⟨_, o17, e16, m18, h⟩ := gOb_inv h
      refine Y.callA (yC.Vi (b := x0) (As := [.int x1, .int x3]) (st := []) (r := ("PartlisterModel", T_M, 9)) hV.1 cb_M_take lk_M_157 in_M_take rfl se_M_take (lIa_ok dd3) rfl rfl (Nat.le_of_ble_eq_true rfl) (by decide) e16 m18) (k_M_take hV G x0 x1 x3) h (fun v20 G19 _ h => ?_)
      refine Y.blk (pc' := 39) (L' := [some (.ref x0), some (.int x1), some (.int x2), some (.int (x3 + (-1)))]) (st' := []) (sg := [(.pop, 0), (.iinc 3 (-1), -1)]) (lSa_ok dd4) rfl ?_
      refine Y.goto (off := -14) (tgt := 25) (lIa_ok dd5) (by decide) ?_
      exact ih G19 x0 x1 x2 (x3 + (-1)) h
theorem k_M_clear {l : Launch} {D : va_G} {B : Nat} {O : State → Heap → Prop} (hV : zG l D B O) (G : gH) (a0 : Nat) (a1 : Int32) : gMet (zVm l D B O) m_M_clear 14 [.ref a0, .int a1] G (f_M_clear G a0 a1) := by
  have hdd : lSa m_M_clear 0 [(.aload_n 0, 0), (.aload_n 0, 0), (.iload_n 1, 0)] = true ∧ lIa m_M_clear 3 (.invokevirtual 110) 3 = true ∧ lSa m_M_clear 6 [(.iconst 1, nI 1)] = true ∧ lIa m_M_clear 7 (.invokevirtual 114) 3 = true ∧ lIa m_M_clear 10 (.ifCond .eq 5) 3 = true ∧ lSa m_M_clear 15 [(.aload_n 0, 0), (.iload_n 1, 0)] = true ∧ lIa m_M_clear 17 (.invokevirtual 74) 3 = true ∧ lSa m_M_clear 20 [(.istore_n 2, 0), (.iload_n 2, 0), (.iconst 1, nI 1), (.isub, 0), (.istore_n 3, 0)] = true ∧ lSa m_M_clear 42 [(.aload_n 0, 0), (.iload_n 1, 0), (.iload_n 2, 0), (.ineg, 0), (.iconst (-1), -1)] = true ∧ lIa m_M_clear 47 (.invokevirtual 128) 3 = true ∧ lSa m_M_clear 50 [(.iload_n 2, 0)] = true ∧ lIa m_M_clear 51 (.ireturn) 1 = true ∧ lSa m_M_clear 13 [(.iconst 0, nI 0)] = true ∧ lIa m_M_clear 14 (.ireturn) 1 = true := by decide +kernel
  refine lA8 hdd (fun dd0 dd1 dd2 dd3 dd4 dd5 dd6 dd7 hdd => ?_)
  obtain ⟨dd8, dd9, dd10, dd11, dd12, dd13⟩ := hdd
  refine gMet.of (by decide +kernel) (Nat.le_of_ble_eq_true rfl) [some (.ref a0), some (.int a1), none, none] (fun ls h => zEn_ok (n := 4) h) ?_
  intro o Gf h
  unfold f_M_clear at h
  refine Y.blk (pc' := 3) (L' := [some (.ref a0), some (.int a1), none, none]) (st' := [.int a1, .ref a0, .ref a0]) (sg := [(.aload_n 0, 0), (.aload_n 0, 0), (.iload_n 1, 0)]) (lSa_ok dd0) rfl ?_
  obtain ⟨_, o2, e1, m3, h⟩ := gOb_inv h
  refine Y.callI (yC.Vi (b := a0) (As := [.int a1]) (st := [.ref a0]) (r := ("PartlisterModel", T_M, 9)) hV.1 cb_M_isNoList lk_M_110 in_M_isNoList rfl se_M_isNoList (lIa_ok dd1) rfl rfl (Nat.le_of_ble_eq_true rfl) (by decide) e1 m3) (k_M_isNoList hV G a0 a1) h (fun v5 G4 _ h => ?_)
  refine Y.blk (pc' := 7) (L' := [some (.ref a0), some (.int a1), none, none]) (st' := [.int (nI 1), .int v5, .ref a0]) (sg := [(.iconst 1, nI 1)]) (lSa_ok dd2) rfl ?_
  obtain ⟨_, o7, e6, m8, h⟩ := gOb_inv h
  refine Y.callI (yC.Vi (b := a0) (As := [.int v5, .int (nI 1)]) (st := []) (r := ("PartlisterModel", T_M, 9)) hV.1 cb_M_start lk_M_114 in_M_start rfl se_M_start (lIa_ok dd3) rfl rfl (Nat.le_of_ble_eq_true rfl) (by decide) e6 m8) (k_M_start hV G4 a0 v5 (nI 1)) h (fun v10 G9 _ h => ?_)
  refine Y.if_eq (off := 5) (tgt := 15) (lIa_ok dd4) (by decide) h (fun c30 h => ?_) (fun c30 h => ?_)
  · refine Y.blk (pc' := 17) (L' := [some (.ref a0), some (.int a1), none, none]) (st' := [.int a1, .ref a0]) (sg := [(.aload_n 0, 0), (.iload_n 1, 0)]) (lSa_ok dd5) rfl ?_
    obtain ⟨_, o12, e11, m13, h⟩ := gOb_inv h
    refine Y.callI (yC.Vi (b := a0) (As := [.int a1]) (st := []) (r := ("PartlisterModel", T_M, 9)) hV.1 cb_M_length lk_M_74 in_M_length rfl se_M_length (lIa_ok dd6) rfl rfl (Nat.le_of_ble_eq_true rfl) (by decide) e11 m13) (k_M_length hV G9 a0 a1) h (fun v15 G14 _ h => ?_)
    refine Y.blk (pc' := 25) (L' := [some (.ref a0), some (.int a1), some (.int v15), some (.int (v15 - (nI 1)))]) (st' := []) (sg := [(.istore_n 2, 0), (.iload_n 2, 0), (.iconst 1, nI 1), (.isub, 0), (.istore_n 3, 0)]) (lSa_ok dd7) rfl ?_
    refine k_M_clear_L25 hV _ ?_  zFu G14 a0 a1 v15 (v15 - (nI 1)) h
    · intro G25 x22 x23 x24 h
      refine Y.blk (pc' := 47) (L' := [some (.ref x22), some (.int x23), some (.int x24), none]) (st' := [.int (-1), .int (-x24), .int x23, .ref x22]) (sg := [(.aload_n 0, 0), (.iload_n 1, 0), (.iload_n 2, 0), (.ineg, 0), (.iconst (-1), -1)]) (lSa_ok dd8) rfl ?_
      obtain ⟨_, o27, e26, m28, h⟩ := gOb_inv h
      refine Y.callN (yC.Vi (b := x22) (As := [.int x23, .int (-x24), .int (-1)]) (st := []) (r := ("PartlisterModel", T_M, 9)) hV.1 cb_M_change lk_M_128 in_M_change rfl se_M_change (lIa_ok dd9) rfl rfl (Nat.le_of_ble_eq_true rfl) (by decide) e26 m28) (k_M_change hV G25 x22 x23 (-x24) (-1)) h (fun G29 _ h => ?_)
      refine Y.blk (pc' := 51) (L' := [some (.ref x22), some (.int x23), some (.int x24), none]) (st' := [.int x24]) (sg := [(.iload_n 2, 0)]) (lSa_ok dd10) rfl ?_
      exact Y.iret rfl (lIa_ok dd11) h
  · refine Y.blk (pc' := 14) (L' := [some (.ref a0), some (.int a1), none, none]) (st' := [.int (nI 0)]) (sg := [(.iconst 0, nI 0)]) (lSa_ok dd12) rfl ?_
    exact Y.iret rfl (lIa_ok dd13) h

def f_M_isNoPart (G : gH) (a0 : Nat) (a1 : Int32) : gR :=
  bI (f_M_isIn G a1 (nI 2) (nI 5)) fun v3 G2 => if v3 = 0 then rZ (nI 1) G2
  else gFA G2 a0 6 2 fun v4 => gLdq G2 v4 104 a1 (rZ (nI 1) G2) fun v5 => rZ (nI 0) G2
theorem k_M_isNoPart {l : Launch} {D : va_G} {B : Nat} {O : State → Heap → Prop} (hV : zG l D B O) (G : gH) (a0 : Nat) (a1 : Int32) : gMet (zVm l D B O) m_M_isNoPart 3 [.ref a0, .int a1] G (f_M_isNoPart G a0 a1) := by
  have hdd : lSa m_M_isNoPart 0 [(.iload_n 1, 0), (.iconst 2, nI 2), (.iconst 5, nI 5)] = true ∧ lIa m_M_isNoPart 3 (.invokestatic 40) 3 = true ∧ lIa m_M_isNoPart 6 (.ifCond .eq 12) 3 = true ∧ lSa m_M_isNoPart 18 [(.iconst 1, nI 1)] = true ∧ lIa m_M_isNoPart 19 (.goto 4) 3 = true ∧ lIa m_M_isNoPart 23 (.ireturn) 1 = true ∧ lSa m_M_isNoPart 9 [(.aload_n 0, 0)] = true ∧ lIa m_M_isNoPart 10 (.getfield 18) 3 = true ∧ lSa m_M_isNoPart 13 [(.iload_n 1, 0)] = true ∧ lIa m_M_isNoPart 14 (.aaload) 1 = true ∧ lIa m_M_isNoPart 15 (.ifnonnull 7) 3 = true ∧ lSa m_M_isNoPart 22 [(.iconst 0, nI 0)] = true := by decide +kernel
  refine lA8 hdd (fun dd0 dd1 dd2 dd3 dd4 dd5 dd6 dd7 hdd => ?_)
  obtain ⟨dd8, dd9, dd10, dd11⟩ := hdd
  refine gMet.of (by decide +kernel) (Nat.le_of_ble_eq_true rfl) [some (.ref a0), some (.int a1)] (fun ls h => zEn_ok (n := 2) h) ?_
  intro o Gf h
  unfold f_M_isNoPart at h
  refine Y.blk (pc' := 3) (L' := [some (.ref a0), some (.int a1)]) (st' := [.int (nI 5), .int (nI 2), .int a1]) (sg := [(.iload_n 1, 0), (.iconst 2, nI 2), (.iconst 5, nI 5)]) (lSa_ok dd0) rfl ?_
  refine Y.callI (yC.S (As := [.int a1, .int (nI 2), .int (nI 5)]) (st := []) hV.1 cb_M_isIn lk_M_40 st_M_isIn (lIa_ok dd1) rfl rfl (Nat.le_of_ble_eq_true rfl) (by decide)) (k_M_isIn hV G a1 (nI 2) (nI 5)) h (fun v3 G2 _ h => ?_)
  refine Y.if_eq (off := 12) (tgt := 18) (lIa_ok dd2) (by decide) h (fun c6 h => ?_) (fun c6 h => ?_)
  · refine Y.blk (pc' := 19) (L' := [some (.ref a0), some (.int a1)]) (st' := [.int (nI 1)]) (sg := [(.iconst 1, nI 1)]) (lSa_ok dd3) rfl ?_
    refine Y.goto (off := 4) (tgt := 23) (lIa_ok dd4) (by decide) ?_
    exact Y.zret rfl (lIa_ok dd5) h
  · refine Y.blk (pc' := 10) (L' := [some (.ref a0), some (.int a1)]) (st' := [.ref a0]) (sg := [(.aload_n 0, 0)]) (lSa_ok dd6) rfl ?_
    refine Y.getA fl_M_18 (lIa_ok dd7) h (fun v4 h => ?_)
    refine Y.blk (pc' := 14) (L' := [some (.ref a0), some (.int a1)]) (st' := [.int a1, .ref v4]) (sg := [(.iload_n 1, 0)]) (lSa_ok dd8) rfl ?_
    refine Y.aald (t0 := 4) (lIa_ok dd9) rfl h (fun h => ?_) (fun v5 h => ?_)
    · refine Y.ifnonnull_n (off := 7) (lIa_ok dd10) ?_
      refine Y.blk (pc' := 19) (L' := [some (.ref a0), some (.int a1)]) (st' := [.int (nI 1)]) (sg := [(.iconst 1, nI 1)]) (lSa_ok dd3) rfl ?_
      refine Y.goto (off := 4) (tgt := 23) (lIa_ok dd4) (by decide) ?_
      exact Y.zret rfl (lIa_ok dd5) h
    · refine Y.ifnonnull_r (off := 7) (tgt := 22) (lIa_ok dd10) (by decide) ?_
      refine Y.blk (pc' := 23) (L' := [some (.ref a0), some (.int a1)]) (st' := [.int (nI 0)]) (sg := [(.iconst 0, nI 0)]) (lSa_ok dd11) rfl ?_
      exact Y.zret rfl (lIa_ok dd5) h

def f_M_close (G : gH) (a0 : Nat) (a1 : Int32) : gR :=
  gOb G a0 6 fun o2 => bI (f_M_isNoPart G a0 a1) fun v5 G4 => gOb G4 a0 6 fun o7 => bI (f_M_start G4 a0 v5 (nI 1)) fun v10 G9 => if v10 = 0 then gOb G9 a0 6 fun o12 => bI (f_M_endPart zDp G9 a0 a1) fun v15 G14 => rI v15 G14
  else rI (nI 0) G9
theorem k_M_close {l : Launch} {D : va_G} {B : Nat} {O : State → Heap → Prop} (hV : zG l D B O) (G : gH) (a0 : Nat) (a1 : Int32) : gMet (zVm l D B O) m_M_close 12 [.ref a0, .int a1] G (f_M_close G a0 a1) := by
  have hdd : lSa m_M_close 0 [(.aload_n 0, 0), (.aload_n 0, 0), (.iload_n 1, 0)] = true ∧ lIa m_M_close 3 (.invokevirtual 201) 3 = true ∧ lSa m_M_close 6 [(.iconst 1, nI 1)] = true ∧ lIa m_M_close 7 (.invokevirtual 114) 3 = true ∧ lIa m_M_close 10 (.ifCond .eq 7) 3 = true ∧ lSa m_M_close 17 [(.aload_n 0, 0), (.iload_n 1, 0)] = true ∧ lIa m_M_close 19 (.invokevirtual 86) 3 = true ∧ lIa m_M_close 22 (.ireturn) 1 = true ∧ lSa m_M_close 13 [(.iconst 0, nI 0)] = true ∧ lIa m_M_close 14 (.goto 8) 3 = true := by decide +kernel
  refine lA8 hdd (fun dd0 dd1 dd2 dd3 dd4 dd5 dd6 dd7 hdd => ?_)
  obtain ⟨dd8, dd9⟩ := hdd
  refine gMet.of (by decide +kernel) (Nat.le_of_ble_eq_true rfl) [some (.ref a0), some (.int a1)] (fun ls h => zEn_ok (n := 2) h) ?_
  intro o Gf h
  unfold f_M_close at h
  refine Y.blk (pc' := 3) (L' := [some (.ref a0), some (.int a1)]) (st' := [.int a1, .ref a0, .ref a0]) (sg := [(.aload_n 0, 0), (.aload_n 0, 0), (.iload_n 1, 0)]) (lSa_ok dd0) rfl ?_
  obtain ⟨_, o2, e1, m3, h⟩ := gOb_inv h
  refine Y.callI (yC.Vi (b := a0) (As := [.int a1]) (st := [.ref a0]) (r := ("PartlisterModel", T_M, 9)) hV.1 cb_M_isNoPart lk_M_201 in_M_isNoPart rfl se_M_isNoPart (lIa_ok dd1) rfl rfl (Nat.le_of_ble_eq_true rfl) (by decide) e1 m3) (k_M_isNoPart hV G a0 a1) h (fun v5 G4 _ h => ?_)
  refine Y.blk (pc' := 7) (L' := [some (.ref a0), some (.int a1)]) (st' := [.int (nI 1), .int v5, .ref a0]) (sg := [(.iconst 1, nI 1)]) (lSa_ok dd2) rfl ?_
  obtain ⟨_, o7, e6, m8, h⟩ := gOb_inv h
  refine Y.callI (yC.Vi (b := a0) (As := [.int v5, .int (nI 1)]) (st := []) (r := ("PartlisterModel", T_M, 9)) hV.1 cb_M_start lk_M_114 in_M_start rfl se_M_start (lIa_ok dd3) rfl rfl (Nat.le_of_ble_eq_true rfl) (by decide) e6 m8) (k_M_start hV G4 a0 v5 (nI 1)) h (fun v10 G9 _ h => ?_)
  refine Y.if_eq (off := 7) (tgt := 17) (lIa_ok dd4) (by decide) h (fun c16 h => ?_) (fun c16 h => ?_)
  · refine Y.blk (pc' := 19) (L' := [some (.ref a0), some (.int a1)]) (st' := [.int a1, .ref a0]) (sg := [(.aload_n 0, 0), (.iload_n 1, 0)]) (lSa_ok dd5) rfl ?_
    obtain ⟨_, o12, e11, m13, h⟩ := gOb_inv h
    refine Y.callI (yC.Vi (b := a0) (As := [.int a1]) (st := []) (r := ("PartlisterModel", T_M, 9)) hV.1 cb_M_endPart lk_M_86 in_M_endPart rfl se_M_endPart (lIa_ok dd6) rfl rfl (Nat.le_of_ble_eq_true rfl) (by decide) e11 m13) (k_M_endPart zDp hV G9 a0 a1) h (fun v15 G14 _ h => ?_)
    exact Y.iret rfl (lIa_ok dd7) h
  · refine Y.blk (pc' := 14) (L' := [some (.ref a0), some (.int a1)]) (st' := [.int (nI 0)]) (sg := [(.iconst 0, nI 0)]) (lSa_ok dd8) rfl ?_
    refine Y.goto (off := 8) (tgt := 22) (lIa_ok dd9) (by decide) ?_
    exact Y.iret rfl (lIa_ok dd7) h

def f_M_freeCursor_L2 (K16 : gH → Int32 → gR) (K24 : gH → gR) : Nat → gH → Nat → Int32 → gR
  | 0, _, _, _ => none
  | n + 1, G, x0, x1 =>
    if (nI 3) ≤ x1 then K24 G
    else gFA G x0 6 3 fun v1 => gLdq G v1 105 x1 (K16 G x1) fun v2 => f_M_freeCursor_L2 K16 K24 n G x0 (x1 + (nI 1))
def f_M_freeCursor (G : gH) (a0 : Nat) : gR :=
  f_M_freeCursor_L2 (fun G5 x4 => rI x4 G5) (fun G6 => rI (-1) G6) zFu G a0 (nI 0)
theorem k_M_freeCursor_L2 {l : Launch} {D : va_G} {B : Nat} {O : State → Heap → Prop} (hV : zG l D B O) {o : gO} {Gf : gH} (K16 : gH → Int32 → gR) (K24 : gH → gR) (hK16 : ∀ (G : gH) (x1 : Int32), K16 G x1 = some (o, Gf) → Y (zVm l D B O) m_M_freeCursor 2 o Gf 16 [none, some (.int x1)] [] G) (hK24 : ∀ (G : gH), K24 G  = some (o, Gf) → Y (zVm l D B O) m_M_freeCursor 2 o Gf 24 [none, none] [] G) : ∀ (n : Nat) (G : gH) (x0 : Nat) (x1 : Int32), f_M_freeCursor_L2 K16 K24 n G x0 x1 = some (o, Gf) → Y (zVm l D B O) m_M_freeCursor 2 o Gf 2 [some (.ref x0), some (.int x1)] [] G := by
  have hdd : lSa m_M_freeCursor 2 [(.iload_n 1, 0), (.iconst 3, nI 3)] = true ∧ lIa m_M_freeCursor 4 (.if_icmp .ge 20) 3 = true ∧ lSa m_M_freeCursor 7 [(.aload_n 0, 0)] = true ∧ lIa m_M_freeCursor 8 (.getfield 24) 3 = true ∧ lSa m_M_freeCursor 11 [(.iload_n 1, 0)] = true ∧ lIa m_M_freeCursor 12 (.aaload) 1 = true ∧ lIa m_M_freeCursor 13 (.ifnonnull 5) 3 = true ∧ lSa m_M_freeCursor 18 [(.iinc 1 1, nI 1)] = true ∧ lIa m_M_freeCursor 21 (.goto (-19)) 3 = true := by decide +kernel
  refine lA8 hdd (fun dd0 dd1 dd2 dd3 dd4 dd5 dd6 dd7 hdd => ?_)
  have dd8 := hdd
  intro n
  induction n with
  | zero => intro G x0 x1 h; cases h
  | succ n ih =>
    intro G x0 x1 h
    unfold f_M_freeCursor_L2 at h
    refine Y.blk (pc' := 4) (L' := [some (.ref x0), some (.int x1)]) (st' := [.int (nI 3), .int x1]) (sg := [(.iload_n 1, 0), (.iconst 3, nI 3)]) (lSa_ok dd0) rfl ?_
    refine Y.ic_ge (off := 20) (tgt := 24) (lIa_ok dd1) (by decide) h (fun c3 h => ?_) (fun c3 h => ?_)
    · refine Y.less (L' := [none, none]) (zLe_none (zLe_none (zLe_nil))) ?_
      exact hK24 G  h
    · refine Y.blk (pc' := 8) (L' := [some (.ref x0), some (.int x1)]) (st' := [.ref x0]) (sg := [(.aload_n 0, 0)]) (lSa_ok dd2) rfl ?_
      refine Y.getA fl_M_24 (lIa_ok dd3) h (fun v1 h => ?_)
      refine Y.blk (pc' := 12) (L' := [some (.ref x0), some (.int x1)]) (st' := [.int x1, .ref v1]) (sg := [(.iload_n 1, 0)]) (lSa_ok dd4) rfl ?_
      refine Y.aald (t0 := 5) (lIa_ok dd5) rfl h (fun h => ?_) (fun v2 h => ?_)
      · refine Y.ifnonnull_n (off := 5) (lIa_ok dd6) ?_
        refine Y.less (L' := [none, some (.int x1)]) (zLe_none (zLe_some (zLe_nil))) ?_
        exact hK16 G x1 h
      · refine Y.ifnonnull_r (off := 5) (tgt := 18) (lIa_ok dd6) (by decide) ?_
        refine Y.blk (pc' := 21) (L' := [some (.ref x0), some (.int (x1 + (nI 1)))]) (st' := []) (sg := [(.iinc 1 1, nI 1)]) (lSa_ok dd7) rfl ?_
        refine Y.goto (off := -19) (tgt := 2) (lIa_ok dd8) (by decide) ?_
        exact ih G x0 (x1 + (nI 1)) h
theorem k_M_freeCursor {l : Launch} {D : va_G} {B : Nat} {O : State → Heap → Prop} (hV : zG l D B O) (G : gH) (a0 : Nat) : gMet (zVm l D B O) m_M_freeCursor 2 [.ref a0] G (f_M_freeCursor G a0) := by
  have hdd : lSa m_M_freeCursor 0 [(.iconst 0, nI 0), (.istore_n 1, 0)] = true ∧ lSa m_M_freeCursor 16 [(.iload_n 1, 0)] = true ∧ lIa m_M_freeCursor 17 (.ireturn) 1 = true ∧ lSa m_M_freeCursor 24 [(.iconst (-1), -1)] = true ∧ lIa m_M_freeCursor 25 (.ireturn) 1 = true := by decide +kernel
  obtain ⟨dd0, dd1, dd2, dd3, dd4⟩ := hdd
  refine gMet.of (by decide +kernel) (Nat.le_of_ble_eq_true rfl) [some (.ref a0), none] (fun ls h => zEn_ok (n := 2) h) ?_
  intro o Gf h
  unfold f_M_freeCursor at h
  refine Y.blk (pc' := 2) (L' := [some (.ref a0), some (.int (nI 0))]) (st' := []) (sg := [(.iconst 0, nI 0), (.istore_n 1, 0)]) (lSa_ok dd0) rfl ?_
  refine k_M_freeCursor_L2 hV _ _ ?_ ?_  zFu G a0 (nI 0) h
  · intro G5 x4 h
    refine Y.blk (pc' := 17) (L' := [none, some (.int x4)]) (st' := [.int x4]) (sg := [(.iload_n 1, 0)]) (lSa_ok dd1) rfl ?_
    exact Y.iret rfl (lIa_ok dd2) h
  · intro G6 h
    refine Y.blk (pc' := 25) (L' := [none, none]) (st' := [.int (-1)]) (sg := [(.iconst (-1), -1)]) (lSa_ok dd3) rfl ?_
    exact Y.iret rfl (lIa_ok dd4) h

def f_MC_init (G : gH) (a0 : Nat) : gR :=
  gPut G a0 4 2 (.int (-1)) fun G1 => rV G1
theorem k_MC_init {l : Launch} {D : va_G} {B : Nat} {O : State → Heap → Prop} (hV : zG l D B O) (G : gH) (a0 : Nat) : gMet (zVm l D B O) m_MC_init 2 [.ref a0] G (f_MC_init G a0) := by
  have hdd : lSa m_MC_init 0 [(.aload_n 0, 0)] = true ∧ lIa m_MC_init 1 (.invokespecial 3) 3 = true ∧ lSa m_MC_init 4 [(.aload_n 0, 0), (.iconst (-1), -1)] = true ∧ lIa m_MC_init 6 (.putfield 9) 3 = true ∧ lIa m_MC_init 9 (.return_) 1 = true := by decide +kernel
  obtain ⟨dd0, dd1, dd2, dd3, dd4⟩ := hdd
  refine gMet.of (by decide +kernel) (Nat.le_of_ble_eq_true rfl) [some (.ref a0)] (fun ls h => zEn_ok (n := 1) h) ?_
  intro o Gf h
  unfold f_MC_init at h
  refine Y.blk (pc' := 1) (L' := [some (.ref a0)]) (st' := [.ref a0]) (sg := [(.aload_n 0, 0)]) (lSa_ok dd0) rfl ?_
  refine Y.objInit lk_MC_3 in_OJ_init cw_OJ_init (by decide) rfl (Nat.le_of_ble_eq_true rfl) (lIa_ok dd1) ?_
  refine Y.blk (pc' := 6) (L' := [some (.ref a0)]) (st' := [.int (-1), .ref a0]) (sg := [(.aload_n 0, 0), (.iconst (-1), -1)]) (lSa_ok dd2) rfl ?_
  refine Y.putf fl_MC_9 (by decide) rfl rfl (lIa_ok dd3) h (fun G1 _ _ h => ?_)
  exact Y.vret rfl (lIa_ok dd4) h

def f_M_cursor (G : gH) (a0 : Nat) (a1 : Int32) (a2 : Int32) : gR :=
  gOb G a0 6 fun o2 => bI (f_M_isNoList G a0 a1) fun v5 G4 => gOb G4 a0 6 fun o7 => bI (f_M_start G4 a0 v5 (nI 1)) fun v10 G9 => if v10 = 0 then (gOb G9 a0 6 fun o12 => bI (f_M_length G9 a0 a1) fun v15 G14 => bI (f_M_isIn G14 a2 (nI 0) v15) fun v18 G17 => if v18 = 0 then (gOb G17 a0 6 fun o20 => bI (f_M_refuse G17 a0 (nI 1) (nI 1)) fun v23 G22 => if v23 = 0 then (gOb G22 a0 6 fun o25 => bI (f_M_freeCursor G22 a0) fun v28 G27 => if v28 = (-1) then (gOb G27 a0 6 fun o30 => bI (f_M_refuse G27 a0 (nI 1) (nI 2)) fun v33 G32 => if v33 = 0 then gOb G32 a0 6 fun o35 => bI (f_M_freeCursor G32 a0) fun v38 G37 => gFA G37 a0 6 3 fun v39 => gNewO G37 4 4 [.int 0, .int 0, .int 0, .int 0] fun q40 G41 => bV (f_MC_init G41 q40) fun G43 => gStq G43 v39 105 4 v38 q40 fun G44 => gFA G44 a0 6 3 fun v45 => gLdq G44 v45 105 v38 (none) fun v46 => gPut G44 v46 4 0 (.int a1) fun G47 => gFA G47 a0 6 3 fun v48 => gLdq G47 v48 105 v38 (none) fun v49 => gPut G47 v49 4 1 (.int a2) fun G50 => rI v38 G50
          else rI (nI 0) G32)
        else gOb G27 a0 6 fun o53 => bI (f_M_refuse G27 a0 (nI 0) (nI 2)) fun v56 G55 => if v56 = 0 then gOb G55 a0 6 fun o58 => bI (f_M_freeCursor G55 a0) fun v61 G60 => gFA G60 a0 6 3 fun v62 => gNewO G60 4 4 [.int 0, .int 0, .int 0, .int 0] fun q63 G64 => bV (f_MC_init G64 q63) fun G66 => gStq G66 v62 105 4 v61 q63 fun G67 => gFA G67 a0 6 3 fun v68 => gLdq G67 v68 105 v61 (none) fun v69 => gPut G67 v69 4 0 (.int a1) fun G70 => gFA G70 a0 6 3 fun v71 => gLdq G70 v71 105 v61 (none) fun v72 => gPut G70 v72 4 1 (.int a2) fun G73 => rI v61 G73
          else rI (nI 0) G55)
      else rI (nI 0) G22)
    else gOb G17 a0 6 fun o78 => bI (f_M_refuse G17 a0 (nI 0) (nI 1)) fun v81 G80 => if v81 = 0 then (gOb G80 a0 6 fun o83 => bI (f_M_freeCursor G80 a0) fun v86 G85 => if v86 = (-1) then (gOb G85 a0 6 fun o88 => bI (f_M_refuse G85 a0 (nI 1) (nI 2)) fun v91 G90 => if v91 = 0 then gOb G90 a0 6 fun o93 => bI (f_M_freeCursor G90 a0) fun v96 G95 => gFA G95 a0 6 3 fun v97 => gNewO G95 4 4 [.int 0, .int 0, .int 0, .int 0] fun q98 G99 => bV (f_MC_init G99 q98) fun G101 => gStq G101 v97 105 4 v96 q98 fun G102 => gFA G102 a0 6 3 fun v103 => gLdq G102 v103 105 v96 (none) fun v104 => gPut G102 v104 4 0 (.int a1) fun G105 => gFA G105 a0 6 3 fun v106 => gLdq G105 v106 105 v96 (none) fun v107 => gPut G105 v107 4 1 (.int a2) fun G108 => rI v96 G108
          else rI (nI 0) G90)
        else gOb G85 a0 6 fun o111 => bI (f_M_refuse G85 a0 (nI 0) (nI 2)) fun v114 G113 => if v114 = 0 then gOb G113 a0 6 fun o116 => bI (f_M_freeCursor G113 a0) fun v119 G118 => gFA G118 a0 6 3 fun v120 => gNewO G118 4 4 [.int 0, .int 0, .int 0, .int 0] fun q121 G122 => bV (f_MC_init G122 q121) fun G124 => gStq G124 v120 105 4 v119 q121 fun G125 => gFA G125 a0 6 3 fun v126 => gLdq G125 v126 105 v119 (none) fun v127 => gPut G125 v127 4 0 (.int a1) fun G128 => gFA G128 a0 6 3 fun v129 => gLdq G128 v129 105 v119 (none) fun v130 => gPut G128 v130 4 1 (.int a2) fun G131 => rI v119 G131
          else rI (nI 0) G113)
      else rI (nI 0) G80)
  else rI (nI 0) G9
theorem k_M_cursor {l : Launch} {D : va_G} {B : Nat} {O : State → Heap → Prop} (hV : zG l D B O) (G : gH) (a0 : Nat) (a1 : Int32) (a2 : Int32) : gMet (zVm l D B O) m_M_cursor 6 [.ref a0, .int a1, .int a2] G (f_M_cursor G a0 a1 a2) := by
  have hdd : lSa m_M_cursor 0 [(.aload_n 0, 0), (.aload_n 0, 0), (.iload_n 1, 0)] = true ∧ lIa m_M_cursor 3 (.invokevirtual 110) 3 = true ∧ lSa m_M_cursor 6 [(.iconst 1, nI 1)] = true ∧ lIa m_M_cursor 7 (.invokevirtual 114) 3 = true ∧ lIa m_M_cursor 10 (.ifCond .ne 50) 3 = true ∧ lSa m_M_cursor 13 [(.aload_n 0, 0), (.iload_n 2, 0), (.iconst 0, nI 0), (.aload_n 0, 0), (.iload_n 1, 0)] = true ∧ lIa m_M_cursor 18 (.invokevirtual 74) 3 = true ∧ lIa m_M_cursor 21 (.invokestatic 40) 3 = true ∧ lIa m_M_cursor 24 (.ifCond .ne 7) 3 = true ∧ lSa m_M_cursor 27 [(.iconst 1, nI 1)] = true ∧ lIa m_M_cursor 28 (.goto 4) 3 = true ∧ lSa m_M_cursor 32 [(.iconst 1, nI 1)] = true ∧ lIa m_M_cursor 33 (.invokevirtual 36) 3 = true ∧ lIa m_M_cursor 36 (.ifCond .ne 24) 3 = true ∧ lSa m_M_cursor 39 [(.aload_n 0, 0), (.aload_n 0, 0)] = true ∧ lIa m_M_cursor 41 (.invokevirtual 204) 3 = true ∧ lSa m_M_cursor 44 [(.iconst (-1), -1)] = true ∧ lIa m_M_cursor 45 (.if_icmp .ne 7) 3 = true ∧ lSa m_M_cursor 48 [(.iconst 1, nI 1)] = true ∧ lIa m_M_cursor 49 (.goto 4) 3 = true ∧ lSa m_M_cursor 53 [(.iconst 2, nI 2)] = true ∧ lIa m_M_cursor 54 (.invokevirtual 36) 3 = true ∧ lIa m_M_cursor 57 (.ifCond .eq 5) 3 = true ∧ lSa m_M_cursor 62 [(.aload_n 0, 0)] = true ∧ lIa m_M_cursor 63 (.invokevirtual 204) 3 = true ∧ lSa m_M_cursor 66 [(.istore_n 3, 0), (.aload_n 0, 0)] = true ∧ lIa m_M_cursor 68 (.getfield 24) 3 = true ∧ lSa m_M_cursor 71 [(.iload_n 3, 0)] = true ∧ lIa m_M_cursor 72 (.new 22) 3 = true ∧ lSa m_M_cursor 75 [(.dup, 0)] = true ∧ lIa m_M_cursor 76 (.invokespecial 207) 3 = true ∧ lIa m_M_cursor 79 (.aastore) 1 = true ∧ lSa m_M_cursor 80 [(.aload_n 0, 0)] = true ∧ lIa m_M_cursor 81 (.getfield 24) 3 = true ∧ lSa m_M_cursor 84 [(.iload_n 3, 0)] = true ∧ lIa m_M_cursor 85 (.aaload) 1 = true ∧ lSa m_M_cursor 86 [(.iload_n 1, 0)] = true ∧ lIa m_M_cursor 87 (.putfield 89) 3 = true ∧ lSa m_M_cursor 90 [(.aload_n 0, 0)] = true ∧ lIa m_M_cursor 91 (.getfield 24) 3 = true ∧ lSa m_M_cursor 94 [(.iload_n 3, 0)] = true ∧ lIa m_M_cursor 95 (.aaload) 1 = true ∧ lSa m_M_cursor 96 [(.iload_n 2, 0)] = true ∧ lIa m_M_cursor 97 (.putfield 208) 3 = true ∧ lSa m_M_cursor 100 [(.iload_n 3, 0)] = true ∧ lIa m_M_cursor 101 (.ireturn) 1 = true ∧ lSa m_M_cursor 60 [(.iconst 0, nI 0)] = true ∧ lIa m_M_cursor 61 (.ireturn) 1 = true ∧ lSa m_M_cursor 52 [(.iconst 0, nI 0), (.iconst 2, nI 2)] = true ∧ lSa m_M_cursor 31 [(.iconst 0, nI 0), (.iconst 1, nI 1)] = true := by decide +kernel
  refine lA8 hdd (fun dd0 dd1 dd2 dd3 dd4 dd5 dd6 dd7 hdd => ?_)
  refine lA8 hdd (fun dd8 dd9 dd10 dd11 dd12 dd13 dd14 dd15 hdd => ?_)
  refine lA8 hdd (fun dd16 dd17 dd18 dd19 dd20 dd21 dd22 dd23 hdd => ?_)
  refine lA8 hdd (fun dd24 dd25 dd26 dd27 dd28 dd29 dd30 dd31 hdd => ?_)
  refine lA8 hdd (fun dd32 dd33 dd34 dd35 dd36 dd37 dd38 dd39 hdd => ?_)
  refine lA8 hdd (fun dd40 dd41 dd42 dd43 dd44 dd45 dd46 dd47 hdd => ?_)
  obtain ⟨dd48, dd49⟩ := hdd
  refine gMet.of (by decide +kernel) (Nat.le_of_ble_eq_true rfl) [some (.ref a0), some (.int a1), some (.int a2), none] (fun ls h => zEn_ok (n := 4) h) ?_
  intro o Gf h
  unfold f_M_cursor at h
  refine Y.blk (pc' := 3) (L' := [some (.ref a0), some (.int a1), some (.int a2), none]) (st' := [.int a1, .ref a0, .ref a0]) (sg := [(.aload_n 0, 0), (.aload_n 0, 0), (.iload_n 1, 0)]) (lSa_ok dd0) rfl ?_
  obtain ⟨_, o2, e1, m3, h⟩ := gOb_inv h
  refine Y.callI (yC.Vi (b := a0) (As := [.int a1]) (st := [.ref a0]) (r := ("PartlisterModel", T_M, 9)) hV.1 cb_M_isNoList lk_M_110 in_M_isNoList rfl se_M_isNoList (lIa_ok dd1) rfl rfl (Nat.le_of_ble_eq_true rfl) (by decide) e1 m3) (k_M_isNoList hV G a0 a1) h (fun v5 G4 _ h => ?_)
  refine Y.blk (pc' := 7) (L' := [some (.ref a0), some (.int a1), some (.int a2), none]) (st' := [.int (nI 1), .int v5, .ref a0]) (sg := [(.iconst 1, nI 1)]) (lSa_ok dd2) rfl ?_
  obtain ⟨_, o7, e6, m8, h⟩ := gOb_inv h
  refine Y.callI (yC.Vi (b := a0) (As := [.int v5, .int (nI 1)]) (st := []) (r := ("PartlisterModel", T_M, 9)) hV.1 cb_M_start lk_M_114 in_M_start rfl se_M_start (lIa_ok dd3) rfl rfl (Nat.le_of_ble_eq_true rfl) (by decide) e6 m8) (k_M_start hV G4 a0 v5 (nI 1)) h (fun v10 G9 _ h => ?_)
  refine Y.if_ne (off := 50) (tgt := 60) (lIa_ok dd4) (by decide) h (fun c136 h => ?_) (fun c136 h => ?_)
  · refine Y.blk (pc' := 18) (L' := [some (.ref a0), some (.int a1), some (.int a2), none]) (st' := [.int a1, .ref a0, .int (nI 0), .int a2, .ref a0]) (sg := [(.aload_n 0, 0), (.iload_n 2, 0), (.iconst 0, nI 0), (.aload_n 0, 0), (.iload_n 1, 0)]) (lSa_ok dd5) rfl ?_
    obtain ⟨_, o12, e11, m13, h⟩ := gOb_inv h
    refine Y.callI (yC.Vi (b := a0) (As := [.int a1]) (st := [.int (nI 0), .int a2, .ref a0]) (r := ("PartlisterModel", T_M, 9)) hV.1 cb_M_length lk_M_74 in_M_length rfl se_M_length (lIa_ok dd6) rfl rfl (Nat.le_of_ble_eq_true rfl) (by decide) e11 m13) (k_M_length hV G9 a0 a1) h (fun v15 G14 _ h => ?_)
    refine Y.callI (yC.S (As := [.int a2, .int (nI 0), .int v15]) (st := [.ref a0]) hV.1 cb_M_isIn lk_M_40 st_M_isIn (lIa_ok dd7) rfl rfl (Nat.le_of_ble_eq_true rfl) (by decide)) (k_M_isIn hV G14 a2 (nI 0) v15) h (fun v18 G17 _ h => ?_)
    refine Y.if_ne (off := 7) (tgt := 31) (lIa_ok dd8) (by decide) h (fun c135 h => ?_) (fun c135 h => ?_)
    · refine Y.blk (pc' := 28) (L' := [some (.ref a0), some (.int a1), some (.int a2), none]) (st' := [.int (nI 1), .ref a0]) (sg := [(.iconst 1, nI 1)]) (lSa_ok dd9) rfl ?_
      refine Y.goto (off := 4) (tgt := 32) (lIa_ok dd10) (by decide) ?_
      refine Y.blk (pc' := 33) (L' := [some (.ref a0), some (.int a1), some (.int a2), none]) (st' := [.int (nI 1), .int (nI 1), .ref a0]) (sg := [(.iconst 1, nI 1)]) (lSa_ok dd11) rfl ?_
      obtain ⟨_, o20, e19, m21, h⟩ := gOb_inv h
      refine Y.callI (yC.Vi (b := a0) (As := [.int (nI 1), .int (nI 1)]) (st := []) (r := ("PartlisterModel", T_M, 9)) hV.1 cb_M_refuse lk_M_36 in_M_refuse rfl se_M_refuse (lIa_ok dd12) rfl rfl (Nat.le_of_ble_eq_true rfl) (by decide) e19 m21) (k_M_refuse hV G17 a0 (nI 1) (nI 1)) h (fun v23 G22 _ h => ?_)
      refine Y.if_ne (off := 24) (tgt := 60) (lIa_ok dd13) (by decide) h (fun c76 h => ?_) (fun c76 h => ?_)
      · refine Y.blk (pc' := 41) (L' := [some (.ref a0), some (.int a1), some (.int a2), none]) (st' := [.ref a0, .ref a0]) (sg := [(.aload_n 0, 0), (.aload_n 0, 0)]) (lSa_ok dd14) rfl ?_
        obtain ⟨_, o25, e24, m26, h⟩ := gOb_inv h
        refine Y.callI (yC.Vi (b := a0) (As := []) (st := [.ref a0]) (r := ("PartlisterModel", T_M, 9)) hV.1 cb_M_freeCursor lk_M_204 in_M_freeCursor rfl se_M_freeCursor (lIa_ok dd15) rfl rfl (Nat.le_of_ble_eq_true rfl) (by decide) e24 m26) (k_M_freeCursor hV G22 a0) h (fun v28 G27 _ h => ?_)
        refine Y.blk (pc' := 45) (L' := [some (.ref a0), some (.int a1), some (.int a2), none]) (st' := [.int (-1), .int v28, .ref a0]) (sg := [(.iconst (-1), -1)]) (lSa_ok dd16) rfl ?_
        refine Y.ic_ne (off := 7) (tgt := 52) (lIa_ok dd17) (by decide) h (fun c75 h => ?_) (fun c75 h => ?_)
        · refine Y.blk (pc' := 49) (L' := [some (.ref a0), some (.int a1), some (.int a2), none]) (st' := [.int (nI 1), .ref a0]) (sg := [(.iconst 1, nI 1)]) (lSa_ok dd18) rfl ?_
          refine Y.goto (off := 4) (tgt := 53) (lIa_ok dd19) (by decide) ?_
          refine Y.blk (pc' := 54) (L' := [some (.ref a0), some (.int a1), some (.int a2), none]) (st' := [.int (nI 2), .int (nI 1), .ref a0]) (sg := [(.iconst 2, nI 2)]) (lSa_ok dd20) rfl ?_
          obtain ⟨_, o30, e29, m31, h⟩ := gOb_inv h
          refine Y.callI (yC.Vi (b := a0) (As := [.int (nI 1), .int (nI 2)]) (st := []) (r := ("PartlisterModel", T_M, 9)) hV.1 cb_M_refuse lk_M_36 in_M_refuse rfl se_M_refuse (lIa_ok dd21) rfl rfl (Nat.le_of_ble_eq_true rfl) (by decide) e29 m31) (k_M_refuse hV G27 a0 (nI 1) (nI 2)) h (fun v33 G32 _ h => ?_)
          refine Y.if_eq (off := 5) (tgt := 62) (lIa_ok dd22) (by decide) h (fun c51 h => ?_) (fun c51 h => ?_)
          · refine Y.blk (pc' := 63) (L' := [some (.ref a0), some (.int a1), some (.int a2), none]) (st' := [.ref a0]) (sg := [(.aload_n 0, 0)]) (lSa_ok dd23) rfl ?_
            obtain ⟨_, o35, e34, m36, h⟩ := gOb_inv h
            refine Y.callI (yC.Vi (b := a0) (As := []) (st := []) (r := ("PartlisterModel", T_M, 9)) hV.1 cb_M_freeCursor lk_M_204 in_M_freeCursor rfl se_M_freeCursor (lIa_ok dd24) rfl rfl (Nat.le_of_ble_eq_true rfl) (by decide) e34 m36) (k_M_freeCursor hV G32 a0) h (fun v38 G37 _ h => ?_)
            refine Y.blk (pc' := 68) (L' := [some (.ref a0), some (.int a1), some (.int a2), some (.int v38)]) (st' := [.ref a0]) (sg := [(.istore_n 3, 0), (.aload_n 0, 0)]) (lSa_ok dd25) rfl ?_
            refine Y.getA fl_M_24 (lIa_ok dd26) h (fun v39 h => ?_)
            refine Y.blk (pc' := 72) (L' := [some (.ref a0), some (.int a1), some (.int a2), some (.int v38)]) (st' := [.int v38, .ref v39]) (sg := [(.iload_n 3, 0)]) (lSa_ok dd27) rfl ?_
            refine Y.new nc_M_22 (by decide) bk_MC (lIa_ok dd28) h (fun q40 G41 h => ?_)
            refine Y.blk (pc' := 76) (L' := [some (.ref a0), some (.int a1), some (.int a2), some (.int v38)]) (st' := [.ref q40, .ref q40, .int v38, .ref v39]) (sg := [(.dup, 0)]) (lSa_ok dd29) rfl ?_
            refine Y.callN (yC.IN (b := q40) (As := []) (st := [.ref q40, .int v38, .ref v39]) hV.1 cb_MC_init lk_M_207 in_MC_init rfl rfl (lIa_ok dd30) rfl rfl (Nat.le_of_ble_eq_true rfl) (by decide)) (k_MC_init hV G41 q40) h (fun G43 _ h => ?_)
            refine Y.aast (t0 := 5) (r := ("PartlisterModel$Cursor", T_MC, 4)) (lIa_ok dd31) rfl rfl (by decide) h (fun G44 _ _ h => ?_)
            refine Y.blk (pc' := 81) (L' := [some (.ref a0), some (.int a1), some (.int a2), some (.int v38)]) (st' := [.ref a0]) (sg := [(.aload_n 0, 0)]) (lSa_ok dd32) rfl ?_
            refine Y.getA fl_M_24 (lIa_ok dd33) h (fun v45 h => ?_)
            refine Y.blk (pc' := 85) (L' := [some (.ref a0), some (.int a1), some (.int a2), some (.int v38)]) (st' := [.int v38, .ref v45]) (sg := [(.iload_n 3, 0)]) (lSa_ok dd34) rfl ?_
            refine Y.aald (t0 := 5) (lIa_ok dd35) rfl h (fun h => ?_) (fun v46 h => ?_)
            · refine Y.blk (pc' := 87) (L' := [some (.ref a0), some (.int a1), some (.int a2), some (.int v38)]) (st' := [.int a1, .null]) (sg := [(.iload_n 1, 0)]) (lSa_ok dd36) rfl ?_
              cases h
            · refine Y.blk (pc' := 87) (L' := [some (.ref a0), some (.int a1), some (.int a2), some (.int v38)]) (st' := [.int a1, .ref v46]) (sg := [(.iload_n 1, 0)]) (lSa_ok dd36) rfl ?_
              refine Y.putf fl_M_89 (by decide) rfl rfl (lIa_ok dd37) h (fun G47 _ _ h => ?_)
              refine Y.blk (pc' := 91) (L' := [some (.ref a0), some (.int a1), some (.int a2), some (.int v38)]) (st' := [.ref a0]) (sg := [(.aload_n 0, 0)]) (lSa_ok dd38) rfl ?_
              refine Y.getA fl_M_24 (lIa_ok dd39) h (fun v48 h => ?_)
              refine Y.blk (pc' := 95) (L' := [some (.ref a0), some (.int a1), some (.int a2), some (.int v38)]) (st' := [.int v38, .ref v48]) (sg := [(.iload_n 3, 0)]) (lSa_ok dd40) rfl ?_
              refine Y.aald (t0 := 5) (lIa_ok dd41) rfl h (fun h => ?_) (fun v49 h => ?_)
              · refine Y.blk (pc' := 97) (L' := [some (.ref a0), some (.int a1), some (.int a2), some (.int v38)]) (st' := [.int a2, .null]) (sg := [(.iload_n 2, 0)]) (lSa_ok dd42) rfl ?_
                cases h
              · refine Y.blk (pc' := 97) (L' := [some (.ref a0), some (.int a1), some (.int a2), some (.int v38)]) (st' := [.int a2, .ref v49]) (sg := [(.iload_n 2, 0)]) (lSa_ok dd42) rfl ?_
                refine Y.putf fl_M_208 (by decide) rfl rfl (lIa_ok dd43) h (fun G50 _ _ h => ?_)
                refine Y.blk (pc' := 101) (L' := [some (.ref a0), some (.int a1), some (.int a2), some (.int v38)]) (st' := [.int v38]) (sg := [(.iload_n 3, 0)]) (lSa_ok dd44) rfl ?_
                exact Y.iret rfl (lIa_ok dd45) h
          · refine Y.blk (pc' := 61) (L' := [some (.ref a0), some (.int a1), some (.int a2), none]) (st' := [.int (nI 0)]) (sg := [(.iconst 0, nI 0)]) (lSa_ok dd46) rfl ?_
            exact Y.iret rfl (lIa_ok dd47) h
        · refine Y.blk (pc' := 54) (L' := [some (.ref a0), some (.int a1), some (.int a2), none]) (st' := [.int (nI 2), .int (nI 0), .ref a0]) (sg := [(.iconst 0, nI 0), (.iconst 2, nI 2)]) (lSa_ok dd48) rfl ?_
          obtain ⟨_, o53, e52, m54, h⟩ := gOb_inv h
          refine Y.callI (yC.Vi (b := a0) (As := [.int (nI 0), .int (nI 2)]) (st := []) (r := ("PartlisterModel", T_M, 9)) hV.1 cb_M_refuse lk_M_36 in_M_refuse rfl se_M_refuse (lIa_ok dd21) rfl rfl (Nat.le_of_ble_eq_true rfl) (by decide) e52 m54) (k_M_refuse hV G27 a0 (nI 0) (nI 2)) h (fun v56 G55 _ h => ?_)
          refine Y.if_eq (off := 5) (tgt := 62) (lIa_ok dd22) (by decide) h (fun c74 h => ?_) (fun c74 h => ?_)
          · refine Y.blk (pc' := 63) (L' := [some (.ref a0), some (.int a1), some (.int a2), none]) (st' := [.ref a0]) (sg := [(.aload_n 0, 0)]) (lSa_ok dd23) rfl ?_
            obtain ⟨_, o58, e57, m59, h⟩ := gOb_inv h
            refine Y.callI (yC.Vi (b := a0) (As := []) (st := []) (r := ("PartlisterModel", T_M, 9)) hV.1 cb_M_freeCursor lk_M_204 in_M_freeCursor rfl se_M_freeCursor (lIa_ok dd24) rfl rfl (Nat.le_of_ble_eq_true rfl) (by decide) e57 m59) (k_M_freeCursor hV G55 a0) h (fun v61 G60 _ h => ?_)
            refine Y.blk (pc' := 68) (L' := [some (.ref a0), some (.int a1), some (.int a2), some (.int v61)]) (st' := [.ref a0]) (sg := [(.istore_n 3, 0), (.aload_n 0, 0)]) (lSa_ok dd25) rfl ?_
            refine Y.getA fl_M_24 (lIa_ok dd26) h (fun v62 h => ?_)
            refine Y.blk (pc' := 72) (L' := [some (.ref a0), some (.int a1), some (.int a2), some (.int v61)]) (st' := [.int v61, .ref v62]) (sg := [(.iload_n 3, 0)]) (lSa_ok dd27) rfl ?_
            refine Y.new nc_M_22 (by decide) bk_MC (lIa_ok dd28) h (fun q63 G64 h => ?_)
            refine Y.blk (pc' := 76) (L' := [some (.ref a0), some (.int a1), some (.int a2), some (.int v61)]) (st' := [.ref q63, .ref q63, .int v61, .ref v62]) (sg := [(.dup, 0)]) (lSa_ok dd29) rfl ?_
            refine Y.callN (yC.IN (b := q63) (As := []) (st := [.ref q63, .int v61, .ref v62]) hV.1 cb_MC_init lk_M_207 in_MC_init rfl rfl (lIa_ok dd30) rfl rfl (Nat.le_of_ble_eq_true rfl) (by decide)) (k_MC_init hV G64 q63) h (fun G66 _ h => ?_)
            refine Y.aast (t0 := 5) (r := ("PartlisterModel$Cursor", T_MC, 4)) (lIa_ok dd31) rfl rfl (by decide) h (fun G67 _ _ h => ?_)
            refine Y.blk (pc' := 81) (L' := [some (.ref a0), some (.int a1), some (.int a2), some (.int v61)]) (st' := [.ref a0]) (sg := [(.aload_n 0, 0)]) (lSa_ok dd32) rfl ?_
            refine Y.getA fl_M_24 (lIa_ok dd33) h (fun v68 h => ?_)
            refine Y.blk (pc' := 85) (L' := [some (.ref a0), some (.int a1), some (.int a2), some (.int v61)]) (st' := [.int v61, .ref v68]) (sg := [(.iload_n 3, 0)]) (lSa_ok dd34) rfl ?_
            refine Y.aald (t0 := 5) (lIa_ok dd35) rfl h (fun h => ?_) (fun v69 h => ?_)
            · refine Y.blk (pc' := 87) (L' := [some (.ref a0), some (.int a1), some (.int a2), some (.int v61)]) (st' := [.int a1, .null]) (sg := [(.iload_n 1, 0)]) (lSa_ok dd36) rfl ?_
              cases h
            · refine Y.blk (pc' := 87) (L' := [some (.ref a0), some (.int a1), some (.int a2), some (.int v61)]) (st' := [.int a1, .ref v69]) (sg := [(.iload_n 1, 0)]) (lSa_ok dd36) rfl ?_
              refine Y.putf fl_M_89 (by decide) rfl rfl (lIa_ok dd37) h (fun G70 _ _ h => ?_)
              refine Y.blk (pc' := 91) (L' := [some (.ref a0), some (.int a1), some (.int a2), some (.int v61)]) (st' := [.ref a0]) (sg := [(.aload_n 0, 0)]) (lSa_ok dd38) rfl ?_
              refine Y.getA fl_M_24 (lIa_ok dd39) h (fun v71 h => ?_)
              refine Y.blk (pc' := 95) (L' := [some (.ref a0), some (.int a1), some (.int a2), some (.int v61)]) (st' := [.int v61, .ref v71]) (sg := [(.iload_n 3, 0)]) (lSa_ok dd40) rfl ?_
              refine Y.aald (t0 := 5) (lIa_ok dd41) rfl h (fun h => ?_) (fun v72 h => ?_)
              · refine Y.blk (pc' := 97) (L' := [some (.ref a0), some (.int a1), some (.int a2), some (.int v61)]) (st' := [.int a2, .null]) (sg := [(.iload_n 2, 0)]) (lSa_ok dd42) rfl ?_
                cases h
              · refine Y.blk (pc' := 97) (L' := [some (.ref a0), some (.int a1), some (.int a2), some (.int v61)]) (st' := [.int a2, .ref v72]) (sg := [(.iload_n 2, 0)]) (lSa_ok dd42) rfl ?_
                refine Y.putf fl_M_208 (by decide) rfl rfl (lIa_ok dd43) h (fun G73 _ _ h => ?_)
                refine Y.blk (pc' := 101) (L' := [some (.ref a0), some (.int a1), some (.int a2), some (.int v61)]) (st' := [.int v61]) (sg := [(.iload_n 3, 0)]) (lSa_ok dd44) rfl ?_
                exact Y.iret rfl (lIa_ok dd45) h
          · refine Y.blk (pc' := 61) (L' := [some (.ref a0), some (.int a1), some (.int a2), none]) (st' := [.int (nI 0)]) (sg := [(.iconst 0, nI 0)]) (lSa_ok dd46) rfl ?_
            exact Y.iret rfl (lIa_ok dd47) h
      · refine Y.blk (pc' := 61) (L' := [some (.ref a0), some (.int a1), some (.int a2), none]) (st' := [.int (nI 0)]) (sg := [(.iconst 0, nI 0)]) (lSa_ok dd46) rfl ?_
        exact Y.iret rfl (lIa_ok dd47) h
    · refine Y.blk (pc' := 33) (L' := [some (.ref a0), some (.int a1), some (.int a2), none]) (st' := [.int (nI 1), .int (nI 0), .ref a0]) (sg := [(.iconst 0, nI 0), (.iconst 1, nI 1)]) (lSa_ok dd49) rfl ?_
      obtain ⟨_, o78, e77, m79, h⟩ := gOb_inv h
      refine Y.callI (yC.Vi (b := a0) (As := [.int (nI 0), .int (nI 1)]) (st := []) (r := ("PartlisterModel", T_M, 9)) hV.1 cb_M_refuse lk_M_36 in_M_refuse rfl se_M_refuse (lIa_ok dd12) rfl rfl (Nat.le_of_ble_eq_true rfl) (by decide) e77 m79) (k_M_refuse hV G17 a0 (nI 0) (nI 1)) h (fun v81 G80 _ h => ?_)
      refine Y.if_ne (off := 24) (tgt := 60) (lIa_ok dd13) (by decide) h (fun c134 h => ?_) (fun c134 h => ?_)
      · refine Y.blk (pc' := 41) (L' := [some (.ref a0), some (.int a1), some (.int a2), none]) (st' := [.ref a0, .ref a0]) (sg := [(.aload_n 0, 0), (.aload_n 0, 0)]) (lSa_ok dd14) rfl ?_
        obtain ⟨_, o83, e82, m84, h⟩ := gOb_inv h
        refine Y.callI (yC.Vi (b := a0) (As := []) (st := [.ref a0]) (r := ("PartlisterModel", T_M, 9)) hV.1 cb_M_freeCursor lk_M_204 in_M_freeCursor rfl se_M_freeCursor (lIa_ok dd15) rfl rfl (Nat.le_of_ble_eq_true rfl) (by decide) e82 m84) (k_M_freeCursor hV G80 a0) h (fun v86 G85 _ h => ?_)
        refine Y.blk (pc' := 45) (L' := [some (.ref a0), some (.int a1), some (.int a2), none]) (st' := [.int (-1), .int v86, .ref a0]) (sg := [(.iconst (-1), -1)]) (lSa_ok dd16) rfl ?_
        refine Y.ic_ne (off := 7) (tgt := 52) (lIa_ok dd17) (by decide) h (fun c133 h => ?_) (fun c133 h => ?_)
        · refine Y.blk (pc' := 49) (L' := [some (.ref a0), some (.int a1), some (.int a2), none]) (st' := [.int (nI 1), .ref a0]) (sg := [(.iconst 1, nI 1)]) (lSa_ok dd18) rfl ?_
          refine Y.goto (off := 4) (tgt := 53) (lIa_ok dd19) (by decide) ?_
          refine Y.blk (pc' := 54) (L' := [some (.ref a0), some (.int a1), some (.int a2), none]) (st' := [.int (nI 2), .int (nI 1), .ref a0]) (sg := [(.iconst 2, nI 2)]) (lSa_ok dd20) rfl ?_
          obtain ⟨_, o88, e87, m89, h⟩ := gOb_inv h
          refine Y.callI (yC.Vi (b := a0) (As := [.int (nI 1), .int (nI 2)]) (st := []) (r := ("PartlisterModel", T_M, 9)) hV.1 cb_M_refuse lk_M_36 in_M_refuse rfl se_M_refuse (lIa_ok dd21) rfl rfl (Nat.le_of_ble_eq_true rfl) (by decide) e87 m89) (k_M_refuse hV G85 a0 (nI 1) (nI 2)) h (fun v91 G90 _ h => ?_)
          refine Y.if_eq (off := 5) (tgt := 62) (lIa_ok dd22) (by decide) h (fun c109 h => ?_) (fun c109 h => ?_)
          · refine Y.blk (pc' := 63) (L' := [some (.ref a0), some (.int a1), some (.int a2), none]) (st' := [.ref a0]) (sg := [(.aload_n 0, 0)]) (lSa_ok dd23) rfl ?_
            obtain ⟨_, o93, e92, m94, h⟩ := gOb_inv h
            refine Y.callI (yC.Vi (b := a0) (As := []) (st := []) (r := ("PartlisterModel", T_M, 9)) hV.1 cb_M_freeCursor lk_M_204 in_M_freeCursor rfl se_M_freeCursor (lIa_ok dd24) rfl rfl (Nat.le_of_ble_eq_true rfl) (by decide) e92 m94) (k_M_freeCursor hV G90 a0) h (fun v96 G95 _ h => ?_)
            refine Y.blk (pc' := 68) (L' := [some (.ref a0), some (.int a1), some (.int a2), some (.int v96)]) (st' := [.ref a0]) (sg := [(.istore_n 3, 0), (.aload_n 0, 0)]) (lSa_ok dd25) rfl ?_
            refine Y.getA fl_M_24 (lIa_ok dd26) h (fun v97 h => ?_)
            refine Y.blk (pc' := 72) (L' := [some (.ref a0), some (.int a1), some (.int a2), some (.int v96)]) (st' := [.int v96, .ref v97]) (sg := [(.iload_n 3, 0)]) (lSa_ok dd27) rfl ?_
            refine Y.new nc_M_22 (by decide) bk_MC (lIa_ok dd28) h (fun q98 G99 h => ?_)
            refine Y.blk (pc' := 76) (L' := [some (.ref a0), some (.int a1), some (.int a2), some (.int v96)]) (st' := [.ref q98, .ref q98, .int v96, .ref v97]) (sg := [(.dup, 0)]) (lSa_ok dd29) rfl ?_
            refine Y.callN (yC.IN (b := q98) (As := []) (st := [.ref q98, .int v96, .ref v97]) hV.1 cb_MC_init lk_M_207 in_MC_init rfl rfl (lIa_ok dd30) rfl rfl (Nat.le_of_ble_eq_true rfl) (by decide)) (k_MC_init hV G99 q98) h (fun G101 _ h => ?_)
            refine Y.aast (t0 := 5) (r := ("PartlisterModel$Cursor", T_MC, 4)) (lIa_ok dd31) rfl rfl (by decide) h (fun G102 _ _ h => ?_)
            refine Y.blk (pc' := 81) (L' := [some (.ref a0), some (.int a1), some (.int a2), some (.int v96)]) (st' := [.ref a0]) (sg := [(.aload_n 0, 0)]) (lSa_ok dd32) rfl ?_
            refine Y.getA fl_M_24 (lIa_ok dd33) h (fun v103 h => ?_)
            refine Y.blk (pc' := 85) (L' := [some (.ref a0), some (.int a1), some (.int a2), some (.int v96)]) (st' := [.int v96, .ref v103]) (sg := [(.iload_n 3, 0)]) (lSa_ok dd34) rfl ?_
            refine Y.aald (t0 := 5) (lIa_ok dd35) rfl h (fun h => ?_) (fun v104 h => ?_)
            · refine Y.blk (pc' := 87) (L' := [some (.ref a0), some (.int a1), some (.int a2), some (.int v96)]) (st' := [.int a1, .null]) (sg := [(.iload_n 1, 0)]) (lSa_ok dd36) rfl ?_
              cases h
            · refine Y.blk (pc' := 87) (L' := [some (.ref a0), some (.int a1), some (.int a2), some (.int v96)]) (st' := [.int a1, .ref v104]) (sg := [(.iload_n 1, 0)]) (lSa_ok dd36) rfl ?_
              refine Y.putf fl_M_89 (by decide) rfl rfl (lIa_ok dd37) h (fun G105 _ _ h => ?_)
              refine Y.blk (pc' := 91) (L' := [some (.ref a0), some (.int a1), some (.int a2), some (.int v96)]) (st' := [.ref a0]) (sg := [(.aload_n 0, 0)]) (lSa_ok dd38) rfl ?_
              refine Y.getA fl_M_24 (lIa_ok dd39) h (fun v106 h => ?_)
              refine Y.blk (pc' := 95) (L' := [some (.ref a0), some (.int a1), some (.int a2), some (.int v96)]) (st' := [.int v96, .ref v106]) (sg := [(.iload_n 3, 0)]) (lSa_ok dd40) rfl ?_
              refine Y.aald (t0 := 5) (lIa_ok dd41) rfl h (fun h => ?_) (fun v107 h => ?_)
              · refine Y.blk (pc' := 97) (L' := [some (.ref a0), some (.int a1), some (.int a2), some (.int v96)]) (st' := [.int a2, .null]) (sg := [(.iload_n 2, 0)]) (lSa_ok dd42) rfl ?_
                cases h
              · refine Y.blk (pc' := 97) (L' := [some (.ref a0), some (.int a1), some (.int a2), some (.int v96)]) (st' := [.int a2, .ref v107]) (sg := [(.iload_n 2, 0)]) (lSa_ok dd42) rfl ?_
                refine Y.putf fl_M_208 (by decide) rfl rfl (lIa_ok dd43) h (fun G108 _ _ h => ?_)
                refine Y.blk (pc' := 101) (L' := [some (.ref a0), some (.int a1), some (.int a2), some (.int v96)]) (st' := [.int v96]) (sg := [(.iload_n 3, 0)]) (lSa_ok dd44) rfl ?_
                exact Y.iret rfl (lIa_ok dd45) h
          · refine Y.blk (pc' := 61) (L' := [some (.ref a0), some (.int a1), some (.int a2), none]) (st' := [.int (nI 0)]) (sg := [(.iconst 0, nI 0)]) (lSa_ok dd46) rfl ?_
            exact Y.iret rfl (lIa_ok dd47) h
        · refine Y.blk (pc' := 54) (L' := [some (.ref a0), some (.int a1), some (.int a2), none]) (st' := [.int (nI 2), .int (nI 0), .ref a0]) (sg := [(.iconst 0, nI 0), (.iconst 2, nI 2)]) (lSa_ok dd48) rfl ?_
          obtain ⟨_, o111, e110, m112, h⟩ := gOb_inv h
          refine Y.callI (yC.Vi (b := a0) (As := [.int (nI 0), .int (nI 2)]) (st := []) (r := ("PartlisterModel", T_M, 9)) hV.1 cb_M_refuse lk_M_36 in_M_refuse rfl se_M_refuse (lIa_ok dd21) rfl rfl (Nat.le_of_ble_eq_true rfl) (by decide) e110 m112) (k_M_refuse hV G85 a0 (nI 0) (nI 2)) h (fun v114 G113 _ h => ?_)
          refine Y.if_eq (off := 5) (tgt := 62) (lIa_ok dd22) (by decide) h (fun c132 h => ?_) (fun c132 h => ?_)
          · refine Y.blk (pc' := 63) (L' := [some (.ref a0), some (.int a1), some (.int a2), none]) (st' := [.ref a0]) (sg := [(.aload_n 0, 0)]) (lSa_ok dd23) rfl ?_
            obtain ⟨_, o116, e115, m117, h⟩ := gOb_inv h
            refine Y.callI (yC.Vi (b := a0) (As := []) (st := []) (r := ("PartlisterModel", T_M, 9)) hV.1 cb_M_freeCursor lk_M_204 in_M_freeCursor rfl se_M_freeCursor (lIa_ok dd24) rfl rfl (Nat.le_of_ble_eq_true rfl) (by decide) e115 m117) (k_M_freeCursor hV G113 a0) h (fun v119 G118 _ h => ?_)
            refine Y.blk (pc' := 68) (L' := [some (.ref a0), some (.int a1), some (.int a2), some (.int v119)]) (st' := [.ref a0]) (sg := [(.istore_n 3, 0), (.aload_n 0, 0)]) (lSa_ok dd25) rfl ?_
            refine Y.getA fl_M_24 (lIa_ok dd26) h (fun v120 h => ?_)
            refine Y.blk (pc' := 72) (L' := [some (.ref a0), some (.int a1), some (.int a2), some (.int v119)]) (st' := [.int v119, .ref v120]) (sg := [(.iload_n 3, 0)]) (lSa_ok dd27) rfl ?_
            refine Y.new nc_M_22 (by decide) bk_MC (lIa_ok dd28) h (fun q121 G122 h => ?_)
            refine Y.blk (pc' := 76) (L' := [some (.ref a0), some (.int a1), some (.int a2), some (.int v119)]) (st' := [.ref q121, .ref q121, .int v119, .ref v120]) (sg := [(.dup, 0)]) (lSa_ok dd29) rfl ?_
            refine Y.callN (yC.IN (b := q121) (As := []) (st := [.ref q121, .int v119, .ref v120]) hV.1 cb_MC_init lk_M_207 in_MC_init rfl rfl (lIa_ok dd30) rfl rfl (Nat.le_of_ble_eq_true rfl) (by decide)) (k_MC_init hV G122 q121) h (fun G124 _ h => ?_)
            refine Y.aast (t0 := 5) (r := ("PartlisterModel$Cursor", T_MC, 4)) (lIa_ok dd31) rfl rfl (by decide) h (fun G125 _ _ h => ?_)
            refine Y.blk (pc' := 81) (L' := [some (.ref a0), some (.int a1), some (.int a2), some (.int v119)]) (st' := [.ref a0]) (sg := [(.aload_n 0, 0)]) (lSa_ok dd32) rfl ?_
            refine Y.getA fl_M_24 (lIa_ok dd33) h (fun v126 h => ?_)
            refine Y.blk (pc' := 85) (L' := [some (.ref a0), some (.int a1), some (.int a2), some (.int v119)]) (st' := [.int v119, .ref v126]) (sg := [(.iload_n 3, 0)]) (lSa_ok dd34) rfl ?_
            refine Y.aald (t0 := 5) (lIa_ok dd35) rfl h (fun h => ?_) (fun v127 h => ?_)
            · refine Y.blk (pc' := 87) (L' := [some (.ref a0), some (.int a1), some (.int a2), some (.int v119)]) (st' := [.int a1, .null]) (sg := [(.iload_n 1, 0)]) (lSa_ok dd36) rfl ?_
              cases h
            · refine Y.blk (pc' := 87) (L' := [some (.ref a0), some (.int a1), some (.int a2), some (.int v119)]) (st' := [.int a1, .ref v127]) (sg := [(.iload_n 1, 0)]) (lSa_ok dd36) rfl ?_
              refine Y.putf fl_M_89 (by decide) rfl rfl (lIa_ok dd37) h (fun G128 _ _ h => ?_)
              refine Y.blk (pc' := 91) (L' := [some (.ref a0), some (.int a1), some (.int a2), some (.int v119)]) (st' := [.ref a0]) (sg := [(.aload_n 0, 0)]) (lSa_ok dd38) rfl ?_
              refine Y.getA fl_M_24 (lIa_ok dd39) h (fun v129 h => ?_)
              refine Y.blk (pc' := 95) (L' := [some (.ref a0), some (.int a1), some (.int a2), some (.int v119)]) (st' := [.int v119, .ref v129]) (sg := [(.iload_n 3, 0)]) (lSa_ok dd40) rfl ?_
              refine Y.aald (t0 := 5) (lIa_ok dd41) rfl h (fun h => ?_) (fun v130 h => ?_)
              · refine Y.blk (pc' := 97) (L' := [some (.ref a0), some (.int a1), some (.int a2), some (.int v119)]) (st' := [.int a2, .null]) (sg := [(.iload_n 2, 0)]) (lSa_ok dd42) rfl ?_
                cases h
              · refine Y.blk (pc' := 97) (L' := [some (.ref a0), some (.int a1), some (.int a2), some (.int v119)]) (st' := [.int a2, .ref v130]) (sg := [(.iload_n 2, 0)]) (lSa_ok dd42) rfl ?_
                refine Y.putf fl_M_208 (by decide) rfl rfl (lIa_ok dd43) h (fun G131 _ _ h => ?_)
                refine Y.blk (pc' := 101) (L' := [some (.ref a0), some (.int a1), some (.int a2), some (.int v119)]) (st' := [.int v119]) (sg := [(.iload_n 3, 0)]) (lSa_ok dd44) rfl ?_
                exact Y.iret rfl (lIa_ok dd45) h
          · refine Y.blk (pc' := 61) (L' := [some (.ref a0), some (.int a1), some (.int a2), none]) (st' := [.int (nI 0)]) (sg := [(.iconst 0, nI 0)]) (lSa_ok dd46) rfl ?_
            exact Y.iret rfl (lIa_ok dd47) h
      · refine Y.blk (pc' := 61) (L' := [some (.ref a0), some (.int a1), some (.int a2), none]) (st' := [.int (nI 0)]) (sg := [(.iconst 0, nI 0)]) (lSa_ok dd46) rfl ?_
        exact Y.iret rfl (lIa_ok dd47) h
  · refine Y.blk (pc' := 61) (L' := [some (.ref a0), some (.int a1), some (.int a2), none]) (st' := [.int (nI 0)]) (sg := [(.iconst 0, nI 0)]) (lSa_ok dd46) rfl ?_
    exact Y.iret rfl (lIa_ok dd47) h

def f_M_one (G : gH) (a0 : Int32) : gR :=
  if a0 = 0 then rI (nI 0) G
  else rI (nI 1) G
theorem k_M_one {l : Launch} {D : va_G} {B : Nat} {O : State → Heap → Prop} (hV : zG l D B O) (G : gH) (a0 : Int32) : gMet (zVm l D B O) m_M_one 2 [.int a0] G (f_M_one G a0) := by
  have hdd : lSa m_M_one 0 [(.iload_n 0, 0)] = true ∧ lIa m_M_one 1 (.ifCond .eq 7) 3 = true ∧ lSa m_M_one 8 [(.iconst 0, nI 0)] = true ∧ lIa m_M_one 9 (.ireturn) 1 = true ∧ lSa m_M_one 4 [(.iconst 1, nI 1)] = true ∧ lIa m_M_one 5 (.goto 4) 3 = true := by decide +kernel
  obtain ⟨dd0, dd1, dd2, dd3, dd4, dd5⟩ := hdd
  refine gMet.of (by decide +kernel) (Nat.le_of_ble_eq_true rfl) [some (.int a0)] (fun ls h => zEn_ok (n := 1) h) ?_
  intro o Gf h
  unfold f_M_one at h
  refine Y.blk (pc' := 1) (L' := [some (.int a0)]) (st' := [.int a0]) (sg := [(.iload_n 0, 0)]) (lSa_ok dd0) rfl ?_
  refine Y.if_eq (off := 7) (tgt := 8) (lIa_ok dd1) (by decide) h (fun c1 h => ?_) (fun c1 h => ?_)
  · refine Y.blk (pc' := 9) (L' := [some (.int a0)]) (st' := [.int (nI 0)]) (sg := [(.iconst 0, nI 0)]) (lSa_ok dd2) rfl ?_
    exact Y.iret rfl (lIa_ok dd3) h
  · refine Y.blk (pc' := 5) (L' := [some (.int a0)]) (st' := [.int (nI 1)]) (sg := [(.iconst 1, nI 1)]) (lSa_ok dd4) rfl ?_
    refine Y.goto (off := 4) (tgt := 9) (lIa_ok dd5) (by decide) ?_
    exact Y.iret rfl (lIa_ok dd3) h

def f_M_cursorTold (G : gH) (a0 : Nat) (a1 : Int32) (a2 : Int32) : gR :=
  gFA G a0 6 3 fun v1 => gLdq G v1 105 a1 (if a2 = 0 then rI (nI 0) G
    else rI (-1) G) fun v2 => if a2 = 0 then (gFI G v2 4 3 fun v4 => if v4 = 0 then rI (nI 1) G
      else rI (nI 2) G)
    else if a2 = (nI 1) then gFI G v2 4 0 fun v6 => rI v6 G
      else gFI G v2 4 3 fun v7 => if v7 = 0 then (gNewA G 100 (nI 5) fun q8 G9 => gFI G9 v2 4 1 fun v10 => gSt G9 q8 100 (nI 0) v10 fun G11 => gFI G11 v2 4 1 fun v12 => gSt G11 q8 100 (nI 1) (v12 - (nI 1)) fun G13 => gFI G13 v2 4 1 fun v14 => gFI G13 v2 4 0 fun v15 => gOb G13 a0 6 fun o17 => bI (f_M_length G13 a0 v15) fun v20 G19 => if v20 ≤ v14 then (bI (f_M_one G19 (nI 0)) fun v23 G22 => gSt G22 q8 100 (nI 2) v23 fun G24 => gFI G24 v2 4 1 fun v25 => if v25 ≤ 0 then bI (f_M_one G24 (nI 0)) fun v28 G27 => gSt G27 q8 100 (nI 3) v28 fun G29 => gFI G29 v2 4 2 fun v30 => gSt G29 q8 100 (nI 4) v30 fun G31 => gLd G31 q8 100 (a2 - (nI 2)) fun v32 => rI v32 G31
            else bI (f_M_one G24 (nI 1)) fun v35 G34 => gSt G34 q8 100 (nI 3) v35 fun G36 => gFI G36 v2 4 2 fun v37 => gSt G36 q8 100 (nI 4) v37 fun G38 => gLd G38 q8 100 (a2 - (nI 2)) fun v39 => rI v39 G38)
          else bI (f_M_one G19 (nI 1)) fun v43 G42 => gSt G42 q8 100 (nI 2) v43 fun G44 => gFI G44 v2 4 1 fun v45 => if v45 ≤ 0 then bI (f_M_one G44 (nI 0)) fun v48 G47 => gSt G47 q8 100 (nI 3) v48 fun G49 => gFI G49 v2 4 2 fun v50 => gSt G49 q8 100 (nI 4) v50 fun G51 => gLd G51 q8 100 (a2 - (nI 2)) fun v52 => rI v52 G51
            else bI (f_M_one G44 (nI 1)) fun v55 G54 => gSt G54 q8 100 (nI 3) v55 fun G56 => gFI G56 v2 4 2 fun v57 => gSt G56 q8 100 (nI 4) v57 fun G58 => gLd G58 q8 100 (a2 - (nI 2)) fun v59 => rI v59 G58)
        else rI (-1) G
theorem k_M_cursorTold {l : Launch} {D : va_G} {B : Nat} {O : State → Heap → Prop} (hV : zG l D B O) (G : gH) (a0 : Nat) (a1 : Int32) (a2 : Int32) : gMet (zVm l D B O) m_M_cursorTold 6 [.ref a0, .int a1, .int a2] G (f_M_cursorTold G a0 a1 a2) := by
  have hdd : lSa m_M_cursorTold 0 [(.aload_n 0, 0)] = true ∧ lIa m_M_cursorTold 1 (.getfield 24) 3 = true ∧ lSa m_M_cursorTold 4 [(.iload_n 1, 0)] = true ∧ lIa m_M_cursorTold 5 (.aaload) 1 = true ∧ lSa m_M_cursorTold 6 [(.astore_n 3, 0), (.iload_n 2, 0)] = true ∧ lIa m_M_cursorTold 8 (.ifCond .ne 24) 3 = true ∧ lSa m_M_cursorTold 11 [(.aload_n 3, 0)] = true ∧ lIa m_M_cursorTold 12 (.ifnonnull 7) 3 = true ∧ lSa m_M_cursorTold 15 [(.iconst 0, nI 0)] = true ∧ lIa m_M_cursorTold 16 (.goto 15) 3 = true ∧ lIa m_M_cursorTold 31 (.ireturn) 1 = true ∧ lSa m_M_cursorTold 32 [(.aload_n 3, 0)] = true ∧ lIa m_M_cursorTold 33 (.ifnonnull 5) 3 = true ∧ lSa m_M_cursorTold 36 [(.iconst (-1), -1)] = true ∧ lIa m_M_cursorTold 37 (.ireturn) 1 = true ∧ lSa m_M_cursorTold 19 [(.aload_n 3, 0)] = true ∧ lIa m_M_cursorTold 20 (.getfield 99) 3 = true ∧ lIa m_M_cursorTold 23 (.ifCond .eq 7) 3 = true ∧ lSa m_M_cursorTold 30 [(.iconst 1, nI 1)] = true ∧ lSa m_M_cursorTold 26 [(.iconst 2, nI 2)] = true ∧ lIa m_M_cursorTold 27 (.goto 4) 3 = true ∧ lSa m_M_cursorTold 38 [(.iload_n 2, 0), (.iconst 1, nI 1)] = true ∧ lIa m_M_cursorTold 40 (.if_icmp .ne 8) 3 = true ∧ lSa m_M_cursorTold 43 [(.aload_n 3, 0)] = true ∧ lIa m_M_cursorTold 44 (.getfield 89) 3 = true ∧ lIa m_M_cursorTold 47 (.ireturn) 1 = true ∧ lSa m_M_cursorTold 48 [(.aload_n 3, 0)] = true ∧ lIa m_M_cursorTold 49 (.getfield 99) 3 = true ∧ lIa m_M_cursorTold 52 (.ifCond .eq 5) 3 = true ∧ lSa m_M_cursorTold 57 [(.iconst 5, nI 5)] = true ∧ lSa m_M_cursorTold 60 [(.dup, 0), (.iconst 0, nI 0), (.aload_n 3, 0)] = true ∧ lIa m_M_cursorTold 63 (.getfield 208) 3 = true ∧ lIa m_M_cursorTold 66 (.iastore) 1 = true ∧ lSa m_M_cursorTold 67 [(.dup, 0), (.iconst 1, nI 1), (.aload_n 3, 0)] = true ∧ lIa m_M_cursorTold 70 (.getfield 208) 3 = true ∧ lSa m_M_cursorTold 73 [(.iconst 1, nI 1), (.isub, 0)] = true ∧ lIa m_M_cursorTold 75 (.iastore) 1 = true ∧ lSa m_M_cursorTold 76 [(.dup, 0), (.iconst 2, nI 2), (.aload_n 3, 0)] = true ∧ lIa m_M_cursorTold 79 (.getfield 208) 3 = true ∧ lSa m_M_cursorTold 82 [(.aload_n 0, 0), (.aload_n 3, 0)] = true ∧ lIa m_M_cursorTold 84 (.getfield 89) 3 = true ∧ lIa m_M_cursorTold 87 (.invokevirtual 74) 3 = true ∧ lIa m_M_cursorTold 90 (.if_icmp .ge 7) 3 = true ∧ lSa m_M_cursorTold 97 [(.iconst 0, nI 0)] = true ∧ lIa m_M_cursorTold 98 (.invokestatic 188) 3 = true ∧ lIa m_M_cursorTold 101 (.iastore) 1 = true ∧ lSa m_M_cursorTold 102 [(.dup, 0), (.iconst 3, nI 3), (.aload_n 3, 0)] = true ∧ lIa m_M_cursorTold 105 (.getfield 208) 3 = true ∧ lIa m_M_cursorTold 108 (.ifCond .le 7) 3 = true ∧ lSa m_M_cursorTold 115 [(.iconst 0, nI 0)] = true ∧ lIa m_M_cursorTold 116 (.invokestatic 188) 3 = true ∧ lIa m_M_cursorTold 119 (.iastore) 1 = true ∧ lSa m_M_cursorTold 120 [(.dup, 0), (.iconst 4, nI 4), (.aload_n 3, 0)] = true ∧ lIa m_M_cursorTold 123 (.getfield 220) 3 = true ∧ lIa m_M_cursorTold 126 (.iastore) 1 = true ∧ lSa m_M_cursorTold 127 [(.astore 4, 0), (.aload 4, 0), (.iload_n 2, 0), (.iconst 2, nI 2), (.isub, 0)] = true ∧ lIa m_M_cursorTold 134 (.iaload) 1 = true ∧ lIa m_M_cursorTold 135 (.ireturn) 1 = true ∧ lSa m_M_cursorTold 111 [(.iconst 1, nI 1)] = true ∧ lIa m_M_cursorTold 112 (.goto 4) 3 = true ∧ lSa m_M_cursorTold 93 [(.iconst 1, nI 1)] = true ∧ lIa m_M_cursorTold 94 (.goto 4) 3 = true ∧ lSa m_M_cursorTold 55 [(.iconst (-1), -1)] = true ∧ lIa m_M_cursorTold 56 (.ireturn) 1 = true := by decide +kernel
  refine lA8 hdd (fun dd0 dd1 dd2 dd3 dd4 dd5 dd6 dd7 hdd => ?_)
  refine lA8 hdd (fun dd8 dd9 dd10 dd11 dd12 dd13 dd14 dd15 hdd => ?_)
  refine lA8 hdd (fun dd16 dd17 dd18 dd19 dd20 dd21 dd22 dd23 hdd => ?_)
  refine lA8 hdd (fun dd24 dd25 dd26 dd27 dd28 dd29 dd30 dd31 hdd => ?_)
  refine lA8 hdd (fun dd32 dd33 dd34 dd35 dd36 dd37 dd38 dd39 hdd => ?_)
  refine lA8 hdd (fun dd40 dd41 dd42 dd43 dd44 dd45 dd46 dd47 hdd => ?_)
  refine lA8 hdd (fun dd48 dd49 dd50 dd51 dd52 dd53 dd54 dd55 hdd => ?_)
  obtain ⟨dd56, dd57, dd58, dd59, dd60, dd61, dd62, dd63⟩ := hdd
  refine gMet.of (by decide +kernel) (Nat.le_of_ble_eq_true rfl) [some (.ref a0), some (.int a1), some (.int a2), none, none] (fun ls h => zEn_ok (n := 5) h) ?_
  intro o Gf h
  unfold f_M_cursorTold at h
  refine Y.blk (pc' := 1) (L' := [some (.ref a0), some (.int a1), some (.int a2), none, none]) (st' := [.ref a0]) (sg := [(.aload_n 0, 0)]) (lSa_ok dd0) rfl ?_
  refine Y.getA fl_M_24 (lIa_ok dd1) h (fun v1 h => ?_)
  refine Y.blk (pc' := 5) (L' := [some (.ref a0), some (.int a1), some (.int a2), none, none]) (st' := [.int a1, .ref v1]) (sg := [(.iload_n 1, 0)]) (lSa_ok dd2) rfl ?_
  refine Y.aald (t0 := 5) (lIa_ok dd3) rfl h (fun h => ?_) (fun v2 h => ?_)
  · refine Y.blk (pc' := 8) (L' := [some (.ref a0), some (.int a1), some (.int a2), some (.null), none]) (st' := [.int a2]) (sg := [(.astore_n 3, 0), (.iload_n 2, 0)]) (lSa_ok dd4) rfl ?_
    refine Y.if_ne (off := 24) (tgt := 32) (lIa_ok dd5) (by decide) h (fun c3 h => ?_) (fun c3 h => ?_)
    · refine Y.blk (pc' := 12) (L' := [some (.ref a0), some (.int a1), some (.int a2), some (.null), none]) (st' := [.null]) (sg := [(.aload_n 3, 0)]) (lSa_ok dd6) rfl ?_
      refine Y.ifnonnull_n (off := 7) (lIa_ok dd7) ?_
      refine Y.blk (pc' := 16) (L' := [some (.ref a0), some (.int a1), some (.int a2), some (.null), none]) (st' := [.int (nI 0)]) (sg := [(.iconst 0, nI 0)]) (lSa_ok dd8) rfl ?_
      refine Y.goto (off := 15) (tgt := 31) (lIa_ok dd9) (by decide) ?_
      exact Y.iret rfl (lIa_ok dd10) h
    · refine Y.blk (pc' := 33) (L' := [some (.ref a0), some (.int a1), some (.int a2), some (.null), none]) (st' := [.null]) (sg := [(.aload_n 3, 0)]) (lSa_ok dd11) rfl ?_
      refine Y.ifnonnull_n (off := 5) (lIa_ok dd12) ?_
      refine Y.blk (pc' := 37) (L' := [some (.ref a0), some (.int a1), some (.int a2), some (.null), none]) (st' := [.int (-1)]) (sg := [(.iconst (-1), -1)]) (lSa_ok dd13) rfl ?_
      exact Y.iret rfl (lIa_ok dd14) h
  · refine Y.blk (pc' := 8) (L' := [some (.ref a0), some (.int a1), some (.int a2), some (.ref v2), none]) (st' := [.int a2]) (sg := [(.astore_n 3, 0), (.iload_n 2, 0)]) (lSa_ok dd4) rfl ?_
    refine Y.if_ne (off := 24) (tgt := 32) (lIa_ok dd5) (by decide) h (fun c64 h => ?_) (fun c64 h => ?_)
    · refine Y.blk (pc' := 12) (L' := [some (.ref a0), some (.int a1), some (.int a2), some (.ref v2), none]) (st' := [.ref v2]) (sg := [(.aload_n 3, 0)]) (lSa_ok dd6) rfl ?_
      refine Y.ifnonnull_r (off := 7) (tgt := 19) (lIa_ok dd7) (by decide) ?_
      refine Y.blk (pc' := 20) (L' := [some (.ref a0), some (.int a1), some (.int a2), some (.ref v2), none]) (st' := [.ref v2]) (sg := [(.aload_n 3, 0)]) (lSa_ok dd15) rfl ?_
      refine Y.getI fl_M_99 (lIa_ok dd16) h (fun v4 h => ?_)
      refine Y.if_eq (off := 7) (tgt := 30) (lIa_ok dd17) (by decide) h (fun c5 h => ?_) (fun c5 h => ?_)
      · refine Y.blk (pc' := 31) (L' := [some (.ref a0), some (.int a1), some (.int a2), some (.ref v2), none]) (st' := [.int (nI 1)]) (sg := [(.iconst 1, nI 1)]) (lSa_ok dd18) rfl ?_
        exact Y.iret rfl (lIa_ok dd10) h
      · refine Y.blk (pc' := 27) (L' := [some (.ref a0), some (.int a1), some (.int a2), some (.ref v2), none]) (st' := [.int (nI 2)]) (sg := [(.iconst 2, nI 2)]) (lSa_ok dd19) rfl ?_
        refine Y.goto (off := 4) (tgt := 31) (lIa_ok dd20) (by decide) ?_
        exact Y.iret rfl (lIa_ok dd10) h
    · refine Y.blk (pc' := 33) (L' := [some (.ref a0), some (.int a1), some (.int a2), some (.ref v2), none]) (st' := [.ref v2]) (sg := [(.aload_n 3, 0)]) (lSa_ok dd11) rfl ?_
      refine Y.ifnonnull_r (off := 5) (tgt := 38) (lIa_ok dd12) (by decide) ?_
      refine Y.blk (pc' := 40) (L' := [some (.ref a0), some (.int a1), some (.int a2), some (.ref v2), none]) (st' := [.int (nI 1), .int a2]) (sg := [(.iload_n 2, 0), (.iconst 1, nI 1)]) (lSa_ok dd21) rfl ?_
      refine Y.ic_ne (off := 8) (tgt := 48) (lIa_ok dd22) (by decide) h (fun c63 h => ?_) (fun c63 h => ?_)
      · refine Y.blk (pc' := 44) (L' := [some (.ref a0), some (.int a1), some (.int a2), some (.ref v2), none]) (st' := [.ref v2]) (sg := [(.aload_n 3, 0)]) (lSa_ok dd23) rfl ?_
        refine Y.getI fl_M_89 (lIa_ok dd24) h (fun v6 h => ?_)
        exact Y.iret rfl (lIa_ok dd25) h
      · refine Y.blk (pc' := 49) (L' := [some (.ref a0), some (.int a1), some (.int a2), some (.ref v2), none]) (st' := [.ref v2]) (sg := [(.aload_n 3, 0)]) (lSa_ok dd26) rfl ?_
        refine Y.getI fl_M_99 (lIa_ok dd27) h (fun v7 h => ?_)
        refine Y.if_eq (off := 5) (tgt := 57) (lIa_ok dd28) (by decide) h (fun c62 h => ?_) (fun c62 h => ?_)
        · refine Y.blk (pc' := 58) (L' := [some (.ref a0), some (.int a1), some (.int a2), some (.ref v2), none]) (st' := [.int (nI 5)]) (sg := [(.iconst 5, nI 5)]) (lSa_ok dd29) rfl ?_
          refine Y.newa (at_ := .int) (t0 := 0) ac_i rfl (by decide) rfl (by decide) (by decide +kernel) h (fun q8 G9 h => ?_)
          refine Y.blk (pc' := 63) (L' := [some (.ref a0), some (.int a1), some (.int a2), some (.ref v2), none]) (st' := [.ref v2, .int (nI 0), .ref q8, .ref q8]) (sg := [(.dup, 0), (.iconst 0, nI 0), (.aload_n 3, 0)]) (lSa_ok dd30) rfl ?_
          refine Y.getI fl_M_208 (lIa_ok dd31) h (fun v10 h => ?_)
          refine Y.iast (t0 := 0) (lIa_ok dd32) rfl (by decide) h (fun G11 _ _ h => ?_)
          refine Y.blk (pc' := 70) (L' := [some (.ref a0), some (.int a1), some (.int a2), some (.ref v2), none]) (st' := [.ref v2, .int (nI 1), .ref q8, .ref q8]) (sg := [(.dup, 0), (.iconst 1, nI 1), (.aload_n 3, 0)]) (lSa_ok dd33) rfl ?_
          refine Y.getI fl_M_208 (lIa_ok dd34) h (fun v12 h => ?_)
          refine Y.blk (pc' := 75) (L' := [some (.ref a0), some (.int a1), some (.int a2), some (.ref v2), none]) (st' := [.int (v12 - (nI 1)), .int (nI 1), .ref q8, .ref q8]) (sg := [(.iconst 1, nI 1), (.isub, 0)]) (lSa_ok dd35) rfl ?_
          refine Y.iast (t0 := 0) (lIa_ok dd36) rfl (by decide) h (fun G13 _ _ h => ?_)
          refine Y.blk (pc' := 79) (L' := [some (.ref a0), some (.int a1), some (.int a2), some (.ref v2), none]) (st' := [.ref v2, .int (nI 2), .ref q8, .ref q8]) (sg := [(.dup, 0), (.iconst 2, nI 2), (.aload_n 3, 0)]) (lSa_ok dd37) rfl ?_
          refine Y.getI fl_M_208 (lIa_ok dd38) h (fun v14 h => ?_)
          refine Y.blk (pc' := 84) (L' := [some (.ref a0), some (.int a1), some (.int a2), some (.ref v2), none]) (st' := [.ref v2, .ref a0, .int v14, .int (nI 2), .ref q8, .ref q8]) (sg := [(.aload_n 0, 0), (.aload_n 3, 0)]) (lSa_ok dd39) rfl ?_
          refine Y.getI fl_M_89 (lIa_ok dd40) h (fun v15 h => ?_)
          obtain ⟨_, o17, e16, m18, h⟩ := gOb_inv h
          refine Y.callI (yC.Vi (b := a0) (As := [.int v15]) (st := [.int v14, .int (nI 2), .ref q8, .ref q8]) (r := ("PartlisterModel", T_M, 9)) hV.1 cb_M_length lk_M_74 in_M_length rfl se_M_length (lIa_ok dd41) rfl rfl (Nat.le_of_ble_eq_true rfl) (by decide) e16 m18) (k_M_length hV G13 a0 v15) h (fun v20 G19 _ h => ?_)
          refine Y.ic_ge (off := 7) (tgt := 97) (lIa_ok dd42) (by decide) h (fun c61 h => ?_) (fun c61 h => ?_)
          · refine Y.blk (pc' := 98) (L' := [some (.ref a0), some (.int a1), some (.int a2), some (.ref v2), none]) (st' := [.int (nI 0), .int (nI 2), .ref q8, .ref q8]) (sg := [(.iconst 0, nI 0)]) (lSa_ok dd43) rfl ?_
            refine Y.callI (yC.S (As := [.int (nI 0)]) (st := [.int (nI 2), .ref q8, .ref q8]) hV.1 cb_M_one lk_M_188 st_M_one (lIa_ok dd44) rfl rfl (Nat.le_of_ble_eq_true rfl) (by decide)) (k_M_one hV G19 (nI 0)) h (fun v23 G22 _ h => ?_)
            refine Y.iast (t0 := 0) (lIa_ok dd45) rfl (by decide) h (fun G24 _ _ h => ?_)
            refine Y.blk (pc' := 105) (L' := [some (.ref a0), some (.int a1), some (.int a2), some (.ref v2), none]) (st' := [.ref v2, .int (nI 3), .ref q8, .ref q8]) (sg := [(.dup, 0), (.iconst 3, nI 3), (.aload_n 3, 0)]) (lSa_ok dd46) rfl ?_
            refine Y.getI fl_M_208 (lIa_ok dd47) h (fun v25 h => ?_)
            refine Y.if_le (off := 7) (tgt := 115) (lIa_ok dd48) (by decide) h (fun c40 h => ?_) (fun c40 h => ?_)
            · refine Y.blk (pc' := 116) (L' := [some (.ref a0), some (.int a1), some (.int a2), some (.ref v2), none]) (st' := [.int (nI 0), .int (nI 3), .ref q8, .ref q8]) (sg := [(.iconst 0, nI 0)]) (lSa_ok dd49) rfl ?_
              refine Y.callI (yC.S (As := [.int (nI 0)]) (st := [.int (nI 3), .ref q8, .ref q8]) hV.1 cb_M_one lk_M_188 st_M_one (lIa_ok dd50) rfl rfl (Nat.le_of_ble_eq_true rfl) (by decide)) (k_M_one hV G24 (nI 0)) h (fun v28 G27 _ h => ?_)
              refine Y.iast (t0 := 0) (lIa_ok dd51) rfl (by decide) h (fun G29 _ _ h => ?_)
              refine Y.blk (pc' := 123) (L' := [some (.ref a0), some (.int a1), some (.int a2), some (.ref v2), none]) (st' := [.ref v2, .int (nI 4), .ref q8, .ref q8]) (sg := [(.dup, 0), (.iconst 4, nI 4), (.aload_n 3, 0)]) (lSa_ok dd52) rfl ?_
              refine Y.getI fl_M_220 (lIa_ok dd53) h (fun v30 h => ?_)
              refine Y.iast (t0 := 0) (lIa_ok dd54) rfl (by decide) h (fun G31 _ _ h => ?_)
              refine Y.blk (pc' := 134) (L' := [some (.ref a0), some (.int a1), some (.int a2), some (.ref v2), some (.ref q8)]) (st' := [.int (a2 - (nI 2)), .ref q8]) (sg := [(.astore 4, 0), (.aload 4, 0), (.iload_n 2, 0), (.iconst 2, nI 2), (.isub, 0)]) (lSa_ok dd55) rfl ?_
              refine Y.iald (t0 := 0) (lIa_ok dd56) rfl h (fun v32 h => ?_)
              exact Y.iret rfl (lIa_ok dd57) h
            · refine Y.blk (pc' := 112) (L' := [some (.ref a0), some (.int a1), some (.int a2), some (.ref v2), none]) (st' := [.int (nI 1), .int (nI 3), .ref q8, .ref q8]) (sg := [(.iconst 1, nI 1)]) (lSa_ok dd58) rfl ?_
              refine Y.goto (off := 4) (tgt := 116) (lIa_ok dd59) (by decide) ?_
              refine Y.callI (yC.S (As := [.int (nI 1)]) (st := [.int (nI 3), .ref q8, .ref q8]) hV.1 cb_M_one lk_M_188 st_M_one (lIa_ok dd50) rfl rfl (Nat.le_of_ble_eq_true rfl) (by decide)) (k_M_one hV G24 (nI 1)) h (fun v35 G34 _ h => ?_)
              refine Y.iast (t0 := 0) (lIa_ok dd51) rfl (by decide) h (fun G36 _ _ h => ?_)
              refine Y.blk (pc' := 123) (L' := [some (.ref a0), some (.int a1), some (.int a2), some (.ref v2), none]) (st' := [.ref v2, .int (nI 4), .ref q8, .ref q8]) (sg := [(.dup, 0), (.iconst 4, nI 4), (.aload_n 3, 0)]) (lSa_ok dd52) rfl ?_
              refine Y.getI fl_M_220 (lIa_ok dd53) h (fun v37 h => ?_)
              refine Y.iast (t0 := 0) (lIa_ok dd54) rfl (by decide) h (fun G38 _ _ h => ?_)
              refine Y.blk (pc' := 134) (L' := [some (.ref a0), some (.int a1), some (.int a2), some (.ref v2), some (.ref q8)]) (st' := [.int (a2 - (nI 2)), .ref q8]) (sg := [(.astore 4, 0), (.aload 4, 0), (.iload_n 2, 0), (.iconst 2, nI 2), (.isub, 0)]) (lSa_ok dd55) rfl ?_
              refine Y.iald (t0 := 0) (lIa_ok dd56) rfl h (fun v39 h => ?_)
              exact Y.iret rfl (lIa_ok dd57) h
          · refine Y.blk (pc' := 94) (L' := [some (.ref a0), some (.int a1), some (.int a2), some (.ref v2), none]) (st' := [.int (nI 1), .int (nI 2), .ref q8, .ref q8]) (sg := [(.iconst 1, nI 1)]) (lSa_ok dd60) rfl ?_
            refine Y.goto (off := 4) (tgt := 98) (lIa_ok dd61) (by decide) ?_
            refine Y.callI (yC.S (As := [.int (nI 1)]) (st := [.int (nI 2), .ref q8, .ref q8]) hV.1 cb_M_one lk_M_188 st_M_one (lIa_ok dd44) rfl rfl (Nat.le_of_ble_eq_true rfl) (by decide)) (k_M_one hV G19 (nI 1)) h (fun v43 G42 _ h => ?_)
            refine Y.iast (t0 := 0) (lIa_ok dd45) rfl (by decide) h (fun G44 _ _ h => ?_)
            refine Y.blk (pc' := 105) (L' := [some (.ref a0), some (.int a1), some (.int a2), some (.ref v2), none]) (st' := [.ref v2, .int (nI 3), .ref q8, .ref q8]) (sg := [(.dup, 0), (.iconst 3, nI 3), (.aload_n 3, 0)]) (lSa_ok dd46) rfl ?_
            refine Y.getI fl_M_208 (lIa_ok dd47) h (fun v45 h => ?_)
            refine Y.if_le (off := 7) (tgt := 115) (lIa_ok dd48) (by decide) h (fun c60 h => ?_) (fun c60 h => ?_)
            · refine Y.blk (pc' := 116) (L' := [some (.ref a0), some (.int a1), some (.int a2), some (.ref v2), none]) (st' := [.int (nI 0), .int (nI 3), .ref q8, .ref q8]) (sg := [(.iconst 0, nI 0)]) (lSa_ok dd49) rfl ?_
              refine Y.callI (yC.S (As := [.int (nI 0)]) (st := [.int (nI 3), .ref q8, .ref q8]) hV.1 cb_M_one lk_M_188 st_M_one (lIa_ok dd50) rfl rfl (Nat.le_of_ble_eq_true rfl) (by decide)) (k_M_one hV G44 (nI 0)) h (fun v48 G47 _ h => ?_)
              refine Y.iast (t0 := 0) (lIa_ok dd51) rfl (by decide) h (fun G49 _ _ h => ?_)
              refine Y.blk (pc' := 123) (L' := [some (.ref a0), some (.int a1), some (.int a2), some (.ref v2), none]) (st' := [.ref v2, .int (nI 4), .ref q8, .ref q8]) (sg := [(.dup, 0), (.iconst 4, nI 4), (.aload_n 3, 0)]) (lSa_ok dd52) rfl ?_
              refine Y.getI fl_M_220 (lIa_ok dd53) h (fun v50 h => ?_)
              refine Y.iast (t0 := 0) (lIa_ok dd54) rfl (by decide) h (fun G51 _ _ h => ?_)
              refine Y.blk (pc' := 134) (L' := [some (.ref a0), some (.int a1), some (.int a2), some (.ref v2), some (.ref q8)]) (st' := [.int (a2 - (nI 2)), .ref q8]) (sg := [(.astore 4, 0), (.aload 4, 0), (.iload_n 2, 0), (.iconst 2, nI 2), (.isub, 0)]) (lSa_ok dd55) rfl ?_
              refine Y.iald (t0 := 0) (lIa_ok dd56) rfl h (fun v52 h => ?_)
              exact Y.iret rfl (lIa_ok dd57) h
            · refine Y.blk (pc' := 112) (L' := [some (.ref a0), some (.int a1), some (.int a2), some (.ref v2), none]) (st' := [.int (nI 1), .int (nI 3), .ref q8, .ref q8]) (sg := [(.iconst 1, nI 1)]) (lSa_ok dd58) rfl ?_
              refine Y.goto (off := 4) (tgt := 116) (lIa_ok dd59) (by decide) ?_
              refine Y.callI (yC.S (As := [.int (nI 1)]) (st := [.int (nI 3), .ref q8, .ref q8]) hV.1 cb_M_one lk_M_188 st_M_one (lIa_ok dd50) rfl rfl (Nat.le_of_ble_eq_true rfl) (by decide)) (k_M_one hV G44 (nI 1)) h (fun v55 G54 _ h => ?_)
              refine Y.iast (t0 := 0) (lIa_ok dd51) rfl (by decide) h (fun G56 _ _ h => ?_)
              refine Y.blk (pc' := 123) (L' := [some (.ref a0), some (.int a1), some (.int a2), some (.ref v2), none]) (st' := [.ref v2, .int (nI 4), .ref q8, .ref q8]) (sg := [(.dup, 0), (.iconst 4, nI 4), (.aload_n 3, 0)]) (lSa_ok dd52) rfl ?_
              refine Y.getI fl_M_220 (lIa_ok dd53) h (fun v57 h => ?_)
              refine Y.iast (t0 := 0) (lIa_ok dd54) rfl (by decide) h (fun G58 _ _ h => ?_)
              refine Y.blk (pc' := 134) (L' := [some (.ref a0), some (.int a1), some (.int a2), some (.ref v2), some (.ref q8)]) (st' := [.int (a2 - (nI 2)), .ref q8]) (sg := [(.astore 4, 0), (.aload 4, 0), (.iload_n 2, 0), (.iconst 2, nI 2), (.isub, 0)]) (lSa_ok dd55) rfl ?_
              refine Y.iald (t0 := 0) (lIa_ok dd56) rfl h (fun v59 h => ?_)
              exact Y.iret rfl (lIa_ok dd57) h
        · refine Y.blk (pc' := 56) (L' := [some (.ref a0), some (.int a1), some (.int a2), some (.ref v2), none]) (st' := [.int (-1)]) (sg := [(.iconst (-1), -1)]) (lSa_ok dd62) rfl ?_
          exact Y.iret rfl (lIa_ok dd63) h
end
section
def f_M_extremeOf_L5 (K59 : gH → Int32 → gR) : Nat → gH → Nat → Int32 → Int32 → Int32 → Int32 → gR
  | 0, _, _, _, _, _, _ => none
  | n + 1, G, x0, x1, x2, x3, x4 =>
    gOb G x0 6 fun o2 => bI (f_M_length G x0 x1) fun v5 G4 => if v5 ≤ x4 then K59 G4 x3
    else gOb G4 x0 6 fun o7 => bA (f_M_at G4 x0 x1 x4) fun v10 G9 => gLd G9 v10 100 (nI 0) fun v11 => if x3 = (-1) then f_M_extremeOf_L5 K59 n G9 x0 x1 x2 v11 (x4 + (nI 1))
      else if x2 = 0 then (if v11 ≤ x3 then f_M_extremeOf_L5 K59 n G9 x0 x1 x2 x3 (x4 + (nI 1))
          else f_M_extremeOf_L5 K59 n G9 x0 x1 x2 v11 (x4 + (nI 1)))
        else if x3 ≤ v11 then f_M_extremeOf_L5 K59 n G9 x0 x1 x2 x3 (x4 + (nI 1))
          else f_M_extremeOf_L5 K59 n G9 x0 x1 x2 v11 (x4 + (nI 1))
def f_M_extremeOf (G : gH) (a0 : Nat) (a1 : Int32) (a2 : Int32) : gR :=
  f_M_extremeOf_L5 (fun G18 x17 => rI x17 G18) zFu G a0 a1 a2 (-1) (nI 0)
theorem k_M_extremeOf_L5 {l : Launch} {D : va_G} {B : Nat} {O : State → Heap → Prop} (hV : zG l D B O) {o : gO} {Gf : gH} (K59 : gH → Int32 → gR) (hK59 : ∀ (G : gH) (x3 : Int32), K59 G x3 = some (o, Gf) → Y (zVm l D B O) m_M_extremeOf 13 o Gf 59 [none, none, none, some (.int x3), none, none] [] G) : ∀ (n : Nat) (G : gH) (x0 : Nat) (x1 : Int32) (x2 : Int32) (x3 : Int32) (x4 : Int32), f_M_extremeOf_L5 K59 n G x0 x1 x2 x3 x4 = some (o, Gf) → Y (zVm l D B O) m_M_extremeOf 13 o Gf 5 [some (.ref x0), some (.int x1), some (.int x2), some (.int x3), some (.int x4), none] [] G := by
  have hdd : lSa m_M_extremeOf 5 [(.iload 4, 0), (.aload_n 0, 0), (.iload_n 1, 0)] = true ∧ lIa m_M_extremeOf 9 (.invokevirtual 74) 3 = true ∧ lIa m_M_extremeOf 12 (.if_icmp .ge 47) 3 = true ∧ lSa m_M_extremeOf 15 [(.aload_n 0, 0), (.iload_n 1, 0), (.iload 4, 0)] = true ∧ lIa m_M_extremeOf 19 (.invokevirtual 132) 3 = true ∧ lSa m_M_extremeOf 22 [(.iconst 0, nI 0)] = true ∧ lIa m_M_extremeOf 23 (.iaload) 1 = true ∧ lSa m_M_extremeOf 24 [(.istore 5, 0), (.iload_n 3, 0), (.iconst (-1), -1)] = true ∧ lIa m_M_extremeOf 28 (.if_icmp .eq 22) 3 = true ∧ lSa m_M_extremeOf 50 [(.iload 5, 0), (.istore_n 3, 0), (.iinc 4 1, nI 1)] = true ∧ lIa m_M_extremeOf 56 (.goto (-51)) 3 = true ∧ lSa m_M_extremeOf 31 [(.iload_n 2, 0)] = true ∧ lIa m_M_extremeOf 32 (.ifCond .eq 12) 3 = true ∧ lSa m_M_extremeOf 44 [(.iload 5, 0), (.iload_n 3, 0)] = true ∧ lIa m_M_extremeOf 47 (.if_icmp .le 6) 3 = true ∧ lSa m_M_extremeOf 53 [(.iinc 4 1, nI 1)] = true ∧ lSa m_M_extremeOf 35 [(.iload 5, 0), (.iload_n 3, 0)] = true ∧ lIa m_M_extremeOf 38 (.if_icmp .ge 15) 3 = true ∧ lIa m_M_extremeOf 41 (.goto 9) 3 = true := by decide +kernel
  refine lA8 hdd (fun dd0 dd1 dd2 dd3 dd4 dd5 dd6 dd7 hdd => ?_)
  refine lA8 hdd (fun dd8 dd9 dd10 dd11 dd12 dd13 dd14 dd15 hdd => ?_)
  obtain ⟨dd16, dd17, dd18⟩ := hdd
  intro n
  induction n with
  | zero => intro G x0 x1 x2 x3 x4 h; cases h
  | succ n ih =>
    intro G x0 x1 x2 x3 x4 h
    unfold f_M_extremeOf_L5 at h
    refine Y.blk (pc' := 9) (L' := [some (.ref x0), some (.int x1), some (.int x2), some (.int x3), some (.int x4), none]) (st' := [.int x1, .ref x0, .int x4]) (sg := [(.iload 4, 0), (.aload_n 0, 0), (.iload_n 1, 0)]) (lSa_ok dd0) rfl ?_
    obtain ⟨_, o2, e1, m3, h⟩ := gOb_inv h
    refine Y.callI (yC.Vi (b := x0) (As := [.int x1]) (st := [.int x4]) (r := ("PartlisterModel", T_M, 9)) hV.1 cb_M_length lk_M_74 in_M_length rfl se_M_length (lIa_ok dd1) rfl rfl (Nat.le_of_ble_eq_true rfl) (by decide) e1 m3) (k_M_length hV G x0 x1) h (fun v5 G4 _ h => ?_)
    refine Y.ic_ge (off := 47) (tgt := 59) (lIa_ok dd2) (by decide) h (fun c16 h => ?_) (fun c16 h => ?_)
    · refine Y.less (L' := [none, none, none, some (.int x3), none, none]) (zLe_none (zLe_none (zLe_none (zLe_some (zLe_none (zLe_some (zLe_nil))))))) ?_
      exact hK59 G4 x3 h
    · refine Y.blk (pc' := 19) (L' := [some (.ref x0), some (.int x1), some (.int x2), some (.int x3), some (.int x4), none]) (st' := [.int x4, .int x1, .ref x0]) (sg := [(.aload_n 0, 0), (.iload_n 1, 0), (.iload 4, 0)]) (lSa_ok dd3) rfl ?_
      obtain ⟨_, o7, e6, m8, h⟩ := gOb_inv h
      refine Y.callA (yC.Vi (b := x0) (As := [.int x1, .int x4]) (st := []) (r := ("PartlisterModel", T_M, 9)) hV.1 cb_M_at lk_M_132 in_M_at rfl se_M_at (lIa_ok dd4) rfl rfl (Nat.le_of_ble_eq_true rfl) (by decide) e6 m8) (k_M_at hV G4 x0 x1 x4) h (fun v10 G9 _ h => ?_)
      refine Y.blk (pc' := 23) (L' := [some (.ref x0), some (.int x1), some (.int x2), some (.int x3), some (.int x4), none]) (st' := [.int (nI 0), .ref v10]) (sg := [(.iconst 0, nI 0)]) (lSa_ok dd5) rfl ?_
      refine Y.iald (t0 := 0) (lIa_ok dd6) rfl h (fun v11 h => ?_)
      refine Y.blk (pc' := 28) (L' := [some (.ref x0), some (.int x1), some (.int x2), some (.int x3), some (.int x4), some (.int v11)]) (st' := [.int (-1), .int x3]) (sg := [(.istore 5, 0), (.iload_n 3, 0), (.iconst (-1), -1)]) (lSa_ok dd7) rfl ?_
      refine Y.ic_eq (off := 22) (tgt := 50) (lIa_ok dd8) (by decide) h (fun c15 h => ?_) (fun c15 h => ?_)
      · refine Y.blk (pc' := 56) (L' := [some (.ref x0), some (.int x1), some (.int x2), some (.int v11), some (.int (x4 + (nI 1))), some (.int v11)]) (st' := []) (sg := [(.iload 5, 0), (.istore_n 3, 0), (.iinc 4 1, nI 1)]) (lSa_ok dd9) rfl ?_
        refine Y.goto (off := -51) (tgt := 5) (lIa_ok dd10) (by decide) ?_
        refine Y.less (L' := [some (.ref x0), some (.int x1), some (.int x2), some (.int v11), some (.int (x4 + (nI 1))), none]) (zLe_some (zLe_some (zLe_some (zLe_some (zLe_some (zLe_none (zLe_nil))))))) ?_
        exact ih G9 x0 x1 x2 v11 (x4 + (nI 1)) h
      · refine Y.blk (pc' := 32) (L' := [some (.ref x0), some (.int x1), some (.int x2), some (.int x3), some (.int x4), some (.int v11)]) (st' := [.int x2]) (sg := [(.iload_n 2, 0)]) (lSa_ok dd11) rfl ?_
        refine Y.if_eq (off := 12) (tgt := 44) (lIa_ok dd12) (by decide) h (fun c14 h => ?_) (fun c14 h => ?_)
        · refine Y.blk (pc' := 47) (L' := [some (.ref x0), some (.int x1), some (.int x2), some (.int x3), some (.int x4), some (.int v11)]) (st' := [.int x3, .int v11]) (sg := [(.iload 5, 0), (.iload_n 3, 0)]) (lSa_ok dd13) rfl ?_
          refine Y.ic_le (off := 6) (tgt := 53) (lIa_ok dd14) (by decide) h (fun c12 h => ?_) (fun c12 h => ?_)
          · refine Y.blk (pc' := 56) (L' := [some (.ref x0), some (.int x1), some (.int x2), some (.int x3), some (.int (x4 + (nI 1))), some (.int v11)]) (st' := []) (sg := [(.iinc 4 1, nI 1)]) (lSa_ok dd15) rfl ?_
            refine Y.goto (off := -51) (tgt := 5) (lIa_ok dd10) (by decide) ?_
            refine Y.less (L' := [some (.ref x0), some (.int x1), some (.int x2), some (.int x3), some (.int (x4 + (nI 1))), none]) (zLe_some (zLe_some (zLe_some (zLe_some (zLe_some (zLe_none (zLe_nil))))))) ?_
            exact ih G9 x0 x1 x2 x3 (x4 + (nI 1)) h
          · refine Y.blk (pc' := 56) (L' := [some (.ref x0), some (.int x1), some (.int x2), some (.int v11), some (.int (x4 + (nI 1))), some (.int v11)]) (st' := []) (sg := [(.iload 5, 0), (.istore_n 3, 0), (.iinc 4 1, nI 1)]) (lSa_ok dd9) rfl ?_
            refine Y.goto (off := -51) (tgt := 5) (lIa_ok dd10) (by decide) ?_
            refine Y.less (L' := [some (.ref x0), some (.int x1), some (.int x2), some (.int v11), some (.int (x4 + (nI 1))), none]) (zLe_some (zLe_some (zLe_some (zLe_some (zLe_some (zLe_none (zLe_nil))))))) ?_
            exact ih G9 x0 x1 x2 v11 (x4 + (nI 1)) h
        · refine Y.blk (pc' := 38) (L' := [some (.ref x0), some (.int x1), some (.int x2), some (.int x3), some (.int x4), some (.int v11)]) (st' := [.int x3, .int v11]) (sg := [(.iload 5, 0), (.iload_n 3, 0)]) (lSa_ok dd16) rfl ?_
          refine Y.ic_ge (off := 15) (tgt := 53) (lIa_ok dd17) (by decide) h (fun c13 h => ?_) (fun c13 h => ?_)
          · refine Y.blk (pc' := 56) (L' := [some (.ref x0), some (.int x1), some (.int x2), some (.int x3), some (.int (x4 + (nI 1))), some (.int v11)]) (st' := []) (sg := [(.iinc 4 1, nI 1)]) (lSa_ok dd15) rfl ?_
            refine Y.goto (off := -51) (tgt := 5) (lIa_ok dd10) (by decide) ?_
            refine Y.less (L' := [some (.ref x0), some (.int x1), some (.int x2), some (.int x3), some (.int (x4 + (nI 1))), none]) (zLe_some (zLe_some (zLe_some (zLe_some (zLe_some (zLe_none (zLe_nil))))))) ?_
            exact ih G9 x0 x1 x2 x3 (x4 + (nI 1)) h
          · refine Y.goto (off := 9) (tgt := 50) (lIa_ok dd18) (by decide) ?_
            refine Y.blk (pc' := 56) (L' := [some (.ref x0), some (.int x1), some (.int x2), some (.int v11), some (.int (x4 + (nI 1))), some (.int v11)]) (st' := []) (sg := [(.iload 5, 0), (.istore_n 3, 0), (.iinc 4 1, nI 1)]) (lSa_ok dd9) rfl ?_
            refine Y.goto (off := -51) (tgt := 5) (lIa_ok dd10) (by decide) ?_
            refine Y.less (L' := [some (.ref x0), some (.int x1), some (.int x2), some (.int v11), some (.int (x4 + (nI 1))), none]) (zLe_some (zLe_some (zLe_some (zLe_some (zLe_some (zLe_none (zLe_nil))))))) ?_
            exact ih G9 x0 x1 x2 v11 (x4 + (nI 1)) h
theorem k_M_extremeOf {l : Launch} {D : va_G} {B : Nat} {O : State → Heap → Prop} (hV : zG l D B O) (G : gH) (a0 : Nat) (a1 : Int32) (a2 : Int32) : gMet (zVm l D B O) m_M_extremeOf 13 [.ref a0, .int a1, .int a2] G (f_M_extremeOf G a0 a1 a2) := by
  have hdd : lSa m_M_extremeOf 0 [(.iconst (-1), -1), (.istore_n 3, 0), (.iconst 0, nI 0), (.istore 4, 0)] = true ∧ lSa m_M_extremeOf 59 [(.iload_n 3, 0)] = true ∧ lIa m_M_extremeOf 60 (.ireturn) 1 = true := by decide +kernel
  obtain ⟨dd0, dd1, dd2⟩ := hdd
  refine gMet.of (by decide +kernel) (Nat.le_of_ble_eq_true rfl) [some (.ref a0), some (.int a1), some (.int a2), none, none, none] (fun ls h => zEn_ok (n := 6) h) ?_
  intro o Gf h
  unfold f_M_extremeOf at h
  refine Y.blk (pc' := 5) (L' := [some (.ref a0), some (.int a1), some (.int a2), some (.int (-1)), some (.int (nI 0)), none]) (st' := []) (sg := [(.iconst (-1), -1), (.istore_n 3, 0), (.iconst 0, nI 0), (.istore 4, 0)]) (lSa_ok dd0) rfl ?_
  refine k_M_extremeOf_L5 hV _ ?_  zFu G a0 a1 a2 (-1) (nI 0) h
  · intro G18 x17 h
    refine Y.blk (pc' := 60) (L' := [none, none, none, some (.int x17), none, none]) (st' := [.int x17]) (sg := [(.iload_n 3, 0)]) (lSa_ok dd1) rfl ?_
    exact Y.iret rfl (lIa_ok dd2) h

def f_M_liesAt_L3 (K36 : gH → gR) (K44 : gH → gR) : Nat → gH → Nat → Int32 → Int32 → Int32 → Int32 → gR
  | 0, _, _, _, _, _, _ => none
  | n + 1, G, x0, x1, x2, x3, x4 =>
    gOb G x0 6 fun o2 => bI (f_M_length G x0 x3) fun v5 G4 => if v5 ≤ x4 then K44 G4
    else gOb G4 x0 6 fun o7 => bA (f_M_at G4 x0 x1 (x2 + x4)) fun v10 G9 => gLd G9 v10 100 (nI 0) fun v11 => gOb G9 x0 6 fun o13 => bA (f_M_at G9 x0 x3 x4) fun v16 G15 => gLd G15 v16 100 (nI 0) fun v17 => if v11 = v17 then f_M_liesAt_L3 K36 K44 n G15 x0 x1 x2 x3 (x4 + (nI 1))
      else K36 G15
def f_M_liesAt (G : gH) (a0 : Nat) (a1 : Int32) (a2 : Int32) (a3 : Int32) : gR :=
  f_M_liesAt_L3 (fun G20 => rZ (nI 0) G20) (fun G21 => rZ (nI 1) G21) zFu G a0 a1 a2 a3 (nI 0)
theorem k_M_liesAt_L3 {l : Launch} {D : va_G} {B : Nat} {O : State → Heap → Prop} (hV : zG l D B O) {o : gO} {Gf : gH} (K36 : gH → gR) (K44 : gH → gR) (hK36 : ∀ (G : gH), K36 G  = some (o, Gf) → Y (zVm l D B O) m_M_liesAt 13 o Gf 36 [none, none, none, none, none] [] G) (hK44 : ∀ (G : gH), K44 G  = some (o, Gf) → Y (zVm l D B O) m_M_liesAt 13 o Gf 44 [none, none, none, none, none] [] G) : ∀ (n : Nat) (G : gH) (x0 : Nat) (x1 : Int32) (x2 : Int32) (x3 : Int32) (x4 : Int32), f_M_liesAt_L3 K36 K44 n G x0 x1 x2 x3 x4 = some (o, Gf) → Y (zVm l D B O) m_M_liesAt 13 o Gf 3 [some (.ref x0), some (.int x1), some (.int x2), some (.int x3), some (.int x4)] [] G := by
  have hdd : lSa m_M_liesAt 3 [(.iload 4, 0), (.aload_n 0, 0), (.iload_n 3, 0)] = true ∧ lIa m_M_liesAt 7 (.invokevirtual 74) 3 = true ∧ lIa m_M_liesAt 10 (.if_icmp .ge 34) 3 = true ∧ lSa m_M_liesAt 13 [(.aload_n 0, 0), (.iload_n 1, 0), (.iload_n 2, 0), (.iload 4, 0), (.iadd, 0)] = true ∧ lIa m_M_liesAt 19 (.invokevirtual 132) 3 = true ∧ lSa m_M_liesAt 22 [(.iconst 0, nI 0)] = true ∧ lIa m_M_liesAt 23 (.iaload) 1 = true ∧ lSa m_M_liesAt 24 [(.aload_n 0, 0), (.iload_n 3, 0), (.iload 4, 0)] = true ∧ lIa m_M_liesAt 28 (.invokevirtual 132) 3 = true ∧ lSa m_M_liesAt 31 [(.iconst 0, nI 0)] = true ∧ lIa m_M_liesAt 32 (.iaload) 1 = true ∧ lIa m_M_liesAt 33 (.if_icmp .eq 5) 3 = true ∧ lSa m_M_liesAt 38 [(.iinc 4 1, nI 1)] = true ∧ lIa m_M_liesAt 41 (.goto (-38)) 3 = true := by decide +kernel
  refine lA8 hdd (fun dd0 dd1 dd2 dd3 dd4 dd5 dd6 dd7 hdd => ?_)
  obtain ⟨dd8, dd9, dd10, dd11, dd12, dd13⟩ := hdd
  intro n
  induction n with
  | zero => intro G x0 x1 x2 x3 x4 h; cases h
  | succ n ih =>
    intro G x0 x1 x2 x3 x4 h
    unfold f_M_liesAt_L3 at h
    refine Y.blk (pc' := 7) (L' := [some (.ref x0), some (.int x1), some (.int x2), some (.int x3), some (.int x4)]) (st' := [.int x3, .ref x0, .int x4]) (sg := [(.iload 4, 0), (.aload_n 0, 0), (.iload_n 3, 0)]) (lSa_ok dd0) rfl ?_
    obtain ⟨_, o2, e1, m3, h⟩ := gOb_inv h
    refine Y.callI (yC.Vi (b := x0) (As := [.int x3]) (st := [.int x4]) (r := ("PartlisterModel", T_M, 9)) hV.1 cb_M_length lk_M_74 in_M_length rfl se_M_length (lIa_ok dd1) rfl rfl (Nat.le_of_ble_eq_true rfl) (by decide) e1 m3) (k_M_length hV G x0 x3) h (fun v5 G4 _ h => ?_)
    refine Y.ic_ge (off := 34) (tgt := 44) (lIa_ok dd2) (by decide) h (fun c19 h => ?_) (fun c19 h => ?_)
    · refine Y.less (L' := [none, none, none, none, none]) (zLe_none (zLe_none (zLe_none (zLe_none (zLe_none (zLe_nil)))))) ?_
      exact hK44 G4  h
    · refine Y.blk (pc' := 19) (L' := [some (.ref x0), some (.int x1), some (.int x2), some (.int x3), some (.int x4)]) (st' := [.int (x2 + x4), .int x1, .ref x0]) (sg := [(.aload_n 0, 0), (.iload_n 1, 0), (.iload_n 2, 0), (.iload 4, 0), (.iadd, 0)]) (lSa_ok dd3) rfl ?_
      obtain ⟨_, o7, e6, m8, h⟩ := gOb_inv h
      refine Y.callA (yC.Vi (b := x0) (As := [.int x1, .int (x2 + x4)]) (st := []) (r := ("PartlisterModel", T_M, 9)) hV.1 cb_M_at lk_M_132 in_M_at rfl se_M_at (lIa_ok dd4) rfl rfl (Nat.le_of_ble_eq_true rfl) (by decide) e6 m8) (k_M_at hV G4 x0 x1 (x2 + x4)) h (fun v10 G9 _ h => ?_)
      refine Y.blk (pc' := 23) (L' := [some (.ref x0), some (.int x1), some (.int x2), some (.int x3), some (.int x4)]) (st' := [.int (nI 0), .ref v10]) (sg := [(.iconst 0, nI 0)]) (lSa_ok dd5) rfl ?_
      refine Y.iald (t0 := 0) (lIa_ok dd6) rfl h (fun v11 h => ?_)
      refine Y.blk (pc' := 28) (L' := [some (.ref x0), some (.int x1), some (.int x2), some (.int x3), some (.int x4)]) (st' := [.int x4, .int x3, .ref x0, .int v11]) (sg := [(.aload_n 0, 0), (.iload_n 3, 0), (.iload 4, 0)]) (lSa_ok dd7) rfl ?_
      obtain ⟨_, o13, e12, m14, h⟩ := gOb_inv h
      refine Y.callA (yC.Vi (b := x0) (As := [.int x3, .int x4]) (st := [.int v11]) (r := ("PartlisterModel", T_M, 9)) hV.1 cb_M_at lk_M_132 in_M_at rfl se_M_at (lIa_ok dd8) rfl rfl (Nat.le_of_ble_eq_true rfl) (by decide) e12 m14) (k_M_at hV G9 x0 x3 x4) h (fun v16 G15 _ h => ?_)
      refine Y.blk (pc' := 32) (L' := [some (.ref x0), some (.int x1), some (.int x2), some (.int x3), some (.int x4)]) (st' := [.int (nI 0), .ref v16, .int v11]) (sg := [(.iconst 0, nI 0)]) (lSa_ok dd9) rfl ?_
      refine Y.iald (t0 := 0) (lIa_ok dd10) rfl h (fun v17 h => ?_)
      refine Y.ic_eq (off := 5) (tgt := 38) (lIa_ok dd11) (by decide) h (fun c18 h => ?_) (fun c18 h => ?_)
      · refine Y.blk (pc' := 41) (L' := [some (.ref x0), some (.int x1), some (.int x2), some (.int x3), some (.int (x4 + (nI 1)))]) (st' := []) (sg := [(.iinc 4 1, nI 1)]) (lSa_ok dd12) rfl ?_
        refine Y.goto (off := -38) (tgt := 3) (lIa_ok dd13) (by decide) ?_
        exact ih G15 x0 x1 x2 x3 (x4 + (nI 1)) h
      · refine Y.less (L' := [none, none, none, none, none]) (zLe_none (zLe_none (zLe_none (zLe_none (zLe_none (zLe_nil)))))) ?_
        exact hK36 G15  h
theorem k_M_liesAt {l : Launch} {D : va_G} {B : Nat} {O : State → Heap → Prop} (hV : zG l D B O) (G : gH) (a0 : Nat) (a1 : Int32) (a2 : Int32) (a3 : Int32) : gMet (zVm l D B O) m_M_liesAt 13 [.ref a0, .int a1, .int a2, .int a3] G (f_M_liesAt G a0 a1 a2 a3) := by
  have hdd : lSa m_M_liesAt 0 [(.iconst 0, nI 0), (.istore 4, 0)] = true ∧ lSa m_M_liesAt 36 [(.iconst 0, nI 0)] = true ∧ lIa m_M_liesAt 37 (.ireturn) 1 = true ∧ lSa m_M_liesAt 44 [(.iconst 1, nI 1)] = true ∧ lIa m_M_liesAt 45 (.ireturn) 1 = true := by decide +kernel
  obtain ⟨dd0, dd1, dd2, dd3, dd4⟩ := hdd
  refine gMet.of (by decide +kernel) (Nat.le_of_ble_eq_true rfl) [some (.ref a0), some (.int a1), some (.int a2), some (.int a3), none] (fun ls h => zEn_ok (n := 5) h) ?_
  intro o Gf h
  unfold f_M_liesAt at h
  refine Y.blk (pc' := 3) (L' := [some (.ref a0), some (.int a1), some (.int a2), some (.int a3), some (.int (nI 0))]) (st' := []) (sg := [(.iconst 0, nI 0), (.istore 4, 0)]) (lSa_ok dd0) rfl ?_
  refine k_M_liesAt_L3 hV _ _ ?_ ?_  zFu G a0 a1 a2 a3 (nI 0) h
  · intro G20 h
    refine Y.blk (pc' := 37) (L' := [none, none, none, none, none]) (st' := [.int (nI 0)]) (sg := [(.iconst 0, nI 0)]) (lSa_ok dd1) rfl ?_
    exact Y.zret rfl (lIa_ok dd2) h
  · intro G21 h
    refine Y.blk (pc' := 45) (L' := [none, none, none, none, none]) (st' := [.int (nI 1)]) (sg := [(.iconst 1, nI 1)]) (lSa_ok dd3) rfl ?_
    exact Y.zret rfl (lIa_ok dd4) h

def f_M_found_L2 (K27 : gH → Int32 → gR) (K35 : gH → gR) : Nat → gH → Nat → Int32 → Int32 → Int32 → gR
  | 0, _, _, _, _, _ => none
  | n + 1, G, x0, x1, x2, x3 =>
    gOb G x0 6 fun o2 => bI (f_M_length G x0 x2) fun v5 G4 => gOb G4 x0 6 fun o7 => bI (f_M_length G4 x0 x1) fun v10 G9 => if v10 < (x3 + v5) then K35 G9
    else gOb G9 x0 6 fun o12 => bI (f_M_liesAt G9 x0 x1 x3 x2) fun v15 G14 => if v15 = 0 then f_M_found_L2 K27 K35 n G14 x0 x1 x2 (x3 + (nI 1))
      else K27 G14 x3
def f_M_found (G : gH) (a0 : Nat) (a1 : Int32) (a2 : Int32) : gR :=
  f_M_found_L2 (fun G19 x18 => rI x18 G19) (fun G20 => rI (-1) G20) zFu G a0 a1 a2 (nI 0)
theorem k_M_found_L2 {l : Launch} {D : va_G} {B : Nat} {O : State → Heap → Prop} (hV : zG l D B O) {o : gO} {Gf : gH} (K27 : gH → Int32 → gR) (K35 : gH → gR) (hK27 : ∀ (G : gH) (x3 : Int32), K27 G x3 = some (o, Gf) → Y (zVm l D B O) m_M_found 14 o Gf 27 [none, none, none, some (.int x3)] [] G) (hK35 : ∀ (G : gH), K35 G  = some (o, Gf) → Y (zVm l D B O) m_M_found 14 o Gf 35 [none, none, none, none] [] G) : ∀ (n : Nat) (G : gH) (x0 : Nat) (x1 : Int32) (x2 : Int32) (x3 : Int32), f_M_found_L2 K27 K35 n G x0 x1 x2 x3 = some (o, Gf) → Y (zVm l D B O) m_M_found 14 o Gf 2 [some (.ref x0), some (.int x1), some (.int x2), some (.int x3)] [] G := by
  have hdd : lSa m_M_found 2 [(.iload_n 3, 0), (.aload_n 0, 0), (.iload_n 2, 0)] = true ∧ lIa m_M_found 5 (.invokevirtual 74) 3 = true ∧ lSa m_M_found 8 [(.iadd, 0), (.aload_n 0, 0), (.iload_n 1, 0)] = true ∧ lIa m_M_found 11 (.invokevirtual 74) 3 = true ∧ lIa m_M_found 14 (.if_icmp .gt 21) 3 = true ∧ lSa m_M_found 17 [(.aload_n 0, 0), (.iload_n 1, 0), (.iload_n 3, 0), (.iload_n 2, 0)] = true ∧ lIa m_M_found 21 (.invokevirtual 232) 3 = true ∧ lIa m_M_found 24 (.ifCond .eq 5) 3 = true ∧ lSa m_M_found 29 [(.iinc 3 1, nI 1)] = true ∧ lIa m_M_found 32 (.goto (-30)) 3 = true := by decide +kernel
  refine lA8 hdd (fun dd0 dd1 dd2 dd3 dd4 dd5 dd6 dd7 hdd => ?_)
  obtain ⟨dd8, dd9⟩ := hdd
  intro n
  induction n with
  | zero => intro G x0 x1 x2 x3 h; cases h
  | succ n ih =>
    intro G x0 x1 x2 x3 h
    unfold f_M_found_L2 at h
    refine Y.blk (pc' := 5) (L' := [some (.ref x0), some (.int x1), some (.int x2), some (.int x3)]) (st' := [.int x2, .ref x0, .int x3]) (sg := [(.iload_n 3, 0), (.aload_n 0, 0), (.iload_n 2, 0)]) (lSa_ok dd0) rfl ?_
    obtain ⟨_, o2, e1, m3, h⟩ := gOb_inv h
    refine Y.callI (yC.Vi (b := x0) (As := [.int x2]) (st := [.int x3]) (r := ("PartlisterModel", T_M, 9)) hV.1 cb_M_length lk_M_74 in_M_length rfl se_M_length (lIa_ok dd1) rfl rfl (Nat.le_of_ble_eq_true rfl) (by decide) e1 m3) (k_M_length hV G x0 x2) h (fun v5 G4 _ h => ?_)
    refine Y.blk (pc' := 11) (L' := [some (.ref x0), some (.int x1), some (.int x2), some (.int x3)]) (st' := [.int x1, .ref x0, .int (x3 + v5)]) (sg := [(.iadd, 0), (.aload_n 0, 0), (.iload_n 1, 0)]) (lSa_ok dd2) rfl ?_
    obtain ⟨_, o7, e6, m8, h⟩ := gOb_inv h
    refine Y.callI (yC.Vi (b := x0) (As := [.int x1]) (st := [.int (x3 + v5)]) (r := ("PartlisterModel", T_M, 9)) hV.1 cb_M_length lk_M_74 in_M_length rfl se_M_length (lIa_ok dd3) rfl rfl (Nat.le_of_ble_eq_true rfl) (by decide) e6 m8) (k_M_length hV G4 x0 x1) h (fun v10 G9 _ h => ?_)
    refine Y.ic_gt (off := 21) (tgt := 35) (lIa_ok dd4) (by decide) h (fun c17 h => ?_) (fun c17 h => ?_)
    · refine Y.less (L' := [none, none, none, none]) (zLe_none (zLe_none (zLe_none (zLe_none (zLe_nil))))) ?_
      exact hK35 G9  h
    · refine Y.blk (pc' := 21) (L' := [some (.ref x0), some (.int x1), some (.int x2), some (.int x3)]) (st' := [.int x2, .int x3, .int x1, .ref x0]) (sg := [(.aload_n 0, 0), (.iload_n 1, 0), (.iload_n 3, 0), (.iload_n 2, 0)]) (lSa_ok dd5) rfl ?_
      obtain ⟨_, o12, e11, m13, h⟩ := gOb_inv h
      refine Y.callI (yC.Vi (b := x0) (As := [.int x1, .int x3, .int x2]) (st := []) (r := ("PartlisterModel", T_M, 9)) hV.1 cb_M_liesAt lk_M_232 in_M_liesAt rfl se_M_liesAt (lIa_ok dd6) rfl rfl (Nat.le_of_ble_eq_true rfl) (by decide) e11 m13) (k_M_liesAt hV G9 x0 x1 x3 x2) h (fun v15 G14 _ h => ?_)
      refine Y.if_eq (off := 5) (tgt := 29) (lIa_ok dd7) (by decide) h (fun c16 h => ?_) (fun c16 h => ?_)
      · refine Y.blk (pc' := 32) (L' := [some (.ref x0), some (.int x1), some (.int x2), some (.int (x3 + (nI 1)))]) (st' := []) (sg := [(.iinc 3 1, nI 1)]) (lSa_ok dd8) rfl ?_
        refine Y.goto (off := -30) (tgt := 2) (lIa_ok dd9) (by decide) ?_
        exact ih G14 x0 x1 x2 (x3 + (nI 1)) h
      · refine Y.less (L' := [none, none, none, some (.int x3)]) (zLe_none (zLe_none (zLe_none (zLe_some (zLe_nil))))) ?_
        exact hK27 G14 x3 h
theorem k_M_found {l : Launch} {D : va_G} {B : Nat} {O : State → Heap → Prop} (hV : zG l D B O) (G : gH) (a0 : Nat) (a1 : Int32) (a2 : Int32) : gMet (zVm l D B O) m_M_found 14 [.ref a0, .int a1, .int a2] G (f_M_found G a0 a1 a2) := by
  have hdd : lSa m_M_found 0 [(.iconst 0, nI 0), (.istore_n 3, 0)] = true ∧ lSa m_M_found 27 [(.iload_n 3, 0)] = true ∧ lIa m_M_found 28 (.ireturn) 1 = true ∧ lSa m_M_found 35 [(.iconst (-1), -1)] = true ∧ lIa m_M_found 36 (.ireturn) 1 = true := by decide +kernel
  obtain ⟨dd0, dd1, dd2, dd3, dd4⟩ := hdd
  refine gMet.of (by decide +kernel) (Nat.le_of_ble_eq_true rfl) [some (.ref a0), some (.int a1), some (.int a2), none] (fun ls h => zEn_ok (n := 4) h) ?_
  intro o Gf h
  unfold f_M_found at h
  refine Y.blk (pc' := 2) (L' := [some (.ref a0), some (.int a1), some (.int a2), some (.int (nI 0))]) (st' := []) (sg := [(.iconst 0, nI 0), (.istore_n 3, 0)]) (lSa_ok dd0) rfl ?_
  refine k_M_found_L2 hV _ _ ?_ ?_  zFu G a0 a1 a2 (nI 0) h
  · intro G19 x18 h
    refine Y.blk (pc' := 28) (L' := [none, none, none, some (.int x18)]) (st' := [.int x18]) (sg := [(.iload_n 3, 0)]) (lSa_ok dd1) rfl ?_
    exact Y.iret rfl (lIa_ok dd2) h
  · intro G20 h
    refine Y.blk (pc' := 36) (L' := [none, none, none, none]) (st' := [.int (-1)]) (sg := [(.iconst (-1), -1)]) (lSa_ok dd3) rfl ?_
    exact Y.iret rfl (lIa_ok dd4) h

def f_M_hasEach_L2 (K28 : gH → gR) (K36 : gH → gR) : Nat → gH → Nat → Int32 → Int32 → Int32 → gR
  | 0, _, _, _, _, _ => none
  | n + 1, G, x0, x1, x2, x3 =>
    gOb G x0 6 fun o2 => bI (f_M_length G x0 x2) fun v5 G4 => if v5 ≤ x3 then K36 G4
    else gOb G4 x0 6 fun o7 => bA (f_M_at G4 x0 x2 x3) fun v10 G9 => gLd G9 v10 100 (nI 0) fun v11 => gOb G9 x0 6 fun o13 => bI (f_M_firstOf G9 x0 x1 v11) fun v16 G15 => if v16 = (-1) then K28 G15
      else f_M_hasEach_L2 K28 K36 n G15 x0 x1 x2 (x3 + (nI 1))
def f_M_hasEach (G : gH) (a0 : Nat) (a1 : Int32) (a2 : Int32) : gR :=
  f_M_hasEach_L2 (fun G19 => rZ (nI 0) G19) (fun G20 => rZ (nI 1) G20) zFu G a0 a1 a2 (nI 0)
theorem k_M_hasEach_L2 {l : Launch} {D : va_G} {B : Nat} {O : State → Heap → Prop} (hV : zG l D B O) {o : gO} {Gf : gH} (K28 : gH → gR) (K36 : gH → gR) (hK28 : ∀ (G : gH), K28 G  = some (o, Gf) → Y (zVm l D B O) m_M_hasEach 14 o Gf 28 [none, none, none, none] [] G) (hK36 : ∀ (G : gH), K36 G  = some (o, Gf) → Y (zVm l D B O) m_M_hasEach 14 o Gf 36 [none, none, none, none] [] G) : ∀ (n : Nat) (G : gH) (x0 : Nat) (x1 : Int32) (x2 : Int32) (x3 : Int32), f_M_hasEach_L2 K28 K36 n G x0 x1 x2 x3 = some (o, Gf) → Y (zVm l D B O) m_M_hasEach 14 o Gf 2 [some (.ref x0), some (.int x1), some (.int x2), some (.int x3)] [] G := by
  have hdd : lSa m_M_hasEach 2 [(.iload_n 3, 0), (.aload_n 0, 0), (.iload_n 2, 0)] = true ∧ lIa m_M_hasEach 5 (.invokevirtual 74) 3 = true ∧ lIa m_M_hasEach 8 (.if_icmp .ge 28) 3 = true ∧ lSa m_M_hasEach 11 [(.aload_n 0, 0), (.iload_n 1, 0), (.aload_n 0, 0), (.iload_n 2, 0), (.iload_n 3, 0)] = true ∧ lIa m_M_hasEach 16 (.invokevirtual 132) 3 = true ∧ lSa m_M_hasEach 19 [(.iconst 0, nI 0)] = true ∧ lIa m_M_hasEach 20 (.iaload) 1 = true ∧ lIa m_M_hasEach 21 (.invokevirtual 163) 3 = true ∧ lSa m_M_hasEach 24 [(.iconst (-1), -1)] = true ∧ lIa m_M_hasEach 25 (.if_icmp .ne 5) 3 = true ∧ lSa m_M_hasEach 30 [(.iinc 3 1, nI 1)] = true ∧ lIa m_M_hasEach 33 (.goto (-31)) 3 = true := by decide +kernel
  refine lA8 hdd (fun dd0 dd1 dd2 dd3 dd4 dd5 dd6 dd7 hdd => ?_)
  obtain ⟨dd8, dd9, dd10, dd11⟩ := hdd
  intro n
  induction n with
  | zero => intro G x0 x1 x2 x3 h; cases h
  | succ n ih =>
    intro G x0 x1 x2 x3 h
    unfold f_M_hasEach_L2 at h
    refine Y.blk (pc' := 5) (L' := [some (.ref x0), some (.int x1), some (.int x2), some (.int x3)]) (st' := [.int x2, .ref x0, .int x3]) (sg := [(.iload_n 3, 0), (.aload_n 0, 0), (.iload_n 2, 0)]) (lSa_ok dd0) rfl ?_
    obtain ⟨_, o2, e1, m3, h⟩ := gOb_inv h
    refine Y.callI (yC.Vi (b := x0) (As := [.int x2]) (st := [.int x3]) (r := ("PartlisterModel", T_M, 9)) hV.1 cb_M_length lk_M_74 in_M_length rfl se_M_length (lIa_ok dd1) rfl rfl (Nat.le_of_ble_eq_true rfl) (by decide) e1 m3) (k_M_length hV G x0 x2) h (fun v5 G4 _ h => ?_)
    refine Y.ic_ge (off := 28) (tgt := 36) (lIa_ok dd2) (by decide) h (fun c18 h => ?_) (fun c18 h => ?_)
    · refine Y.less (L' := [none, none, none, none]) (zLe_none (zLe_none (zLe_none (zLe_none (zLe_nil))))) ?_
      exact hK36 G4  h
    · refine Y.blk (pc' := 16) (L' := [some (.ref x0), some (.int x1), some (.int x2), some (.int x3)]) (st' := [.int x3, .int x2, .ref x0, .int x1, .ref x0]) (sg := [(.aload_n 0, 0), (.iload_n 1, 0), (.aload_n 0, 0), (.iload_n 2, 0), (.iload_n 3, 0)]) (lSa_ok dd3) rfl ?_
      obtain ⟨_, o7, e6, m8, h⟩ := gOb_inv h
      refine Y.callA (yC.Vi (b := x0) (As := [.int x2, .int x3]) (st := [.int x1, .ref x0]) (r := ("PartlisterModel", T_M, 9)) hV.1 cb_M_at lk_M_132 in_M_at rfl se_M_at (lIa_ok dd4) rfl rfl (Nat.le_of_ble_eq_true rfl) (by decide) e6 m8) (k_M_at hV G4 x0 x2 x3) h (fun v10 G9 _ h => ?_)
      refine Y.blk (pc' := 20) (L' := [some (.ref x0), some (.int x1), some (.int x2), some (.int x3)]) (st' := [.int (nI 0), .ref v10, .int x1, .ref x0]) (sg := [(.iconst 0, nI 0)]) (lSa_ok dd5) rfl ?_
      refine Y.iald (t0 := 0) (lIa_ok dd6) rfl h (fun v11 h => ?_)
      obtain ⟨_, o13, e12, m14, h⟩ := gOb_inv h
      refine Y.callI (yC.Vi (b := x0) (As := [.int x1, .int v11]) (st := []) (r := ("PartlisterModel", T_M, 9)) hV.1 cb_M_firstOf lk_M_163 in_M_firstOf rfl se_M_firstOf (lIa_ok dd7) rfl rfl (Nat.le_of_ble_eq_true rfl) (by decide) e12 m14) (k_M_firstOf hV G9 x0 x1 v11) h (fun v16 G15 _ h => ?_)
      refine Y.blk (pc' := 25) (L' := [some (.ref x0), some (.int x1), some (.int x2), some (.int x3)]) (st' := [.int (-1), .int v16]) (sg := [(.iconst (-1), -1)]) (lSa_ok dd8) rfl ?_
      refine Y.ic_ne (off := 5) (tgt := 30) (lIa_ok dd9) (by decide) h (fun c17 h => ?_) (fun c17 h => ?_)
      · refine Y.less (L' := [none, none, none, none]) (zLe_none (zLe_none (zLe_none (zLe_none (zLe_nil))))) ?_
        exact hK28 G15  h
      · refine Y.blk (pc' := 33) (L' := [some (.ref x0), some (.int x1), some (.int x2), some (.int (x3 + (nI 1)))]) (st' := []) (sg := [(.iinc 3 1, nI 1)]) (lSa_ok dd10) rfl ?_
        refine Y.goto (off := -31) (tgt := 2) (lIa_ok dd11) (by decide) ?_
        exact ih G15 x0 x1 x2 (x3 + (nI 1)) h
theorem k_M_hasEach {l : Launch} {D : va_G} {B : Nat} {O : State → Heap → Prop} (hV : zG l D B O) (G : gH) (a0 : Nat) (a1 : Int32) (a2 : Int32) : gMet (zVm l D B O) m_M_hasEach 14 [.ref a0, .int a1, .int a2] G (f_M_hasEach G a0 a1 a2) := by
  have hdd : lSa m_M_hasEach 0 [(.iconst 0, nI 0), (.istore_n 3, 0)] = true ∧ lSa m_M_hasEach 28 [(.iconst 0, nI 0)] = true ∧ lIa m_M_hasEach 29 (.ireturn) 1 = true ∧ lSa m_M_hasEach 36 [(.iconst 1, nI 1)] = true ∧ lIa m_M_hasEach 37 (.ireturn) 1 = true := by decide +kernel
  obtain ⟨dd0, dd1, dd2, dd3, dd4⟩ := hdd
  refine gMet.of (by decide +kernel) (Nat.le_of_ble_eq_true rfl) [some (.ref a0), some (.int a1), some (.int a2), none] (fun ls h => zEn_ok (n := 4) h) ?_
  intro o Gf h
  unfold f_M_hasEach at h
  refine Y.blk (pc' := 2) (L' := [some (.ref a0), some (.int a1), some (.int a2), some (.int (nI 0))]) (st' := []) (sg := [(.iconst 0, nI 0), (.istore_n 3, 0)]) (lSa_ok dd0) rfl ?_
  refine k_M_hasEach_L2 hV _ _ ?_ ?_  zFu G a0 a1 a2 (nI 0) h
  · intro G19 h
    refine Y.blk (pc' := 29) (L' := [none, none, none, none]) (st' := [.int (nI 0)]) (sg := [(.iconst 0, nI 0)]) (lSa_ok dd1) rfl ?_
    exact Y.zret rfl (lIa_ok dd2) h
  · intro G20 h
    refine Y.blk (pc' := 37) (L' := [none, none, none, none]) (st' := [.int (nI 1)]) (sg := [(.iconst 1, nI 1)]) (lSa_ok dd3) rfl ?_
    exact Y.zret rfl (lIa_ok dd4) h

def f_M_hashOf_L4 (K33 : gH → Int32 → gR) : Nat → gH → Nat → Int32 → Int32 → Int32 → gR
  | 0, _, _, _, _, _ => none
  | n + 1, G, x0, x1, x2, x3 =>
    gOb G x0 6 fun o2 => bI (f_M_length G x0 x1) fun v5 G4 => if v5 ≤ x3 then K33 G4 x2
    else gOb G4 x0 6 fun o7 => bA (f_M_at G4 x0 x1 x3) fun v10 G9 => gLd G9 v10 100 (nI 0) fun v11 => f_M_hashOf_L4 K33 n G9 x0 x1 ((x2 * (nI 31)) + v11) (x3 + (nI 1))
def f_M_hashOf (G : gH) (a0 : Nat) (a1 : Int32) : gR :=
  f_M_hashOf_L4 (fun G14 x13 => rI x13 G14) zFu G a0 a1 (nI 1) (nI 0)
theorem k_M_hashOf_L4 {l : Launch} {D : va_G} {B : Nat} {O : State → Heap → Prop} (hV : zG l D B O) {o : gO} {Gf : gH} (K33 : gH → Int32 → gR) (hK33 : ∀ (G : gH) (x2 : Int32), K33 G x2 = some (o, Gf) → Y (zVm l D B O) m_M_hashOf 13 o Gf 33 [none, none, some (.int x2), none] [] G) : ∀ (n : Nat) (G : gH) (x0 : Nat) (x1 : Int32) (x2 : Int32) (x3 : Int32), f_M_hashOf_L4 K33 n G x0 x1 x2 x3 = some (o, Gf) → Y (zVm l D B O) m_M_hashOf 13 o Gf 4 [some (.ref x0), some (.int x1), some (.int x2), some (.int x3)] [] G := by
  have hdd : lSa m_M_hashOf 4 [(.iload_n 3, 0), (.aload_n 0, 0), (.iload_n 1, 0)] = true ∧ lIa m_M_hashOf 7 (.invokevirtual 74) 3 = true ∧ lIa m_M_hashOf 10 (.if_icmp .ge 23) 3 = true ∧ lSa m_M_hashOf 13 [(.iload_n 2, 0), (.bipush 31, nI 31), (.imul, 0), (.aload_n 0, 0), (.iload_n 1, 0), (.iload_n 3, 0)] = true ∧ lIa m_M_hashOf 20 (.invokevirtual 132) 3 = true ∧ lSa m_M_hashOf 23 [(.iconst 0, nI 0)] = true ∧ lIa m_M_hashOf 24 (.iaload) 1 = true ∧ lSa m_M_hashOf 25 [(.iadd, 0), (.istore_n 2, 0), (.iinc 3 1, nI 1)] = true ∧ lIa m_M_hashOf 30 (.goto (-26)) 3 = true := by decide +kernel
  refine lA8 hdd (fun dd0 dd1 dd2 dd3 dd4 dd5 dd6 dd7 hdd => ?_)
  have dd8 := hdd
  intro n
  induction n with
  | zero => intro G x0 x1 x2 x3 h; cases h
  | succ n ih =>
    intro G x0 x1 x2 x3 h
    unfold f_M_hashOf_L4 at h
    refine Y.blk (pc' := 7) (L' := [some (.ref x0), some (.int x1), some (.int x2), some (.int x3)]) (st' := [.int x1, .ref x0, .int x3]) (sg := [(.iload_n 3, 0), (.aload_n 0, 0), (.iload_n 1, 0)]) (lSa_ok dd0) rfl ?_
    obtain ⟨_, o2, e1, m3, h⟩ := gOb_inv h
    refine Y.callI (yC.Vi (b := x0) (As := [.int x1]) (st := [.int x3]) (r := ("PartlisterModel", T_M, 9)) hV.1 cb_M_length lk_M_74 in_M_length rfl se_M_length (lIa_ok dd1) rfl rfl (Nat.le_of_ble_eq_true rfl) (by decide) e1 m3) (k_M_length hV G x0 x1) h (fun v5 G4 _ h => ?_)
    refine Y.ic_ge (off := 23) (tgt := 33) (lIa_ok dd2) (by decide) h (fun c12 h => ?_) (fun c12 h => ?_)
    · refine Y.less (L' := [none, none, some (.int x2), none]) (zLe_none (zLe_none (zLe_some (zLe_none (zLe_nil))))) ?_
      exact hK33 G4 x2 h
    · refine Y.blk (pc' := 20) (L' := [some (.ref x0), some (.int x1), some (.int x2), some (.int x3)]) (st' := [.int x3, .int x1, .ref x0, .int (x2 * (nI 31))]) (sg := [(.iload_n 2, 0), (.bipush 31, nI 31), (.imul, 0), (.aload_n 0, 0), (.iload_n 1, 0), (.iload_n 3, 0)]) (lSa_ok dd3) rfl ?_
      obtain ⟨_, o7, e6, m8, h⟩ := gOb_inv h
      refine Y.callA (yC.Vi (b := x0) (As := [.int x1, .int x3]) (st := [.int (x2 * (nI 31))]) (r := ("PartlisterModel", T_M, 9)) hV.1 cb_M_at lk_M_132 in_M_at rfl se_M_at (lIa_ok dd4) rfl rfl (Nat.le_of_ble_eq_true rfl) (by decide) e6 m8) (k_M_at hV G4 x0 x1 x3) h (fun v10 G9 _ h => ?_)
      refine Y.blk (pc' := 24) (L' := [some (.ref x0), some (.int x1), some (.int x2), some (.int x3)]) (st' := [.int (nI 0), .ref v10, .int (x2 * (nI 31))]) (sg := [(.iconst 0, nI 0)]) (lSa_ok dd5) rfl ?_
      refine Y.iald (t0 := 0) (lIa_ok dd6) rfl h (fun v11 h => ?_)
      refine Y.blk (pc' := 30) (L' := [some (.ref x0), some (.int x1), some (.int ((x2 * (nI 31)) + v11)), some (.int (x3 + (nI 1)))]) (st' := []) (sg := [(.iadd, 0), (.istore_n 2, 0), (.iinc 3 1, nI 1)]) (lSa_ok dd7) rfl ?_
      refine Y.goto (off := -26) (tgt := 4) (lIa_ok dd8) (by decide) ?_
      exact ih G9 x0 x1 ((x2 * (nI 31)) + v11) (x3 + (nI 1)) h
theorem k_M_hashOf {l : Launch} {D : va_G} {B : Nat} {O : State → Heap → Prop} (hV : zG l D B O) (G : gH) (a0 : Nat) (a1 : Int32) : gMet (zVm l D B O) m_M_hashOf 13 [.ref a0, .int a1] G (f_M_hashOf G a0 a1) := by
  have hdd : lSa m_M_hashOf 0 [(.iconst 1, nI 1), (.istore_n 2, 0), (.iconst 0, nI 0), (.istore_n 3, 0)] = true ∧ lSa m_M_hashOf 33 [(.iload_n 2, 0)] = true ∧ lIa m_M_hashOf 34 (.ireturn) 1 = true := by decide +kernel
  obtain ⟨dd0, dd1, dd2⟩ := hdd
  refine gMet.of (by decide +kernel) (Nat.le_of_ble_eq_true rfl) [some (.ref a0), some (.int a1), none, none] (fun ls h => zEn_ok (n := 4) h) ?_
  intro o Gf h
  unfold f_M_hashOf at h
  refine Y.blk (pc' := 4) (L' := [some (.ref a0), some (.int a1), some (.int (nI 1)), some (.int (nI 0))]) (st' := []) (sg := [(.iconst 1, nI 1), (.istore_n 2, 0), (.iconst 0, nI 0), (.istore_n 3, 0)]) (lSa_ok dd0) rfl ?_
  refine k_M_hashOf_L4 hV _ ?_  zFu G a0 a1 (nI 1) (nI 0) h
  · intro G14 x13 h
    refine Y.blk (pc' := 34) (L' := [none, none, some (.int x13), none]) (st' := [.int x13]) (sg := [(.iload_n 2, 0)]) (lSa_ok dd1) rfl ?_
    exact Y.iret rfl (lIa_ok dd2) h

def f_M_houseTold_L16 (K54 : gH → Nat → Int32 → Nat → gR) : Nat → gH → Nat → Int32 → Nat → Nat → Int32 → Int32 → gR
  | 0, _, _, _, _, _, _, _ => none
  | n + 1, G, x0, x1, x2, x3, x4, x5 =>
    if x4 ≤ x5 then K54 G x0 x1 x2
    else gLdq G x3 104 x5 (gLd G x2 100 (nI 0) fun v6 => bI (f_M_one G (nI 0)) fun v9 G8 => gSt G8 x2 100 (nI 0) (v6 + v9) fun G10 => f_M_houseTold_L16 K54 n G10 x0 x1 x2 x3 x4 (x5 + (nI 1))) fun v5 => gLd G x2 100 (nI 0) fun v11 => bI (f_M_one G (nI 1)) fun v14 G13 => gSt G13 x2 100 (nI 0) (v11 + v14) fun G15 => f_M_houseTold_L16 K54 n G15 x0 x1 x2 x3 x4 (x5 + (nI 1))
def f_M_houseTold_L66 (K131 : gH → Nat → Int32 → Nat → gR) : Nat → gH → Nat → Int32 → Nat → Nat → Int32 → Int32 → gR
  | 0, _, _, _, _, _, _, _ => none
  | n + 1, G, x0, x1, x2, x3, x4, x5 =>
    if x4 ≤ x5 then K131 G x0 x1 x2
    else gLdq G x3 105 x5 (gLd G x2 100 (nI 1) fun v24 => bI (f_M_one G (nI 0)) fun v27 G26 => gSt G26 x2 100 (nI 1) (v24 + v27) fun G28 => gLd G28 x2 100 (nI 2) fun v29 => bI (f_M_one G28 (nI 0)) fun v32 G31 => gSt G31 x2 100 (nI 2) (v29 + v32) fun G33 => f_M_houseTold_L66 K131 n G33 x0 x1 x2 x3 x4 (x5 + (nI 1))) fun v23 => gLd G x2 100 (nI 1) fun v34 => bI (f_M_one G (nI 1)) fun v37 G36 => gSt G36 x2 100 (nI 1) (v34 + v37) fun G38 => gLd G38 x2 100 (nI 2) fun v39 => gFI G38 v23 4 3 fun v40 => if v40 = 0 then bI (f_M_one G38 (nI 0)) fun v43 G42 => gSt G42 x2 100 (nI 2) (v39 + v43) fun G44 => f_M_houseTold_L66 K131 n G44 x0 x1 x2 x3 x4 (x5 + (nI 1))
        else bI (f_M_one G38 (nI 1)) fun v47 G46 => gSt G46 x2 100 (nI 2) (v39 + v47) fun G48 => f_M_houseTold_L66 K131 n G48 x0 x1 x2 x3 x4 (x5 + (nI 1))
def f_M_houseTold (G : gH) (a0 : Nat) (a1 : Int32) : gR :=
  gNewA G 100 (nI 3) fun q1 G2 => gFA G2 a0 6 2 fun v3 => gLenq G2 v3 104 fun v4 => f_M_houseTold_L16 (fun G20 x17 x18 x19 => gFA G20 x17 6 3 fun v21 => gLenq G20 v21 105 fun v22 => f_M_houseTold_L66 (fun G54 x51 x52 x53 => gNewA G54 100 (nI 8) fun q55 G56 => gFI G56 x51 6 4 fun v57 => gSt G56 q55 100 (nI 0) v57 fun G58 => gLd G58 x53 100 (nI 0) fun v59 => gSt G58 q55 100 (nI 1) v59 fun G60 => gLd G60 x53 100 (nI 1) fun v61 => gSt G60 q55 100 (nI 2) v61 fun G62 => gLd G62 x53 100 (nI 2) fun v63 => gSt G62 q55 100 (nI 3) v63 fun G64 => gFI G64 x51 6 5 fun v65 => gSt G64 q55 100 (nI 4) v65 fun G66 => gFI G66 x51 6 6 fun v67 => gSt G66 q55 100 (nI 5) v67 fun G68 => gFI G68 x51 6 7 fun v69 => gSt G68 q55 100 (nI 6) v69 fun G70 => gFI G70 x51 6 8 fun v71 => gSt G70 q55 100 (nI 7) v71 fun G72 => gLd G72 q55 100 x52 fun v73 => rI v73 G72) zFu G20 x17 x18 x19 v21 v22 (nI 0)) zFu G2 a0 a1 q1 v3 v4 (nI 0)
theorem k_M_houseTold_L16 {l : Launch} {D : va_G} {B : Nat} {O : State → Heap → Prop} (hV : zG l D B O) {o : gO} {Gf : gH} (K54 : gH → Nat → Int32 → Nat → gR) (hK54 : ∀ (G : gH) (x0 : Nat) (x1 : Int32) (x2 : Nat), K54 G x0 x1 x2 = some (o, Gf) → Y (zVm l D B O) m_M_houseTold 3 o Gf 54 [some (.ref x0), some (.int x1), some (.ref x2), none, none, none, none] [] G) : ∀ (n : Nat) (G : gH) (x0 : Nat) (x1 : Int32) (x2 : Nat) (x3 : Nat) (x4 : Int32) (x5 : Int32), f_M_houseTold_L16 K54 n G x0 x1 x2 x3 x4 x5 = some (o, Gf) → Y (zVm l D B O) m_M_houseTold 3 o Gf 16 [some (.ref x0), some (.int x1), some (.ref x2), some (.ref x3), some (.int x4), some (.int x5), none] [] G := by
  have hdd : lSa m_M_houseTold 16 [(.iload 5, 0), (.iload 4, 0)] = true ∧ lIa m_M_houseTold 20 (.if_icmp .ge 34) 3 = true ∧ lSa m_M_houseTold 23 [(.aload_n 3, 0), (.iload 5, 0)] = true ∧ lIa m_M_houseTold 26 (.aaload) 1 = true ∧ lSa m_M_houseTold 27 [(.astore 6, 0), (.aload_n 2, 0), (.iconst 0, nI 0), (.dup2, 0)] = true ∧ lIa m_M_houseTold 32 (.iaload) 1 = true ∧ lSa m_M_houseTold 33 [(.aload 6, 0)] = true ∧ lIa m_M_houseTold 35 (.ifnull 7) 3 = true ∧ lSa m_M_houseTold 42 [(.iconst 0, nI 0)] = true ∧ lIa m_M_houseTold 43 (.invokestatic 188) 3 = true ∧ lSa m_M_houseTold 46 [(.iadd, 0)] = true ∧ lIa m_M_houseTold 47 (.iastore) 1 = true ∧ lSa m_M_houseTold 48 [(.iinc 5 1, nI 1)] = true ∧ lIa m_M_houseTold 51 (.goto (-35)) 3 = true ∧ lSa m_M_houseTold 38 [(.iconst 1, nI 1)] = true ∧ lIa m_M_houseTold 39 (.goto 4) 3 = true := by decide +kernel
  refine lA8 hdd (fun dd0 dd1 dd2 dd3 dd4 dd5 dd6 dd7 hdd => ?_)
  obtain ⟨dd8, dd9, dd10, dd11, dd12, dd13, dd14, dd15⟩ := hdd
  intro n
  induction n with
  | zero => intro G x0 x1 x2 x3 x4 x5 h; cases h
  | succ n ih =>
    intro G x0 x1 x2 x3 x4 x5 h
    unfold f_M_houseTold_L16 at h
    refine Y.blk (pc' := 20) (L' := [some (.ref x0), some (.int x1), some (.ref x2), some (.ref x3), some (.int x4), some (.int x5), none]) (st' := [.int x4, .int x5]) (sg := [(.iload 5, 0), (.iload 4, 0)]) (lSa_ok dd0) rfl ?_
    refine Y.ic_ge (off := 34) (tgt := 54) (lIa_ok dd1) (by decide) h (fun c16 h => ?_) (fun c16 h => ?_)
    · refine Y.less (L' := [some (.ref x0), some (.int x1), some (.ref x2), none, none, none, none]) (zLe_some (zLe_some (zLe_some (zLe_none (zLe_none (zLe_none (zLe_some (zLe_nil)))))))) ?_
      exact hK54 G x0 x1 x2 h
    · refine Y.blk (pc' := 26) (L' := [some (.ref x0), some (.int x1), some (.ref x2), some (.ref x3), some (.int x4), some (.int x5), none]) (st' := [.int x5, .ref x3]) (sg := [(.aload_n 3, 0), (.iload 5, 0)]) (lSa_ok dd2) rfl ?_
      refine Y.aald (t0 := 4) (lIa_ok dd3) rfl h (fun h => ?_) (fun v5 h => ?_)
      · refine Y.blk (pc' := 32) (L' := [some (.ref x0), some (.int x1), some (.ref x2), some (.ref x3), some (.int x4), some (.int x5), some (.null)]) (st' := [.int (nI 0), .ref x2, .int (nI 0), .ref x2]) (sg := [(.astore 6, 0), (.aload_n 2, 0), (.iconst 0, nI 0), (.dup2, 0)]) (lSa_ok dd4) rfl ?_
        refine Y.iald (t0 := 0) (lIa_ok dd5) rfl h (fun v6 h => ?_)
        refine Y.blk (pc' := 35) (L' := [some (.ref x0), some (.int x1), some (.ref x2), some (.ref x3), some (.int x4), some (.int x5), some (.null)]) (st' := [.null, .int v6, .int (nI 0), .ref x2]) (sg := [(.aload 6, 0)]) (lSa_ok dd6) rfl ?_
        refine Y.ifnull_n (off := 7) (tgt := 42) (lIa_ok dd7) (by decide) ?_
        refine Y.blk (pc' := 43) (L' := [some (.ref x0), some (.int x1), some (.ref x2), some (.ref x3), some (.int x4), some (.int x5), some (.null)]) (st' := [.int (nI 0), .int v6, .int (nI 0), .ref x2]) (sg := [(.iconst 0, nI 0)]) (lSa_ok dd8) rfl ?_
        refine Y.callI (yC.S (As := [.int (nI 0)]) (st := [.int v6, .int (nI 0), .ref x2]) hV.1 cb_M_one lk_M_188 st_M_one (lIa_ok dd9) rfl rfl (Nat.le_of_ble_eq_true rfl) (by decide)) (k_M_one hV G (nI 0)) h (fun v9 G8 _ h => ?_)
        refine Y.blk (pc' := 47) (L' := [some (.ref x0), some (.int x1), some (.ref x2), some (.ref x3), some (.int x4), some (.int x5), some (.null)]) (st' := [.int (v6 + v9), .int (nI 0), .ref x2]) (sg := [(.iadd, 0)]) (lSa_ok dd10) rfl ?_
        refine Y.iast (t0 := 0) (lIa_ok dd11) rfl (by decide) h (fun G10 _ _ h => ?_)
        refine Y.blk (pc' := 51) (L' := [some (.ref x0), some (.int x1), some (.ref x2), some (.ref x3), some (.int x4), some (.int (x5 + (nI 1))), some (.null)]) (st' := []) (sg := [(.iinc 5 1, nI 1)]) (lSa_ok dd12) rfl ?_
        refine Y.goto (off := -35) (tgt := 16) (lIa_ok dd13) (by decide) ?_
        refine Y.less (L' := [some (.ref x0), some (.int x1), some (.ref x2), some (.ref x3), some (.int x4), some (.int (x5 + (nI 1))), none]) (zLe_some (zLe_some (zLe_some (zLe_some (zLe_some (zLe_some (zLe_none (zLe_nil)))))))) ?_
        exact ih G10 x0 x1 x2 x3 x4 (x5 + (nI 1)) h
      · refine Y.blk (pc' := 32) (L' := [some (.ref x0), some (.int x1), some (.ref x2), some (.ref x3), some (.int x4), some (.int x5), some (.ref v5)]) (st' := [.int (nI 0), .ref x2, .int (nI 0), .ref x2]) (sg := [(.astore 6, 0), (.aload_n 2, 0), (.iconst 0, nI 0), (.dup2, 0)]) (lSa_ok dd4) rfl ?_
        refine Y.iald (t0 := 0) (lIa_ok dd5) rfl h (fun v11 h => ?_)
        refine Y.blk (pc' := 35) (L' := [some (.ref x0), some (.int x1), some (.ref x2), some (.ref x3), some (.int x4), some (.int x5), some (.ref v5)]) (st' := [.ref v5, .int v11, .int (nI 0), .ref x2]) (sg := [(.aload 6, 0)]) (lSa_ok dd6) rfl ?_
        refine Y.ifnull_r (off := 7) (lIa_ok dd7) ?_
        refine Y.blk (pc' := 39) (L' := [some (.ref x0), some (.int x1), some (.ref x2), some (.ref x3), some (.int x4), some (.int x5), some (.ref v5)]) (st' := [.int (nI 1), .int v11, .int (nI 0), .ref x2]) (sg := [(.iconst 1, nI 1)]) (lSa_ok dd14) rfl ?_
        refine Y.goto (off := 4) (tgt := 43) (lIa_ok dd15) (by decide) ?_
        refine Y.callI (yC.S (As := [.int (nI 1)]) (st := [.int v11, .int (nI 0), .ref x2]) hV.1 cb_M_one lk_M_188 st_M_one (lIa_ok dd9) rfl rfl (Nat.le_of_ble_eq_true rfl) (by decide)) (k_M_one hV G (nI 1)) h (fun v14 G13 _ h => ?_)
        refine Y.blk (pc' := 47) (L' := [some (.ref x0), some (.int x1), some (.ref x2), some (.ref x3), some (.int x4), some (.int x5), some (.ref v5)]) (st' := [.int (v11 + v14), .int (nI 0), .ref x2]) (sg := [(.iadd, 0)]) (lSa_ok dd10) rfl ?_
        refine Y.iast (t0 := 0) (lIa_ok dd11) rfl (by decide) h (fun G15 _ _ h => ?_)
        refine Y.blk (pc' := 51) (L' := [some (.ref x0), some (.int x1), some (.ref x2), some (.ref x3), some (.int x4), some (.int (x5 + (nI 1))), some (.ref v5)]) (st' := []) (sg := [(.iinc 5 1, nI 1)]) (lSa_ok dd12) rfl ?_
        refine Y.goto (off := -35) (tgt := 16) (lIa_ok dd13) (by decide) ?_
        refine Y.less (L' := [some (.ref x0), some (.int x1), some (.ref x2), some (.ref x3), some (.int x4), some (.int (x5 + (nI 1))), none]) (zLe_some (zLe_some (zLe_some (zLe_some (zLe_some (zLe_some (zLe_none (zLe_nil)))))))) ?_
        exact ih G15 x0 x1 x2 x3 x4 (x5 + (nI 1)) h
theorem k_M_houseTold_L66 {l : Launch} {D : va_G} {B : Nat} {O : State → Heap → Prop} (hV : zG l D B O) {o : gO} {Gf : gH} (K131 : gH → Nat → Int32 → Nat → gR) (hK131 : ∀ (G : gH) (x0 : Nat) (x1 : Int32) (x2 : Nat), K131 G x0 x1 x2 = some (o, Gf) → Y (zVm l D B O) m_M_houseTold 3 o Gf 131 [some (.ref x0), some (.int x1), some (.ref x2), none, none, none, none] [] G) : ∀ (n : Nat) (G : gH) (x0 : Nat) (x1 : Int32) (x2 : Nat) (x3 : Nat) (x4 : Int32) (x5 : Int32), f_M_houseTold_L66 K131 n G x0 x1 x2 x3 x4 x5 = some (o, Gf) → Y (zVm l D B O) m_M_houseTold 3 o Gf 66 [some (.ref x0), some (.int x1), some (.ref x2), some (.ref x3), some (.int x4), some (.int x5), none] [] G := by
  have hdd : lSa m_M_houseTold 66 [(.iload 5, 0), (.iload 4, 0)] = true ∧ lIa m_M_houseTold 70 (.if_icmp .ge 61) 3 = true ∧ lSa m_M_houseTold 73 [(.aload_n 3, 0), (.iload 5, 0)] = true ∧ lIa m_M_houseTold 76 (.aaload) 1 = true ∧ lSa m_M_houseTold 77 [(.astore 6, 0), (.aload_n 2, 0), (.iconst 1, nI 1), (.dup2, 0)] = true ∧ lIa m_M_houseTold 82 (.iaload) 1 = true ∧ lSa m_M_houseTold 83 [(.aload 6, 0)] = true ∧ lIa m_M_houseTold 85 (.ifnull 7) 3 = true ∧ lSa m_M_houseTold 92 [(.iconst 0, nI 0)] = true ∧ lIa m_M_houseTold 93 (.invokestatic 188) 3 = true ∧ lSa m_M_houseTold 96 [(.iadd, 0)] = true ∧ lIa m_M_houseTold 97 (.iastore) 1 = true ∧ lSa m_M_houseTold 98 [(.aload_n 2, 0), (.iconst 2, nI 2), (.dup2, 0)] = true ∧ lIa m_M_houseTold 101 (.iaload) 1 = true ∧ lSa m_M_houseTold 102 [(.aload 6, 0)] = true ∧ lIa m_M_houseTold 104 (.ifnull 15) 3 = true ∧ lSa m_M_houseTold 119 [(.iconst 0, nI 0)] = true ∧ lIa m_M_houseTold 120 (.invokestatic 188) 3 = true ∧ lSa m_M_houseTold 123 [(.iadd, 0)] = true ∧ lIa m_M_houseTold 124 (.iastore) 1 = true ∧ lSa m_M_houseTold 125 [(.iinc 5 1, nI 1)] = true ∧ lIa m_M_houseTold 128 (.goto (-62)) 3 = true ∧ lSa m_M_houseTold 88 [(.iconst 1, nI 1)] = true ∧ lIa m_M_houseTold 89 (.goto 4) 3 = true ∧ lSa m_M_houseTold 107 [(.aload 6, 0)] = true ∧ lIa m_M_houseTold 109 (.getfield 99) 3 = true ∧ lIa m_M_houseTold 112 (.ifCond .eq 7) 3 = true ∧ lSa m_M_houseTold 115 [(.iconst 1, nI 1)] = true ∧ lIa m_M_houseTold 116 (.goto 4) 3 = true := by decide +kernel
  refine lA8 hdd (fun dd0 dd1 dd2 dd3 dd4 dd5 dd6 dd7 hdd => ?_)
  refine lA8 hdd (fun dd8 dd9 dd10 dd11 dd12 dd13 dd14 dd15 hdd => ?_)
  refine lA8 hdd (fun dd16 dd17 dd18 dd19 dd20 dd21 dd22 dd23 hdd => ?_)
  obtain ⟨dd24, dd25, dd26, dd27, dd28⟩ := hdd
  intro n
  induction n with
  | zero => intro G x0 x1 x2 x3 x4 x5 h; cases h
  | succ n ih =>
    intro G x0 x1 x2 x3 x4 x5 h
    unfold f_M_houseTold_L66 at h
    refine Y.blk (pc' := 70) (L' := [some (.ref x0), some (.int x1), some (.ref x2), some (.ref x3), some (.int x4), some (.int x5), none]) (st' := [.int x4, .int x5]) (sg := [(.iload 5, 0), (.iload 4, 0)]) (lSa_ok dd0) rfl ?_
    refine Y.ic_ge (off := 61) (tgt := 131) (lIa_ok dd1) (by decide) h (fun c50 h => ?_) (fun c50 h => ?_)
    · refine Y.less (L' := [some (.ref x0), some (.int x1), some (.ref x2), none, none, none, none]) (zLe_some (zLe_some (zLe_some (zLe_none (zLe_none (zLe_none (zLe_some (zLe_nil)))))))) ?_
      exact hK131 G x0 x1 x2 h
    · refine Y.blk (pc' := 76) (L' := [some (.ref x0), some (.int x1), some (.ref x2), some (.ref x3), some (.int x4), some (.int x5), none]) (st' := [.int x5, .ref x3]) (sg := [(.aload_n 3, 0), (.iload 5, 0)]) (lSa_ok dd2) rfl ?_
      refine Y.aald (t0 := 5) (lIa_ok dd3) rfl h (fun h => ?_) (fun v23 h => ?_)
      · refine Y.blk (pc' := 82) (L' := [some (.ref x0), some (.int x1), some (.ref x2), some (.ref x3), some (.int x4), some (.int x5), some (.null)]) (st' := [.int (nI 1), .ref x2, .int (nI 1), .ref x2]) (sg := [(.astore 6, 0), (.aload_n 2, 0), (.iconst 1, nI 1), (.dup2, 0)]) (lSa_ok dd4) rfl ?_
        refine Y.iald (t0 := 0) (lIa_ok dd5) rfl h (fun v24 h => ?_)
        refine Y.blk (pc' := 85) (L' := [some (.ref x0), some (.int x1), some (.ref x2), some (.ref x3), some (.int x4), some (.int x5), some (.null)]) (st' := [.null, .int v24, .int (nI 1), .ref x2]) (sg := [(.aload 6, 0)]) (lSa_ok dd6) rfl ?_
        refine Y.ifnull_n (off := 7) (tgt := 92) (lIa_ok dd7) (by decide) ?_
        refine Y.blk (pc' := 93) (L' := [some (.ref x0), some (.int x1), some (.ref x2), some (.ref x3), some (.int x4), some (.int x5), some (.null)]) (st' := [.int (nI 0), .int v24, .int (nI 1), .ref x2]) (sg := [(.iconst 0, nI 0)]) (lSa_ok dd8) rfl ?_
        refine Y.callI (yC.S (As := [.int (nI 0)]) (st := [.int v24, .int (nI 1), .ref x2]) hV.1 cb_M_one lk_M_188 st_M_one (lIa_ok dd9) rfl rfl (Nat.le_of_ble_eq_true rfl) (by decide)) (k_M_one hV G (nI 0)) h (fun v27 G26 _ h => ?_)
        refine Y.blk (pc' := 97) (L' := [some (.ref x0), some (.int x1), some (.ref x2), some (.ref x3), some (.int x4), some (.int x5), some (.null)]) (st' := [.int (v24 + v27), .int (nI 1), .ref x2]) (sg := [(.iadd, 0)]) (lSa_ok dd10) rfl ?_
        refine Y.iast (t0 := 0) (lIa_ok dd11) rfl (by decide) h (fun G28 _ _ h => ?_)
        refine Y.blk (pc' := 101) (L' := [some (.ref x0), some (.int x1), some (.ref x2), some (.ref x3), some (.int x4), some (.int x5), some (.null)]) (st' := [.int (nI 2), .ref x2, .int (nI 2), .ref x2]) (sg := [(.aload_n 2, 0), (.iconst 2, nI 2), (.dup2, 0)]) (lSa_ok dd12) rfl ?_
        refine Y.iald (t0 := 0) (lIa_ok dd13) rfl h (fun v29 h => ?_)
        refine Y.blk (pc' := 104) (L' := [some (.ref x0), some (.int x1), some (.ref x2), some (.ref x3), some (.int x4), some (.int x5), some (.null)]) (st' := [.null, .int v29, .int (nI 2), .ref x2]) (sg := [(.aload 6, 0)]) (lSa_ok dd14) rfl ?_
        refine Y.ifnull_n (off := 15) (tgt := 119) (lIa_ok dd15) (by decide) ?_
        refine Y.blk (pc' := 120) (L' := [some (.ref x0), some (.int x1), some (.ref x2), some (.ref x3), some (.int x4), some (.int x5), some (.null)]) (st' := [.int (nI 0), .int v29, .int (nI 2), .ref x2]) (sg := [(.iconst 0, nI 0)]) (lSa_ok dd16) rfl ?_
        refine Y.callI (yC.S (As := [.int (nI 0)]) (st := [.int v29, .int (nI 2), .ref x2]) hV.1 cb_M_one lk_M_188 st_M_one (lIa_ok dd17) rfl rfl (Nat.le_of_ble_eq_true rfl) (by decide)) (k_M_one hV G28 (nI 0)) h (fun v32 G31 _ h => ?_)
        refine Y.blk (pc' := 124) (L' := [some (.ref x0), some (.int x1), some (.ref x2), some (.ref x3), some (.int x4), some (.int x5), some (.null)]) (st' := [.int (v29 + v32), .int (nI 2), .ref x2]) (sg := [(.iadd, 0)]) (lSa_ok dd18) rfl ?_
        refine Y.iast (t0 := 0) (lIa_ok dd19) rfl (by decide) h (fun G33 _ _ h => ?_)
        refine Y.blk (pc' := 128) (L' := [some (.ref x0), some (.int x1), some (.ref x2), some (.ref x3), some (.int x4), some (.int (x5 + (nI 1))), some (.null)]) (st' := []) (sg := [(.iinc 5 1, nI 1)]) (lSa_ok dd20) rfl ?_
        refine Y.goto (off := -62) (tgt := 66) (lIa_ok dd21) (by decide) ?_
        refine Y.less (L' := [some (.ref x0), some (.int x1), some (.ref x2), some (.ref x3), some (.int x4), some (.int (x5 + (nI 1))), none]) (zLe_some (zLe_some (zLe_some (zLe_some (zLe_some (zLe_some (zLe_none (zLe_nil)))))))) ?_
        exact ih G33 x0 x1 x2 x3 x4 (x5 + (nI 1)) h
      · refine Y.blk (pc' := 82) (L' := [some (.ref x0), some (.int x1), some (.ref x2), some (.ref x3), some (.int x4), some (.int x5), some (.ref v23)]) (st' := [.int (nI 1), .ref x2, .int (nI 1), .ref x2]) (sg := [(.astore 6, 0), (.aload_n 2, 0), (.iconst 1, nI 1), (.dup2, 0)]) (lSa_ok dd4) rfl ?_
        refine Y.iald (t0 := 0) (lIa_ok dd5) rfl h (fun v34 h => ?_)
        refine Y.blk (pc' := 85) (L' := [some (.ref x0), some (.int x1), some (.ref x2), some (.ref x3), some (.int x4), some (.int x5), some (.ref v23)]) (st' := [.ref v23, .int v34, .int (nI 1), .ref x2]) (sg := [(.aload 6, 0)]) (lSa_ok dd6) rfl ?_
        refine Y.ifnull_r (off := 7) (lIa_ok dd7) ?_
        refine Y.blk (pc' := 89) (L' := [some (.ref x0), some (.int x1), some (.ref x2), some (.ref x3), some (.int x4), some (.int x5), some (.ref v23)]) (st' := [.int (nI 1), .int v34, .int (nI 1), .ref x2]) (sg := [(.iconst 1, nI 1)]) (lSa_ok dd22) rfl ?_
        refine Y.goto (off := 4) (tgt := 93) (lIa_ok dd23) (by decide) ?_
        refine Y.callI (yC.S (As := [.int (nI 1)]) (st := [.int v34, .int (nI 1), .ref x2]) hV.1 cb_M_one lk_M_188 st_M_one (lIa_ok dd9) rfl rfl (Nat.le_of_ble_eq_true rfl) (by decide)) (k_M_one hV G (nI 1)) h (fun v37 G36 _ h => ?_)
        refine Y.blk (pc' := 97) (L' := [some (.ref x0), some (.int x1), some (.ref x2), some (.ref x3), some (.int x4), some (.int x5), some (.ref v23)]) (st' := [.int (v34 + v37), .int (nI 1), .ref x2]) (sg := [(.iadd, 0)]) (lSa_ok dd10) rfl ?_
        refine Y.iast (t0 := 0) (lIa_ok dd11) rfl (by decide) h (fun G38 _ _ h => ?_)
        refine Y.blk (pc' := 101) (L' := [some (.ref x0), some (.int x1), some (.ref x2), some (.ref x3), some (.int x4), some (.int x5), some (.ref v23)]) (st' := [.int (nI 2), .ref x2, .int (nI 2), .ref x2]) (sg := [(.aload_n 2, 0), (.iconst 2, nI 2), (.dup2, 0)]) (lSa_ok dd12) rfl ?_
        refine Y.iald (t0 := 0) (lIa_ok dd13) rfl h (fun v39 h => ?_)
        refine Y.blk (pc' := 104) (L' := [some (.ref x0), some (.int x1), some (.ref x2), some (.ref x3), some (.int x4), some (.int x5), some (.ref v23)]) (st' := [.ref v23, .int v39, .int (nI 2), .ref x2]) (sg := [(.aload 6, 0)]) (lSa_ok dd14) rfl ?_
        refine Y.ifnull_r (off := 15) (lIa_ok dd15) ?_
        refine Y.blk (pc' := 109) (L' := [some (.ref x0), some (.int x1), some (.ref x2), some (.ref x3), some (.int x4), some (.int x5), some (.ref v23)]) (st' := [.ref v23, .int v39, .int (nI 2), .ref x2]) (sg := [(.aload 6, 0)]) (lSa_ok dd24) rfl ?_
        refine Y.getI fl_M_99 (lIa_ok dd25) h (fun v40 h => ?_)
        refine Y.if_eq (off := 7) (tgt := 119) (lIa_ok dd26) (by decide) h (fun c49 h => ?_) (fun c49 h => ?_)
        · refine Y.blk (pc' := 120) (L' := [some (.ref x0), some (.int x1), some (.ref x2), some (.ref x3), some (.int x4), some (.int x5), some (.ref v23)]) (st' := [.int (nI 0), .int v39, .int (nI 2), .ref x2]) (sg := [(.iconst 0, nI 0)]) (lSa_ok dd16) rfl ?_
          refine Y.callI (yC.S (As := [.int (nI 0)]) (st := [.int v39, .int (nI 2), .ref x2]) hV.1 cb_M_one lk_M_188 st_M_one (lIa_ok dd17) rfl rfl (Nat.le_of_ble_eq_true rfl) (by decide)) (k_M_one hV G38 (nI 0)) h (fun v43 G42 _ h => ?_)
          refine Y.blk (pc' := 124) (L' := [some (.ref x0), some (.int x1), some (.ref x2), some (.ref x3), some (.int x4), some (.int x5), some (.ref v23)]) (st' := [.int (v39 + v43), .int (nI 2), .ref x2]) (sg := [(.iadd, 0)]) (lSa_ok dd18) rfl ?_
          refine Y.iast (t0 := 0) (lIa_ok dd19) rfl (by decide) h (fun G44 _ _ h => ?_)
          refine Y.blk (pc' := 128) (L' := [some (.ref x0), some (.int x1), some (.ref x2), some (.ref x3), some (.int x4), some (.int (x5 + (nI 1))), some (.ref v23)]) (st' := []) (sg := [(.iinc 5 1, nI 1)]) (lSa_ok dd20) rfl ?_
          refine Y.goto (off := -62) (tgt := 66) (lIa_ok dd21) (by decide) ?_
          refine Y.less (L' := [some (.ref x0), some (.int x1), some (.ref x2), some (.ref x3), some (.int x4), some (.int (x5 + (nI 1))), none]) (zLe_some (zLe_some (zLe_some (zLe_some (zLe_some (zLe_some (zLe_none (zLe_nil)))))))) ?_
          exact ih G44 x0 x1 x2 x3 x4 (x5 + (nI 1)) h
        · refine Y.blk (pc' := 116) (L' := [some (.ref x0), some (.int x1), some (.ref x2), some (.ref x3), some (.int x4), some (.int x5), some (.ref v23)]) (st' := [.int (nI 1), .int v39, .int (nI 2), .ref x2]) (sg := [(.iconst 1, nI 1)]) (lSa_ok dd27) rfl ?_
          refine Y.goto (off := 4) (tgt := 120) (lIa_ok dd28) (by decide) ?_
          refine Y.callI (yC.S (As := [.int (nI 1)]) (st := [.int v39, .int (nI 2), .ref x2]) hV.1 cb_M_one lk_M_188 st_M_one (lIa_ok dd17) rfl rfl (Nat.le_of_ble_eq_true rfl) (by decide)) (k_M_one hV G38 (nI 1)) h (fun v47 G46 _ h => ?_)
          refine Y.blk (pc' := 124) (L' := [some (.ref x0), some (.int x1), some (.ref x2), some (.ref x3), some (.int x4), some (.int x5), some (.ref v23)]) (st' := [.int (v39 + v47), .int (nI 2), .ref x2]) (sg := [(.iadd, 0)]) (lSa_ok dd18) rfl ?_
          refine Y.iast (t0 := 0) (lIa_ok dd19) rfl (by decide) h (fun G48 _ _ h => ?_)
          refine Y.blk (pc' := 128) (L' := [some (.ref x0), some (.int x1), some (.ref x2), some (.ref x3), some (.int x4), some (.int (x5 + (nI 1))), some (.ref v23)]) (st' := []) (sg := [(.iinc 5 1, nI 1)]) (lSa_ok dd20) rfl ?_
          refine Y.goto (off := -62) (tgt := 66) (lIa_ok dd21) (by decide) ?_
          refine Y.less (L' := [some (.ref x0), some (.int x1), some (.ref x2), some (.ref x3), some (.int x4), some (.int (x5 + (nI 1))), none]) (zLe_some (zLe_some (zLe_some (zLe_some (zLe_some (zLe_some (zLe_none (zLe_nil)))))))) ?_
          exact ih G48 x0 x1 x2 x3 x4 (x5 + (nI 1)) h
theorem k_M_houseTold {l : Launch} {D : va_G} {B : Nat} {O : State → Heap → Prop} (hV : zG l D B O) (G : gH) (a0 : Nat) (a1 : Int32) : gMet (zVm l D B O) m_M_houseTold 3 [.ref a0, .int a1] G (f_M_houseTold G a0 a1) := by
  have hdd : lSa m_M_houseTold 0 [(.iconst 3, nI 3)] = true ∧ lSa m_M_houseTold 3 [(.astore_n 2, 0), (.aload_n 0, 0)] = true ∧ lIa m_M_houseTold 5 (.getfield 18) 3 = true ∧ lSa m_M_houseTold 8 [(.astore_n 3, 0), (.aload_n 3, 0)] = true ∧ lIa m_M_houseTold 10 (.arraylength) 1 = true ∧ lSa m_M_houseTold 11 [(.istore 4, 0), (.iconst 0, nI 0), (.istore 5, 0)] = true ∧ lSa m_M_houseTold 54 [(.aload_n 0, 0)] = true ∧ lIa m_M_houseTold 55 (.getfield 24) 3 = true ∧ lSa m_M_houseTold 58 [(.astore_n 3, 0), (.aload_n 3, 0)] = true ∧ lIa m_M_houseTold 60 (.arraylength) 1 = true ∧ lSa m_M_houseTold 61 [(.istore 4, 0), (.iconst 0, nI 0), (.istore 5, 0)] = true ∧ lSa m_M_houseTold 131 [(.bipush 8, nI 8)] = true ∧ lSa m_M_houseTold 135 [(.dup, 0), (.iconst 0, nI 0), (.aload_n 0, 0)] = true ∧ lIa m_M_houseTold 138 (.getfield 76) 3 = true ∧ lIa m_M_houseTold 141 (.iastore) 1 = true ∧ lSa m_M_houseTold 142 [(.dup, 0), (.iconst 1, nI 1), (.aload_n 2, 0), (.iconst 0, nI 0)] = true ∧ lIa m_M_houseTold 146 (.iaload) 1 = true ∧ lIa m_M_houseTold 147 (.iastore) 1 = true ∧ lSa m_M_houseTold 148 [(.dup, 0), (.iconst 2, nI 2), (.aload_n 2, 0), (.iconst 1, nI 1)] = true ∧ lIa m_M_houseTold 152 (.iaload) 1 = true ∧ lIa m_M_houseTold 153 (.iastore) 1 = true ∧ lSa m_M_houseTold 154 [(.dup, 0), (.iconst 3, nI 3), (.aload_n 2, 0), (.iconst 2, nI 2)] = true ∧ lIa m_M_houseTold 158 (.iaload) 1 = true ∧ lIa m_M_houseTold 159 (.iastore) 1 = true ∧ lSa m_M_houseTold 160 [(.dup, 0), (.iconst 4, nI 4), (.aload_n 0, 0)] = true ∧ lIa m_M_houseTold 163 (.getfield 96) 3 = true ∧ lIa m_M_houseTold 166 (.iastore) 1 = true ∧ lSa m_M_houseTold 167 [(.dup, 0), (.iconst 5, nI 5), (.aload_n 0, 0)] = true ∧ lIa m_M_houseTold 170 (.getfield 83) 3 = true ∧ lIa m_M_houseTold 173 (.iastore) 1 = true ∧ lSa m_M_houseTold 174 [(.dup, 0), (.bipush 6, nI 6), (.aload_n 0, 0)] = true ∧ lIa m_M_houseTold 178 (.getfield 211) 3 = true ∧ lIa m_M_houseTold 181 (.iastore) 1 = true ∧ lSa m_M_houseTold 182 [(.dup, 0), (.bipush 7, nI 7), (.aload_n 0, 0)] = true ∧ lIa m_M_houseTold 186 (.getfield 293) 3 = true ∧ lIa m_M_houseTold 189 (.iastore) 1 = true ∧ lSa m_M_houseTold 190 [(.astore_n 3, 0), (.aload_n 3, 0), (.iload_n 1, 0)] = true ∧ lIa m_M_houseTold 193 (.iaload) 1 = true ∧ lIa m_M_houseTold 194 (.ireturn) 1 = true := by decide +kernel
  refine lA8 hdd (fun dd0 dd1 dd2 dd3 dd4 dd5 dd6 dd7 hdd => ?_)
  refine lA8 hdd (fun dd8 dd9 dd10 dd11 dd12 dd13 dd14 dd15 hdd => ?_)
  refine lA8 hdd (fun dd16 dd17 dd18 dd19 dd20 dd21 dd22 dd23 hdd => ?_)
  refine lA8 hdd (fun dd24 dd25 dd26 dd27 dd28 dd29 dd30 dd31 hdd => ?_)
  obtain ⟨dd32, dd33, dd34, dd35, dd36, dd37, dd38⟩ := hdd
  refine gMet.of (by decide +kernel) (Nat.le_of_ble_eq_true rfl) [some (.ref a0), some (.int a1), none, none, none, none, none] (fun ls h => zEn_ok (n := 7) h) ?_
  intro o Gf h
  unfold f_M_houseTold at h
  refine Y.blk (pc' := 1) (L' := [some (.ref a0), some (.int a1), none, none, none, none, none]) (st' := [.int (nI 3)]) (sg := [(.iconst 3, nI 3)]) (lSa_ok dd0) rfl ?_
  refine Y.newa (at_ := .int) (t0 := 0) ac_i rfl (by decide) rfl (by decide) (by decide +kernel) h (fun q1 G2 h => ?_)
  refine Y.blk (pc' := 5) (L' := [some (.ref a0), some (.int a1), some (.ref q1), none, none, none, none]) (st' := [.ref a0]) (sg := [(.astore_n 2, 0), (.aload_n 0, 0)]) (lSa_ok dd1) rfl ?_
  refine Y.getA fl_M_18 (lIa_ok dd2) h (fun v3 h => ?_)
  refine Y.blk (pc' := 10) (L' := [some (.ref a0), some (.int a1), some (.ref q1), some (.ref v3), none, none, none]) (st' := [.ref v3]) (sg := [(.astore_n 3, 0), (.aload_n 3, 0)]) (lSa_ok dd3) rfl ?_
  refine Y.alenq (t0 := 4) (lIa_ok dd4) rfl h (fun v4 h => ?_)
  refine Y.blk (pc' := 16) (L' := [some (.ref a0), some (.int a1), some (.ref q1), some (.ref v3), some (.int v4), some (.int (nI 0)), none]) (st' := []) (sg := [(.istore 4, 0), (.iconst 0, nI 0), (.istore 5, 0)]) (lSa_ok dd5) rfl ?_
  refine k_M_houseTold_L16 hV _ ?_  zFu G2 a0 a1 q1 v3 v4 (nI 0) h
  · intro G20 x17 x18 x19 h
    refine Y.blk (pc' := 55) (L' := [some (.ref x17), some (.int x18), some (.ref x19), none, none, none, none]) (st' := [.ref x17]) (sg := [(.aload_n 0, 0)]) (lSa_ok dd6) rfl ?_
    refine Y.getA fl_M_24 (lIa_ok dd7) h (fun v21 h => ?_)
    refine Y.blk (pc' := 60) (L' := [some (.ref x17), some (.int x18), some (.ref x19), some (.ref v21), none, none, none]) (st' := [.ref v21]) (sg := [(.astore_n 3, 0), (.aload_n 3, 0)]) (lSa_ok dd8) rfl ?_
    refine Y.alenq (t0 := 5) (lIa_ok dd9) rfl h (fun v22 h => ?_)
    refine Y.blk (pc' := 66) (L' := [some (.ref x17), some (.int x18), some (.ref x19), some (.ref v21), some (.int v22), some (.int (nI 0)), none]) (st' := []) (sg := [(.istore 4, 0), (.iconst 0, nI 0), (.istore 5, 0)]) (lSa_ok dd10) rfl ?_
    refine k_M_houseTold_L66 hV _ ?_  zFu G20 x17 x18 x19 v21 v22 (nI 0) h
    · intro G54 x51 x52 x53 h
      refine Y.blk (pc' := 133) (L' := [some (.ref x51), some (.int x52), some (.ref x53), none, none, none, none]) (st' := [.int (nI 8)]) (sg := [(.bipush 8, nI 8)]) (lSa_ok dd11) rfl ?_
      refine Y.newa (at_ := .int) (t0 := 0) ac_i rfl (by decide) rfl (by decide) (by decide +kernel) h (fun q55 G56 h => ?_)
      refine Y.blk (pc' := 138) (L' := [some (.ref x51), some (.int x52), some (.ref x53), none, none, none, none]) (st' := [.ref x51, .int (nI 0), .ref q55, .ref q55]) (sg := [(.dup, 0), (.iconst 0, nI 0), (.aload_n 0, 0)]) (lSa_ok dd12) rfl ?_
      refine Y.getI fl_M_76 (lIa_ok dd13) h (fun v57 h => ?_)
      refine Y.iast (t0 := 0) (lIa_ok dd14) rfl (by decide) h (fun G58 _ _ h => ?_)
      refine Y.blk (pc' := 146) (L' := [some (.ref x51), some (.int x52), some (.ref x53), none, none, none, none]) (st' := [.int (nI 0), .ref x53, .int (nI 1), .ref q55, .ref q55]) (sg := [(.dup, 0), (.iconst 1, nI 1), (.aload_n 2, 0), (.iconst 0, nI 0)]) (lSa_ok dd15) rfl ?_
      refine Y.iald (t0 := 0) (lIa_ok dd16) rfl h (fun v59 h => ?_)
      refine Y.iast (t0 := 0) (lIa_ok dd17) rfl (by decide) h (fun G60 _ _ h => ?_)
      refine Y.blk (pc' := 152) (L' := [some (.ref x51), some (.int x52), some (.ref x53), none, none, none, none]) (st' := [.int (nI 1), .ref x53, .int (nI 2), .ref q55, .ref q55]) (sg := [(.dup, 0), (.iconst 2, nI 2), (.aload_n 2, 0), (.iconst 1, nI 1)]) (lSa_ok dd18) rfl ?_
      refine Y.iald (t0 := 0) (lIa_ok dd19) rfl h (fun v61 h => ?_)
      refine Y.iast (t0 := 0) (lIa_ok dd20) rfl (by decide) h (fun G62 _ _ h => ?_)
      refine Y.blk (pc' := 158) (L' := [some (.ref x51), some (.int x52), some (.ref x53), none, none, none, none]) (st' := [.int (nI 2), .ref x53, .int (nI 3), .ref q55, .ref q55]) (sg := [(.dup, 0), (.iconst 3, nI 3), (.aload_n 2, 0), (.iconst 2, nI 2)]) (lSa_ok dd21) rfl ?_
      refine Y.iald (t0 := 0) (lIa_ok dd22) rfl h (fun v63 h => ?_)
      refine Y.iast (t0 := 0) (lIa_ok dd23) rfl (by decide) h (fun G64 _ _ h => ?_)
      refine Y.blk (pc' := 163) (L' := [some (.ref x51), some (.int x52), some (.ref x53), none, none, none, none]) (st' := [.ref x51, .int (nI 4), .ref q55, .ref q55]) (sg := [(.dup, 0), (.iconst 4, nI 4), (.aload_n 0, 0)]) (lSa_ok dd24) rfl ?_
      refine Y.getI fl_M_96 (lIa_ok dd25) h (fun v65 h => ?_)
      refine Y.iast (t0 := 0) (lIa_ok dd26) rfl (by decide) h (fun G66 _ _ h => ?_)
      refine Y.blk (pc' := 170) (L' := [some (.ref x51), some (.int x52), some (.ref x53), none, none, none, none]) (st' := [.ref x51, .int (nI 5), .ref q55, .ref q55]) (sg := [(.dup, 0), (.iconst 5, nI 5), (.aload_n 0, 0)]) (lSa_ok dd27) rfl ?_
      refine Y.getI fl_M_83 (lIa_ok dd28) h (fun v67 h => ?_)
      refine Y.iast (t0 := 0) (lIa_ok dd29) rfl (by decide) h (fun G68 _ _ h => ?_)
      refine Y.blk (pc' := 178) (L' := [some (.ref x51), some (.int x52), some (.ref x53), none, none, none, none]) (st' := [.ref x51, .int (nI 6), .ref q55, .ref q55]) (sg := [(.dup, 0), (.bipush 6, nI 6), (.aload_n 0, 0)]) (lSa_ok dd30) rfl ?_
      refine Y.getI fl_M_211 (lIa_ok dd31) h (fun v69 h => ?_)
      refine Y.iast (t0 := 0) (lIa_ok dd32) rfl (by decide) h (fun G70 _ _ h => ?_)
      refine Y.blk (pc' := 186) (L' := [some (.ref x51), some (.int x52), some (.ref x53), none, none, none, none]) (st' := [.ref x51, .int (nI 7), .ref q55, .ref q55]) (sg := [(.dup, 0), (.bipush 7, nI 7), (.aload_n 0, 0)]) (lSa_ok dd33) rfl ?_
      refine Y.getI fl_M_293 (lIa_ok dd34) h (fun v71 h => ?_)
      refine Y.iast (t0 := 0) (lIa_ok dd35) rfl (by decide) h (fun G72 _ _ h => ?_)
      refine Y.blk (pc' := 193) (L' := [some (.ref x51), some (.int x52), some (.ref x53), some (.ref q55), none, none, none]) (st' := [.int x52, .ref q55]) (sg := [(.astore_n 3, 0), (.aload_n 3, 0), (.iload_n 1, 0)]) (lSa_ok dd36) rfl ?_
      refine Y.iald (t0 := 0) (lIa_ok dd37) rfl h (fun v73 h => ?_)
      exact Y.iret rfl (lIa_ok dd38) h

def f_M_order_L12 (K83 : gH → Nat → Int32 → Int32 → gR) : Nat → gH → Nat → Int32 → Int32 → Int32 → gR
  | 0, _, _, _, _, _ => none
  | n + 1, G, x0, x1, x2, x3 =>
    if x3 ≤ 0 then K83 G x0 x1 x2
    else gOb G x0 9 fun o7 => bA (f_AL_get G x0 x3) fun v10 G9 => gCaA G9 v10 100 (gOb G9 x0 9 fun o12 => bA (f_AL_get G9 x0 (x3 - (nI 1))) fun v15 G14 => gCaA G14 v15 100 (bI (f_M_ahead G14 v10 v15 x1) fun v18 G17 => if 0 ≤ v18 then K83 G17 x0 x1 x2
      else gOb G17 x0 9 fun o20 => bA (f_AL_get G17 x0 x3) fun v23 G22 => gCaA G22 v23 100 (gOb G22 x0 9 fun o25 => bA (f_AL_get G22 x0 (x3 - (nI 1))) fun v28 G27 => gCaA G27 v28 100 (gOb G27 x0 9 fun o30 => bA (f_AL_set G27 x0 x3 v28) fun v33 G32 => gOb G32 x0 9 fun o35 => bA (f_AL_set G32 x0 (x3 - (nI 1)) v23) fun v38 G37 => f_M_order_L12 K83 n G37 x0 x1 x2 (x3 + (-1))))))
def f_M_order_L2 (K89 : gH → gR) : Nat → gH → Nat → Int32 → Int32 → gR
  | 0, _, _, _, _ => none
  | n + 1, G, x0, x1, x2 =>
    gOb G x0 9 fun o2 => bI (f_AL_size G x0) fun v5 G4 => if v5 ≤ x2 then K89 G4
    else f_M_order_L12 (fun G44 x41 x42 x43 => f_M_order_L2 K89 n G44 x41 x42 (x43 + (nI 1))) zFu G4 x0 x1 x2 x2
def f_M_order (G : gH) (a0 : Nat) (a1 : Int32) : gR :=
  f_M_order_L2 (fun G46 => rV G46) zFu G a0 a1 (nI 1)
theorem k_M_order_L12 {l : Launch} {D : va_G} {B : Nat} {O : State → Heap → Prop} (hV : zG l D B O) {o : gO} {Gf : gH} (K83 : gH → Nat → Int32 → Int32 → gR) (hK83 : ∀ (G : gH) (x0 : Nat) (x1 : Int32) (x2 : Int32), K83 G x0 x1 x2 = some (o, Gf) → Y (zVm l D B O) m_M_order 5 o Gf 83 [some (.ref x0), some (.int x1), some (.int x2), none, none] [] G) : ∀ (n : Nat) (G : gH) (x0 : Nat) (x1 : Int32) (x2 : Int32) (x3 : Int32), f_M_order_L12 K83 n G x0 x1 x2 x3 = some (o, Gf) → Y (zVm l D B O) m_M_order 5 o Gf 12 [some (.ref x0), some (.int x1), some (.int x2), some (.int x3), none] [] G := by
  have hdd : lSa m_M_order 12 [(.iload_n 3, 0)] = true ∧ lIa m_M_order 13 (.ifCond .le 70) 3 = true ∧ lSa m_M_order 16 [(.aload_n 0, 0), (.iload_n 3, 0)] = true ∧ lIa m_M_order 18 (.invokevirtual 57) 3 = true ∧ lIa m_M_order 21 (.checkcast 72) 3 = true ∧ lSa m_M_order 24 [(.aload_n 0, 0), (.iload_n 3, 0), (.iconst 1, nI 1), (.isub, 0)] = true ∧ lIa m_M_order 28 (.invokevirtual 57) 3 = true ∧ lIa m_M_order 31 (.checkcast 72) 3 = true ∧ lSa m_M_order 34 [(.iload_n 1, 0)] = true ∧ lIa m_M_order 35 (.invokestatic 180) 3 = true ∧ lIa m_M_order 38 (.ifCond .ge 45) 3 = true ∧ lSa m_M_order 41 [(.aload_n 0, 0), (.iload_n 3, 0)] = true ∧ lIa m_M_order 43 (.invokevirtual 57) 3 = true ∧ lIa m_M_order 46 (.checkcast 72) 3 = true ∧ lSa m_M_order 49 [(.astore 4, 0), (.aload_n 0, 0), (.iload_n 3, 0), (.aload_n 0, 0), (.iload_n 3, 0), (.iconst 1, nI 1), (.isub, 0)] = true ∧ lIa m_M_order 57 (.invokevirtual 57) 3 = true ∧ lIa m_M_order 60 (.checkcast 72) 3 = true ∧ lIa m_M_order 63 (.invokevirtual 143) 3 = true ∧ lSa m_M_order 66 [(.pop, 0), (.aload_n 0, 0), (.iload_n 3, 0), (.iconst 1, nI 1), (.isub, 0), (.aload 4, 0)] = true ∧ lIa m_M_order 73 (.invokevirtual 143) 3 = true ∧ lSa m_M_order 76 [(.pop, 0), (.iinc 3 (-1), -1)] = true ∧ lIa m_M_order 80 (.goto (-68)) 3 = true := by decide +kernel
  refine lA8 hdd (fun dd0 dd1 dd2 dd3 dd4 dd5 dd6 dd7 hdd => ?_)
  refine lA8 hdd (fun dd8 dd9 dd10 dd11 dd12 dd13 dd14 dd15 hdd => ?_)
  obtain ⟨dd16, dd17, dd18, dd19, dd20, dd21⟩ := hdd
  intro n
  induction n with
  | zero => intro G x0 x1 x2 x3 h; cases h
  | succ n ih =>
    intro G x0 x1 x2 x3 h
    unfold f_M_order_L12 at h
    refine Y.blk (pc' := 13) (L' := [some (.ref x0), some (.int x1), some (.int x2), some (.int x3), none]) (st' := [.int x3]) (sg := [(.iload_n 3, 0)]) (lSa_ok dd0) rfl ?_
    refine Y.if_le (off := 70) (tgt := 83) (lIa_ok dd1) (by decide) h (fun c40 h => ?_) (fun c40 h => ?_)
    · refine Y.less (L' := [some (.ref x0), some (.int x1), some (.int x2), none, none]) (zLe_some (zLe_some (zLe_some (zLe_none (zLe_some (zLe_nil)))))) ?_
      exact hK83 G x0 x1 x2 h
    · refine Y.blk (pc' := 18) (L' := [some (.ref x0), some (.int x1), some (.int x2), some (.int x3), none]) (st' := [.int x3, .ref x0]) (sg := [(.aload_n 0, 0), (.iload_n 3, 0)]) (lSa_ok dd2) rfl ?_
      obtain ⟨_, o7, e6, m8, h⟩ := gOb_inv h
      refine Y.callA (yC.Vi (b := x0) (As := [.int x3]) (st := []) (r := ("java/util/ArrayList", T_AL, 3)) hV.1 cb_AL_get lk_M_57 in_AL_get rfl se_AL_get (lIa_ok dd3) rfl rfl (Nat.le_of_ble_eq_true rfl) (by decide) e6 m8) (k_AL_get hV G x0 x3) h (fun v10 G9 _ h => ?_)
      refine Y.castA (t0 := 0) (nm := "[I") (lIa_ok dd4) rfl (by decide) ck_M_72 h (fun h => ?_)
      refine Y.blk (pc' := 28) (L' := [some (.ref x0), some (.int x1), some (.int x2), some (.int x3), none]) (st' := [.int (x3 - (nI 1)), .ref x0, .ref v10]) (sg := [(.aload_n 0, 0), (.iload_n 3, 0), (.iconst 1, nI 1), (.isub, 0)]) (lSa_ok dd5) rfl ?_
      obtain ⟨_, o12, e11, m13, h⟩ := gOb_inv h
      refine Y.callA (yC.Vi (b := x0) (As := [.int (x3 - (nI 1))]) (st := [.ref v10]) (r := ("java/util/ArrayList", T_AL, 3)) hV.1 cb_AL_get lk_M_57 in_AL_get rfl se_AL_get (lIa_ok dd6) rfl rfl (Nat.le_of_ble_eq_true rfl) (by decide) e11 m13) (k_AL_get hV G9 x0 (x3 - (nI 1))) h (fun v15 G14 _ h => ?_)
      refine Y.castA (t0 := 0) (nm := "[I") (lIa_ok dd7) rfl (by decide) ck_M_72 h (fun h => ?_)
      refine Y.blk (pc' := 35) (L' := [some (.ref x0), some (.int x1), some (.int x2), some (.int x3), none]) (st' := [.int x1, .ref v15, .ref v10]) (sg := [(.iload_n 1, 0)]) (lSa_ok dd8) rfl ?_
      refine Y.callI (yC.S (As := [.ref v10, .ref v15, .int x1]) (st := []) hV.1 cb_M_ahead lk_M_180 st_M_ahead (lIa_ok dd9) rfl rfl (Nat.le_of_ble_eq_true rfl) (by decide)) (k_M_ahead hV G14 v10 v15 x1) h (fun v18 G17 _ h => ?_)
      refine Y.if_ge (off := 45) (tgt := 83) (lIa_ok dd10) (by decide) h (fun c39 h => ?_) (fun c39 h => ?_)
      · refine Y.less (L' := [some (.ref x0), some (.int x1), some (.int x2), none, none]) (zLe_some (zLe_some (zLe_some (zLe_none (zLe_some (zLe_nil)))))) ?_
        exact hK83 G17 x0 x1 x2 h
      · refine Y.blk (pc' := 43) (L' := [some (.ref x0), some (.int x1), some (.int x2), some (.int x3), none]) (st' := [.int x3, .ref x0]) (sg := [(.aload_n 0, 0), (.iload_n 3, 0)]) (lSa_ok dd11) rfl ?_
        obtain ⟨_, o20, e19, m21, h⟩ := gOb_inv h
        refine Y.callA (yC.Vi (b := x0) (As := [.int x3]) (st := []) (r := ("java/util/ArrayList", T_AL, 3)) hV.1 cb_AL_get lk_M_57 in_AL_get rfl se_AL_get (lIa_ok dd12) rfl rfl (Nat.le_of_ble_eq_true rfl) (by decide) e19 m21) (k_AL_get hV G17 x0 x3) h (fun v23 G22 _ h => ?_)
        refine Y.castA (t0 := 0) (nm := "[I") (lIa_ok dd13) rfl (by decide) ck_M_72 h (fun h => ?_)
        refine Y.blk (pc' := 57) (L' := [some (.ref x0), some (.int x1), some (.int x2), some (.int x3), some (.ref v23)]) (st' := [.int (x3 - (nI 1)), .ref x0, .int x3, .ref x0]) (sg := [(.astore 4, 0), (.aload_n 0, 0), (.iload_n 3, 0), (.aload_n 0, 0), (.iload_n 3, 0), (.iconst 1, nI 1), (.isub, 0)]) (lSa_ok dd14) rfl ?_
        obtain ⟨_, o25, e24, m26, h⟩ := gOb_inv h
        refine Y.callA (yC.Vi (b := x0) (As := [.int (x3 - (nI 1))]) (st := [.int x3, .ref x0]) (r := ("java/util/ArrayList", T_AL, 3)) hV.1 cb_AL_get lk_M_57 in_AL_get rfl se_AL_get (lIa_ok dd15) rfl rfl (Nat.le_of_ble_eq_true rfl) (by decide) e24 m26) (k_AL_get hV G22 x0 (x3 - (nI 1))) h (fun v28 G27 _ h => ?_)
        refine Y.castA (t0 := 0) (nm := "[I") (lIa_ok dd16) rfl (by decide) ck_M_72 h (fun h => ?_)
        obtain ⟨_, o30, e29, m31, h⟩ := gOb_inv h
        refine Y.callA (yC.Vi (b := x0) (As := [.int x3, .ref v28]) (st := []) (r := ("java/util/ArrayList", T_AL, 3)) hV.1 cb_AL_set lk_M_143 in_AL_set rfl se_AL_set (lIa_ok dd17) rfl rfl (Nat.le_of_ble_eq_true rfl) (by decide) e29 m31) (k_AL_set hV G27 x0 x3 v28) h (fun v33 G32 _ h => ?_)
        refine Y.blk (pc' := 73) (L' := [some (.ref x0), some (.int x1), some (.int x2), some (.int x3), some (.ref v23)]) (st' := [.ref v23, .int (x3 - (nI 1)), .ref x0]) (sg := [(.pop, 0), (.aload_n 0, 0), (.iload_n 3, 0), (.iconst 1, nI 1), (.isub, 0), (.aload 4, 0)]) (lSa_ok dd18) rfl ?_
        obtain ⟨_, o35, e34, m36, h⟩ := gOb_inv h
        refine Y.callA (yC.Vi (b := x0) (As := [.int (x3 - (nI 1)), .ref v23]) (st := []) (r := ("java/util/ArrayList", T_AL, 3)) hV.1 cb_AL_set lk_M_143 in_AL_set rfl se_AL_set (lIa_ok dd19) rfl rfl (Nat.le_of_ble_eq_true rfl) (by decide) e34 m36) (k_AL_set hV G32 x0 (x3 - (nI 1)) v23) h (fun v38 G37 _ h => ?_)
        refine Y.blk (pc' := 80) (L' := [some (.ref x0), some (.int x1), some (.int x2), some (.int (x3 + (-1))), some (.ref v23)]) (st' := []) (sg := [(.pop, 0), (.iinc 3 (-1), -1)]) (lSa_ok dd20) rfl ?_
        refine Y.goto (off := -68) (tgt := 12) (lIa_ok dd21) (by decide) ?_
        refine Y.less (L' := [some (.ref x0), some (.int x1), some (.int x2), some (.int (x3 + (-1))), none]) (zLe_some (zLe_some (zLe_some (zLe_some (zLe_none (zLe_nil)))))) ?_
        exact ih G37 x0 x1 x2 (x3 + (-1)) h
theorem k_M_order_L2 {l : Launch} {D : va_G} {B : Nat} {O : State → Heap → Prop} (hV : zG l D B O) {o : gO} {Gf : gH} (K89 : gH → gR) (hK89 : ∀ (G : gH), K89 G  = some (o, Gf) → Y (zVm l D B O) m_M_order 5 o Gf 89 [none, none, none, none, none] [] G) : ∀ (n : Nat) (G : gH) (x0 : Nat) (x1 : Int32) (x2 : Int32), f_M_order_L2 K89 n G x0 x1 x2 = some (o, Gf) → Y (zVm l D B O) m_M_order 5 o Gf 2 [some (.ref x0), some (.int x1), some (.int x2), none, none] [] G := by
  have hdd : lSa m_M_order 2 [(.iload_n 2, 0), (.aload_n 0, 0)] = true ∧ lIa m_M_order 4 (.invokevirtual 61) 3 = true ∧ lIa m_M_order 7 (.if_icmp .ge 82) 3 = true ∧ lSa m_M_order 10 [(.iload_n 2, 0), (.istore_n 3, 0)] = true ∧ lSa m_M_order 83 [(.iinc 2 1, nI 1)] = true ∧ lIa m_M_order 86 (.goto (-84)) 3 = true := by decide +kernel
  obtain ⟨dd0, dd1, dd2, dd3, dd4, dd5⟩ := hdd
  intro n
  induction n with
  | zero => intro G x0 x1 x2 h; cases h
  | succ n ih =>
    intro G x0 x1 x2 h
    unfold f_M_order_L2 at h
    refine Y.blk (pc' := 4) (L' := [some (.ref x0), some (.int x1), some (.int x2), none, none]) (st' := [.ref x0, .int x2]) (sg := [(.iload_n 2, 0), (.aload_n 0, 0)]) (lSa_ok dd0) rfl ?_
    obtain ⟨_, o2, e1, m3, h⟩ := gOb_inv h
    refine Y.callI (yC.Vi (b := x0) (As := []) (st := [.int x2]) (r := ("java/util/ArrayList", T_AL, 3)) hV.1 cb_AL_size lk_M_61 in_AL_size rfl se_AL_size (lIa_ok dd1) rfl rfl (Nat.le_of_ble_eq_true rfl) (by decide) e1 m3) (k_AL_size hV G x0) h (fun v5 G4 _ h => ?_)
    refine Y.ic_ge (off := 82) (tgt := 89) (lIa_ok dd2) (by decide) h (fun c45 h => ?_) (fun c45 h => ?_)
    · refine Y.less (L' := [none, none, none, none, none]) (zLe_none (zLe_none (zLe_none (zLe_some (zLe_some (zLe_nil)))))) ?_
      exact hK89 G4  h
    · refine Y.blk (pc' := 12) (L' := [some (.ref x0), some (.int x1), some (.int x2), some (.int x2), none]) (st' := []) (sg := [(.iload_n 2, 0), (.istore_n 3, 0)]) (lSa_ok dd3) rfl ?_
      refine k_M_order_L12 hV _ ?_  zFu G4 x0 x1 x2 x2 h
      · intro G44 x41 x42 x43 h
        refine Y.blk (pc' := 86) (L' := [some (.ref x41), some (.int x42), some (.int (x43 + (nI 1))), none, none]) (st' := []) (sg := [(.iinc 2 1, nI 1)]) (lSa_ok dd4) rfl ?_
        refine Y.goto (off := -84) (tgt := 2) (lIa_ok dd5) (by decide) ?_
        exact ih G44 x41 x42 (x43 + (nI 1)) h
theorem k_M_order {l : Launch} {D : va_G} {B : Nat} {O : State → Heap → Prop} (hV : zG l D B O) (G : gH) (a0 : Nat) (a1 : Int32) : gMet (zVm l D B O) m_M_order 5 [.ref a0, .int a1] G (f_M_order G a0 a1) := by
  have hdd : lSa m_M_order 0 [(.iconst 1, nI 1), (.istore_n 2, 0)] = true ∧ lIa m_M_order 89 (.return_) 1 = true := by decide +kernel
  obtain ⟨dd0, dd1⟩ := hdd
  refine gMet.of (by decide +kernel) (Nat.le_of_ble_eq_true rfl) [some (.ref a0), some (.int a1), none, none, none] (fun ls h => zEn_ok (n := 5) h) ?_
  intro o Gf h
  unfold f_M_order at h
  refine Y.blk (pc' := 2) (L' := [some (.ref a0), some (.int a1), some (.int (nI 1)), none, none]) (st' := []) (sg := [(.iconst 1, nI 1), (.istore_n 2, 0)]) (lSa_ok dd0) rfl ?_
  refine k_M_order_L2 hV _ ?_  zFu G a0 a1 (nI 1) h
  · intro G46 h
    exact Y.vret rfl (lIa_ok dd1) h
end
section
def f_M_isWhole_L94 (w : Nat → Nat) (K130 : gH → gR) (K138 : gH → Nat → Int32 → Int32 → gR) : Nat → gH → Nat → Int32 → Int32 → Nat → Int32 → gR
  | 0, _, _, _, _, _, _ => none
  | n + 1, G, x0, x1, x2, x3, x4 =>
    gOb G x3 9 fun o14 => bI (f_AL_size G x3) fun v17 G16 => if v17 ≤ x4 then K138 G16 x0 x1 x2
    else gOb G16 x3 9 fun o19 => bA (f_AL_get G16 x3 x4) fun v22 G21 => gCaA G21 v22 100 (gOb G21 x3 9 fun o24 => bA (f_AL_get G21 x3 (x4 - (nI 1))) fun v27 G26 => gCaA G26 v27 100 (bI (f_M_ahead G26 v22 v27 x2) fun v30 G29 => if 0 ≤ v30 then f_M_isWhole_L94 w K130 K138 n G29 x0 x1 x2 x3 (x4 + (nI 1))
      else K130 G29))
def f_M_isWhole_L75 (w : Nat → Nat) (K130 : gH → gR) (K144 : gH → Nat → Int32 → gR) : Nat → gH → Nat → Int32 → Int32 → gR
  | 0, _, _, _, _ => none
  | n + 1, G, x0, x1, x2 =>
    if (nI 5) ≤ x2 then K144 G x0 x1
    else gOb G x0 6 fun o7 => bA (f_M_copy w G x0 x1) fun v10 G9 => bV (f_M_order G9 v10 x2) fun G12 => f_M_isWhole_L94 w (fun G33 => K130 G33) (fun G37 x34 x35 x36 => f_M_isWhole_L75 w K130 K144 n G37 x34 x35 (x36 + (nI 1))) zFu G12 x0 x1 x2 v10 (nI 1)
def f_M_isWhole_L2 (w : Nat → Nat) (K71 : gH → gR) (K130 : gH → gR) (K150 : gH → Nat → gR) : Nat → gH → Nat → Int32 → gR
  | 0, _, _, _ => none
  | n + 1, G, x0, x1 =>
    if (nI 6) ≤ x1 then K150 G x0
    else gOb G x0 6 fun o2 => bI (f_M_isNoList G x0 x1) fun v5 G4 => if v5 = 0 then (if x1 < (nI 2) then f_M_isWhole_L75 w (fun G39 => K130 G39) (fun G42 x40 x41 => f_M_isWhole_L2 w K71 K130 K150 n G42 x40 (x41 + (nI 1))) zFu G4 x0 x1 (nI 0)
        else gFA G4 x0 6 2 fun v43 => gLdq G4 v43 104 x1 (none) fun v44 => gFI G4 v44 5 1 fun v45 => if v45 < 0 then K71 G4
            else gFA G4 x0 6 2 fun v46 => gLdq G4 v46 104 x1 (none) fun v47 => gFI G4 v47 5 1 fun v48 => gFA G4 x0 6 2 fun v49 => gLdq G4 v49 104 x1 (none) fun v50 => gFI G4 v50 5 2 fun v51 => gFA G4 x0 6 2 fun v52 => gLdq G4 v52 104 x1 (none) fun v53 => gFI G4 v53 5 0 fun v54 => gOb G4 x0 6 fun o56 => bI (f_M_length G4 x0 v54) fun v59 G58 => if (v48 + v51) ≤ v59 then f_M_isWhole_L75 w (fun G60 => K130 G60) (fun G63 x61 x62 => f_M_isWhole_L2 w K71 K130 K150 n G63 x61 (x62 + (nI 1))) zFu G58 x0 x1 (nI 0)
                    else K71 G58)
      else f_M_isWhole_L2 w K71 K130 K150 n G4 x0 (x1 + (nI 1))
def f_M_isWhole (w : Nat → Nat) (G : gH) (a0 : Nat) : gR :=
  f_M_isWhole_L2 w (fun G69 => rZ (nI 0) G69) (fun G70 => rZ (nI 0) G70) (fun G72 x71 => gFA G72 x71 6 1 fun v73 => gOb G72 v73 9 fun o75 => bA (f_AL_get G72 v73 (nI 0)) fun v78 G77 => gCaO G77 v78 9 (gOb G77 v78 9 fun o80 => bI (f_AL_size G77 v78) fun v83 G82 => if (nI 31) < v83 then rZ (nI 0) G82
    else gFA G82 x71 6 1 fun v84 => gOb G82 v84 9 fun o86 => bA (f_AL_get G82 v84 (nI 1)) fun v89 G88 => gCaO G88 v89 9 (gOb G88 v89 9 fun o91 => bI (f_AL_size G88 v89) fun v94 G93 => if (nI 31) < v94 then rZ (nI 0) G93
      else rZ (nI 1) G93))) zFu G a0 (nI 0)
theorem k_M_isWhole_L94 {l : Launch} {D : va_G} {B : Nat} {O : State → Heap → Prop} {w : Nat → Nat} (hV : zGw l D B O w) {o : gO} {Gf : gH} (K130 : gH → gR) (K138 : gH → Nat → Int32 → Int32 → gR) (hK130 : ∀ (G : gH), K130 G  = some (o, Gf) → Y (zVm l D B O) m_M_isWhole 14 o Gf 130 [none, none, none, none, none] [] G) (hK138 : ∀ (G : gH) (x0 : Nat) (x1 : Int32) (x2 : Int32), K138 G x0 x1 x2 = some (o, Gf) → Y (zVm l D B O) m_M_isWhole 14 o Gf 138 [some (.ref x0), some (.int x1), some (.int x2), none, none] [] G) : ∀ (n : Nat) (G : gH) (x0 : Nat) (x1 : Int32) (x2 : Int32) (x3 : Nat) (x4 : Int32), f_M_isWhole_L94 w K130 K138 n G x0 x1 x2 x3 x4 = some (o, Gf) → Y (zVm l D B O) m_M_isWhole 14 o Gf 94 [some (.ref x0), some (.int x1), some (.int x2), some (.ref x3), some (.int x4)] [] G := by
  have hdd : lSa m_M_isWhole 94 [(.iload 4, 0), (.aload_n 3, 0)] = true ∧ lIa m_M_isWhole 97 (.invokevirtual 61) 3 = true ∧ lIa m_M_isWhole 100 (.if_icmp .ge 38) 3 = true ∧ lSa m_M_isWhole 103 [(.aload_n 3, 0), (.iload 4, 0)] = true ∧ lIa m_M_isWhole 106 (.invokevirtual 57) 3 = true ∧ lIa m_M_isWhole 109 (.checkcast 72) 3 = true ∧ lSa m_M_isWhole 112 [(.aload_n 3, 0), (.iload 4, 0), (.iconst 1, nI 1), (.isub, 0)] = true ∧ lIa m_M_isWhole 117 (.invokevirtual 57) 3 = true ∧ lIa m_M_isWhole 120 (.checkcast 72) 3 = true ∧ lSa m_M_isWhole 123 [(.iload_n 2, 0)] = true ∧ lIa m_M_isWhole 124 (.invokestatic 180) 3 = true ∧ lIa m_M_isWhole 127 (.ifCond .ge 5) 3 = true ∧ lSa m_M_isWhole 132 [(.iinc 4 1, nI 1)] = true ∧ lIa m_M_isWhole 135 (.goto (-41)) 3 = true := by decide +kernel
  refine lA8 hdd (fun dd0 dd1 dd2 dd3 dd4 dd5 dd6 dd7 hdd => ?_)
  obtain ⟨dd8, dd9, dd10, dd11, dd12, dd13⟩ := hdd
  intro n
  induction n with
  | zero => intro G x0 x1 x2 x3 x4 h; cases h
  | succ n ih =>
    intro G x0 x1 x2 x3 x4 h
    unfold f_M_isWhole_L94 at h
    refine Y.blk (pc' := 97) (L' := [some (.ref x0), some (.int x1), some (.int x2), some (.ref x3), some (.int x4)]) (st' := [.ref x3, .int x4]) (sg := [(.iload 4, 0), (.aload_n 3, 0)]) (lSa_ok dd0) rfl ?_
    obtain ⟨_, o14, e13, m15, h⟩ := gOb_inv h
    refine Y.callI (yC.Vi (b := x3) (As := []) (st := [.int x4]) (r := ("java/util/ArrayList", T_AL, 3)) hV.1.1 cb_AL_size lk_M_61 in_AL_size rfl se_AL_size (lIa_ok dd1) rfl rfl (Nat.le_of_ble_eq_true rfl) (by decide) e13 m15) (k_AL_size hV.1 G x3) h (fun v17 G16 _ h => ?_)
    refine Y.ic_ge (off := 38) (tgt := 138) (lIa_ok dd2) (by decide) h (fun c32 h => ?_) (fun c32 h => ?_)
    · refine Y.less (L' := [some (.ref x0), some (.int x1), some (.int x2), none, none]) (zLe_some (zLe_some (zLe_some (zLe_none (zLe_none (zLe_nil)))))) ?_
      exact hK138 G16 x0 x1 x2 h
    · refine Y.blk (pc' := 106) (L' := [some (.ref x0), some (.int x1), some (.int x2), some (.ref x3), some (.int x4)]) (st' := [.int x4, .ref x3]) (sg := [(.aload_n 3, 0), (.iload 4, 0)]) (lSa_ok dd3) rfl ?_
      obtain ⟨_, o19, e18, m20, h⟩ := gOb_inv h
      refine Y.callA (yC.Vi (b := x3) (As := [.int x4]) (st := []) (r := ("java/util/ArrayList", T_AL, 3)) hV.1.1 cb_AL_get lk_M_57 in_AL_get rfl se_AL_get (lIa_ok dd4) rfl rfl (Nat.le_of_ble_eq_true rfl) (by decide) e18 m20) (k_AL_get hV.1 G16 x3 x4) h (fun v22 G21 _ h => ?_)
      refine Y.castA (t0 := 0) (nm := "[I") (lIa_ok dd5) rfl (by decide) ck_M_72 h (fun h => ?_)
      refine Y.blk (pc' := 117) (L' := [some (.ref x0), some (.int x1), some (.int x2), some (.ref x3), some (.int x4)]) (st' := [.int (x4 - (nI 1)), .ref x3, .ref v22]) (sg := [(.aload_n 3, 0), (.iload 4, 0), (.iconst 1, nI 1), (.isub, 0)]) (lSa_ok dd6) rfl ?_
      obtain ⟨_, o24, e23, m25, h⟩ := gOb_inv h
      refine Y.callA (yC.Vi (b := x3) (As := [.int (x4 - (nI 1))]) (st := [.ref v22]) (r := ("java/util/ArrayList", T_AL, 3)) hV.1.1 cb_AL_get lk_M_57 in_AL_get rfl se_AL_get (lIa_ok dd7) rfl rfl (Nat.le_of_ble_eq_true rfl) (by decide) e23 m25) (k_AL_get hV.1 G21 x3 (x4 - (nI 1))) h (fun v27 G26 _ h => ?_)
      refine Y.castA (t0 := 0) (nm := "[I") (lIa_ok dd8) rfl (by decide) ck_M_72 h (fun h => ?_)
      refine Y.blk (pc' := 124) (L' := [some (.ref x0), some (.int x1), some (.int x2), some (.ref x3), some (.int x4)]) (st' := [.int x2, .ref v27, .ref v22]) (sg := [(.iload_n 2, 0)]) (lSa_ok dd9) rfl ?_
      refine Y.callI (yC.S (As := [.ref v22, .ref v27, .int x2]) (st := []) hV.1.1 cb_M_ahead lk_M_180 st_M_ahead (lIa_ok dd10) rfl rfl (Nat.le_of_ble_eq_true rfl) (by decide)) (k_M_ahead hV.1 G26 v22 v27 x2) h (fun v30 G29 _ h => ?_)
      refine Y.if_ge (off := 5) (tgt := 132) (lIa_ok dd11) (by decide) h (fun c31 h => ?_) (fun c31 h => ?_)
      · refine Y.blk (pc' := 135) (L' := [some (.ref x0), some (.int x1), some (.int x2), some (.ref x3), some (.int (x4 + (nI 1)))]) (st' := []) (sg := [(.iinc 4 1, nI 1)]) (lSa_ok dd12) rfl ?_
        refine Y.goto (off := -41) (tgt := 94) (lIa_ok dd13) (by decide) ?_
        exact ih G29 x0 x1 x2 x3 (x4 + (nI 1)) h
      · refine Y.less (L' := [none, none, none, none, none]) (zLe_none (zLe_none (zLe_none (zLe_none (zLe_none (zLe_nil)))))) ?_
        exact hK130 G29  h
theorem k_M_isWhole_L75 {l : Launch} {D : va_G} {B : Nat} {O : State → Heap → Prop} {w : Nat → Nat} (hV : zGw l D B O w) {o : gO} {Gf : gH} (K130 : gH → gR) (K144 : gH → Nat → Int32 → gR) (hK130 : ∀ (G : gH), K130 G  = some (o, Gf) → Y (zVm l D B O) m_M_isWhole 14 o Gf 130 [none, none, none, none, none] [] G) (hK144 : ∀ (G : gH) (x0 : Nat) (x1 : Int32), K144 G x0 x1 = some (o, Gf) → Y (zVm l D B O) m_M_isWhole 14 o Gf 144 [some (.ref x0), some (.int x1), none, none, none] [] G) : ∀ (n : Nat) (G : gH) (x0 : Nat) (x1 : Int32) (x2 : Int32), f_M_isWhole_L75 w K130 K144 n G x0 x1 x2 = some (o, Gf) → Y (zVm l D B O) m_M_isWhole 14 o Gf 75 [some (.ref x0), some (.int x1), some (.int x2), none, none] [] G := by
  have hdd : lSa m_M_isWhole 75 [(.iload_n 2, 0), (.iconst 5, nI 5)] = true ∧ lIa m_M_isWhole 77 (.if_icmp .ge 67) 3 = true ∧ lSa m_M_isWhole 80 [(.aload_n 0, 0), (.iload_n 1, 0)] = true ∧ lIa m_M_isWhole 82 (.invokevirtual 136) 3 = true ∧ lSa m_M_isWhole 85 [(.astore_n 3, 0), (.aload_n 3, 0), (.iload_n 2, 0)] = true ∧ lIa m_M_isWhole 88 (.invokestatic 184) 3 = true ∧ lSa m_M_isWhole 91 [(.iconst 1, nI 1), (.istore 4, 0)] = true ∧ lSa m_M_isWhole 138 [(.iinc 2 1, nI 1)] = true ∧ lIa m_M_isWhole 141 (.goto (-66)) 3 = true := by decide +kernel
  refine lA8 hdd (fun dd0 dd1 dd2 dd3 dd4 dd5 dd6 dd7 hdd => ?_)
  have dd8 := hdd
  intro n
  induction n with
  | zero => intro G x0 x1 x2 h; cases h
  | succ n ih =>
    intro G x0 x1 x2 h
    unfold f_M_isWhole_L75 at h
    refine Y.blk (pc' := 77) (L' := [some (.ref x0), some (.int x1), some (.int x2), none, none]) (st' := [.int (nI 5), .int x2]) (sg := [(.iload_n 2, 0), (.iconst 5, nI 5)]) (lSa_ok dd0) rfl ?_
    refine Y.ic_ge (off := 67) (tgt := 144) (lIa_ok dd1) (by decide) h (fun c38 h => ?_) (fun c38 h => ?_)
    · refine Y.less (L' := [some (.ref x0), some (.int x1), none, none, none]) (zLe_some (zLe_some (zLe_none (zLe_some (zLe_some (zLe_nil)))))) ?_
      exact hK144 G x0 x1 h
    · refine Y.blk (pc' := 82) (L' := [some (.ref x0), some (.int x1), some (.int x2), none, none]) (st' := [.int x1, .ref x0]) (sg := [(.aload_n 0, 0), (.iload_n 1, 0)]) (lSa_ok dd2) rfl ?_
      obtain ⟨_, o7, e6, m8, h⟩ := gOb_inv h
      refine Y.callA (yC.Vi (b := x0) (As := [.int x1]) (st := []) (r := ("PartlisterModel", T_M, 9)) hV.1.1 cb_M_copy lk_M_136 in_M_copy rfl se_M_copy (lIa_ok dd3) rfl rfl (Nat.le_of_ble_eq_true rfl) (by decide) e6 m8) (k_M_copy hV G x0 x1) h (fun v10 G9 _ h => ?_)
      refine Y.blk (pc' := 88) (L' := [some (.ref x0), some (.int x1), some (.int x2), some (.ref v10), none]) (st' := [.int x2, .ref v10]) (sg := [(.astore_n 3, 0), (.aload_n 3, 0), (.iload_n 2, 0)]) (lSa_ok dd4) rfl ?_
      refine Y.callN (yC.S (As := [.ref v10, .int x2]) (st := []) hV.1.1 cb_M_order lk_M_184 st_M_order (lIa_ok dd5) rfl rfl (Nat.le_of_ble_eq_true rfl) (by decide)) (k_M_order hV.1 G9 v10 x2) h (fun G12 _ h => ?_)
      refine Y.blk (pc' := 94) (L' := [some (.ref x0), some (.int x1), some (.int x2), some (.ref v10), some (.int (nI 1))]) (st' := []) (sg := [(.iconst 1, nI 1), (.istore 4, 0)]) (lSa_ok dd6) rfl ?_
      refine k_M_isWhole_L94 hV _ _ ?_ ?_  zFu G12 x0 x1 x2 v10 (nI 1) h
      · intro G33 h
        exact hK130 G33  h
      · intro G37 x34 x35 x36 h
        refine Y.blk (pc' := 141) (L' := [some (.ref x34), some (.int x35), some (.int (x36 + (nI 1))), none, none]) (st' := []) (sg := [(.iinc 2 1, nI 1)]) (lSa_ok dd7) rfl ?_
        refine Y.goto (off := -66) (tgt := 75) (lIa_ok dd8) (by decide) ?_
        exact ih G37 x34 x35 (x36 + (nI 1)) h
theorem k_M_isWhole_L2 {l : Launch} {D : va_G} {B : Nat} {O : State → Heap → Prop} {w : Nat → Nat} (hV : zGw l D B O w) {o : gO} {Gf : gH} (K71 : gH → gR) (K130 : gH → gR) (K150 : gH → Nat → gR) (hK71 : ∀ (G : gH), K71 G  = some (o, Gf) → Y (zVm l D B O) m_M_isWhole 14 o Gf 71 [none, none, none, none, none] [] G) (hK130 : ∀ (G : gH), K130 G  = some (o, Gf) → Y (zVm l D B O) m_M_isWhole 14 o Gf 130 [none, none, none, none, none] [] G) (hK150 : ∀ (G : gH) (x0 : Nat), K150 G x0 = some (o, Gf) → Y (zVm l D B O) m_M_isWhole 14 o Gf 150 [some (.ref x0), none, none, none, none] [] G) : ∀ (n : Nat) (G : gH) (x0 : Nat) (x1 : Int32), f_M_isWhole_L2 w K71 K130 K150 n G x0 x1 = some (o, Gf) → Y (zVm l D B O) m_M_isWhole 14 o Gf 2 [some (.ref x0), some (.int x1), none, none, none] [] G := by
  have hdd : lSa m_M_isWhole 2 [(.iload_n 1, 0), (.bipush 6, nI 6)] = true ∧ lIa m_M_isWhole 5 (.if_icmp .ge 145) 3 = true ∧ lSa m_M_isWhole 8 [(.aload_n 0, 0), (.iload_n 1, 0)] = true ∧ lIa m_M_isWhole 10 (.invokevirtual 110) 3 = true ∧ lIa m_M_isWhole 13 (.ifCond .eq 6) 3 = true ∧ lSa m_M_isWhole 19 [(.iload_n 1, 0), (.iconst 2, nI 2)] = true ∧ lIa m_M_isWhole 21 (.if_icmp .lt 52) 3 = true ∧ lSa m_M_isWhole 73 [(.iconst 0, nI 0), (.istore_n 2, 0)] = true ∧ lSa m_M_isWhole 144 [(.iinc 1 1, nI 1)] = true ∧ lIa m_M_isWhole 147 (.goto (-145)) 3 = true ∧ lSa m_M_isWhole 24 [(.aload_n 0, 0)] = true ∧ lIa m_M_isWhole 25 (.getfield 18) 3 = true ∧ lSa m_M_isWhole 28 [(.iload_n 1, 0)] = true ∧ lIa m_M_isWhole 29 (.aaload) 1 = true ∧ lIa m_M_isWhole 30 (.getfield 51) 3 = true ∧ lIa m_M_isWhole 33 (.ifCond .lt 38) 3 = true ∧ lSa m_M_isWhole 36 [(.aload_n 0, 0)] = true ∧ lIa m_M_isWhole 37 (.getfield 18) 3 = true ∧ lSa m_M_isWhole 40 [(.iload_n 1, 0)] = true ∧ lIa m_M_isWhole 41 (.aaload) 1 = true ∧ lIa m_M_isWhole 42 (.getfield 51) 3 = true ∧ lSa m_M_isWhole 45 [(.aload_n 0, 0)] = true ∧ lIa m_M_isWhole 46 (.getfield 18) 3 = true ∧ lSa m_M_isWhole 49 [(.iload_n 1, 0)] = true ∧ lIa m_M_isWhole 50 (.aaload) 1 = true ∧ lIa m_M_isWhole 51 (.getfield 65) 3 = true ∧ lSa m_M_isWhole 54 [(.iadd, 0), (.aload_n 0, 0), (.aload_n 0, 0)] = true ∧ lIa m_M_isWhole 57 (.getfield 18) 3 = true ∧ lSa m_M_isWhole 60 [(.iload_n 1, 0)] = true ∧ lIa m_M_isWhole 61 (.aaload) 1 = true ∧ lIa m_M_isWhole 62 (.getfield 44) 3 = true ∧ lIa m_M_isWhole 65 (.invokevirtual 74) 3 = true ∧ lIa m_M_isWhole 68 (.if_icmp .le 5) 3 = true ∧ lIa m_M_isWhole 16 (.goto 128) 3 = true := by decide +kernel
  refine lA8 hdd (fun dd0 dd1 dd2 dd3 dd4 dd5 dd6 dd7 hdd => ?_)
  refine lA8 hdd (fun dd8 dd9 dd10 dd11 dd12 dd13 dd14 dd15 hdd => ?_)
  refine lA8 hdd (fun dd16 dd17 dd18 dd19 dd20 dd21 dd22 dd23 hdd => ?_)
  refine lA8 hdd (fun dd24 dd25 dd26 dd27 dd28 dd29 dd30 dd31 hdd => ?_)
  obtain ⟨dd32, dd33⟩ := hdd
  intro n
  induction n with
  | zero => intro G x0 x1 h; cases h
  | succ n ih =>
    intro G x0 x1 h
    unfold f_M_isWhole_L2 at h
    refine Y.blk (pc' := 5) (L' := [some (.ref x0), some (.int x1), none, none, none]) (st' := [.int (nI 6), .int x1]) (sg := [(.iload_n 1, 0), (.bipush 6, nI 6)]) (lSa_ok dd0) rfl ?_
    refine Y.ic_ge (off := 145) (tgt := 150) (lIa_ok dd1) (by decide) h (fun c68 h => ?_) (fun c68 h => ?_)
    · refine Y.less (L' := [some (.ref x0), none, none, none, none]) (zLe_some (zLe_none (zLe_some (zLe_some (zLe_some (zLe_nil)))))) ?_
      exact hK150 G x0 h
    · refine Y.blk (pc' := 10) (L' := [some (.ref x0), some (.int x1), none, none, none]) (st' := [.int x1, .ref x0]) (sg := [(.aload_n 0, 0), (.iload_n 1, 0)]) (lSa_ok dd2) rfl ?_
      obtain ⟨_, o2, e1, m3, h⟩ := gOb_inv h
      refine Y.callI (yC.Vi (b := x0) (As := [.int x1]) (st := []) (r := ("PartlisterModel", T_M, 9)) hV.1.1 cb_M_isNoList lk_M_110 in_M_isNoList rfl se_M_isNoList (lIa_ok dd3) rfl rfl (Nat.le_of_ble_eq_true rfl) (by decide) e1 m3) (k_M_isNoList hV.1 G x0 x1) h (fun v5 G4 _ h => ?_)
      refine Y.if_eq (off := 6) (tgt := 19) (lIa_ok dd4) (by decide) h (fun c67 h => ?_) (fun c67 h => ?_)
      · refine Y.blk (pc' := 21) (L' := [some (.ref x0), some (.int x1), none, none, none]) (st' := [.int (nI 2), .int x1]) (sg := [(.iload_n 1, 0), (.iconst 2, nI 2)]) (lSa_ok dd5) rfl ?_
        refine Y.ic_lt (off := 52) (tgt := 73) (lIa_ok dd6) (by decide) h (fun c66 h => ?_) (fun c66 h => ?_)
        · refine Y.blk (pc' := 75) (L' := [some (.ref x0), some (.int x1), some (.int (nI 0)), none, none]) (st' := []) (sg := [(.iconst 0, nI 0), (.istore_n 2, 0)]) (lSa_ok dd7) rfl ?_
          refine k_M_isWhole_L75 hV _ _ ?_ ?_  zFu G4 x0 x1 (nI 0) h
          · intro G39 h
            exact hK130 G39  h
          · intro G42 x40 x41 h
            refine Y.blk (pc' := 147) (L' := [some (.ref x40), some (.int (x41 + (nI 1))), none, none, none]) (st' := []) (sg := [(.iinc 1 1, nI 1)]) (lSa_ok dd8) rfl ?_
            refine Y.goto (off := -145) (tgt := 2) (lIa_ok dd9) (by decide) ?_
            exact ih G42 x40 (x41 + (nI 1)) h
        · refine Y.blk (pc' := 25) (L' := [some (.ref x0), some (.int x1), none, none, none]) (st' := [.ref x0]) (sg := [(.aload_n 0, 0)]) (lSa_ok dd10) rfl ?_
          refine Y.getA fl_M_18 (lIa_ok dd11) h (fun v43 h => ?_)
          refine Y.blk (pc' := 29) (L' := [some (.ref x0), some (.int x1), none, none, none]) (st' := [.int x1, .ref v43]) (sg := [(.iload_n 1, 0)]) (lSa_ok dd12) rfl ?_
          refine Y.aald (t0 := 4) (lIa_ok dd13) rfl h (fun h => ?_) (fun v44 h => ?_)
          · cases h
          · refine Y.getI fl_M_51 (lIa_ok dd14) h (fun v45 h => ?_)
            refine Y.if_lt (off := 38) (tgt := 71) (lIa_ok dd15) (by decide) h (fun c65 h => ?_) (fun c65 h => ?_)
            · refine Y.less (L' := [none, none, none, none, none]) (zLe_none (zLe_none (zLe_some (zLe_some (zLe_some (zLe_nil)))))) ?_
              exact hK71 G4  h
            · refine Y.blk (pc' := 37) (L' := [some (.ref x0), some (.int x1), none, none, none]) (st' := [.ref x0]) (sg := [(.aload_n 0, 0)]) (lSa_ok dd16) rfl ?_
              refine Y.getA fl_M_18 (lIa_ok dd17) h (fun v46 h => ?_)
              refine Y.blk (pc' := 41) (L' := [some (.ref x0), some (.int x1), none, none, none]) (st' := [.int x1, .ref v46]) (sg := [(.iload_n 1, 0)]) (lSa_ok dd18) rfl ?_
              refine Y.aald (t0 := 4) (lIa_ok dd19) rfl h (fun h => ?_) (fun v47 h => ?_)
              · cases h
              · refine Y.getI fl_M_51 (lIa_ok dd20) h (fun v48 h => ?_)
                refine Y.blk (pc' := 46) (L' := [some (.ref x0), some (.int x1), none, none, none]) (st' := [.ref x0, .int v48]) (sg := [(.aload_n 0, 0)]) (lSa_ok dd21) rfl ?_
                refine Y.getA fl_M_18 (lIa_ok dd22) h (fun v49 h => ?_)
                refine Y.blk (pc' := 50) (L' := [some (.ref x0), some (.int x1), none, none, none]) (st' := [.int x1, .ref v49, .int v48]) (sg := [(.iload_n 1, 0)]) (lSa_ok dd23) rfl ?_
                refine Y.aald (t0 := 4) (lIa_ok dd24) rfl h (fun h => ?_) (fun v50 h => ?_)
                · cases h
                · refine Y.getI fl_M_65 (lIa_ok dd25) h (fun v51 h => ?_)
                  refine Y.blk (pc' := 57) (L' := [some (.ref x0), some (.int x1), none, none, none]) (st' := [.ref x0, .ref x0, .int (v48 + v51)]) (sg := [(.iadd, 0), (.aload_n 0, 0), (.aload_n 0, 0)]) (lSa_ok dd26) rfl ?_
                  refine Y.getA fl_M_18 (lIa_ok dd27) h (fun v52 h => ?_)
                  refine Y.blk (pc' := 61) (L' := [some (.ref x0), some (.int x1), none, none, none]) (st' := [.int x1, .ref v52, .ref x0, .int (v48 + v51)]) (sg := [(.iload_n 1, 0)]) (lSa_ok dd28) rfl ?_
                  refine Y.aald (t0 := 4) (lIa_ok dd29) rfl h (fun h => ?_) (fun v53 h => ?_)
                  · cases h
                  · refine Y.getI fl_M_44 (lIa_ok dd30) h (fun v54 h => ?_)
                    obtain ⟨_, o56, e55, m57, h⟩ := gOb_inv h
                    refine Y.callI (yC.Vi (b := x0) (As := [.int v54]) (st := [.int (v48 + v51)]) (r := ("PartlisterModel", T_M, 9)) hV.1.1 cb_M_length lk_M_74 in_M_length rfl se_M_length (lIa_ok dd31) rfl rfl (Nat.le_of_ble_eq_true rfl) (by decide) e55 m57) (k_M_length hV.1 G4 x0 v54) h (fun v59 G58 _ h => ?_)
                    refine Y.ic_le (off := 5) (tgt := 73) (lIa_ok dd32) (by decide) h (fun c64 h => ?_) (fun c64 h => ?_)
                    · refine Y.blk (pc' := 75) (L' := [some (.ref x0), some (.int x1), some (.int (nI 0)), none, none]) (st' := []) (sg := [(.iconst 0, nI 0), (.istore_n 2, 0)]) (lSa_ok dd7) rfl ?_
                      refine k_M_isWhole_L75 hV _ _ ?_ ?_  zFu G58 x0 x1 (nI 0) h
                      · intro G60 h
                        exact hK130 G60  h
                      · intro G63 x61 x62 h
                        refine Y.blk (pc' := 147) (L' := [some (.ref x61), some (.int (x62 + (nI 1))), none, none, none]) (st' := []) (sg := [(.iinc 1 1, nI 1)]) (lSa_ok dd8) rfl ?_
                        refine Y.goto (off := -145) (tgt := 2) (lIa_ok dd9) (by decide) ?_
                        exact ih G63 x61 (x62 + (nI 1)) h
                    · refine Y.less (L' := [none, none, none, none, none]) (zLe_none (zLe_none (zLe_some (zLe_some (zLe_some (zLe_nil)))))) ?_
                      exact hK71 G58  h
      · refine Y.goto (off := 128) (tgt := 144) (lIa_ok dd33) (by decide) ?_
        refine Y.blk (pc' := 147) (L' := [some (.ref x0), some (.int (x1 + (nI 1))), none, none, none]) (st' := []) (sg := [(.iinc 1 1, nI 1)]) (lSa_ok dd8) rfl ?_
        refine Y.goto (off := -145) (tgt := 2) (lIa_ok dd9) (by decide) ?_
        exact ih G4 x0 (x1 + (nI 1)) h
theorem k_M_isWhole {l : Launch} {D : va_G} {B : Nat} {O : State → Heap → Prop} {w : Nat → Nat} (hV : zGw l D B O w) (G : gH) (a0 : Nat) : gMet (zVm l D B O) m_M_isWhole 14 [.ref a0] G (f_M_isWhole w G a0) := by
  have hdd : lSa m_M_isWhole 0 [(.iconst 0, nI 0), (.istore_n 1, 0)] = true ∧ lSa m_M_isWhole 71 [(.iconst 0, nI 0)] = true ∧ lIa m_M_isWhole 72 (.ireturn) 1 = true ∧ lSa m_M_isWhole 130 [(.iconst 0, nI 0)] = true ∧ lIa m_M_isWhole 131 (.ireturn) 1 = true ∧ lSa m_M_isWhole 150 [(.aload_n 0, 0)] = true ∧ lIa m_M_isWhole 151 (.getfield 10) 3 = true ∧ lSa m_M_isWhole 154 [(.iconst 0, nI 0)] = true ∧ lIa m_M_isWhole 155 (.invokevirtual 57) 3 = true ∧ lIa m_M_isWhole 158 (.checkcast 7) 3 = true ∧ lIa m_M_isWhole 161 (.invokevirtual 61) 3 = true ∧ lSa m_M_isWhole 164 [(.bipush 31, nI 31)] = true ∧ lIa m_M_isWhole 166 (.if_icmp .gt 26) 3 = true ∧ lSa m_M_isWhole 192 [(.iconst 0, nI 0)] = true ∧ lIa m_M_isWhole 193 (.ireturn) 1 = true ∧ lSa m_M_isWhole 169 [(.aload_n 0, 0)] = true ∧ lIa m_M_isWhole 170 (.getfield 10) 3 = true ∧ lSa m_M_isWhole 173 [(.iconst 1, nI 1)] = true ∧ lIa m_M_isWhole 174 (.invokevirtual 57) 3 = true ∧ lIa m_M_isWhole 177 (.checkcast 7) 3 = true ∧ lIa m_M_isWhole 180 (.invokevirtual 61) 3 = true ∧ lSa m_M_isWhole 183 [(.bipush 31, nI 31)] = true ∧ lIa m_M_isWhole 185 (.if_icmp .gt 7) 3 = true ∧ lSa m_M_isWhole 188 [(.iconst 1, nI 1)] = true ∧ lIa m_M_isWhole 189 (.goto 4) 3 = true := by decide +kernel
  refine lA8 hdd (fun dd0 dd1 dd2 dd3 dd4 dd5 dd6 dd7 hdd => ?_)
  refine lA8 hdd (fun dd8 dd9 dd10 dd11 dd12 dd13 dd14 dd15 hdd => ?_)
  refine lA8 hdd (fun dd16 dd17 dd18 dd19 dd20 dd21 dd22 dd23 hdd => ?_)
  have dd24 := hdd
  refine gMet.of (by decide +kernel) (Nat.le_of_ble_eq_true rfl) [some (.ref a0), none, none, none, none] (fun ls h => zEn_ok (n := 5) h) ?_
  intro o Gf h
  unfold f_M_isWhole at h
  refine Y.blk (pc' := 2) (L' := [some (.ref a0), some (.int (nI 0)), none, none, none]) (st' := []) (sg := [(.iconst 0, nI 0), (.istore_n 1, 0)]) (lSa_ok dd0) rfl ?_
  refine k_M_isWhole_L2 hV _ _ _ ?_ ?_ ?_  zFu G a0 (nI 0) h
  · intro G69 h
    refine Y.blk (pc' := 72) (L' := [none, none, none, none, none]) (st' := [.int (nI 0)]) (sg := [(.iconst 0, nI 0)]) (lSa_ok dd1) rfl ?_
    exact Y.zret rfl (lIa_ok dd2) h
  · intro G70 h
    refine Y.blk (pc' := 131) (L' := [none, none, none, none, none]) (st' := [.int (nI 0)]) (sg := [(.iconst 0, nI 0)]) (lSa_ok dd3) rfl ?_
    exact Y.zret rfl (lIa_ok dd4) h
  · intro G72 x71 h
    refine Y.blk (pc' := 151) (L' := [some (.ref x71), none, none, none, none]) (st' := [.ref x71]) (sg := [(.aload_n 0, 0)]) (lSa_ok dd5) rfl ?_
    refine Y.getA fl_M_10 (lIa_ok dd6) h (fun v73 h => ?_)
    refine Y.blk (pc' := 155) (L' := [some (.ref x71), none, none, none, none]) (st' := [.int (nI 0), .ref v73]) (sg := [(.iconst 0, nI 0)]) (lSa_ok dd7) rfl ?_
    obtain ⟨_, o75, e74, m76, h⟩ := gOb_inv h
    refine Y.callA (yC.Vi (b := v73) (As := [.int (nI 0)]) (st := []) (r := ("java/util/ArrayList", T_AL, 3)) hV.1.1 cb_AL_get lk_M_57 in_AL_get rfl se_AL_get (lIa_ok dd8) rfl rfl (Nat.le_of_ble_eq_true rfl) (by decide) e74 m76) (k_AL_get hV.1 G72 v73 (nI 0)) h (fun v78 G77 _ h => ?_)
    refine Y.castO (r := ("java/util/ArrayList", T_AL, 3)) (lIa_ok dd9) rfl ck_M_7 h (fun h => ?_)
    obtain ⟨_, o80, e79, m81, h⟩ := gOb_inv h
    refine Y.callI (yC.Vi (b := v78) (As := []) (st := []) (r := ("java/util/ArrayList", T_AL, 3)) hV.1.1 cb_AL_size lk_M_61 in_AL_size rfl se_AL_size (lIa_ok dd10) rfl rfl (Nat.le_of_ble_eq_true rfl) (by decide) e79 m81) (k_AL_size hV.1 G77 v78) h (fun v83 G82 _ h => ?_)
    refine Y.blk (pc' := 166) (L' := [some (.ref x71), none, none, none, none]) (st' := [.int (nI 31), .int v83]) (sg := [(.bipush 31, nI 31)]) (lSa_ok dd11) rfl ?_
    refine Y.ic_gt (off := 26) (tgt := 192) (lIa_ok dd12) (by decide) h (fun c96 h => ?_) (fun c96 h => ?_)
    · refine Y.blk (pc' := 193) (L' := [some (.ref x71), none, none, none, none]) (st' := [.int (nI 0)]) (sg := [(.iconst 0, nI 0)]) (lSa_ok dd13) rfl ?_
      exact Y.zret rfl (lIa_ok dd14) h
    · refine Y.blk (pc' := 170) (L' := [some (.ref x71), none, none, none, none]) (st' := [.ref x71]) (sg := [(.aload_n 0, 0)]) (lSa_ok dd15) rfl ?_
      refine Y.getA fl_M_10 (lIa_ok dd16) h (fun v84 h => ?_)
      refine Y.blk (pc' := 174) (L' := [some (.ref x71), none, none, none, none]) (st' := [.int (nI 1), .ref v84]) (sg := [(.iconst 1, nI 1)]) (lSa_ok dd17) rfl ?_
      obtain ⟨_, o86, e85, m87, h⟩ := gOb_inv h
      refine Y.callA (yC.Vi (b := v84) (As := [.int (nI 1)]) (st := []) (r := ("java/util/ArrayList", T_AL, 3)) hV.1.1 cb_AL_get lk_M_57 in_AL_get rfl se_AL_get (lIa_ok dd18) rfl rfl (Nat.le_of_ble_eq_true rfl) (by decide) e85 m87) (k_AL_get hV.1 G82 v84 (nI 1)) h (fun v89 G88 _ h => ?_)
      refine Y.castO (r := ("java/util/ArrayList", T_AL, 3)) (lIa_ok dd19) rfl ck_M_7 h (fun h => ?_)
      obtain ⟨_, o91, e90, m92, h⟩ := gOb_inv h
      refine Y.callI (yC.Vi (b := v89) (As := []) (st := []) (r := ("java/util/ArrayList", T_AL, 3)) hV.1.1 cb_AL_size lk_M_61 in_AL_size rfl se_AL_size (lIa_ok dd20) rfl rfl (Nat.le_of_ble_eq_true rfl) (by decide) e90 m92) (k_AL_size hV.1 G88 v89) h (fun v94 G93 _ h => ?_)
      refine Y.blk (pc' := 185) (L' := [some (.ref x71), none, none, none, none]) (st' := [.int (nI 31), .int v94]) (sg := [(.bipush 31, nI 31)]) (lSa_ok dd21) rfl ?_
      refine Y.ic_gt (off := 7) (tgt := 192) (lIa_ok dd22) (by decide) h (fun c95 h => ?_) (fun c95 h => ?_)
      · refine Y.blk (pc' := 193) (L' := [some (.ref x71), none, none, none, none]) (st' := [.int (nI 0)]) (sg := [(.iconst 0, nI 0)]) (lSa_ok dd13) rfl ?_
        exact Y.zret rfl (lIa_ok dd14) h
      · refine Y.blk (pc' := 189) (L' := [some (.ref x71), none, none, none, none]) (st' := [.int (nI 1)]) (sg := [(.iconst 1, nI 1)]) (lSa_ok dd23) rfl ?_
        refine Y.goto (off := 4) (tgt := 193) (lIa_ok dd24) (by decide) ?_
        exact Y.zret rfl (lIa_ok dd14) h

def f_M_lastOf_L8 (K24 : gH → Int32 → gR) (K32 : gH → gR) : Nat → gH → Nat → Int32 → Int32 → Int32 → gR
  | 0, _, _, _, _, _ => none
  | n + 1, G, x0, x1, x2, x3 =>
    if x3 < 0 then K32 G
    else gOb G x0 6 fun o7 => bA (f_M_at G x0 x1 x3) fun v10 G9 => gLd G9 v10 100 (nI 0) fun v11 => if v11 = x2 then K24 G9 x3
      else f_M_lastOf_L8 K24 K32 n G9 x0 x1 x2 (x3 + (-1))
def f_M_lastOf (G : gH) (a0 : Nat) (a1 : Int32) (a2 : Int32) : gR :=
  gOb G a0 6 fun o2 => bI (f_M_length G a0 a1) fun v5 G4 => f_M_lastOf_L8 (fun G15 x14 => rI x14 G15) (fun G16 => rI (-1) G16) zFu G4 a0 a1 a2 (v5 - (nI 1))
theorem k_M_lastOf_L8 {l : Launch} {D : va_G} {B : Nat} {O : State → Heap → Prop} (hV : zG l D B O) {o : gO} {Gf : gH} (K24 : gH → Int32 → gR) (K32 : gH → gR) (hK24 : ∀ (G : gH) (x3 : Int32), K24 G x3 = some (o, Gf) → Y (zVm l D B O) m_M_lastOf 13 o Gf 24 [none, none, none, some (.int x3)] [] G) (hK32 : ∀ (G : gH), K32 G  = some (o, Gf) → Y (zVm l D B O) m_M_lastOf 13 o Gf 32 [none, none, none, none] [] G) : ∀ (n : Nat) (G : gH) (x0 : Nat) (x1 : Int32) (x2 : Int32) (x3 : Int32), f_M_lastOf_L8 K24 K32 n G x0 x1 x2 x3 = some (o, Gf) → Y (zVm l D B O) m_M_lastOf 13 o Gf 8 [some (.ref x0), some (.int x1), some (.int x2), some (.int x3)] [] G := by
  have hdd : lSa m_M_lastOf 8 [(.iload_n 3, 0)] = true ∧ lIa m_M_lastOf 9 (.ifCond .lt 23) 3 = true ∧ lSa m_M_lastOf 12 [(.aload_n 0, 0), (.iload_n 1, 0), (.iload_n 3, 0)] = true ∧ lIa m_M_lastOf 15 (.invokevirtual 132) 3 = true ∧ lSa m_M_lastOf 18 [(.iconst 0, nI 0)] = true ∧ lIa m_M_lastOf 19 (.iaload) 1 = true ∧ lSa m_M_lastOf 20 [(.iload_n 2, 0)] = true ∧ lIa m_M_lastOf 21 (.if_icmp .ne 5) 3 = true ∧ lSa m_M_lastOf 26 [(.iinc 3 (-1), -1)] = true ∧ lIa m_M_lastOf 29 (.goto (-21)) 3 = true := by decide +kernel
  refine lA8 hdd (fun dd0 dd1 dd2 dd3 dd4 dd5 dd6 dd7 hdd => ?_)
  obtain ⟨dd8, dd9⟩ := hdd
  intro n
  induction n with
  | zero => intro G x0 x1 x2 x3 h; cases h
  | succ n ih =>
    intro G x0 x1 x2 x3 h
    unfold f_M_lastOf_L8 at h
    refine Y.blk (pc' := 9) (L' := [some (.ref x0), some (.int x1), some (.int x2), some (.int x3)]) (st' := [.int x3]) (sg := [(.iload_n 3, 0)]) (lSa_ok dd0) rfl ?_
    refine Y.if_lt (off := 23) (tgt := 32) (lIa_ok dd1) (by decide) h (fun c13 h => ?_) (fun c13 h => ?_)
    · refine Y.less (L' := [none, none, none, none]) (zLe_none (zLe_none (zLe_none (zLe_none (zLe_nil))))) ?_
      exact hK32 G  h
    · refine Y.blk (pc' := 15) (L' := [some (.ref x0), some (.int x1), some (.int x2), some (.int x3)]) (st' := [.int x3, .int x1, .ref x0]) (sg := [(.aload_n 0, 0), (.iload_n 1, 0), (.iload_n 3, 0)]) (lSa_ok dd2) rfl ?_
      obtain ⟨_, o7, e6, m8, h⟩ := gOb_inv h
      refine Y.callA (yC.Vi (b := x0) (As := [.int x1, .int x3]) (st := []) (r := ("PartlisterModel", T_M, 9)) hV.1 cb_M_at lk_M_132 in_M_at rfl se_M_at (lIa_ok dd3) rfl rfl (Nat.le_of_ble_eq_true rfl) (by decide) e6 m8) (k_M_at hV G x0 x1 x3) h (fun v10 G9 _ h => ?_)
      refine Y.blk (pc' := 19) (L' := [some (.ref x0), some (.int x1), some (.int x2), some (.int x3)]) (st' := [.int (nI 0), .ref v10]) (sg := [(.iconst 0, nI 0)]) (lSa_ok dd4) rfl ?_
      refine Y.iald (t0 := 0) (lIa_ok dd5) rfl h (fun v11 h => ?_)
      refine Y.blk (pc' := 21) (L' := [some (.ref x0), some (.int x1), some (.int x2), some (.int x3)]) (st' := [.int x2, .int v11]) (sg := [(.iload_n 2, 0)]) (lSa_ok dd6) rfl ?_
      refine Y.ic_ne (off := 5) (tgt := 26) (lIa_ok dd7) (by decide) h (fun c12 h => ?_) (fun c12 h => ?_)
      · refine Y.less (L' := [none, none, none, some (.int x3)]) (zLe_none (zLe_none (zLe_none (zLe_some (zLe_nil))))) ?_
        exact hK24 G9 x3 h
      · refine Y.blk (pc' := 29) (L' := [some (.ref x0), some (.int x1), some (.int x2), some (.int (x3 + (-1)))]) (st' := []) (sg := [(.iinc 3 (-1), -1)]) (lSa_ok dd8) rfl ?_
        refine Y.goto (off := -21) (tgt := 8) (lIa_ok dd9) (by decide) ?_
        exact ih G9 x0 x1 x2 (x3 + (-1)) h
theorem k_M_lastOf {l : Launch} {D : va_G} {B : Nat} {O : State → Heap → Prop} (hV : zG l D B O) (G : gH) (a0 : Nat) (a1 : Int32) (a2 : Int32) : gMet (zVm l D B O) m_M_lastOf 13 [.ref a0, .int a1, .int a2] G (f_M_lastOf G a0 a1 a2) := by
  have hdd : lSa m_M_lastOf 0 [(.aload_n 0, 0), (.iload_n 1, 0)] = true ∧ lIa m_M_lastOf 2 (.invokevirtual 74) 3 = true ∧ lSa m_M_lastOf 5 [(.iconst 1, nI 1), (.isub, 0), (.istore_n 3, 0)] = true ∧ lSa m_M_lastOf 24 [(.iload_n 3, 0)] = true ∧ lIa m_M_lastOf 25 (.ireturn) 1 = true ∧ lSa m_M_lastOf 32 [(.iconst (-1), -1)] = true ∧ lIa m_M_lastOf 33 (.ireturn) 1 = true := by decide +kernel
  obtain ⟨dd0, dd1, dd2, dd3, dd4, dd5, dd6⟩ := hdd
  refine gMet.of (by decide +kernel) (Nat.le_of_ble_eq_true rfl) [some (.ref a0), some (.int a1), some (.int a2), none] (fun ls h => zEn_ok (n := 4) h) ?_
  intro o Gf h
  unfold f_M_lastOf at h
  refine Y.blk (pc' := 2) (L' := [some (.ref a0), some (.int a1), some (.int a2), none]) (st' := [.int a1, .ref a0]) (sg := [(.aload_n 0, 0), (.iload_n 1, 0)]) (lSa_ok dd0) rfl ?_
  obtain ⟨_, o2, e1, m3, h⟩ := gOb_inv h
  refine Y.callI (yC.Vi (b := a0) (As := [.int a1]) (st := []) (r := ("PartlisterModel", T_M, 9)) hV.1 cb_M_length lk_M_74 in_M_length rfl se_M_length (lIa_ok dd1) rfl rfl (Nat.le_of_ble_eq_true rfl) (by decide) e1 m3) (k_M_length hV G a0 a1) h (fun v5 G4 _ h => ?_)
  refine Y.blk (pc' := 8) (L' := [some (.ref a0), some (.int a1), some (.int a2), some (.int (v5 - (nI 1)))]) (st' := []) (sg := [(.iconst 1, nI 1), (.isub, 0), (.istore_n 3, 0)]) (lSa_ok dd2) rfl ?_
  refine k_M_lastOf_L8 hV _ _ ?_ ?_  zFu G4 a0 a1 a2 (v5 - (nI 1)) h
  · intro G15 x14 h
    refine Y.blk (pc' := 25) (L' := [none, none, none, some (.int x14)]) (st' := [.int x14]) (sg := [(.iload_n 3, 0)]) (lSa_ok dd3) rfl ?_
    exact Y.iret rfl (lIa_ok dd4) h
  · intro G16 h
    refine Y.blk (pc' := 33) (L' := [none, none, none, none]) (st' := [.int (-1)]) (sg := [(.iconst (-1), -1)]) (lSa_ok dd5) rfl ?_
    exact Y.iret rfl (lIa_ok dd6) h

def f_M_manyOf_L5 (K45 : gH → Int32 → gR) : Nat → gH → Nat → Int32 → Int32 → Int32 → Int32 → gR
  | 0, _, _, _, _, _, _ => none
  | n + 1, G, x0, x1, x2, x3, x4 =>
    gOb G x0 6 fun o2 => bI (f_M_length G x0 x1) fun v5 G4 => if v5 ≤ x4 then K45 G4 x3
    else gOb G4 x0 6 fun o7 => bA (f_M_at G4 x0 x1 x4) fun v10 G9 => gLd G9 v10 100 (nI 0) fun v11 => if v11 = x2 then bI (f_M_one G9 (nI 1)) fun v14 G13 => f_M_manyOf_L5 K45 n G13 x0 x1 x2 (x3 + v14) (x4 + (nI 1))
      else bI (f_M_one G9 (nI 0)) fun v17 G16 => f_M_manyOf_L5 K45 n G16 x0 x1 x2 (x3 + v17) (x4 + (nI 1))
def f_M_manyOf (G : gH) (a0 : Nat) (a1 : Int32) (a2 : Int32) : gR :=
  f_M_manyOf_L5 (fun G21 x20 => rI x20 G21) zFu G a0 a1 a2 (nI 0) (nI 0)
theorem k_M_manyOf_L5 {l : Launch} {D : va_G} {B : Nat} {O : State → Heap → Prop} (hV : zG l D B O) {o : gO} {Gf : gH} (K45 : gH → Int32 → gR) (hK45 : ∀ (G : gH) (x3 : Int32), K45 G x3 = some (o, Gf) → Y (zVm l D B O) m_M_manyOf 13 o Gf 45 [none, none, none, some (.int x3), none] [] G) : ∀ (n : Nat) (G : gH) (x0 : Nat) (x1 : Int32) (x2 : Int32) (x3 : Int32) (x4 : Int32), f_M_manyOf_L5 K45 n G x0 x1 x2 x3 x4 = some (o, Gf) → Y (zVm l D B O) m_M_manyOf 13 o Gf 5 [some (.ref x0), some (.int x1), some (.int x2), some (.int x3), some (.int x4)] [] G := by
  have hdd : lSa m_M_manyOf 5 [(.iload 4, 0), (.aload_n 0, 0), (.iload_n 1, 0)] = true ∧ lIa m_M_manyOf 9 (.invokevirtual 74) 3 = true ∧ lIa m_M_manyOf 12 (.if_icmp .ge 33) 3 = true ∧ lSa m_M_manyOf 15 [(.iload_n 3, 0), (.aload_n 0, 0), (.iload_n 1, 0), (.iload 4, 0)] = true ∧ lIa m_M_manyOf 20 (.invokevirtual 132) 3 = true ∧ lSa m_M_manyOf 23 [(.iconst 0, nI 0)] = true ∧ lIa m_M_manyOf 24 (.iaload) 1 = true ∧ lSa m_M_manyOf 25 [(.iload_n 2, 0)] = true ∧ lIa m_M_manyOf 26 (.if_icmp .ne 7) 3 = true ∧ lSa m_M_manyOf 29 [(.iconst 1, nI 1)] = true ∧ lIa m_M_manyOf 30 (.goto 4) 3 = true ∧ lIa m_M_manyOf 34 (.invokestatic 188) 3 = true ∧ lSa m_M_manyOf 37 [(.iadd, 0), (.istore_n 3, 0), (.iinc 4 1, nI 1)] = true ∧ lIa m_M_manyOf 42 (.goto (-37)) 3 = true ∧ lSa m_M_manyOf 33 [(.iconst 0, nI 0)] = true := by decide +kernel
  refine lA8 hdd (fun dd0 dd1 dd2 dd3 dd4 dd5 dd6 dd7 hdd => ?_)
  obtain ⟨dd8, dd9, dd10, dd11, dd12, dd13, dd14⟩ := hdd
  intro n
  induction n with
  | zero => intro G x0 x1 x2 x3 x4 h; cases h
  | succ n ih =>
    intro G x0 x1 x2 x3 x4 h
    unfold f_M_manyOf_L5 at h
    refine Y.blk (pc' := 9) (L' := [some (.ref x0), some (.int x1), some (.int x2), some (.int x3), some (.int x4)]) (st' := [.int x1, .ref x0, .int x4]) (sg := [(.iload 4, 0), (.aload_n 0, 0), (.iload_n 1, 0)]) (lSa_ok dd0) rfl ?_
    obtain ⟨_, o2, e1, m3, h⟩ := gOb_inv h
    refine Y.callI (yC.Vi (b := x0) (As := [.int x1]) (st := [.int x4]) (r := ("PartlisterModel", T_M, 9)) hV.1 cb_M_length lk_M_74 in_M_length rfl se_M_length (lIa_ok dd1) rfl rfl (Nat.le_of_ble_eq_true rfl) (by decide) e1 m3) (k_M_length hV G x0 x1) h (fun v5 G4 _ h => ?_)
    refine Y.ic_ge (off := 33) (tgt := 45) (lIa_ok dd2) (by decide) h (fun c19 h => ?_) (fun c19 h => ?_)
    · refine Y.less (L' := [none, none, none, some (.int x3), none]) (zLe_none (zLe_none (zLe_none (zLe_some (zLe_none (zLe_nil)))))) ?_
      exact hK45 G4 x3 h
    · refine Y.blk (pc' := 20) (L' := [some (.ref x0), some (.int x1), some (.int x2), some (.int x3), some (.int x4)]) (st' := [.int x4, .int x1, .ref x0, .int x3]) (sg := [(.iload_n 3, 0), (.aload_n 0, 0), (.iload_n 1, 0), (.iload 4, 0)]) (lSa_ok dd3) rfl ?_
      obtain ⟨_, o7, e6, m8, h⟩ := gOb_inv h
      refine Y.callA (yC.Vi (b := x0) (As := [.int x1, .int x4]) (st := [.int x3]) (r := ("PartlisterModel", T_M, 9)) hV.1 cb_M_at lk_M_132 in_M_at rfl se_M_at (lIa_ok dd4) rfl rfl (Nat.le_of_ble_eq_true rfl) (by decide) e6 m8) (k_M_at hV G4 x0 x1 x4) h (fun v10 G9 _ h => ?_)
      refine Y.blk (pc' := 24) (L' := [some (.ref x0), some (.int x1), some (.int x2), some (.int x3), some (.int x4)]) (st' := [.int (nI 0), .ref v10, .int x3]) (sg := [(.iconst 0, nI 0)]) (lSa_ok dd5) rfl ?_
      refine Y.iald (t0 := 0) (lIa_ok dd6) rfl h (fun v11 h => ?_)
      refine Y.blk (pc' := 26) (L' := [some (.ref x0), some (.int x1), some (.int x2), some (.int x3), some (.int x4)]) (st' := [.int x2, .int v11, .int x3]) (sg := [(.iload_n 2, 0)]) (lSa_ok dd7) rfl ?_
      refine Y.ic_ne (off := 7) (tgt := 33) (lIa_ok dd8) (by decide) h (fun c18 h => ?_) (fun c18 h => ?_)
      · refine Y.blk (pc' := 30) (L' := [some (.ref x0), some (.int x1), some (.int x2), some (.int x3), some (.int x4)]) (st' := [.int (nI 1), .int x3]) (sg := [(.iconst 1, nI 1)]) (lSa_ok dd9) rfl ?_
        refine Y.goto (off := 4) (tgt := 34) (lIa_ok dd10) (by decide) ?_
        refine Y.callI (yC.S (As := [.int (nI 1)]) (st := [.int x3]) hV.1 cb_M_one lk_M_188 st_M_one (lIa_ok dd11) rfl rfl (Nat.le_of_ble_eq_true rfl) (by decide)) (k_M_one hV G9 (nI 1)) h (fun v14 G13 _ h => ?_)
        refine Y.blk (pc' := 42) (L' := [some (.ref x0), some (.int x1), some (.int x2), some (.int (x3 + v14)), some (.int (x4 + (nI 1)))]) (st' := []) (sg := [(.iadd, 0), (.istore_n 3, 0), (.iinc 4 1, nI 1)]) (lSa_ok dd12) rfl ?_
        refine Y.goto (off := -37) (tgt := 5) (lIa_ok dd13) (by decide) ?_
        exact ih G13 x0 x1 x2 (x3 + v14) (x4 + (nI 1)) h
      · refine Y.blk (pc' := 34) (L' := [some (.ref x0), some (.int x1), some (.int x2), some (.int x3), some (.int x4)]) (st' := [.int (nI 0), .int x3]) (sg := [(.iconst 0, nI 0)]) (lSa_ok dd14) rfl ?_
        refine Y.callI (yC.S (As := [.int (nI 0)]) (st := [.int x3]) hV.1 cb_M_one lk_M_188 st_M_one (lIa_ok dd11) rfl rfl (Nat.le_of_ble_eq_true rfl) (by decide)) (k_M_one hV G9 (nI 0)) h (fun v17 G16 _ h => ?_)
        refine Y.blk (pc' := 42) (L' := [some (.ref x0), some (.int x1), some (.int x2), some (.int (x3 + v17)), some (.int (x4 + (nI 1)))]) (st' := []) (sg := [(.iadd, 0), (.istore_n 3, 0), (.iinc 4 1, nI 1)]) (lSa_ok dd12) rfl ?_
        refine Y.goto (off := -37) (tgt := 5) (lIa_ok dd13) (by decide) ?_
        exact ih G16 x0 x1 x2 (x3 + v17) (x4 + (nI 1)) h
theorem k_M_manyOf {l : Launch} {D : va_G} {B : Nat} {O : State → Heap → Prop} (hV : zG l D B O) (G : gH) (a0 : Nat) (a1 : Int32) (a2 : Int32) : gMet (zVm l D B O) m_M_manyOf 13 [.ref a0, .int a1, .int a2] G (f_M_manyOf G a0 a1 a2) := by
  have hdd : lSa m_M_manyOf 0 [(.iconst 0, nI 0), (.istore_n 3, 0), (.iconst 0, nI 0), (.istore 4, 0)] = true ∧ lSa m_M_manyOf 45 [(.iload_n 3, 0)] = true ∧ lIa m_M_manyOf 46 (.ireturn) 1 = true := by decide +kernel
  obtain ⟨dd0, dd1, dd2⟩ := hdd
  refine gMet.of (by decide +kernel) (Nat.le_of_ble_eq_true rfl) [some (.ref a0), some (.int a1), some (.int a2), none, none] (fun ls h => zEn_ok (n := 5) h) ?_
  intro o Gf h
  unfold f_M_manyOf at h
  refine Y.blk (pc' := 5) (L' := [some (.ref a0), some (.int a1), some (.int a2), some (.int (nI 0)), some (.int (nI 0))]) (st' := []) (sg := [(.iconst 0, nI 0), (.istore_n 3, 0), (.iconst 0, nI 0), (.istore 4, 0)]) (lSa_ok dd0) rfl ?_
  refine k_M_manyOf_L5 hV _ ?_  zFu G a0 a1 a2 (nI 0) (nI 0) h
  · intro G21 x20 h
    refine Y.blk (pc' := 46) (L' := [none, none, none, some (.int x20), none]) (st' := [.int x20]) (sg := [(.iload_n 3, 0)]) (lSa_ok dd1) rfl ?_
    exact Y.iret rfl (lIa_ok dd2) h

def f_M_partTold (G : gH) (a0 : Nat) (a1 : Int32) (a2 : Int32) : gR :=
  gNewA G 100 (nI 4) fun q1 G2 => gFA G2 a0 6 2 fun v3 => gLdq G2 v3 104 a1 (none) fun v4 => gFI G2 v4 5 0 fun v5 => gSt G2 q1 100 (nI 0) v5 fun G6 => gFA G6 a0 6 2 fun v7 => gLdq G6 v7 104 a1 (none) fun v8 => gFI G6 v8 5 1 fun v9 => gSt G6 q1 100 (nI 1) v9 fun G10 => gOb G10 a0 6 fun o12 => bI (f_M_rowOf zDp G10 a0 a1) fun v15 G14 => gSt G14 q1 100 (nI 2) v15 fun G16 => gOb G16 a0 6 fun o18 => bI (f_M_base zDp G16 a0 a1) fun v21 G20 => gSt G20 q1 100 (nI 3) v21 fun G22 => gLd G22 q1 100 a2 fun v23 => rI v23 G22
theorem k_M_partTold {l : Launch} {D : va_G} {B : Nat} {O : State → Heap → Prop} (hV : zG l D B O) (G : gH) (a0 : Nat) (a1 : Int32) (a2 : Int32) : gMet (zVm l D B O) m_M_partTold 11 [.ref a0, .int a1, .int a2] G (f_M_partTold G a0 a1 a2) := by
  have hdd : lSa m_M_partTold 0 [(.iconst 4, nI 4)] = true ∧ lSa m_M_partTold 3 [(.dup, 0), (.iconst 0, nI 0), (.aload_n 0, 0)] = true ∧ lIa m_M_partTold 6 (.getfield 18) 3 = true ∧ lSa m_M_partTold 9 [(.iload_n 1, 0)] = true ∧ lIa m_M_partTold 10 (.aaload) 1 = true ∧ lIa m_M_partTold 11 (.getfield 44) 3 = true ∧ lIa m_M_partTold 14 (.iastore) 1 = true ∧ lSa m_M_partTold 15 [(.dup, 0), (.iconst 1, nI 1), (.aload_n 0, 0)] = true ∧ lIa m_M_partTold 18 (.getfield 18) 3 = true ∧ lSa m_M_partTold 21 [(.iload_n 1, 0)] = true ∧ lIa m_M_partTold 22 (.aaload) 1 = true ∧ lIa m_M_partTold 23 (.getfield 51) 3 = true ∧ lIa m_M_partTold 26 (.iastore) 1 = true ∧ lSa m_M_partTold 27 [(.dup, 0), (.iconst 2, nI 2), (.aload_n 0, 0), (.iload_n 1, 0)] = true ∧ lIa m_M_partTold 31 (.invokevirtual 47) 3 = true ∧ lIa m_M_partTold 34 (.iastore) 1 = true ∧ lSa m_M_partTold 35 [(.dup, 0), (.iconst 3, nI 3), (.aload_n 0, 0), (.iload_n 1, 0)] = true ∧ lIa m_M_partTold 39 (.invokevirtual 54) 3 = true ∧ lIa m_M_partTold 42 (.iastore) 1 = true ∧ lSa m_M_partTold 43 [(.astore_n 3, 0), (.aload_n 3, 0), (.iload_n 2, 0)] = true ∧ lIa m_M_partTold 46 (.iaload) 1 = true ∧ lIa m_M_partTold 47 (.ireturn) 1 = true := by decide +kernel
  refine lA8 hdd (fun dd0 dd1 dd2 dd3 dd4 dd5 dd6 dd7 hdd => ?_)
  refine lA8 hdd (fun dd8 dd9 dd10 dd11 dd12 dd13 dd14 dd15 hdd => ?_)
  obtain ⟨dd16, dd17, dd18, dd19, dd20, dd21⟩ := hdd
  refine gMet.of (by decide +kernel) (Nat.le_of_ble_eq_true rfl) [some (.ref a0), some (.int a1), some (.int a2), none] (fun ls h => zEn_ok (n := 4) h) ?_
  intro o Gf h
  unfold f_M_partTold at h
  refine Y.blk (pc' := 1) (L' := [some (.ref a0), some (.int a1), some (.int a2), none]) (st' := [.int (nI 4)]) (sg := [(.iconst 4, nI 4)]) (lSa_ok dd0) rfl ?_
  refine Y.newa (at_ := .int) (t0 := 0) ac_i rfl (by decide) rfl (by decide) (by decide +kernel) h (fun q1 G2 h => ?_)
  refine Y.blk (pc' := 6) (L' := [some (.ref a0), some (.int a1), some (.int a2), none]) (st' := [.ref a0, .int (nI 0), .ref q1, .ref q1]) (sg := [(.dup, 0), (.iconst 0, nI 0), (.aload_n 0, 0)]) (lSa_ok dd1) rfl ?_
  refine Y.getA fl_M_18 (lIa_ok dd2) h (fun v3 h => ?_)
  refine Y.blk (pc' := 10) (L' := [some (.ref a0), some (.int a1), some (.int a2), none]) (st' := [.int a1, .ref v3, .int (nI 0), .ref q1, .ref q1]) (sg := [(.iload_n 1, 0)]) (lSa_ok dd3) rfl ?_
  refine Y.aald (t0 := 4) (lIa_ok dd4) rfl h (fun h => ?_) (fun v4 h => ?_)
  · cases h
  · refine Y.getI fl_M_44 (lIa_ok dd5) h (fun v5 h => ?_)
    refine Y.iast (t0 := 0) (lIa_ok dd6) rfl (by decide) h (fun G6 _ _ h => ?_)
    refine Y.blk (pc' := 18) (L' := [some (.ref a0), some (.int a1), some (.int a2), none]) (st' := [.ref a0, .int (nI 1), .ref q1, .ref q1]) (sg := [(.dup, 0), (.iconst 1, nI 1), (.aload_n 0, 0)]) (lSa_ok dd7) rfl ?_
    refine Y.getA fl_M_18 (lIa_ok dd8) h (fun v7 h => ?_)
    refine Y.blk (pc' := 22) (L' := [some (.ref a0), some (.int a1), some (.int a2), none]) (st' := [.int a1, .ref v7, .int (nI 1), .ref q1, .ref q1]) (sg := [(.iload_n 1, 0)]) (lSa_ok dd9) rfl ?_
    refine Y.aald (t0 := 4) (lIa_ok dd10) rfl h (fun h => ?_) (fun v8 h => ?_)
    · cases h
    · refine Y.getI fl_M_51 (lIa_ok dd11) h (fun v9 h => ?_)
      refine Y.iast (t0 := 0) (lIa_ok dd12) rfl (by decide) h (fun G10 _ _ h => ?_)
      refine Y.blk (pc' := 31) (L' := [some (.ref a0), some (.int a1), some (.int a2), none]) (st' := [.int a1, .ref a0, .int (nI 2), .ref q1, .ref q1]) (sg := [(.dup, 0), (.iconst 2, nI 2), (.aload_n 0, 0), (.iload_n 1, 0)]) (lSa_ok dd13) rfl ?_
      obtain ⟨_, o12, e11, m13, h⟩ := gOb_inv h
      refine Y.callI (yC.Vi (b := a0) (As := [.int a1]) (st := [.int (nI 2), .ref q1, .ref q1]) (r := ("PartlisterModel", T_M, 9)) hV.1 cb_M_rowOf lk_M_47 in_M_rowOf rfl se_M_rowOf (lIa_ok dd14) rfl rfl (Nat.le_of_ble_eq_true rfl) (by decide) e11 m13) (k_M_rowOf zDp hV G10 a0 a1) h (fun v15 G14 _ h => ?_)
      refine Y.iast (t0 := 0) (lIa_ok dd15) rfl (by decide) h (fun G16 _ _ h => ?_)
      refine Y.blk (pc' := 39) (L' := [some (.ref a0), some (.int a1), some (.int a2), none]) (st' := [.int a1, .ref a0, .int (nI 3), .ref q1, .ref q1]) (sg := [(.dup, 0), (.iconst 3, nI 3), (.aload_n 0, 0), (.iload_n 1, 0)]) (lSa_ok dd16) rfl ?_
      obtain ⟨_, o18, e17, m19, h⟩ := gOb_inv h
      refine Y.callI (yC.Vi (b := a0) (As := [.int a1]) (st := [.int (nI 3), .ref q1, .ref q1]) (r := ("PartlisterModel", T_M, 9)) hV.1 cb_M_base lk_M_54 in_M_base rfl se_M_base (lIa_ok dd17) rfl rfl (Nat.le_of_ble_eq_true rfl) (by decide) e17 m19) (k_M_base zDp hV G16 a0 a1) h (fun v21 G20 _ h => ?_)
      refine Y.iast (t0 := 0) (lIa_ok dd18) rfl (by decide) h (fun G22 _ _ h => ?_)
      refine Y.blk (pc' := 46) (L' := [some (.ref a0), some (.int a1), some (.int a2), some (.ref q1)]) (st' := [.int a2, .ref q1]) (sg := [(.astore_n 3, 0), (.aload_n 3, 0), (.iload_n 2, 0)]) (lSa_ok dd19) rfl ?_
      refine Y.iald (t0 := 0) (lIa_ok dd20) rfl h (fun v23 h => ?_)
      exact Y.iret rfl (lIa_ok dd21) h

def f_M_same (G : gH) (a0 : Nat) (a1 : Int32) (a2 : Int32) : gR :=
  gOb G a0 6 fun o2 => bI (f_M_length G a0 a1) fun v5 G4 => gOb G4 a0 6 fun o7 => bI (f_M_length G4 a0 a2) fun v10 G9 => if v5 = v10 then (gOb G9 a0 6 fun o12 => bI (f_M_liesAt G9 a0 a1 (nI 0) a2) fun v15 G14 => if v15 = 0 then rZ (nI 0) G14
    else rZ (nI 1) G14)
  else rZ (nI 0) G9
theorem k_M_same {l : Launch} {D : va_G} {B : Nat} {O : State → Heap → Prop} (hV : zG l D B O) (G : gH) (a0 : Nat) (a1 : Int32) (a2 : Int32) : gMet (zVm l D B O) m_M_same 14 [.ref a0, .int a1, .int a2] G (f_M_same G a0 a1 a2) := by
  have hdd : lSa m_M_same 0 [(.aload_n 0, 0), (.iload_n 1, 0)] = true ∧ lIa m_M_same 2 (.invokevirtual 74) 3 = true ∧ lSa m_M_same 5 [(.aload_n 0, 0), (.iload_n 2, 0)] = true ∧ lIa m_M_same 7 (.invokevirtual 74) 3 = true ∧ lIa m_M_same 10 (.if_icmp .ne 17) 3 = true ∧ lSa m_M_same 13 [(.aload_n 0, 0), (.iload_n 1, 0), (.iconst 0, nI 0), (.iload_n 2, 0)] = true ∧ lIa m_M_same 17 (.invokevirtual 232) 3 = true ∧ lIa m_M_same 20 (.ifCond .eq 7) 3 = true ∧ lSa m_M_same 27 [(.iconst 0, nI 0)] = true ∧ lIa m_M_same 28 (.ireturn) 1 = true ∧ lSa m_M_same 23 [(.iconst 1, nI 1)] = true ∧ lIa m_M_same 24 (.goto 4) 3 = true := by decide +kernel
  refine lA8 hdd (fun dd0 dd1 dd2 dd3 dd4 dd5 dd6 dd7 hdd => ?_)
  obtain ⟨dd8, dd9, dd10, dd11⟩ := hdd
  refine gMet.of (by decide +kernel) (Nat.le_of_ble_eq_true rfl) [some (.ref a0), some (.int a1), some (.int a2)] (fun ls h => zEn_ok (n := 3) h) ?_
  intro o Gf h
  unfold f_M_same at h
  refine Y.blk (pc' := 2) (L' := [some (.ref a0), some (.int a1), some (.int a2)]) (st' := [.int a1, .ref a0]) (sg := [(.aload_n 0, 0), (.iload_n 1, 0)]) (lSa_ok dd0) rfl ?_
  obtain ⟨_, o2, e1, m3, h⟩ := gOb_inv h
  refine Y.callI (yC.Vi (b := a0) (As := [.int a1]) (st := []) (r := ("PartlisterModel", T_M, 9)) hV.1 cb_M_length lk_M_74 in_M_length rfl se_M_length (lIa_ok dd1) rfl rfl (Nat.le_of_ble_eq_true rfl) (by decide) e1 m3) (k_M_length hV G a0 a1) h (fun v5 G4 _ h => ?_)
  refine Y.blk (pc' := 7) (L' := [some (.ref a0), some (.int a1), some (.int a2)]) (st' := [.int a2, .ref a0, .int v5]) (sg := [(.aload_n 0, 0), (.iload_n 2, 0)]) (lSa_ok dd2) rfl ?_
  obtain ⟨_, o7, e6, m8, h⟩ := gOb_inv h
  refine Y.callI (yC.Vi (b := a0) (As := [.int a2]) (st := [.int v5]) (r := ("PartlisterModel", T_M, 9)) hV.1 cb_M_length lk_M_74 in_M_length rfl se_M_length (lIa_ok dd3) rfl rfl (Nat.le_of_ble_eq_true rfl) (by decide) e6 m8) (k_M_length hV G4 a0 a2) h (fun v10 G9 _ h => ?_)
  refine Y.ic_ne (off := 17) (tgt := 27) (lIa_ok dd4) (by decide) h (fun c17 h => ?_) (fun c17 h => ?_)
  · refine Y.blk (pc' := 17) (L' := [some (.ref a0), some (.int a1), some (.int a2)]) (st' := [.int a2, .int (nI 0), .int a1, .ref a0]) (sg := [(.aload_n 0, 0), (.iload_n 1, 0), (.iconst 0, nI 0), (.iload_n 2, 0)]) (lSa_ok dd5) rfl ?_
    obtain ⟨_, o12, e11, m13, h⟩ := gOb_inv h
    refine Y.callI (yC.Vi (b := a0) (As := [.int a1, .int (nI 0), .int a2]) (st := []) (r := ("PartlisterModel", T_M, 9)) hV.1 cb_M_liesAt lk_M_232 in_M_liesAt rfl se_M_liesAt (lIa_ok dd6) rfl rfl (Nat.le_of_ble_eq_true rfl) (by decide) e11 m13) (k_M_liesAt hV G9 a0 a1 (nI 0) a2) h (fun v15 G14 _ h => ?_)
    refine Y.if_eq (off := 7) (tgt := 27) (lIa_ok dd7) (by decide) h (fun c16 h => ?_) (fun c16 h => ?_)
    · refine Y.blk (pc' := 28) (L' := [some (.ref a0), some (.int a1), some (.int a2)]) (st' := [.int (nI 0)]) (sg := [(.iconst 0, nI 0)]) (lSa_ok dd8) rfl ?_
      exact Y.zret rfl (lIa_ok dd9) h
    · refine Y.blk (pc' := 24) (L' := [some (.ref a0), some (.int a1), some (.int a2)]) (st' := [.int (nI 1)]) (sg := [(.iconst 1, nI 1)]) (lSa_ok dd10) rfl ?_
      refine Y.goto (off := 4) (tgt := 28) (lIa_ok dd11) (by decide) ?_
      exact Y.zret rfl (lIa_ok dd9) h
  · refine Y.blk (pc' := 28) (L' := [some (.ref a0), some (.int a1), some (.int a2)]) (st' := [.int (nI 0)]) (sg := [(.iconst 0, nI 0)]) (lSa_ok dd8) rfl ?_
    exact Y.zret rfl (lIa_ok dd9) h

def f_M_sizeOf (G : gH) (a0 : Nat) (a1 : Int32) : gR :=
  gOb G a0 6 fun o2 => bI (f_M_isNoList G a0 a1) fun v5 G4 => if v5 = 0 then gOb G4 a0 6 fun o7 => bI (f_M_length G4 a0 a1) fun v10 G9 => rI v10 G9
  else rI (-1) G4
theorem k_M_sizeOf {l : Launch} {D : va_G} {B : Nat} {O : State → Heap → Prop} (hV : zG l D B O) (G : gH) (a0 : Nat) (a1 : Int32) : gMet (zVm l D B O) m_M_sizeOf 6 [.ref a0, .int a1] G (f_M_sizeOf G a0 a1) := by
  have hdd : lSa m_M_sizeOf 0 [(.aload_n 0, 0), (.iload_n 1, 0)] = true ∧ lIa m_M_sizeOf 2 (.invokevirtual 110) 3 = true ∧ lIa m_M_sizeOf 5 (.ifCond .eq 7) 3 = true ∧ lSa m_M_sizeOf 12 [(.aload_n 0, 0), (.iload_n 1, 0)] = true ∧ lIa m_M_sizeOf 14 (.invokevirtual 74) 3 = true ∧ lIa m_M_sizeOf 17 (.ireturn) 1 = true ∧ lSa m_M_sizeOf 8 [(.iconst (-1), -1)] = true ∧ lIa m_M_sizeOf 9 (.goto 8) 3 = true := by decide +kernel
  obtain ⟨dd0, dd1, dd2, dd3, dd4, dd5, dd6, dd7⟩ := hdd
  refine gMet.of (by decide +kernel) (Nat.le_of_ble_eq_true rfl) [some (.ref a0), some (.int a1)] (fun ls h => zEn_ok (n := 2) h) ?_
  intro o Gf h
  unfold f_M_sizeOf at h
  refine Y.blk (pc' := 2) (L' := [some (.ref a0), some (.int a1)]) (st' := [.int a1, .ref a0]) (sg := [(.aload_n 0, 0), (.iload_n 1, 0)]) (lSa_ok dd0) rfl ?_
  obtain ⟨_, o2, e1, m3, h⟩ := gOb_inv h
  refine Y.callI (yC.Vi (b := a0) (As := [.int a1]) (st := []) (r := ("PartlisterModel", T_M, 9)) hV.1 cb_M_isNoList lk_M_110 in_M_isNoList rfl se_M_isNoList (lIa_ok dd1) rfl rfl (Nat.le_of_ble_eq_true rfl) (by decide) e1 m3) (k_M_isNoList hV G a0 a1) h (fun v5 G4 _ h => ?_)
  refine Y.if_eq (off := 7) (tgt := 12) (lIa_ok dd2) (by decide) h (fun c11 h => ?_) (fun c11 h => ?_)
  · refine Y.blk (pc' := 14) (L' := [some (.ref a0), some (.int a1)]) (st' := [.int a1, .ref a0]) (sg := [(.aload_n 0, 0), (.iload_n 1, 0)]) (lSa_ok dd3) rfl ?_
    obtain ⟨_, o7, e6, m8, h⟩ := gOb_inv h
    refine Y.callI (yC.Vi (b := a0) (As := [.int a1]) (st := []) (r := ("PartlisterModel", T_M, 9)) hV.1 cb_M_length lk_M_74 in_M_length rfl se_M_length (lIa_ok dd4) rfl rfl (Nat.le_of_ble_eq_true rfl) (by decide) e6 m8) (k_M_length hV G4 a0 a1) h (fun v10 G9 _ h => ?_)
    exact Y.iret rfl (lIa_ok dd5) h
  · refine Y.blk (pc' := 9) (L' := [some (.ref a0), some (.int a1)]) (st' := [.int (-1)]) (sg := [(.iconst (-1), -1)]) (lSa_ok dd6) rfl ?_
    refine Y.goto (off := 8) (tgt := 17) (lIa_ok dd7) (by decide) ?_
    exact Y.iret rfl (lIa_ok dd5) h

def f_AB_init (w : Nat → Nat) (G : gH) (a0 : Nat) (a1 : Int32) : gR :=
  if (nI 1) = 0 then none
  else gNewA G 101 a1 fun q1 G2 => gPut G2 a0 10 0 (.ref q1) fun G3 => gPut G3 a0 10 1 (.int (nI 0)) fun G4 => rV G4
theorem k_AB_init {l : Launch} {D : va_G} {B : Nat} {O : State → Heap → Prop} {w : Nat → Nat} (hV : zGw l D B O w) (G : gH) (a0 : Nat) (a1 : Int32) : gMet (zVm l D B O) m_AB_init 2 [.ref a0, .int a1] G (f_AB_init w G a0 a1) := by
  have hdd : lSa m_AB_init 0 [(.aload_n 0, 0)] = true ∧ lIa m_AB_init 1 (.invokespecial 3) 3 = true ∧ lIa m_AB_init 4 (.getstatic 18) 3 = true ∧ lIa m_AB_init 7 (.ifCond .eq 18) 3 = true ∧ lSa m_AB_init 25 [(.aload_n 0, 0), (.iload_n 1, 0)] = true ∧ lSa m_AB_init 10 [(.aload_n 0, 0), (.iload_n 1, 0)] = true ∧ lIa m_AB_init 14 (.putfield 15) 3 = true ∧ lSa m_AB_init 17 [(.aload_n 0, 0), (.iconst 0, nI 0)] = true ∧ lIa m_AB_init 19 (.putfield 22) 3 = true ∧ lIa m_AB_init 22 (.goto 16) 3 = true ∧ lIa m_AB_init 38 (.return_) 1 = true := by decide +kernel
  refine lA8 hdd (fun dd0 dd1 dd2 dd3 dd4 dd5 dd6 dd7 hdd => ?_)
  obtain ⟨dd8, dd9, dd10⟩ := hdd
  refine gMet.of (by decide +kernel) (Nat.le_of_ble_eq_true rfl) [some (.ref a0), some (.int a1)] (fun ls h => zEn_ok (n := 2) h) ?_
  intro o Gf h
  unfold f_AB_init at h
  refine Y.blk (pc' := 1) (L' := [some (.ref a0), some (.int a1)]) (st' := [.ref a0]) (sg := [(.aload_n 0, 0)]) (lSa_ok dd0) rfl ?_
  refine Y.objInit lk_AB_3 in_OJ_init cw_OJ_init (by decide) rfl (Nat.le_of_ble_eq_true rfl) (lIa_ok dd1) ?_
  refine Y.gets (v := .int (nI 1)) (fun U H h => (hV.2 U H h).2.2.2.1) sf_AB_18 (lIa_ok dd2) ?_
  refine Y.if_eq (off := 18) (tgt := 25) (lIa_ok dd3) (by decide) h (fun c5 h => ?_) (fun c5 h => ?_)
  · refine Y.blk (pc' := 27) (L' := [some (.ref a0), some (.int a1)]) (st' := [.int a1, .ref a0]) (sg := [(.aload_n 0, 0), (.iload_n 1, 0)]) (lSa_ok dd4) rfl ?_
    cases h
  · refine Y.blk (pc' := 12) (L' := [some (.ref a0), some (.int a1)]) (st' := [.int a1, .ref a0]) (sg := [(.aload_n 0, 0), (.iload_n 1, 0)]) (lSa_ok dd5) rfl ?_
    refine Y.newa (at_ := .byte) (t0 := 1) ac_b rfl (by decide) rfl (by decide) (by decide +kernel) h (fun q1 G2 h => ?_)
    refine Y.putf fl_AB_15 (by decide) rfl rfl (lIa_ok dd6) h (fun G3 _ _ h => ?_)
    refine Y.blk (pc' := 19) (L' := [some (.ref a0), some (.int a1)]) (st' := [.int (nI 0), .ref a0]) (sg := [(.aload_n 0, 0), (.iconst 0, nI 0)]) (lSa_ok dd7) rfl ?_
    refine Y.putf fl_AB_22 (by decide) rfl rfl (lIa_ok dd8) h (fun G4 _ _ h => ?_)
    refine Y.goto (off := 16) (tgt := 38) (lIa_ok dd9) (by decide) ?_
    exact Y.vret rfl (lIa_ok dd10) h

def f_SB_init (w : Nat → Nat) (G : gH) (a0 : Nat) : gR :=
  bV (f_AB_init w G a0 (nI 16)) fun G2 => rV G2
theorem k_SB_init {l : Launch} {D : va_G} {B : Nat} {O : State → Heap → Prop} {w : Nat → Nat} (hV : zGw l D B O w) (G : gH) (a0 : Nat) : gMet (zVm l D B O) m_SB_init 3 [.ref a0] G (f_SB_init w G a0) := by
  have hdd : lSa m_SB_init 0 [(.aload_n 0, 0), (.bipush 16, nI 16)] = true ∧ lIa m_SB_init 3 (.invokespecial 1) 3 = true ∧ lIa m_SB_init 6 (.return_) 1 = true := by decide +kernel
  obtain ⟨dd0, dd1, dd2⟩ := hdd
  refine gMet.of (by decide +kernel) (Nat.le_of_ble_eq_true rfl) [some (.ref a0)] (fun ls h => zEn_ok (n := 1) h) ?_
  intro o Gf h
  unfold f_SB_init at h
  refine Y.blk (pc' := 3) (L' := [some (.ref a0)]) (st' := [.int (nI 16), .ref a0]) (sg := [(.aload_n 0, 0), (.bipush 16, nI 16)]) (lSa_ok dd0) rfl ?_
  refine Y.callN (yC.I (b := a0) (As := [.int (nI 16)]) (st := []) hV.1.1 cb_AB_init lk_SB_1 in_AB_init rfl rfl (lIa_ok dd1) rfl rfl (Nat.le_of_ble_eq_true rfl) (by decide)) (k_AB_init hV G a0 (nI 16)) h (fun G2 _ h => ?_)
  exact Y.vret rfl (lIa_ok dd2) h

def f_AB_newCapacity (G : gH) (a0 : Nat) (a1 : Int32) : gR :=
  gFA G a0 10 0 fun v1 => gLen G v1 101 fun v2 => gFI G a0 10 1 fun v3 => gFI G a0 10 1 fun v4 => bI (f_AS_newLength G v2 ((a1 <<< (v3 &&& 31)) - v2) (v2 + ((nI 2) <<< (v4 &&& 31)))) fun v7 G6 => if v7 = (nI 2147483647) then none
  else gFI G6 a0 10 1 fun v8 => rI (v7 >>> (v8 &&& 31)) G6
theorem k_AB_newCapacity {l : Launch} {D : va_G} {B : Nat} {O : State → Heap → Prop} (hV : zG l D B O) (G : gH) (a0 : Nat) (a1 : Int32) : gMet (zVm l D B O) m_AB_newCapacity 3 [.ref a0, .int a1] G (f_AB_newCapacity G a0 a1) := by
  have hdd : lSa m_AB_newCapacity 0 [(.aload_n 0, 0)] = true ∧ lIa m_AB_newCapacity 1 (.getfield 15) 3 = true ∧ lIa m_AB_newCapacity 4 (.arraylength) 1 = true ∧ lSa m_AB_newCapacity 5 [(.istore_n 2, 0), (.iload_n 1, 0), (.aload_n 0, 0)] = true ∧ lIa m_AB_newCapacity 8 (.getfield 22) 3 = true ∧ lSa m_AB_newCapacity 11 [(.ishl, 0), (.istore_n 3, 0), (.iload_n 3, 0), (.iload_n 2, 0), (.isub, 0), (.istore 4, 0), (.iload_n 2, 0), (.iload 4, 0), (.iload_n 2, 0), (.iconst 2, nI 2), (.aload_n 0, 0)] = true ∧ lIa m_AB_newCapacity 24 (.getfield 22) 3 = true ∧ lSa m_AB_newCapacity 27 [(.ishl, 0), (.iadd, 0)] = true ∧ lIa m_AB_newCapacity 29 (.invokestatic 114) 3 = true ∧ lSa m_AB_newCapacity 32 [(.istore 5, 0), (.iload 5, 0)] = true ∧ lIa m_AB_newCapacity 36 (.ldc 39) 2 = true ∧ lIa m_AB_newCapacity 38 (.if_icmp .ne 13) 3 = true ∧ lSa m_AB_newCapacity 51 [(.iload 5, 0), (.aload_n 0, 0)] = true ∧ lIa m_AB_newCapacity 54 (.getfield 22) 3 = true ∧ lSa m_AB_newCapacity 57 [(.ishr, 0)] = true ∧ lIa m_AB_newCapacity 58 (.ireturn) 1 = true := by decide +kernel
  refine lA8 hdd (fun dd0 dd1 dd2 dd3 dd4 dd5 dd6 dd7 hdd => ?_)
  obtain ⟨dd8, dd9, dd10, dd11, dd12, dd13, dd14, dd15⟩ := hdd
  refine gMet.of (by decide +kernel) (Nat.le_of_ble_eq_true rfl) [some (.ref a0), some (.int a1), none, none, none, none] (fun ls h => zEn_ok (n := 6) h) ?_
  intro o Gf h
  unfold f_AB_newCapacity at h
  refine Y.blk (pc' := 1) (L' := [some (.ref a0), some (.int a1), none, none, none, none]) (st' := [.ref a0]) (sg := [(.aload_n 0, 0)]) (lSa_ok dd0) rfl ?_
  refine Y.getA fl_AB_15 (lIa_ok dd1) h (fun v1 h => ?_)
  refine Y.alen (t0 := 1) (lIa_ok dd2) rfl h (fun v2 h => ?_)
  refine Y.blk (pc' := 8) (L' := [some (.ref a0), some (.int a1), some (.int v2), none, none, none]) (st' := [.ref a0, .int a1]) (sg := [(.istore_n 2, 0), (.iload_n 1, 0), (.aload_n 0, 0)]) (lSa_ok dd3) rfl ?_
  refine Y.getI fl_AB_22 (lIa_ok dd4) h (fun v3 h => ?_)
  refine Y.blk (pc' := 24) (L' := [some (.ref a0), some (.int a1), some (.int v2), some (.int (a1 <<< (v3 &&& 31))), some (.int ((a1 <<< (v3 &&& 31)) - v2)), none]) (st' := [.ref a0, .int (nI 2), .int v2, .int ((a1 <<< (v3 &&& 31)) - v2), .int v2]) (sg := [(.ishl, 0), (.istore_n 3, 0), (.iload_n 3, 0), (.iload_n 2, 0), (.isub, 0), (.istore 4, 0), (.iload_n 2, 0), (.iload 4, 0), (.iload_n 2, 0), (.iconst 2, nI 2), (.aload_n 0, 0)]) (lSa_ok dd5) rfl ?_
  refine Y.getI fl_AB_22 (lIa_ok dd6) h (fun v4 h => ?_)
  refine Y.blk (pc' := 29) (L' := [some (.ref a0), some (.int a1), some (.int v2), some (.int (a1 <<< (v3 &&& 31))), some (.int ((a1 <<< (v3 &&& 31)) - v2)), none]) (st' := [.int (v2 + ((nI 2) <<< (v4 &&& 31))), .int ((a1 <<< (v3 &&& 31)) - v2), .int v2]) (sg := [(.ishl, 0), (.iadd, 0)]) (lSa_ok dd7) rfl ?_
  refine Y.callI (yC.S (As := [.int v2, .int ((a1 <<< (v3 &&& 31)) - v2), .int (v2 + ((nI 2) <<< (v4 &&& 31)))]) (st := []) hV.1 cb_AS_newLength lk_AB_114 st_AS_newLength (lIa_ok dd8) rfl rfl (Nat.le_of_ble_eq_true rfl) (by decide)) (k_AS_newLength hV G v2 ((a1 <<< (v3 &&& 31)) - v2) (v2 + ((nI 2) <<< (v4 &&& 31)))) h (fun v7 G6 _ h => ?_)
  refine Y.blk (pc' := 36) (L' := [some (.ref a0), some (.int a1), some (.int v2), some (.int (a1 <<< (v3 &&& 31))), some (.int ((a1 <<< (v3 &&& 31)) - v2)), some (.int v7)]) (st' := [.int v7]) (sg := [(.istore 5, 0), (.iload 5, 0)]) (lSa_ok dd9) rfl ?_
  refine Y.ldc (v := nI 2147483647) co_AB_39 (lIa_ok dd10) ?_
  refine Y.ic_ne (off := 13) (tgt := 51) (lIa_ok dd11) (by decide) h (fun c9 h => ?_) (fun c9 h => ?_)
  · cases h
  · refine Y.blk (pc' := 54) (L' := [some (.ref a0), some (.int a1), some (.int v2), some (.int (a1 <<< (v3 &&& 31))), some (.int ((a1 <<< (v3 &&& 31)) - v2)), some (.int v7)]) (st' := [.ref a0, .int v7]) (sg := [(.iload 5, 0), (.aload_n 0, 0)]) (lSa_ok dd12) rfl ?_
    refine Y.getI fl_AB_22 (lIa_ok dd13) h (fun v8 h => ?_)
    refine Y.blk (pc' := 58) (L' := [some (.ref a0), some (.int a1), some (.int v2), some (.int (a1 <<< (v3 &&& 31))), some (.int ((a1 <<< (v3 &&& 31)) - v2)), some (.int v7)]) (st' := [.int (v7 >>> (v8 &&& 31))]) (sg := [(.ishr, 0)]) (lSa_ok dd14) rfl ?_
    exact Y.iret rfl (lIa_ok dd15) h

def f_AR_copyOf1 (G : gH) (a0 : Nat) (a1 : Int32) : gR :=
  gLen G a0 101 fun v1 => if a1 = v1 then gClB G a0 fun q2 G3 => gCaA G3 q2 101 (rA q2 G3)
  else gNewA G 101 a1 fun q4 G5 => gLen G5 a0 101 fun v6 => gCpB G5 a0 (nI 0) q4 (nI 0) (if a1 < v6 then a1 else v6) fun G7 => rA q4 G7
theorem k_AR_copyOf1 {l : Launch} {D : va_G} {B : Nat} {O : State → Heap → Prop} (hV : zG l D B O) (G : gH) (a0 : Nat) (a1 : Int32) : gMet (zVm l D B O) m_AR_copyOf1 2 [.ref a0, .int a1] G (f_AR_copyOf1 G a0 a1) := by
  have hdd : lSa m_AR_copyOf1 0 [(.iload_n 1, 0), (.aload_n 0, 0)] = true ∧ lIa m_AR_copyOf1 2 (.arraylength) 1 = true ∧ lIa m_AR_copyOf1 3 (.if_icmp .ne 11) 3 = true ∧ lSa m_AR_copyOf1 6 [(.aload_n 0, 0)] = true ∧ lIa m_AR_copyOf1 7 (.invokevirtual 310) 3 = true ∧ lIa m_AR_copyOf1 10 (.checkcast 311) 3 = true ∧ lIa m_AR_copyOf1 13 (.areturn) 1 = true ∧ lSa m_AR_copyOf1 14 [(.iload_n 1, 0)] = true ∧ lSa m_AR_copyOf1 17 [(.astore_n 2, 0), (.aload_n 0, 0), (.iconst 0, nI 0), (.aload_n 2, 0), (.iconst 0, nI 0), (.aload_n 0, 0)] = true ∧ lIa m_AR_copyOf1 23 (.arraylength) 1 = true ∧ lSa m_AR_copyOf1 24 [(.iload_n 1, 0)] = true ∧ lIa m_AR_copyOf1 25 (.invokestatic 304) 3 = true ∧ lIa m_AR_copyOf1 28 (.invokestatic 150) 3 = true ∧ lSa m_AR_copyOf1 31 [(.aload_n 2, 0)] = true ∧ lIa m_AR_copyOf1 32 (.areturn) 1 = true := by decide +kernel
  refine lA8 hdd (fun dd0 dd1 dd2 dd3 dd4 dd5 dd6 dd7 hdd => ?_)
  obtain ⟨dd8, dd9, dd10, dd11, dd12, dd13, dd14⟩ := hdd
  refine gMet.of (by decide +kernel) (Nat.le_of_ble_eq_true rfl) [some (.ref a0), some (.int a1), none] (fun ls h => zEn_ok (n := 3) h) ?_
  intro o Gf h
  unfold f_AR_copyOf1 at h
  refine Y.blk (pc' := 2) (L' := [some (.ref a0), some (.int a1), none]) (st' := [.ref a0, .int a1]) (sg := [(.iload_n 1, 0), (.aload_n 0, 0)]) (lSa_ok dd0) rfl ?_
  refine Y.alen (t0 := 1) (lIa_ok dd1) rfl h (fun v1 h => ?_)
  refine Y.ic_ne (off := 11) (tgt := 14) (lIa_ok dd2) (by decide) h (fun c8 h => ?_) (fun c8 h => ?_)
  · refine Y.blk (pc' := 7) (L' := [some (.ref a0), some (.int a1), none]) (st' := [.ref a0]) (sg := [(.aload_n 0, 0)]) (lSa_ok dd3) rfl ?_
    refine Y.cloneB (t0 := 1) lk_clone rfl (by decide) rfl (Nat.le_of_ble_eq_true rfl) (lIa_ok dd4) h (fun q2 G3 h => ?_)
    refine Y.castA (t0 := 1) (nm := "[B") (lIa_ok dd5) rfl (by decide) ck_AR_311 h (fun h => ?_)
    exact Y.aret rfl (by first | exact Or.inl ⟨_, rfl⟩ | exact Or.inr ⟨_, rfl⟩) (lIa_ok dd6) h
  · refine Y.blk (pc' := 15) (L' := [some (.ref a0), some (.int a1), none]) (st' := [.int a1]) (sg := [(.iload_n 1, 0)]) (lSa_ok dd7) rfl ?_
    refine Y.newa (at_ := .byte) (t0 := 1) ac_b rfl (by decide) rfl (by decide) (by decide +kernel) h (fun q4 G5 h => ?_)
    refine Y.blk (pc' := 23) (L' := [some (.ref a0), some (.int a1), some (.ref q4)]) (st' := [.ref a0, .int (nI 0), .ref q4, .int (nI 0), .ref a0]) (sg := [(.astore_n 2, 0), (.aload_n 0, 0), (.iconst 0, nI 0), (.aload_n 2, 0), (.iconst 0, nI 0), (.aload_n 0, 0)]) (lSa_ok dd8) rfl ?_
    refine Y.alen (t0 := 1) (lIa_ok dd9) rfl h (fun v6 h => ?_)
    refine Y.blk (pc' := 25) (L' := [some (.ref a0), some (.int a1), some (.ref q4)]) (st' := [.int a1, .int v6, .int (nI 0), .ref q4, .int (nI 0), .ref a0]) (sg := [(.iload_n 1, 0)]) (lSa_ok dd10) rfl ?_
    refine Y.mmin lk_AR_304 st_MA_min ini_MA cb_MA_min.1 (by decide) rfl (Nat.le_of_ble_eq_true rfl) (lIa_ok dd11) ?_
    refine Y.copyB (t0 := 1) lk_AR_150 nat_copy st_copy ini_SY (by decide) rfl (Nat.le_of_ble_eq_true rfl) (lIa_ok dd12) rfl h (fun G7 _ _ h => ?_)
    refine Y.blk (pc' := 32) (L' := [some (.ref a0), some (.int a1), some (.ref q4)]) (st' := [.ref q4]) (sg := [(.aload_n 2, 0)]) (lSa_ok dd13) rfl ?_
    exact Y.aret rfl (by first | exact Or.inl ⟨_, rfl⟩ | exact Or.inr ⟨_, rfl⟩) (lIa_ok dd14) h

def f_AB_ensureCapacityInternal (G : gH) (a0 : Nat) (a1 : Int32) : gR :=
  gFA G a0 10 0 fun v1 => gLen G v1 101 fun v2 => gFI G a0 10 1 fun v3 => if (a1 - (v2 >>> (v3 &&& 31))) ≤ 0 then rV G
  else gFA G a0 10 0 fun v4 => gOb G a0 10 fun o6 => bI (f_AB_newCapacity G a0 a1) fun v9 G8 => gFI G8 a0 10 1 fun v10 => bA (f_AR_copyOf1 G8 v4 (v9 <<< (v10 &&& 31))) fun v13 G12 => gPut G12 a0 10 0 (.ref v13) fun G14 => rV G14
theorem k_AB_ensureCapacityInternal {l : Launch} {D : va_G} {B : Nat} {O : State → Heap → Prop} (hV : zG l D B O) (G : gH) (a0 : Nat) (a1 : Int32) : gMet (zVm l D B O) m_AB_ensureCapacityInternal 4 [.ref a0, .int a1] G (f_AB_ensureCapacityInternal G a0 a1) := by
  have hdd : lSa m_AB_ensureCapacityInternal 0 [(.aload_n 0, 0)] = true ∧ lIa m_AB_ensureCapacityInternal 1 (.getfield 15) 3 = true ∧ lIa m_AB_ensureCapacityInternal 4 (.arraylength) 1 = true ∧ lSa m_AB_ensureCapacityInternal 5 [(.aload_n 0, 0)] = true ∧ lIa m_AB_ensureCapacityInternal 6 (.getfield 22) 3 = true ∧ lSa m_AB_ensureCapacityInternal 9 [(.ishr, 0), (.istore_n 2, 0), (.iload_n 1, 0), (.iload_n 2, 0), (.isub, 0)] = true ∧ lIa m_AB_ensureCapacityInternal 14 (.ifCond .le 24) 3 = true ∧ lIa m_AB_ensureCapacityInternal 38 (.return_) 1 = true ∧ lSa m_AB_ensureCapacityInternal 17 [(.aload_n 0, 0), (.aload_n 0, 0)] = true ∧ lIa m_AB_ensureCapacityInternal 19 (.getfield 15) 3 = true ∧ lSa m_AB_ensureCapacityInternal 22 [(.aload_n 0, 0), (.iload_n 1, 0)] = true ∧ lIa m_AB_ensureCapacityInternal 24 (.invokevirtual 104) 3 = true ∧ lSa m_AB_ensureCapacityInternal 27 [(.aload_n 0, 0)] = true ∧ lIa m_AB_ensureCapacityInternal 28 (.getfield 22) 3 = true ∧ lSa m_AB_ensureCapacityInternal 31 [(.ishl, 0)] = true ∧ lIa m_AB_ensureCapacityInternal 32 (.invokestatic 108) 3 = true ∧ lIa m_AB_ensureCapacityInternal 35 (.putfield 15) 3 = true := by decide +kernel
  refine lA8 hdd (fun dd0 dd1 dd2 dd3 dd4 dd5 dd6 dd7 hdd => ?_)
  refine lA8 hdd (fun dd8 dd9 dd10 dd11 dd12 dd13 dd14 dd15 hdd => ?_)
  have dd16 := hdd
  refine gMet.of (by decide +kernel) (Nat.le_of_ble_eq_true rfl) [some (.ref a0), some (.int a1), none] (fun ls h => zEn_ok (n := 3) h) ?_
  intro o Gf h
  unfold f_AB_ensureCapacityInternal at h
  refine Y.blk (pc' := 1) (L' := [some (.ref a0), some (.int a1), none]) (st' := [.ref a0]) (sg := [(.aload_n 0, 0)]) (lSa_ok dd0) rfl ?_
  refine Y.getA fl_AB_15 (lIa_ok dd1) h (fun v1 h => ?_)
  refine Y.alen (t0 := 1) (lIa_ok dd2) rfl h (fun v2 h => ?_)
  refine Y.blk (pc' := 6) (L' := [some (.ref a0), some (.int a1), none]) (st' := [.ref a0, .int v2]) (sg := [(.aload_n 0, 0)]) (lSa_ok dd3) rfl ?_
  refine Y.getI fl_AB_22 (lIa_ok dd4) h (fun v3 h => ?_)
  refine Y.blk (pc' := 14) (L' := [some (.ref a0), some (.int a1), some (.int (v2 >>> (v3 &&& 31)))]) (st' := [.int (a1 - (v2 >>> (v3 &&& 31)))]) (sg := [(.ishr, 0), (.istore_n 2, 0), (.iload_n 1, 0), (.iload_n 2, 0), (.isub, 0)]) (lSa_ok dd5) rfl ?_
  refine Y.if_le (off := 24) (tgt := 38) (lIa_ok dd6) (by decide) h (fun c15 h => ?_) (fun c15 h => ?_)
  · exact Y.vret rfl (lIa_ok dd7) h
  · refine Y.blk (pc' := 19) (L' := [some (.ref a0), some (.int a1), some (.int (v2 >>> (v3 &&& 31)))]) (st' := [.ref a0, .ref a0]) (sg := [(.aload_n 0, 0), (.aload_n 0, 0)]) (lSa_ok dd8) rfl ?_
    refine Y.getA fl_AB_15 (lIa_ok dd9) h (fun v4 h => ?_)
    refine Y.blk (pc' := 24) (L' := [some (.ref a0), some (.int a1), some (.int (v2 >>> (v3 &&& 31)))]) (st' := [.int a1, .ref a0, .ref v4, .ref a0]) (sg := [(.aload_n 0, 0), (.iload_n 1, 0)]) (lSa_ok dd10) rfl ?_
    obtain ⟨_, o6, e5, m7, h⟩ := gOb_inv h
    refine Y.callI (yC.Vi (b := a0) (As := [.int a1]) (st := [.ref v4, .ref a0]) (r := ("java/lang/StringBuilder", T_SB, 4)) hV.1 cb_AB_newCapacity lk_AB_104 in_AB_newCapacity rfl seSB_AB_newCapacity (lIa_ok dd11) rfl rfl (Nat.le_of_ble_eq_true rfl) (by decide) e5 m7) (k_AB_newCapacity hV G a0 a1) h (fun v9 G8 _ h => ?_)
    refine Y.blk (pc' := 28) (L' := [some (.ref a0), some (.int a1), some (.int (v2 >>> (v3 &&& 31)))]) (st' := [.ref a0, .int v9, .ref v4, .ref a0]) (sg := [(.aload_n 0, 0)]) (lSa_ok dd12) rfl ?_
    refine Y.getI fl_AB_22 (lIa_ok dd13) h (fun v10 h => ?_)
    refine Y.blk (pc' := 32) (L' := [some (.ref a0), some (.int a1), some (.int (v2 >>> (v3 &&& 31)))]) (st' := [.int (v9 <<< (v10 &&& 31)), .ref v4, .ref a0]) (sg := [(.ishl, 0)]) (lSa_ok dd14) rfl ?_
    refine Y.callA (yC.S (As := [.ref v4, .int (v9 <<< (v10 &&& 31))]) (st := [.ref a0]) hV.1 cb_AR_copyOf1 lk_AB_108 st_AR_copyOf1 (lIa_ok dd15) rfl rfl (Nat.le_of_ble_eq_true rfl) (by decide)) (k_AR_copyOf1 hV G8 v4 (v9 <<< (v10 &&& 31))) h (fun v13 G12 _ h => ?_)
    refine Y.putf fl_AB_15 (by decide) rfl rfl (lIa_ok dd16) h (fun G14 _ _ h => ?_)
    exact Y.vret rfl (lIa_ok dd7) h

def f_AB_isLatin1 (w : Nat → Nat) (G : gH) (a0 : Nat) : gR :=
  if (nI 1) = 0 then rZ (nI 0) G
  else gFI G a0 10 1 fun v1 => if v1 = 0 then rZ (nI 1) G
    else rZ (nI 0) G
theorem k_AB_isLatin1 {l : Launch} {D : va_G} {B : Nat} {O : State → Heap → Prop} {w : Nat → Nat} (hV : zGw l D B O w) (G : gH) (a0 : Nat) : gMet (zVm l D B O) m_AB_isLatin1 2 [.ref a0] G (f_AB_isLatin1 w G a0) := by
  have hdd : lIa m_AB_isLatin1 0 (.getstatic 18) 3 = true ∧ lIa m_AB_isLatin1 3 (.ifCond .eq 14) 3 = true ∧ lSa m_AB_isLatin1 17 [(.iconst 0, nI 0)] = true ∧ lIa m_AB_isLatin1 18 (.ireturn) 1 = true ∧ lSa m_AB_isLatin1 6 [(.aload_n 0, 0)] = true ∧ lIa m_AB_isLatin1 7 (.getfield 22) 3 = true ∧ lIa m_AB_isLatin1 10 (.ifCond .ne 7) 3 = true ∧ lSa m_AB_isLatin1 13 [(.iconst 1, nI 1)] = true ∧ lIa m_AB_isLatin1 14 (.goto 4) 3 = true := by decide +kernel
  refine lA8 hdd (fun dd0 dd1 dd2 dd3 dd4 dd5 dd6 dd7 hdd => ?_)
  have dd8 := hdd
  refine gMet.of (by decide +kernel) (Nat.le_of_ble_eq_true rfl) [some (.ref a0)] (fun ls h => zEn_ok (n := 1) h) ?_
  intro o Gf h
  unfold f_AB_isLatin1 at h
  refine Y.gets (v := .int (nI 1)) (fun U H h => (hV.2 U H h).2.2.2.1) sf_AB_18 (lIa_ok dd0) ?_
  refine Y.if_eq (off := 14) (tgt := 17) (lIa_ok dd1) (by decide) h (fun c3 h => ?_) (fun c3 h => ?_)
  · refine Y.blk (pc' := 18) (L' := [some (.ref a0)]) (st' := [.int (nI 0)]) (sg := [(.iconst 0, nI 0)]) (lSa_ok dd2) rfl ?_
    exact Y.zret rfl (lIa_ok dd3) h
  · refine Y.blk (pc' := 7) (L' := [some (.ref a0)]) (st' := [.ref a0]) (sg := [(.aload_n 0, 0)]) (lSa_ok dd4) rfl ?_
    refine Y.getI fl_AB_22 (lIa_ok dd5) h (fun v1 h => ?_)
    refine Y.if_ne (off := 7) (tgt := 17) (lIa_ok dd6) (by decide) h (fun c2 h => ?_) (fun c2 h => ?_)
    · refine Y.blk (pc' := 14) (L' := [some (.ref a0)]) (st' := [.int (nI 1)]) (sg := [(.iconst 1, nI 1)]) (lSa_ok dd7) rfl ?_
      refine Y.goto (off := 4) (tgt := 18) (lIa_ok dd8) (by decide) ?_
      exact Y.zret rfl (lIa_ok dd3) h
    · refine Y.blk (pc' := 18) (L' := [some (.ref a0)]) (st' := [.int (nI 0)]) (sg := [(.iconst 0, nI 0)]) (lSa_ok dd2) rfl ?_
      exact Y.zret rfl (lIa_ok dd3) h
end
