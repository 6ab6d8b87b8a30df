def f_X_addAll (G : gH) (a0 : Nat) (a1 : Int32) (a2 : Int32) (a3 : Int32) : gR :=
  gOb G a0 3 fun o2 => bV (f_X_needList G a0 a1) fun G4 => gOb G4 a0 3 fun o6 => bV (f_X_needList G4 a0 a3) fun G8 => gOb G8 a0 3 fun o10 => bV (f_X_needGap G8 a0 a1 a2) fun G12 => gOb G12 a0 3 fun o14 => bV (f_X_needOtherRow G12 a0 a1 a3) fun G16 => gFA G16 a0 3 0 fun v17 => gOb G16 v17 1 fun o19 => bI (f_I_lengthOf G16 v17 a3) fun v22 G21 => gOb G21 a0 3 fun o24 => bV (f_X_needRoom G21 a0 a1 v22) fun G26 => gOb G26 a0 3 fun o28 => bI (f_X_bringAll G26 a0 a1 a2 a3) fun v31 G30 => rI v31 G30
theorem k_X_addAll {l : Launch} {D : va_G} {B : Nat} {O : State → Heap → Prop} (hV : zG l D B O) (G : gH) (a0 : Nat) (a1 : Int32) (a2 : Int32) (a3 : Int32) : gMet (zVm l D B O) m_X_addAll 7 [.ref a0, .int a1, .int a2, .int a3] G (f_X_addAll G a0 a1 a2 a3) := by
  have hdd : lSa m_X_addAll 0 [(.aload_n 0, 0), (.iload_n 1, 0)] = true ∧ lIa m_X_addAll 2 (.invokevirtual 23) 3 = true ∧ lSa m_X_addAll 5 [(.aload_n 0, 0), (.iload_n 3, 0)] = true ∧ lIa m_X_addAll 7 (.invokevirtual 23) 3 = true ∧ lSa m_X_addAll 10 [(.aload_n 0, 0), (.iload_n 1, 0), (.iload_n 2, 0)] = true ∧ lIa m_X_addAll 13 (.invokevirtual 45) 3 = true ∧ lSa m_X_addAll 16 [(.aload_n 0, 0), (.iload_n 1, 0), (.iload_n 3, 0)] = true ∧ lIa m_X_addAll 19 (.invokevirtual 51) 3 = true ∧ lSa m_X_addAll 22 [(.aload_n 0, 0), (.iload_n 1, 0), (.aload_n 0, 0)] = true ∧ lIa m_X_addAll 25 (.getfield 10) 3 = true ∧ lSa m_X_addAll 28 [(.iload_n 3, 0)] = true ∧ lIa m_X_addAll 29 (.invokevirtual 34) 3 = true ∧ lIa m_X_addAll 32 (.invokevirtual 30) 3 = true ∧ lSa m_X_addAll 35 [(.aload_n 0, 0), (.iload_n 1, 0), (.iload_n 2, 0), (.iload_n 3, 0)] = true ∧ lIa m_X_addAll 39 (.invokevirtual 54) 3 = true ∧ lIa m_X_addAll 42 (.ireturn) 1 = true := by decide +kernel
  refine lA8 hdd (fun dd0 dd1 dd2 dd3 dd4 dd5 dd6 dd7 hdd => ?_)
  obtain ⟨dd8, dd9, dd10, dd11, dd12, dd13, dd14, dd15⟩ := hdd
  refine gMet.of (by decide +kernel) (Nat.le_of_ble_eq_true rfl) [some (.ref a0), some (.int a1), some (.int a2), some (.int a3)] (fun ls h => zEn_ok (n := 4) h) ?_
  intro o Gf h
  unfold f_X_addAll at h
  refine Y.blk (pc' := 2) (L' := [some (.ref a0), some (.int a1), some (.int a2), some (.int a3)]) (st' := [.int a1, .ref a0]) (sg := [(.aload_n 0, 0), (.iload_n 1, 0)]) (lSa_ok dd0) rfl ?_
  obtain ⟨_, o2, e1, m3, h⟩ := gOb_inv h
  refine Y.callN (yC.Vi (b := a0) (As := [.int a1]) (st := []) (r := ("Partlister", T_X, 5)) hV.1 cb_X_needList lk_X_23 in_X_needList rfl se_X_needList (lIa_ok dd1) rfl rfl (Nat.le_of_ble_eq_true rfl) (by decide) e1 m3) (k_X_needList hV G a0 a1) h (fun G4 _ h => ?_)
  refine Y.blk (pc' := 7) (L' := [some (.ref a0), some (.int a1), some (.int a2), some (.int a3)]) (st' := [.int a3, .ref a0]) (sg := [(.aload_n 0, 0), (.iload_n 3, 0)]) (lSa_ok dd2) rfl ?_
  obtain ⟨_, o6, e5, m7, h⟩ := gOb_inv h
  refine Y.callN (yC.Vi (b := a0) (As := [.int a3]) (st := []) (r := ("Partlister", T_X, 5)) hV.1 cb_X_needList lk_X_23 in_X_needList rfl se_X_needList (lIa_ok dd3) rfl rfl (Nat.le_of_ble_eq_true rfl) (by decide) e5 m7) (k_X_needList hV G4 a0 a3) h (fun G8 _ h => ?_)
  refine Y.blk (pc' := 13) (L' := [some (.ref a0), some (.int a1), some (.int a2), some (.int a3)]) (st' := [.int a2, .int a1, .ref a0]) (sg := [(.aload_n 0, 0), (.iload_n 1, 0), (.iload_n 2, 0)]) (lSa_ok dd4) rfl ?_
  obtain ⟨_, o10, e9, m11, h⟩ := gOb_inv h
  refine Y.callN (yC.Vi (b := a0) (As := [.int a1, .int a2]) (st := []) (r := ("Partlister", T_X, 5)) hV.1 cb_X_needGap lk_X_45 in_X_needGap rfl se_X_needGap (lIa_ok dd5) rfl rfl (Nat.le_of_ble_eq_true rfl) (by decide) e9 m11) (k_X_needGap hV G8 a0 a1 a2) h (fun G12 _ h => ?_)
  refine Y.blk (pc' := 19) (L' := [some (.ref a0), some (.int a1), some (.int a2), some (.int a3)]) (st' := [.int a3, .int a1, .ref a0]) (sg := [(.aload_n 0, 0), (.iload_n 1, 0), (.iload_n 3, 0)]) (lSa_ok dd6) rfl ?_
  obtain ⟨_, o14, e13, m15, h⟩ := gOb_inv h
  refine Y.callN (yC.Vi (b := a0) (As := [.int a1, .int a3]) (st := []) (r := ("Partlister", T_X, 5)) hV.1 cb_X_needOtherRow lk_X_51 in_X_needOtherRow rfl se_X_needOtherRow (lIa_ok dd7) rfl rfl (Nat.le_of_ble_eq_true rfl) (by decide) e13 m15) (k_X_needOtherRow hV G12 a0 a1 a3) h (fun G16 _ h => ?_)
  refine Y.blk (pc' := 25) (L' := [some (.ref a0), some (.int a1), some (.int a2), some (.int a3)]) (st' := [.ref a0, .int a1, .ref a0]) (sg := [(.aload_n 0, 0), (.iload_n 1, 0), (.aload_n 0, 0)]) (lSa_ok dd8) rfl ?_
  refine Y.getA fl_X_10 (lIa_ok dd9) h (fun v17 h => ?_)
  refine Y.blk (pc' := 29) (L' := [some (.ref a0), some (.int a1), some (.int a2), some (.int a3)]) (st' := [.int a3, .ref v17, .int a1, .ref a0]) (sg := [(.iload_n 3, 0)]) (lSa_ok dd10) rfl ?_
  obtain ⟨_, o19, e18, m20, h⟩ := gOb_inv h
  refine Y.callI (yC.Vi (b := v17) (As := [.int a3]) (st := [.int a1, .ref a0]) (r := ("Partlister$Lists", T_I, 7)) hV.1 cb_I_lengthOf lk_X_34 in_I_lengthOf rfl se_I_lengthOf (lIa_ok dd11) rfl rfl (Nat.le_of_ble_eq_true rfl) (by decide) e18 m20) (k_I_lengthOf hV G16 v17 a3) h (fun v22 G21 _ h => ?_)
  obtain ⟨_, o24, e23, m25, h⟩ := gOb_inv h
  refine Y.callN (yC.Vi (b := a0) (As := [.int a1, .int v22]) (st := []) (r := ("Partlister", T_X, 5)) hV.1 cb_X_needRoom lk_X_30 in_X_needRoom rfl se_X_needRoom (lIa_ok dd12) rfl rfl (Nat.le_of_ble_eq_true rfl) (by decide) e23 m25) (k_X_needRoom hV G21 a0 a1 v22) h (fun G26 _ h => ?_)
  refine Y.blk (pc' := 39) (L' := [some (.ref a0), some (.int a1), some (.int a2), some (.int a3)]) (st' := [.int a3, .int a2, .int a1, .ref a0]) (sg := [(.aload_n 0, 0), (.iload_n 1, 0), (.iload_n 2, 0), (.iload_n 3, 0)]) (lSa_ok dd13) rfl ?_
  obtain ⟨_, o28, e27, m29, h⟩ := gOb_inv h
  refine Y.callI (yC.Vi (b := a0) (As := [.int a1, .int a2, .int a3]) (st := []) (r := ("Partlister", T_X, 5)) hV.1 cb_X_bringAll lk_X_54 in_X_bringAll rfl se_X_bringAll (lIa_ok dd14) rfl rfl (Nat.le_of_ble_eq_true rfl) (by decide) e27 m29) (k_X_bringAll hV G26 a0 a1 a2 a3) h (fun v31 G30 _ h => ?_)
  exact Y.iret rfl (lIa_ok dd15) h

def f_X_tagOf (G : gH) (a0 : Int32) : gR :=
  rI (a0 >>> ((nI 5) &&& 31)) G
theorem k_X_tagOf {l : Launch} {D : va_G} {B : Nat} {O : State → Heap → Prop} (hV : zG l D B O) (G : gH) (a0 : Int32) : gMet (zVm l D B O) m_X_tagOf 1 [.int a0] G (f_X_tagOf G a0) := by
  have hdd : lSa m_X_tagOf 0 [(.iload_n 0, 0), (.iconst 5, nI 5), (.ishr, 0)] = true ∧ lIa m_X_tagOf 3 (.ireturn) 1 = true := by decide +kernel
  obtain ⟨dd0, dd1⟩ := hdd
  refine gMet.of (by decide +kernel) (Nat.le_of_ble_eq_true rfl) [some (.int a0)] (fun ls h => zEn_ok (n := 1) h) ?_
  intro o Gf h
  unfold f_X_tagOf at h
  refine Y.blk (pc' := 3) (L' := [some (.int a0)]) (st' := [.int (a0 >>> ((nI 5) &&& 31))]) (sg := [(.iload_n 0, 0), (.iconst 5, nI 5), (.ishr, 0)]) (lSa_ok dd0) rfl ?_
  exact Y.iret rfl (lIa_ok dd1) h

def f_X_addAt (G : gH) (a0 : Nat) (a1 : Int32) (a2 : Int32) (a3 : Int32) : gR :=
  gOb G a0 3 fun o2 => bV (f_X_needList G a0 a1) fun G4 => gOb G4 a0 3 fun o6 => bV (f_X_needGap G4 a0 a1 a2) fun G8 => gOb G8 a0 3 fun o10 => bV (f_X_needKey G8 a0 a3) fun G12 => gOb G12 a0 3 fun o14 => bV (f_X_needRoom G12 a0 a1 (nI 1)) fun G16 => gOb G16 a0 3 fun o18 => bI (f_X_make G16 a0 a3) fun v21 G20 => gOb G20 a0 3 fun o23 => bV (f_X_bringIn G20 a0 a1 a2 v21 (-1)) fun G25 => bI (f_X_tagOf G25 v21) fun v28 G27 => rI v28 G27
theorem k_X_addAt {l : Launch} {D : va_G} {B : Nat} {O : State → Heap → Prop} (hV : zG l D B O) (G : gH) (a0 : Nat) (a1 : Int32) (a2 : Int32) (a3 : Int32) : gMet (zVm l D B O) m_X_addAt 7 [.ref a0, .int a1, .int a2, .int a3] G (f_X_addAt G a0 a1 a2 a3) := by
  have hdd : lSa m_X_addAt 0 [(.aload_n 0, 0), (.iload_n 1, 0)] = true ∧ lIa m_X_addAt 2 (.invokevirtual 23) 3 = true ∧ lSa m_X_addAt 5 [(.aload_n 0, 0), (.iload_n 1, 0), (.iload_n 2, 0)] = true ∧ lIa m_X_addAt 8 (.invokevirtual 45) 3 = true ∧ lSa m_X_addAt 11 [(.aload_n 0, 0), (.iload_n 3, 0)] = true ∧ lIa m_X_addAt 13 (.invokevirtual 27) 3 = true ∧ lSa m_X_addAt 16 [(.aload_n 0, 0), (.iload_n 1, 0), (.iconst 1, nI 1)] = true ∧ lIa m_X_addAt 19 (.invokevirtual 30) 3 = true ∧ lSa m_X_addAt 22 [(.aload_n 0, 0), (.iload_n 3, 0)] = true ∧ lIa m_X_addAt 24 (.invokevirtual 38) 3 = true ∧ lSa m_X_addAt 27 [(.istore 4, 0), (.aload_n 0, 0), (.iload_n 1, 0), (.iload_n 2, 0), (.iload 4, 0), (.iconst (-1), -1)] = true ∧ lIa m_X_addAt 35 (.invokevirtual 41) 3 = true ∧ lSa m_X_addAt 38 [(.iload 4, 0)] = true ∧ lIa m_X_addAt 40 (.invokestatic 48) 3 = true ∧ lIa m_X_addAt 43 (.ireturn) 1 = true := by decide +kernel
  refine lA8 hdd (fun dd0 dd1 dd2 dd3 dd4 dd5 dd6 dd7 hdd => ?_)
  obtain ⟨dd8, dd9, dd10, dd11, dd12, dd13, dd14⟩ := hdd
  refine gMet.of (by decide +kernel) (Nat.le_of_ble_eq_true rfl) [some (.ref a0), some (.int a1), some (.int a2), some (.int a3), none] (fun ls h => zEn_ok (n := 5) h) ?_
  intro o Gf h
  unfold f_X_addAt at h
  refine Y.blk (pc' := 2) (L' := [some (.ref a0), some (.int a1), some (.int a2), some (.int a3), none]) (st' := [.int a1, .ref a0]) (sg := [(.aload_n 0, 0), (.iload_n 1, 0)]) (lSa_ok dd0) rfl ?_
  obtain ⟨_, o2, e1, m3, h⟩ := gOb_inv h
  refine Y.callN (yC.Vi (b := a0) (As := [.int a1]) (st := []) (r := ("Partlister", T_X, 5)) hV.1 cb_X_needList lk_X_23 in_X_needList rfl se_X_needList (lIa_ok dd1) rfl rfl (Nat.le_of_ble_eq_true rfl) (by decide) e1 m3) (k_X_needList hV G a0 a1) h (fun G4 _ h => ?_)
  refine Y.blk (pc' := 8) (L' := [some (.ref a0), some (.int a1), some (.int a2), some (.int a3), none]) (st' := [.int a2, .int a1, .ref a0]) (sg := [(.aload_n 0, 0), (.iload_n 1, 0), (.iload_n 2, 0)]) (lSa_ok dd2) rfl ?_
  obtain ⟨_, o6, e5, m7, h⟩ := gOb_inv h
  refine Y.callN (yC.Vi (b := a0) (As := [.int a1, .int a2]) (st := []) (r := ("Partlister", T_X, 5)) hV.1 cb_X_needGap lk_X_45 in_X_needGap rfl se_X_needGap (lIa_ok dd3) rfl rfl (Nat.le_of_ble_eq_true rfl) (by decide) e5 m7) (k_X_needGap hV G4 a0 a1 a2) h (fun G8 _ h => ?_)
  refine Y.blk (pc' := 13) (L' := [some (.ref a0), some (.int a1), some (.int a2), some (.int a3), none]) (st' := [.int a3, .ref a0]) (sg := [(.aload_n 0, 0), (.iload_n 3, 0)]) (lSa_ok dd4) rfl ?_
  obtain ⟨_, o10, e9, m11, h⟩ := gOb_inv h
  refine Y.callN (yC.Vi (b := a0) (As := [.int a3]) (st := []) (r := ("Partlister", T_X, 5)) hV.1 cb_X_needKey lk_X_27 in_X_needKey rfl se_X_needKey (lIa_ok dd5) rfl rfl (Nat.le_of_ble_eq_true rfl) (by decide) e9 m11) (k_X_needKey hV G8 a0 a3) h (fun G12 _ h => ?_)
  refine Y.blk (pc' := 19) (L' := [some (.ref a0), some (.int a1), some (.int a2), some (.int a3), none]) (st' := [.int (nI 1), .int a1, .ref a0]) (sg := [(.aload_n 0, 0), (.iload_n 1, 0), (.iconst 1, nI 1)]) (lSa_ok dd6) rfl ?_
  obtain ⟨_, o14, e13, m15, h⟩ := gOb_inv h
  refine Y.callN (yC.Vi (b := a0) (As := [.int a1, .int (nI 1)]) (st := []) (r := ("Partlister", T_X, 5)) hV.1 cb_X_needRoom lk_X_30 in_X_needRoom rfl se_X_needRoom (lIa_ok dd7) rfl rfl (Nat.le_of_ble_eq_true rfl) (by decide) e13 m15) (k_X_needRoom hV G12 a0 a1 (nI 1)) h (fun G16 _ h => ?_)
  refine Y.blk (pc' := 24) (L' := [some (.ref a0), some (.int a1), some (.int a2), some (.int a3), none]) (st' := [.int a3, .ref a0]) (sg := [(.aload_n 0, 0), (.iload_n 3, 0)]) (lSa_ok dd8) rfl ?_
  obtain ⟨_, o18, e17, m19, h⟩ := gOb_inv h
  refine Y.callI (yC.Vi (b := a0) (As := [.int a3]) (st := []) (r := ("Partlister", T_X, 5)) hV.1 cb_X_make lk_X_38 in_X_make rfl se_X_make (lIa_ok dd9) rfl rfl (Nat.le_of_ble_eq_true rfl) (by decide) e17 m19) (k_X_make hV G16 a0 a3) h (fun v21 G20 _ h => ?_)
  refine Y.blk (pc' := 35) (L' := [some (.ref a0), some (.int a1), some (.int a2), some (.int a3), some (.int v21)]) (st' := [.int (-1), .int v21, .int a2, .int a1, .ref a0]) (sg := [(.istore 4, 0), (.aload_n 0, 0), (.iload_n 1, 0), (.iload_n 2, 0), (.iload 4, 0), (.iconst (-1), -1)]) (lSa_ok dd10) rfl ?_
  obtain ⟨_, o23, e22, m24, h⟩ := gOb_inv h
  refine Y.callN (yC.Vi (b := a0) (As := [.int a1, .int a2, .int v21, .int (-1)]) (st := []) (r := ("Partlister", T_X, 5)) hV.1 cb_X_bringIn lk_X_41 in_X_bringIn rfl se_X_bringIn (lIa_ok dd11) rfl rfl (Nat.le_of_ble_eq_true rfl) (by decide) e22 m24) (k_X_bringIn hV G20 a0 a1 a2 v21 (-1)) h (fun G25 _ h => ?_)
  refine Y.blk (pc' := 40) (L' := [some (.ref a0), some (.int a1), some (.int a2), some (.int a3), some (.int v21)]) (st' := [.int v21]) (sg := [(.iload 4, 0)]) (lSa_ok dd12) rfl ?_
  refine Y.callI (yC.S (As := [.int v21]) (st := []) hV.1 cb_X_tagOf lk_X_48 st_X_tagOf (lIa_ok dd13) rfl rfl (Nat.le_of_ble_eq_true rfl) (by decide)) (k_X_tagOf hV G25 v21) h (fun v28 G27 _ h => ?_)
  exact Y.iret rfl (lIa_ok dd14) h

def f_X_append (G : gH) (a0 : Nat) (a1 : Int32) (a2 : Int32) : gR :=
  gOb G a0 3 fun o2 => bV (f_X_needList G a0 a1) fun G4 => gOb G4 a0 3 fun o6 => bV (f_X_needList G4 a0 a2) fun G8 => gOb G8 a0 3 fun o10 => bV (f_X_needOtherRow G8 a0 a1 a2) fun G12 => gFA G12 a0 3 0 fun v13 => gOb G12 v13 1 fun o15 => bI (f_I_lengthOf G12 v13 a2) fun v18 G17 => gOb G17 a0 3 fun o20 => bV (f_X_needRoom G17 a0 a1 v18) fun G22 => gFA G22 a0 3 0 fun v23 => gOb G22 v23 1 fun o25 => bI (f_I_lengthOf G22 v23 a1) fun v28 G27 => gOb G27 a0 3 fun o30 => bI (f_X_bringAll G27 a0 a1 v28 a2) fun v33 G32 => gFA G32 a0 3 0 fun v34 => gOb G32 v34 1 fun o36 => bI (f_I_lengthOf G32 v34 a1) fun v39 G38 => rI v39 G38
theorem k_X_append {l : Launch} {D : va_G} {B : Nat} {O : State → Heap → Prop} (hV : zG l D B O) (G : gH) (a0 : Nat) (a1 : Int32) (a2 : Int32) : gMet (zVm l D B O) m_X_append 7 [.ref a0, .int a1, .int a2] G (f_X_append G a0 a1 a2) := by
  have hdd : lSa m_X_append 0 [(.aload_n 0, 0), (.iload_n 1, 0)] = true ∧ lIa m_X_append 2 (.invokevirtual 23) 3 = true ∧ lSa m_X_append 5 [(.aload_n 0, 0), (.iload_n 2, 0)] = true ∧ lIa m_X_append 7 (.invokevirtual 23) 3 = true ∧ lSa m_X_append 10 [(.aload_n 0, 0), (.iload_n 1, 0), (.iload_n 2, 0)] = true ∧ lIa m_X_append 13 (.invokevirtual 51) 3 = true ∧ lSa m_X_append 16 [(.aload_n 0, 0), (.iload_n 1, 0), (.aload_n 0, 0)] = true ∧ lIa m_X_append 19 (.getfield 10) 3 = true ∧ lSa m_X_append 22 [(.iload_n 2, 0)] = true ∧ lIa m_X_append 23 (.invokevirtual 34) 3 = true ∧ lIa m_X_append 26 (.invokevirtual 30) 3 = true ∧ lSa m_X_append 29 [(.aload_n 0, 0), (.iload_n 1, 0), (.aload_n 0, 0)] = true ∧ lIa m_X_append 32 (.getfield 10) 3 = true ∧ lSa m_X_append 35 [(.iload_n 1, 0)] = true ∧ lIa m_X_append 36 (.invokevirtual 34) 3 = true ∧ lSa m_X_append 39 [(.iload_n 2, 0)] = true ∧ lIa m_X_append 40 (.invokevirtual 54) 3 = true ∧ lSa m_X_append 43 [(.pop, 0), (.aload_n 0, 0)] = true ∧ lIa m_X_append 45 (.getfield 10) 3 = true ∧ lSa m_X_append 48 [(.iload_n 1, 0)] = true ∧ lIa m_X_append 49 (.invokevirtual 34) 3 = true ∧ lIa m_X_append 52 (.ireturn) 1 = true := by decide +kernel
  refine lA8 hdd (fun dd0 dd1 dd2 dd3 dd4 dd5 dd6 dd7 hdd => ?_)
  refine lA8 hdd (fun dd8 dd9 dd10 dd11 dd12 dd13 dd14 dd15 hdd => ?_)
  obtain ⟨dd16, dd17, dd18, dd19, dd20, dd21⟩ := hdd
  refine gMet.of (by decide +kernel) (Nat.le_of_ble_eq_true rfl) [some (.ref a0), some (.int a1), some (.int a2)] (fun ls h => zEn_ok (n := 3) h) ?_
  intro o Gf h
  unfold f_X_append at h
  refine Y.blk (pc' := 2) (L' := [some (.ref a0), some (.int a1), some (.int a2)]) (st' := [.int a1, .ref a0]) (sg := [(.aload_n 0, 0), (.iload_n 1, 0)]) (lSa_ok dd0) rfl ?_
  obtain ⟨_, o2, e1, m3, h⟩ := gOb_inv h
  refine Y.callN (yC.Vi (b := a0) (As := [.int a1]) (st := []) (r := ("Partlister", T_X, 5)) hV.1 cb_X_needList lk_X_23 in_X_needList rfl se_X_needList (lIa_ok dd1) rfl rfl (Nat.le_of_ble_eq_true rfl) (by decide) e1 m3) (k_X_needList hV G a0 a1) h (fun G4 _ h => ?_)
  refine Y.blk (pc' := 7) (L' := [some (.ref a0), some (.int a1), some (.int a2)]) (st' := [.int a2, .ref a0]) (sg := [(.aload_n 0, 0), (.iload_n 2, 0)]) (lSa_ok dd2) rfl ?_
  obtain ⟨_, o6, e5, m7, h⟩ := gOb_inv h
  refine Y.callN (yC.Vi (b := a0) (As := [.int a2]) (st := []) (r := ("Partlister", T_X, 5)) hV.1 cb_X_needList lk_X_23 in_X_needList rfl se_X_needList (lIa_ok dd3) rfl rfl (Nat.le_of_ble_eq_true rfl) (by decide) e5 m7) (k_X_needList hV G4 a0 a2) h (fun G8 _ h => ?_)
  refine Y.blk (pc' := 13) (L' := [some (.ref a0), some (.int a1), some (.int a2)]) (st' := [.int a2, .int a1, .ref a0]) (sg := [(.aload_n 0, 0), (.iload_n 1, 0), (.iload_n 2, 0)]) (lSa_ok dd4) rfl ?_
  obtain ⟨_, o10, e9, m11, h⟩ := gOb_inv h
  refine Y.callN (yC.Vi (b := a0) (As := [.int a1, .int a2]) (st := []) (r := ("Partlister", T_X, 5)) hV.1 cb_X_needOtherRow lk_X_51 in_X_needOtherRow rfl se_X_needOtherRow (lIa_ok dd5) rfl rfl (Nat.le_of_ble_eq_true rfl) (by decide) e9 m11) (k_X_needOtherRow hV G8 a0 a1 a2) h (fun G12 _ h => ?_)
  refine Y.blk (pc' := 19) (L' := [some (.ref a0), some (.int a1), some (.int a2)]) (st' := [.ref a0, .int a1, .ref a0]) (sg := [(.aload_n 0, 0), (.iload_n 1, 0), (.aload_n 0, 0)]) (lSa_ok dd6) rfl ?_
  refine Y.getA fl_X_10 (lIa_ok dd7) h (fun v13 h => ?_)
  refine Y.blk (pc' := 23) (L' := [some (.ref a0), some (.int a1), some (.int a2)]) (st' := [.int a2, .ref v13, .int a1, .ref a0]) (sg := [(.iload_n 2, 0)]) (lSa_ok dd8) rfl ?_
  obtain ⟨_, o15, e14, m16, h⟩ := gOb_inv h
  refine Y.callI (yC.Vi (b := v13) (As := [.int a2]) (st := [.int a1, .ref a0]) (r := ("Partlister$Lists", T_I, 7)) hV.1 cb_I_lengthOf lk_X_34 in_I_lengthOf rfl se_I_lengthOf (lIa_ok dd9) rfl rfl (Nat.le_of_ble_eq_true rfl) (by decide) e14 m16) (k_I_lengthOf hV G12 v13 a2) h (fun v18 G17 _ h => ?_)
  obtain ⟨_, o20, e19, m21, h⟩ := gOb_inv h
  refine Y.callN (yC.Vi (b := a0) (As := [.int a1, .int v18]) (st := []) (r := ("Partlister", T_X, 5)) hV.1 cb_X_needRoom lk_X_30 in_X_needRoom rfl se_X_needRoom (lIa_ok dd10) rfl rfl (Nat.le_of_ble_eq_true rfl) (by decide) e19 m21) (k_X_needRoom hV G17 a0 a1 v18) h (fun G22 _ h => ?_)
  refine Y.blk (pc' := 32) (L' := [some (.ref a0), some (.int a1), some (.int a2)]) (st' := [.ref a0, .int a1, .ref a0]) (sg := [(.aload_n 0, 0), (.iload_n 1, 0), (.aload_n 0, 0)]) (lSa_ok dd11) rfl ?_
  refine Y.getA fl_X_10 (lIa_ok dd12) h (fun v23 h => ?_)
  refine Y.blk (pc' := 36) (L' := [some (.ref a0), some (.int a1), some (.int a2)]) (st' := [.int a1, .ref v23, .int a1, .ref a0]) (sg := [(.iload_n 1, 0)]) (lSa_ok dd13) rfl ?_
  obtain ⟨_, o25, e24, m26, h⟩ := gOb_inv h
  refine Y.callI (yC.Vi (b := v23) (As := [.int a1]) (st := [.int a1, .ref a0]) (r := ("Partlister$Lists", T_I, 7)) hV.1 cb_I_lengthOf lk_X_34 in_I_lengthOf rfl se_I_lengthOf (lIa_ok dd14) rfl rfl (Nat.le_of_ble_eq_true rfl) (by decide) e24 m26) (k_I_lengthOf hV G22 v23 a1) h (fun v28 G27 _ h => ?_)
  refine Y.blk (pc' := 40) (L' := [some (.ref a0), some (.int a1), some (.int a2)]) (st' := [.int a2, .int v28, .int a1, .ref a0]) (sg := [(.iload_n 2, 0)]) (lSa_ok dd15) rfl ?_
  obtain ⟨_, o30, e29, m31, h⟩ := gOb_inv h
  refine Y.callI (yC.Vi (b := a0) (As := [.int a1, .int v28, .int a2]) (st := []) (r := ("Partlister", T_X, 5)) hV.1 cb_X_bringAll lk_X_54 in_X_bringAll rfl se_X_bringAll (lIa_ok dd16) rfl rfl (Nat.le_of_ble_eq_true rfl) (by decide) e29 m31) (k_X_bringAll hV G27 a0 a1 v28 a2) h (fun v33 G32 _ h => ?_)
  refine Y.blk (pc' := 45) (L' := [some (.ref a0), some (.int a1), some (.int a2)]) (st' := [.ref a0]) (sg := [(.pop, 0), (.aload_n 0, 0)]) (lSa_ok dd17) rfl ?_
  refine Y.getA fl_X_10 (lIa_ok dd18) h (fun v34 h => ?_)
  refine Y.blk (pc' := 49) (L' := [some (.ref a0), some (.int a1), some (.int a2)]) (st' := [.int a1, .ref v34]) (sg := [(.iload_n 1, 0)]) (lSa_ok dd19) rfl ?_
  obtain ⟨_, o36, e35, m37, h⟩ := gOb_inv h
  refine Y.callI (yC.Vi (b := v34) (As := [.int a1]) (st := []) (r := ("Partlister$Lists", T_I, 7)) hV.1 cb_I_lengthOf lk_X_34 in_I_lengthOf rfl se_I_lengthOf (lIa_ok dd20) rfl rfl (Nat.le_of_ble_eq_true rfl) (by decide) e35 m37) (k_I_lengthOf hV G32 v34 a1) h (fun v39 G38 _ h => ?_)
  exact Y.iret rfl (lIa_ok dd21) h

def f_X_keyOf (G : gH) (a0 : Int32) : gR :=
  rI (a0 &&& (nI 31)) G
theorem k_X_keyOf {l : Launch} {D : va_G} {B : Nat} {O : State → Heap → Prop} (hV : zG l D B O) (G : gH) (a0 : Int32) : gMet (zVm l D B O) m_X_keyOf 1 [.int a0] G (f_X_keyOf G a0) := by
  have hdd : lSa m_X_keyOf 0 [(.iload_n 0, 0), (.bipush 31, nI 31), (.iand, 0)] = true ∧ lIa m_X_keyOf 4 (.ireturn) 1 = true := by decide +kernel
  obtain ⟨dd0, dd1⟩ := hdd
  refine gMet.of (by decide +kernel) (Nat.le_of_ble_eq_true rfl) [some (.int a0)] (fun ls h => zEn_ok (n := 1) h) ?_
  intro o Gf h
  unfold f_X_keyOf at h
  refine Y.blk (pc' := 4) (L' := [some (.int a0)]) (st' := [.int (a0 &&& (nI 31))]) (sg := [(.iload_n 0, 0), (.bipush 31, nI 31), (.iand, 0)]) (lSa_ok dd0) rfl ?_
  exact Y.iret rfl (lIa_ok dd1) h

def f_I_keyAt (G : gH) (a0 : Nat) (a1 : Int32) (a2 : Int32) : gR :=
  gFA G a0 1 0 fun v1 => gOb G a0 1 fun o3 => bI (f_I_cellOf G a0 a1 a2) fun v6 G5 => gOb G5 v1 2 fun o8 => bI (f_N_read G5 v1 v6) fun v11 G10 => bI (f_X_keyOf G10 v11) fun v14 G13 => rI v14 G13
theorem k_I_keyAt {l : Launch} {D : va_G} {B : Nat} {O : State → Heap → Prop} (hV : zG l D B O) (G : gH) (a0 : Nat) (a1 : Int32) (a2 : Int32) : gMet (zVm l D B O) m_I_keyAt 3 [.ref a0, .int a1, .int a2] G (f_I_keyAt G a0 a1 a2) := by
  have hdd : lSa m_I_keyAt 0 [(.aload_n 0, 0)] = true ∧ lIa m_I_keyAt 1 (.getfield 14) 3 = true ∧ lSa m_I_keyAt 4 [(.aload_n 0, 0), (.iload_n 1, 0), (.iload_n 2, 0)] = true ∧ lIa m_I_keyAt 7 (.invokevirtual 43) 3 = true ∧ lIa m_I_keyAt 10 (.invokevirtual 39) 3 = true ∧ lIa m_I_keyAt 13 (.invokestatic 47) 3 = true ∧ lIa m_I_keyAt 16 (.ireturn) 1 = true := by decide +kernel
  obtain ⟨dd0, dd1, dd2, dd3, dd4, dd5, dd6⟩ := hdd
  refine gMet.of (by decide +kernel) (Nat.le_of_ble_eq_true rfl) [some (.ref a0), some (.int a1), some (.int a2)] (fun ls h => zEn_ok (n := 3) h) ?_
  intro o Gf h
  unfold f_I_keyAt at h
  refine Y.blk (pc' := 1) (L' := [some (.ref a0), some (.int a1), some (.int a2)]) (st' := [.ref a0]) (sg := [(.aload_n 0, 0)]) (lSa_ok dd0) rfl ?_
  refine Y.getA fl_I_14 (lIa_ok dd1) h (fun v1 h => ?_)
  refine Y.blk (pc' := 7) (L' := [some (.ref a0), some (.int a1), some (.int a2)]) (st' := [.int a2, .int a1, .ref a0, .ref v1]) (sg := [(.aload_n 0, 0), (.iload_n 1, 0), (.iload_n 2, 0)]) (lSa_ok dd2) rfl ?_
  obtain ⟨_, o3, e2, m4, h⟩ := gOb_inv h
  refine Y.callI (yC.Vi (b := a0) (As := [.int a1, .int a2]) (st := [.ref v1]) (r := ("Partlister$Lists", T_I, 7)) hV.1 cb_I_cellOf lk_I_43 in_I_cellOf rfl se_I_cellOf (lIa_ok dd3) rfl rfl (Nat.le_of_ble_eq_true rfl) (by decide) e2 m4) (k_I_cellOf hV G a0 a1 a2) h (fun v6 G5 _ h => ?_)
  obtain ⟨_, o8, e7, m9, h⟩ := gOb_inv h
  refine Y.callI (yC.Vi (b := v1) (As := [.int v6]) (st := []) (r := ("Partlister$Numbers", T_N, 1)) hV.1 cb_N_read lk_I_39 in_N_read rfl se_N_read (lIa_ok dd4) rfl rfl (Nat.le_of_ble_eq_true rfl) (by decide) e7 m9) (k_N_read hV G5 v1 v6) h (fun v11 G10 _ h => ?_)
  refine Y.callI (yC.SN (As := [.int v11]) (st := []) hV.1 cb_X_keyOf lk_I_47 st_X_keyOf (lIa_ok dd5) rfl rfl (Nat.le_of_ble_eq_true rfl) (by decide)) (k_X_keyOf hV G10 v11) h (fun v14 G13 _ h => ?_)
  exact Y.iret rfl (lIa_ok dd6) h

def f_I_keysOf_L11 (K35 : gH → Int32 → gR) : Nat → gH → Nat → Int32 → Int32 → Int32 → Int32 → gR
  | 0, _, _, _, _, _, _ => none
  | n + 1, G, x0, x1, x2, x3, x4 =>
    if x2 ≤ x4 then K35 G x3
    else gOb G x0 1 fun o7 => bI (f_I_keyAt G x0 x1 x4) fun v10 G9 => f_I_keysOf_L11 K35 n G9 x0 x1 x2 (x3 ||| ((nI 1) <<< (v10 &&& 31))) (x4 + (nI 1))
def f_I_keysOf (G : gH) (a0 : Nat) (a1 : Int32) : gR :=
  gOb G a0 1 fun o2 => bI (f_I_lengthOf G a0 a1) fun v5 G4 => f_I_keysOf_L11 (fun G13 x12 => rI x12 G13) zFu G4 a0 a1 v5 (nI 0) (nI 0)
theorem k_I_keysOf_L11 {l : Launch} {D : va_G} {B : Nat} {O : State → Heap → Prop} (hV : zG l D B O) {o : gO} {Gf : gH} (K35 : gH → Int32 → gR) (hK35 : ∀ (G : gH) (x3 : Int32), K35 G x3 = some (o, Gf) → Y (zVm l D B O) m_I_keysOf 4 o Gf 35 [none, none, none, some (.int x3), none] [] G) : ∀ (n : Nat) (G : gH) (x0 : Nat) (x1 : Int32) (x2 : Int32) (x3 : Int32) (x4 : Int32), f_I_keysOf_L11 K35 n G x0 x1 x2 x3 x4 = some (o, Gf) → Y (zVm l D B O) m_I_keysOf 4 o Gf 11 [some (.ref x0), some (.int x1), some (.int x2), some (.int x3), some (.int x4)] [] G := by
  have hdd : lSa m_I_keysOf 11 [(.iload 4, 0), (.iload_n 2, 0)] = true ∧ lIa m_I_keysOf 14 (.if_icmp .ge 21) 3 = true ∧ lSa m_I_keysOf 17 [(.iload_n 3, 0), (.iconst 1, nI 1), (.aload_n 0, 0), (.iload_n 1, 0), (.iload 4, 0)] = true ∧ lIa m_I_keysOf 23 (.invokevirtual 101) 3 = true ∧ lSa m_I_keysOf 26 [(.ishl, 0), (.ior, 0), (.istore_n 3, 0), (.iinc 4 1, nI 1)] = true ∧ lIa m_I_keysOf 32 (.goto (-21)) 3 = true := by decide +kernel
  obtain ⟨dd0, dd1, dd2, dd3, dd4, dd5⟩ := hdd
  intro n
  induction n with
  | zero => intro G x0 x1 x2 x3 x4 h; cases h
  | succ n ih =>
    intro G x0 x1 x2 x3 x4 h
    unfold f_I_keysOf_L11 at h
    refine Y.blk (pc' := 14) (L' := [some (.ref x0), some (.int x1), some (.int x2), some (.int x3), some (.int x4)]) (st' := [.int x2, .int x4]) (sg := [(.iload 4, 0), (.iload_n 2, 0)]) (lSa_ok dd0) rfl ?_
    refine Y.ic_ge (off := 21) (tgt := 35) (lIa_ok dd1) (by decide) h (fun c11 h => ?_) (fun c11 h => ?_)
    · refine Y.less (L' := [none, none, none, some (.int x3), none]) (zLe_none (zLe_none (zLe_none (zLe_some (zLe_none (zLe_nil)))))) ?_
      exact hK35 G x3 h
    · refine Y.blk (pc' := 23) (L' := [some (.ref x0), some (.int x1), some (.int x2), some (.int x3), some (.int x4)]) (st' := [.int x4, .int x1, .ref x0, .int (nI 1), .int x3]) (sg := [(.iload_n 3, 0), (.iconst 1, nI 1), (.aload_n 0, 0), (.iload_n 1, 0), (.iload 4, 0)]) (lSa_ok dd2) rfl ?_
      obtain ⟨_, o7, e6, m8, h⟩ := gOb_inv h
      refine Y.callI (yC.Vi (b := x0) (As := [.int x1, .int x4]) (st := [.int (nI 1), .int x3]) (r := ("Partlister$Lists", T_I, 7)) hV.1 cb_I_keyAt lk_I_101 in_I_keyAt rfl se_I_keyAt (lIa_ok dd3) rfl rfl (Nat.le_of_ble_eq_true rfl) (by decide) e6 m8) (k_I_keyAt hV G x0 x1 x4) h (fun v10 G9 _ h => ?_)
      refine Y.blk (pc' := 32) (L' := [some (.ref x0), some (.int x1), some (.int x2), some (.int (x3 ||| ((nI 1) <<< (v10 &&& 31)))), some (.int (x4 + (nI 1)))]) (st' := []) (sg := [(.ishl, 0), (.ior, 0), (.istore_n 3, 0), (.iinc 4 1, nI 1)]) (lSa_ok dd4) rfl ?_
      refine Y.goto (off := -21) (tgt := 11) (lIa_ok dd5) (by decide) ?_
      exact ih G9 x0 x1 x2 (x3 ||| ((nI 1) <<< (v10 &&& 31))) (x4 + (nI 1)) h
theorem k_I_keysOf {l : Launch} {D : va_G} {B : Nat} {O : State → Heap → Prop} (hV : zG l D B O) (G : gH) (a0 : Nat) (a1 : Int32) : gMet (zVm l D B O) m_I_keysOf 4 [.ref a0, .int a1] G (f_I_keysOf G a0 a1) := by
  have hdd : lSa m_I_keysOf 0 [(.aload_n 0, 0), (.iload_n 1, 0)] = true ∧ lIa m_I_keysOf 2 (.invokevirtual 59) 3 = true ∧ lSa m_I_keysOf 5 [(.istore_n 2, 0), (.iconst 0, nI 0), (.istore_n 3, 0), (.iconst 0, nI 0), (.istore 4, 0)] = true ∧ lSa m_I_keysOf 35 [(.iload_n 3, 0)] = true ∧ lIa m_I_keysOf 36 (.ireturn) 1 = true := by decide +kernel
  obtain ⟨dd0, dd1, dd2, dd3, dd4⟩ := hdd
  refine gMet.of (by decide +kernel) (Nat.le_of_ble_eq_true rfl) [some (.ref a0), some (.int a1), none, none, none] (fun ls h => zEn_ok (n := 5) h) ?_
  intro o Gf h
  unfold f_I_keysOf at h
  refine Y.blk (pc' := 2) (L' := [some (.ref a0), some (.int a1), none, none, none]) (st' := [.int a1, .ref a0]) (sg := [(.aload_n 0, 0), (.iload_n 1, 0)]) (lSa_ok dd0) rfl ?_
  obtain ⟨_, o2, e1, m3, h⟩ := gOb_inv h
  refine Y.callI (yC.Vi (b := a0) (As := [.int a1]) (st := []) (r := ("Partlister$Lists", T_I, 7)) hV.1 cb_I_lengthOf lk_I_59 in_I_lengthOf rfl se_I_lengthOf (lIa_ok dd1) rfl rfl (Nat.le_of_ble_eq_true rfl) (by decide) e1 m3) (k_I_lengthOf hV G a0 a1) h (fun v5 G4 _ h => ?_)
  refine Y.blk (pc' := 11) (L' := [some (.ref a0), some (.int a1), some (.int v5), some (.int (nI 0)), some (.int (nI 0))]) (st' := []) (sg := [(.istore_n 2, 0), (.iconst 0, nI 0), (.istore_n 3, 0), (.iconst 0, nI 0), (.istore 4, 0)]) (lSa_ok dd2) rfl ?_
  refine k_I_keysOf_L11 hV _ ?_  zFu G4 a0 a1 v5 (nI 0) (nI 0) h
  · intro G13 x12 h
    refine Y.blk (pc' := 36) (L' := [none, none, none, some (.int x12), none]) (st' := [.int x12]) (sg := [(.iload_n 3, 0)]) (lSa_ok dd3) rfl ?_
    exact Y.iret rfl (lIa_ok dd4) h

def f_I_shareNoKey (G : gH) (a0 : Nat) (a1 : Int32) (a2 : Int32) : gR :=
  gOb G a0 1 fun o2 => bI (f_I_keysOf G a0 a1) fun v5 G4 => gOb G4 a0 1 fun o7 => bI (f_I_keysOf G4 a0 a2) fun v10 G9 => if (v5 &&& v10) = 0 then rZ (nI 1) G9
  else rZ (nI 0) G9
theorem k_I_shareNoKey {l : Launch} {D : va_G} {B : Nat} {O : State → Heap → Prop} (hV : zG l D B O) (G : gH) (a0 : Nat) (a1 : Int32) (a2 : Int32) : gMet (zVm l D B O) m_I_shareNoKey 5 [.ref a0, .int a1, .int a2] G (f_I_shareNoKey G a0 a1 a2) := by
  have hdd : lSa m_I_shareNoKey 0 [(.aload_n 0, 0), (.iload_n 1, 0)] = true ∧ lIa m_I_shareNoKey 2 (.invokevirtual 104) 3 = true ∧ lSa m_I_shareNoKey 5 [(.aload_n 0, 0), (.iload_n 2, 0)] = true ∧ lIa m_I_shareNoKey 7 (.invokevirtual 104) 3 = true ∧ lSa m_I_shareNoKey 10 [(.iand, 0)] = true ∧ lIa m_I_shareNoKey 11 (.ifCond .ne 7) 3 = true ∧ lSa m_I_shareNoKey 14 [(.iconst 1, nI 1)] = true ∧ lIa m_I_shareNoKey 15 (.goto 4) 3 = true ∧ lIa m_I_shareNoKey 19 (.ireturn) 1 = true ∧ lSa m_I_shareNoKey 18 [(.iconst 0, nI 0)] = true := by decide +kernel
  refine lA8 hdd (fun dd0 dd1 dd2 dd3 dd4 dd5 dd6 dd7 hdd => ?_)
  obtain ⟨dd8, dd9⟩ := hdd
  refine gMet.of (by decide +kernel) (Nat.le_of_ble_eq_true rfl) [some (.ref a0), some (.int a1), some (.int a2)] (fun ls h => zEn_ok (n := 3) h) ?_
  intro o Gf h
  unfold f_I_shareNoKey at h
  refine Y.blk (pc' := 2) (L' := [some (.ref a0), some (.int a1), some (.int a2)]) (st' := [.int a1, .ref a0]) (sg := [(.aload_n 0, 0), (.iload_n 1, 0)]) (lSa_ok dd0) rfl ?_
  obtain ⟨_, o2, e1, m3, h⟩ := gOb_inv h
  refine Y.callI (yC.Vi (b := a0) (As := [.int a1]) (st := []) (r := ("Partlister$Lists", T_I, 7)) hV.1 cb_I_keysOf lk_I_104 in_I_keysOf rfl se_I_keysOf (lIa_ok dd1) rfl rfl (Nat.le_of_ble_eq_true rfl) (by decide) e1 m3) (k_I_keysOf hV G a0 a1) h (fun v5 G4 _ h => ?_)
  refine Y.blk (pc' := 7) (L' := [some (.ref a0), some (.int a1), some (.int a2)]) (st' := [.int a2, .ref a0, .int v5]) (sg := [(.aload_n 0, 0), (.iload_n 2, 0)]) (lSa_ok dd2) rfl ?_
  obtain ⟨_, o7, e6, m8, h⟩ := gOb_inv h
  refine Y.callI (yC.Vi (b := a0) (As := [.int a2]) (st := [.int v5]) (r := ("Partlister$Lists", T_I, 7)) hV.1 cb_I_keysOf lk_I_104 in_I_keysOf rfl se_I_keysOf (lIa_ok dd3) rfl rfl (Nat.le_of_ble_eq_true rfl) (by decide) e6 m8) (k_I_keysOf hV G4 a0 a2) h (fun v10 G9 _ h => ?_)
  refine Y.blk (pc' := 11) (L' := [some (.ref a0), some (.int a1), some (.int a2)]) (st' := [.int (v5 &&& v10)]) (sg := [(.iand, 0)]) (lSa_ok dd4) rfl ?_
  refine Y.if_ne (off := 7) (tgt := 18) (lIa_ok dd5) (by decide) h (fun c11 h => ?_) (fun c11 h => ?_)
  · refine Y.blk (pc' := 15) (L' := [some (.ref a0), some (.int a1), some (.int a2)]) (st' := [.int (nI 1)]) (sg := [(.iconst 1, nI 1)]) (lSa_ok dd6) rfl ?_
    refine Y.goto (off := 4) (tgt := 19) (lIa_ok dd7) (by decide) ?_
    exact Y.zret rfl (lIa_ok dd8) h
  · refine Y.blk (pc' := 19) (L' := [some (.ref a0), some (.int a1), some (.int a2)]) (st' := [.int (nI 0)]) (sg := [(.iconst 0, nI 0)]) (lSa_ok dd9) rfl ?_
    exact Y.zret rfl (lIa_ok dd8) h

def f_X_areApart (G : gH) (a0 : Nat) (a1 : Int32) (a2 : Int32) : gR :=
  gOb G a0 3 fun o2 => bV (f_X_needList G a0 a1) fun G4 => gOb G4 a0 3 fun o6 => bV (f_X_needList G4 a0 a2) fun G8 => gFA G8 a0 3 0 fun v9 => gOb G8 v9 1 fun o11 => bI (f_I_shareNoKey G8 v9 a1 a2) fun v14 G13 => rZ v14 G13
theorem k_X_areApart {l : Launch} {D : va_G} {B : Nat} {O : State → Heap → Prop} (hV : zG l D B O) (G : gH) (a0 : Nat) (a1 : Int32) (a2 : Int32) : gMet (zVm l D B O) m_X_areApart 7 [.ref a0, .int a1, .int a2] G (f_X_areApart G a0 a1 a2) := by
  have hdd : lSa m_X_areApart 0 [(.aload_n 0, 0), (.iload_n 1, 0)] = true ∧ lIa m_X_areApart 2 (.invokevirtual 23) 3 = true ∧ lSa m_X_areApart 5 [(.aload_n 0, 0), (.iload_n 2, 0)] = true ∧ lIa m_X_areApart 7 (.invokevirtual 23) 3 = true ∧ lSa m_X_areApart 10 [(.aload_n 0, 0)] = true ∧ lIa m_X_areApart 11 (.getfield 10) 3 = true ∧ lSa m_X_areApart 14 [(.iload_n 1, 0), (.iload_n 2, 0)] = true ∧ lIa m_X_areApart 16 (.invokevirtual 196) 3 = true ∧ lIa m_X_areApart 19 (.ireturn) 1 = true := by decide +kernel
  refine lA8 hdd (fun dd0 dd1 dd2 dd3 dd4 dd5 dd6 dd7 hdd => ?_)
  have dd8 := hdd
  refine gMet.of (by decide +kernel) (Nat.le_of_ble_eq_true rfl) [some (.ref a0), some (.int a1), some (.int a2)] (fun ls h => zEn_ok (n := 3) h) ?_
  intro o Gf h
  unfold f_X_areApart at h
  refine Y.blk (pc' := 2) (L' := [some (.ref a0), some (.int a1), some (.int a2)]) (st' := [.int a1, .ref a0]) (sg := [(.aload_n 0, 0), (.iload_n 1, 0)]) (lSa_ok dd0) rfl ?_
  obtain ⟨_, o2, e1, m3, h⟩ := gOb_inv h
  refine Y.callN (yC.Vi (b := a0) (As := [.int a1]) (st := []) (r := ("Partlister", T_X, 5)) hV.1 cb_X_needList lk_X_23 in_X_needList rfl se_X_needList (lIa_ok dd1) rfl rfl (Nat.le_of_ble_eq_true rfl) (by decide) e1 m3) (k_X_needList hV G a0 a1) h (fun G4 _ h => ?_)
  refine Y.blk (pc' := 7) (L' := [some (.ref a0), some (.int a1), some (.int a2)]) (st' := [.int a2, .ref a0]) (sg := [(.aload_n 0, 0), (.iload_n 2, 0)]) (lSa_ok dd2) rfl ?_
  obtain ⟨_, o6, e5, m7, h⟩ := gOb_inv h
  refine Y.callN (yC.Vi (b := a0) (As := [.int a2]) (st := []) (r := ("Partlister", T_X, 5)) hV.1 cb_X_needList lk_X_23 in_X_needList rfl se_X_needList (lIa_ok dd3) rfl rfl (Nat.le_of_ble_eq_true rfl) (by decide) e5 m7) (k_X_needList hV G4 a0 a2) h (fun G8 _ h => ?_)
  refine Y.blk (pc' := 11) (L' := [some (.ref a0), some (.int a1), some (.int a2)]) (st' := [.ref a0]) (sg := [(.aload_n 0, 0)]) (lSa_ok dd4) rfl ?_
  refine Y.getA fl_X_10 (lIa_ok dd5) h (fun v9 h => ?_)
  refine Y.blk (pc' := 16) (L' := [some (.ref a0), some (.int a1), some (.int a2)]) (st' := [.int a2, .int a1, .ref v9]) (sg := [(.iload_n 1, 0), (.iload_n 2, 0)]) (lSa_ok dd6) rfl ?_
  obtain ⟨_, o11, e10, m12, h⟩ := gOb_inv h
  refine Y.callI (yC.Vi (b := v9) (As := [.int a1, .int a2]) (st := []) (r := ("Partlister$Lists", T_I, 7)) hV.1 cb_I_shareNoKey lk_X_196 in_I_shareNoKey rfl se_I_shareNoKey (lIa_ok dd7) rfl rfl (Nat.le_of_ble_eq_true rfl) (by decide) e10 m12) (k_I_shareNoKey hV G8 v9 a1 a2) h (fun v14 G13 _ h => ?_)
  exact Y.zret rfl (lIa_ok dd8) h

def f_X_endAround_L11 (K39 : gH → Int32 → gR) : Nat → gH → Nat → Int32 → Int32 → Int32 → gR
  | 0, _, _, _, _, _ => none
  | n + 1, G, x0, x1, x2, x3 =>
    if (nI 3) ≤ x3 then K39 G x2
    else gOb G x0 3 fun o8 => bI (f_X_isOnRowOf G x0 x3 x1) fun v11 G10 => if v11 = 0 then f_X_endAround_L11 K39 n G10 x0 x1 x2 (x3 + (nI 1))
      else gFA G10 x0 3 1 fun v12 => gOb G10 v12 0 fun o14 => bV (f_U_finish G10 v12 x3) fun G16 => f_X_endAround_L11 K39 n G16 x0 x1 x2 (x3 + (nI 1))
def f_X_endAround (G : gH) (a0 : Nat) (a1 : Int32) : gR :=
  gFA G a0 3 0 fun v1 => gOb G v1 1 fun o3 => bI (f_I_endOthers G v1 a1) fun v6 G5 => f_X_endAround_L11 (fun G20 x19 => rI x19 G20) zFu G5 a0 a1 v6 (nI 0)
theorem k_X_endAround_L11 {l : Launch} {D : va_G} {B : Nat} {O : State → Heap → Prop} (hV : zG l D B O) {o : gO} {Gf : gH} (K39 : gH → Int32 → gR) (hK39 : ∀ (G : gH) (x2 : Int32), K39 G x2 = some (o, Gf) → Y (zVm l D B O) m_X_endAround 5 o Gf 39 [none, none, some (.int x2), none] [] G) : ∀ (n : Nat) (G : gH) (x0 : Nat) (x1 : Int32) (x2 : Int32) (x3 : Int32), f_X_endAround_L11 K39 n G x0 x1 x2 x3 = some (o, Gf) → Y (zVm l D B O) m_X_endAround 5 o Gf 11 [some (.ref x0), some (.int x1), some (.int x2), some (.int x3)] [] G := by
  have hdd : lSa m_X_endAround 11 [(.iload_n 3, 0), (.iconst 3, nI 3)] = true ∧ lIa m_X_endAround 13 (.if_icmp .ge 26) 3 = true ∧ lSa m_X_endAround 16 [(.aload_n 0, 0), (.iload_n 3, 0), (.iload_n 1, 0)] = true ∧ lIa m_X_endAround 19 (.invokevirtual 293) 3 = true ∧ lIa m_X_endAround 22 (.ifCond .eq 11) 3 = true ∧ lSa m_X_endAround 33 [(.iinc 3 1, nI 1)] = true ∧ lIa m_X_endAround 36 (.goto (-25)) 3 = true ∧ lSa m_X_endAround 25 [(.aload_n 0, 0)] = true ∧ lIa m_X_endAround 26 (.getfield 19) 3 = true ∧ lSa m_X_endAround 29 [(.iload_n 3, 0)] = true ∧ lIa m_X_endAround 30 (.invokevirtual 156) 3 = true := by decide +kernel
  refine lA8 hdd (fun dd0 dd1 dd2 dd3 dd4 dd5 dd6 dd7 hdd => ?_)
  obtain ⟨dd8, dd9, dd10⟩ := hdd
  intro n
  induction n with
  | zero => intro G x0 x1 x2 x3 h; cases h
  | succ n ih =>
    intro G x0 x1 x2 x3 h
    unfold f_X_endAround_L11 at h
    refine Y.blk (pc' := 13) (L' := [some (.ref x0), some (.int x1), some (.int x2), some (.int x3)]) (st' := [.int (nI 3), .int x3]) (sg := [(.iload_n 3, 0), (.iconst 3, nI 3)]) (lSa_ok dd0) rfl ?_
    refine Y.ic_ge (off := 26) (tgt := 39) (lIa_ok dd1) (by decide) h (fun c18 h => ?_) (fun c18 h => ?_)
    · refine Y.less (L' := [none, none, some (.int x2), none]) (zLe_none (zLe_none (zLe_some (zLe_none (zLe_nil))))) ?_
      exact hK39 G x2 h
    · refine Y.blk (pc' := 19) (L' := [some (.ref x0), some (.int x1), some (.int x2), some (.int x3)]) (st' := [.int x1, .int x3, .ref x0]) (sg := [(.aload_n 0, 0), (.iload_n 3, 0), (.iload_n 1, 0)]) (lSa_ok dd2) rfl ?_
      obtain ⟨_, o8, e7, m9, h⟩ := gOb_inv h
      refine Y.callI (yC.Vi (b := x0) (As := [.int x3, .int x1]) (st := []) (r := ("Partlister", T_X, 5)) hV.1 cb_X_isOnRowOf lk_X_293 in_X_isOnRowOf rfl se_X_isOnRowOf (lIa_ok dd3) rfl rfl (Nat.le_of_ble_eq_true rfl) (by decide) e7 m9) (k_X_isOnRowOf hV G x0 x3 x1) h (fun v11 G10 _ h => ?_)
      refine Y.if_eq (off := 11) (tgt := 33) (lIa_ok dd4) (by decide) h (fun c17 h => ?_) (fun c17 h => ?_)
      · refine Y.blk (pc' := 36) (L' := [some (.ref x0), some (.int x1), some (.int x2), some (.int (x3 + (nI 1)))]) (st' := []) (sg := [(.iinc 3 1, nI 1)]) (lSa_ok dd5) rfl ?_
        refine Y.goto (off := -25) (tgt := 11) (lIa_ok dd6) (by decide) ?_
        exact ih G10 x0 x1 x2 (x3 + (nI 1)) h
      · refine Y.blk (pc' := 26) (L' := [some (.ref x0), some (.int x1), some (.int x2), some (.int x3)]) (st' := [.ref x0]) (sg := [(.aload_n 0, 0)]) (lSa_ok dd7) rfl ?_
        refine Y.getA fl_X_19 (lIa_ok dd8) h (fun v12 h => ?_)
        refine Y.blk (pc' := 30) (L' := [some (.ref x0), some (.int x1), some (.int x2), some (.int x3)]) (st' := [.int x3, .ref v12]) (sg := [(.iload_n 3, 0)]) (lSa_ok dd9) rfl ?_
        obtain ⟨_, o14, e13, m15, h⟩ := gOb_inv h
        refine Y.callN (yC.Vi (b := v12) (As := [.int x3]) (st := []) (r := ("Partlister$Cursors", T_U, 5)) hV.1 cb_U_finish lk_X_156 in_U_finish rfl se_U_finish (lIa_ok dd10) rfl rfl (Nat.le_of_ble_eq_true rfl) (by decide) e13 m15) (k_U_finish hV G10 v12 x3) h (fun G16 _ h => ?_)
        refine Y.blk (pc' := 36) (L' := [some (.ref x0), some (.int x1), some (.int x2), some (.int (x3 + (nI 1)))]) (st' := []) (sg := [(.iinc 3 1, nI 1)]) (lSa_ok dd5) rfl ?_
        refine Y.goto (off := -25) (tgt := 11) (lIa_ok dd6) (by decide) ?_
        exact ih G16 x0 x1 x2 (x3 + (nI 1)) h
theorem k_X_endAround {l : Launch} {D : va_G} {B : Nat} {O : State → Heap → Prop} (hV : zG l D B O) (G : gH) (a0 : Nat) (a1 : Int32) : gMet (zVm l D B O) m_X_endAround 5 [.ref a0, .int a1] G (f_X_endAround G a0 a1) := by
  have hdd : lSa m_X_endAround 0 [(.aload_n 0, 0)] = true ∧ lIa m_X_endAround 1 (.getfield 10) 3 = true ∧ lSa m_X_endAround 4 [(.iload_n 1, 0)] = true ∧ lIa m_X_endAround 5 (.invokevirtual 290) 3 = true ∧ lSa m_X_endAround 8 [(.istore_n 2, 0), (.iconst 0, nI 0), (.istore_n 3, 0)] = true ∧ lSa m_X_endAround 39 [(.iload_n 2, 0)] = true ∧ lIa m_X_endAround 40 (.ireturn) 1 = true := by decide +kernel
  obtain ⟨dd0, dd1, dd2, dd3, dd4, dd5, dd6⟩ := hdd
  refine gMet.of (by decide +kernel) (Nat.le_of_ble_eq_true rfl) [some (.ref a0), some (.int a1), none, none] (fun ls h => zEn_ok (n := 4) h) ?_
  intro o Gf h
  unfold f_X_endAround at h
  refine Y.blk (pc' := 1) (L' := [some (.ref a0), some (.int a1), none, none]) (st' := [.ref a0]) (sg := [(.aload_n 0, 0)]) (lSa_ok dd0) rfl ?_
  refine Y.getA fl_X_10 (lIa_ok dd1) h (fun v1 h => ?_)
  refine Y.blk (pc' := 5) (L' := [some (.ref a0), some (.int a1), none, none]) (st' := [.int a1, .ref v1]) (sg := [(.iload_n 1, 0)]) (lSa_ok dd2) rfl ?_
  obtain ⟨_, o3, e2, m4, h⟩ := gOb_inv h
  refine Y.callI (yC.Vi (b := v1) (As := [.int a1]) (st := []) (r := ("Partlister$Lists", T_I, 7)) hV.1 cb_I_endOthers lk_X_290 in_I_endOthers rfl se_I_endOthers (lIa_ok dd3) rfl rfl (Nat.le_of_ble_eq_true rfl) (by decide) e2 m4) (k_I_endOthers hV G v1 a1) h (fun v6 G5 _ h => ?_)
  refine Y.blk (pc' := 11) (L' := [some (.ref a0), some (.int a1), some (.int v6), some (.int (nI 0))]) (st' := []) (sg := [(.istore_n 2, 0), (.iconst 0, nI 0), (.istore_n 3, 0)]) (lSa_ok dd4) rfl ?_
  refine k_X_endAround_L11 hV _ ?_  zFu G5 a0 a1 v6 (nI 0) h
  · intro G20 x19 h
    refine Y.blk (pc' := 40) (L' := [none, none, some (.int x19), none]) (st' := [.int x19]) (sg := [(.iload_n 2, 0)]) (lSa_ok dd5) rfl ?_
    exact Y.iret rfl (lIa_ok dd6) h

def f_X_needRow (G : gH) (a0 : Nat) (a1 : Int32) : gR :=
  if a1 < 0 then gThrow "java/lang/IndexOutOfBoundsException" G
  else if a1 < (nI 2) then rV G
    else gThrow "java/lang/IndexOutOfBoundsException" G
theorem k_X_needRow {l : Launch} {D : va_G} {B : Nat} {O : State → Heap → Prop} (hV : zG l D B O) (G : gH) (a0 : Nat) (a1 : Int32) : gMet (zVm l D B O) m_X_needRow 6 [.ref a0, .int a1] G (f_X_needRow G a0 a1) := by
  have hdd : lSa m_X_needRow 0 [(.iload_n 1, 0)] = true ∧ lIa m_X_needRow 1 (.ifCond .lt 8) 3 = true ∧ lIa m_X_needRow 9 (.new 125) 3 = true ∧ lIa m_X_needRow 12 (.dup) 1 = true ∧ lIa m_X_needRow 13 (.ldc_w 331) 3 = true ∧ lIa m_X_needRow 16 (.invokespecial 129) 3 = true ∧ lIa m_X_needRow 19 (.athrow) 1 = true ∧ lSa m_X_needRow 4 [(.iload_n 1, 0), (.iconst 2, nI 2)] = true ∧ lIa m_X_needRow 6 (.if_icmp .lt 14) 3 = true ∧ lIa m_X_needRow 20 (.return_) 1 = true := by decide +kernel
  refine lA8 hdd (fun dd0 dd1 dd2 dd3 dd4 dd5 dd6 dd7 hdd => ?_)
  obtain ⟨dd8, dd9⟩ := hdd
  refine gMet.of (by decide +kernel) (Nat.le_of_ble_eq_true rfl) [some (.ref a0), some (.int a1)] (fun ls h => zEn_ok (n := 2) h) ?_
  intro o Gf h
  unfold f_X_needRow at h
  refine Y.blk (pc' := 1) (L' := [some (.ref a0), some (.int a1)]) (st' := [.int a1]) (sg := [(.iload_n 1, 0)]) (lSa_ok dd0) rfl ?_
  refine Y.if_lt (off := 8) (tgt := 9) (lIa_ok dd1) (by decide) h (fun c2 h => ?_) (fun c2 h => ?_)
  · exact Y.throwSW (is := 331) (text := "row is not 0 or 1") (names := zNm) hV.1 (hV.2 _ _ _ (by decide +kernel)) (by decide +kernel) (by decide +kernel) ck_X_125 ini_IOE tw_X_129 tg_X_129 (by decide) (by decide) rfl (Nat.le_of_ble_eq_true rfl) (lIa_ok dd2) (lIa_ok dd3) (lIa_ok dd4) (lIa_ok dd5) (lIa_ok dd6) h
  · refine Y.blk (pc' := 6) (L' := [some (.ref a0), some (.int a1)]) (st' := [.int (nI 2), .int a1]) (sg := [(.iload_n 1, 0), (.iconst 2, nI 2)]) (lSa_ok dd7) rfl ?_
    refine Y.ic_lt (off := 14) (tgt := 20) (lIa_ok dd8) (by decide) h (fun c1 h => ?_) (fun c1 h => ?_)
    · exact Y.vret rfl (lIa_ok dd9) h
    · exact Y.throwSW (is := 331) (text := "row is not 0 or 1") (names := zNm) hV.1 (hV.2 _ _ _ (by decide +kernel)) (by decide +kernel) (by decide +kernel) ck_X_125 ini_IOE tw_X_129 tg_X_129 (by decide) (by decide) rfl (Nat.le_of_ble_eq_true rfl) (lIa_ok dd2) (lIa_ok dd3) (lIa_ok dd4) (lIa_ok dd5) (lIa_ok dd6) h

def f_I_copyToRow_L9 (K35 : gH → Nat → Int32 → Int32 → gR) : Nat → gH → Nat → Int32 → Int32 → Int32 → Int32 → gR
  | 0, _, _, _, _, _, _ => none
  | n + 1, G, x0, x1, x2, x3, x4 =>
    if x3 ≤ x4 then K35 G x0 x1 x3
    else gOb G x0 1 fun o7 => bI (f_I_thingAt G x0 x2 x4) fun v10 G9 => gOb G9 x0 1 fun o12 => bV (f_I_write G9 x0 x1 x4 v10) fun G14 => f_I_copyToRow_L9 K35 n G14 x0 x1 x2 x3 (x4 + (nI 1))
def f_I_copyToRow (G : gH) (a0 : Nat) (a1 : Int32) (a2 : Int32) : gR :=
  gOb G a0 1 fun o2 => bI (f_I_lengthOf G a0 a2) fun v5 G4 => f_I_copyToRow_L9 (fun G19 x16 x17 x18 => gFA G19 x16 1 1 fun v20 => gOb G19 v20 2 fun o22 => bV (f_N_write G19 v20 x17 x18) fun G24 => rV G24) zFu G4 a0 a1 a2 v5 (nI 0)
theorem k_I_copyToRow_L9 {l : Launch} {D : va_G} {B : Nat} {O : State → Heap → Prop} (hV : zG l D B O) {o : gO} {Gf : gH} (K35 : gH → Nat → Int32 → Int32 → gR) (hK35 : ∀ (G : gH) (x0 : Nat) (x1 : Int32) (x3 : Int32), K35 G x0 x1 x3 = some (o, Gf) → Y (zVm l D B O) m_I_copyToRow 4 o Gf 35 [some (.ref x0), some (.int x1), none, some (.int x3), none] [] G) : ∀ (n : Nat) (G : gH) (x0 : Nat) (x1 : Int32) (x2 : Int32) (x3 : Int32) (x4 : Int32), f_I_copyToRow_L9 K35 n G x0 x1 x2 x3 x4 = some (o, Gf) → Y (zVm l D B O) m_I_copyToRow 4 o Gf 9 [some (.ref x0), some (.int x1), some (.int x2), some (.int x3), some (.int x4)] [] G := by
  have hdd : lSa m_I_copyToRow 9 [(.iload 4, 0), (.iload_n 3, 0)] = true ∧ lIa m_I_copyToRow 12 (.if_icmp .ge 23) 3 = true ∧ lSa m_I_copyToRow 15 [(.aload_n 0, 0), (.iload_n 1, 0), (.iload 4, 0), (.aload_n 0, 0), (.iload_n 2, 0), (.iload 4, 0)] = true ∧ lIa m_I_copyToRow 23 (.invokevirtual 50) 3 = true ∧ lIa m_I_copyToRow 26 (.invokevirtual 53) 3 = true ∧ lSa m_I_copyToRow 29 [(.iinc 4 1, nI 1)] = true ∧ lIa m_I_copyToRow 32 (.goto (-23)) 3 = true := by decide +kernel
  obtain ⟨dd0, dd1, dd2, dd3, dd4, dd5, dd6⟩ := hdd
  intro n
  induction n with
  | zero => intro G x0 x1 x2 x3 x4 h; cases h
  | succ n ih =>
    intro G x0 x1 x2 x3 x4 h
    unfold f_I_copyToRow_L9 at h
    refine Y.blk (pc' := 12) (L' := [some (.ref x0), some (.int x1), some (.int x2), some (.int x3), some (.int x4)]) (st' := [.int x3, .int x4]) (sg := [(.iload 4, 0), (.iload_n 3, 0)]) (lSa_ok dd0) rfl ?_
    refine Y.ic_ge (off := 23) (tgt := 35) (lIa_ok dd1) (by decide) h (fun c15 h => ?_) (fun c15 h => ?_)
    · refine Y.less (L' := [some (.ref x0), some (.int x1), none, some (.int x3), none]) (zLe_some (zLe_some (zLe_none (zLe_some (zLe_none (zLe_nil)))))) ?_
      exact hK35 G x0 x1 x3 h
    · refine Y.blk (pc' := 23) (L' := [some (.ref x0), some (.int x1), some (.int x2), some (.int x3), some (.int x4)]) (st' := [.int x4, .int x2, .ref x0, .int x4, .int x1, .ref x0]) (sg := [(.aload_n 0, 0), (.iload_n 1, 0), (.iload 4, 0), (.aload_n 0, 0), (.iload_n 2, 0), (.iload 4, 0)]) (lSa_ok dd2) rfl ?_
      obtain ⟨_, o7, e6, m8, h⟩ := gOb_inv h
      refine Y.callI (yC.Vi (b := x0) (As := [.int x2, .int x4]) (st := [.int x4, .int x1, .ref x0]) (r := ("Partlister$Lists", T_I, 7)) hV.1 cb_I_thingAt lk_I_50 in_I_thingAt rfl se_I_thingAt (lIa_ok dd3) rfl rfl (Nat.le_of_ble_eq_true rfl) (by decide) e6 m8) (k_I_thingAt hV G x0 x2 x4) h (fun v10 G9 _ h => ?_)
      obtain ⟨_, o12, e11, m13, h⟩ := gOb_inv h
      refine Y.callN (yC.Vi (b := x0) (As := [.int x1, .int x4, .int v10]) (st := []) (r := ("Partlister$Lists", T_I, 7)) hV.1 cb_I_write lk_I_53 in_I_write rfl se_I_write (lIa_ok dd4) rfl rfl (Nat.le_of_ble_eq_true rfl) (by decide) e11 m13) (k_I_write hV G9 x0 x1 x4 v10) h (fun G14 _ h => ?_)
      refine Y.blk (pc' := 32) (L' := [some (.ref x0), some (.int x1), some (.int x2), some (.int x3), some (.int (x4 + (nI 1)))]) (st' := []) (sg := [(.iinc 4 1, nI 1)]) (lSa_ok dd5) rfl ?_
      refine Y.goto (off := -23) (tgt := 9) (lIa_ok dd6) (by decide) ?_
      exact ih G14 x0 x1 x2 x3 (x4 + (nI 1)) h
theorem k_I_copyToRow {l : Launch} {D : va_G} {B : Nat} {O : State → Heap → Prop} (hV : zG l D B O) (G : gH) (a0 : Nat) (a1 : Int32) (a2 : Int32) : gMet (zVm l D B O) m_I_copyToRow 4 [.ref a0, .int a1, .int a2] G (f_I_copyToRow G a0 a1 a2) := by
  have hdd : lSa m_I_copyToRow 0 [(.aload_n 0, 0), (.iload_n 2, 0)] = true ∧ lIa m_I_copyToRow 2 (.invokevirtual 59) 3 = true ∧ lSa m_I_copyToRow 5 [(.istore_n 3, 0), (.iconst 0, nI 0), (.istore 4, 0)] = true ∧ lSa m_I_copyToRow 35 [(.aload_n 0, 0)] = true ∧ lIa m_I_copyToRow 36 (.getfield 20) 3 = true ∧ lSa m_I_copyToRow 39 [(.iload_n 1, 0), (.iload_n 3, 0)] = true ∧ lIa m_I_copyToRow 41 (.invokevirtual 35) 3 = true ∧ lIa m_I_copyToRow 44 (.return_) 1 = true := by decide +kernel
  obtain ⟨dd0, dd1, dd2, dd3, dd4, dd5, dd6, dd7⟩ := hdd
  refine gMet.of (by decide +kernel) (Nat.le_of_ble_eq_true rfl) [some (.ref a0), some (.int a1), some (.int a2), none, none] (fun ls h => zEn_ok (n := 5) h) ?_
  intro o Gf h
  unfold f_I_copyToRow at h
  refine Y.blk (pc' := 2) (L' := [some (.ref a0), some (.int a1), some (.int a2), none, none]) (st' := [.int a2, .ref a0]) (sg := [(.aload_n 0, 0), (.iload_n 2, 0)]) (lSa_ok dd0) rfl ?_
  obtain ⟨_, o2, e1, m3, h⟩ := gOb_inv h
  refine Y.callI (yC.Vi (b := a0) (As := [.int a2]) (st := []) (r := ("Partlister$Lists", T_I, 7)) hV.1 cb_I_lengthOf lk_I_59 in_I_lengthOf rfl se_I_lengthOf (lIa_ok dd1) rfl rfl (Nat.le_of_ble_eq_true rfl) (by decide) e1 m3) (k_I_lengthOf hV G a0 a2) h (fun v5 G4 _ h => ?_)
  refine Y.blk (pc' := 9) (L' := [some (.ref a0), some (.int a1), some (.int a2), some (.int v5), some (.int (nI 0))]) (st' := []) (sg := [(.istore_n 3, 0), (.iconst 0, nI 0), (.istore 4, 0)]) (lSa_ok dd2) rfl ?_
  refine k_I_copyToRow_L9 hV _ ?_  zFu G4 a0 a1 a2 v5 (nI 0) h
  · intro G19 x16 x17 x18 h
    refine Y.blk (pc' := 36) (L' := [some (.ref x16), some (.int x17), none, some (.int x18), none]) (st' := [.ref x16]) (sg := [(.aload_n 0, 0)]) (lSa_ok dd3) rfl ?_
    refine Y.getA fl_I_20 (lIa_ok dd4) h (fun v20 h => ?_)
    refine Y.blk (pc' := 41) (L' := [some (.ref x16), some (.int x17), none, some (.int x18), none]) (st' := [.int x18, .int x17, .ref v20]) (sg := [(.iload_n 1, 0), (.iload_n 3, 0)]) (lSa_ok dd5) rfl ?_
    obtain ⟨_, o22, e21, m23, h⟩ := gOb_inv h
    refine Y.callN (yC.Vi (b := v20) (As := [.int x17, .int x18]) (st := []) (r := ("Partlister$Numbers", T_N, 1)) hV.1 cb_N_write lk_I_35 in_N_write rfl se_N_write (lIa_ok dd6) rfl rfl (Nat.le_of_ble_eq_true rfl) (by decide) e21 m23) (k_N_write hV G19 v20 x17 x18) h (fun G24 _ h => ?_)
    exact Y.vret rfl (lIa_ok dd7) h

def f_X_assign (G : gH) (a0 : Nat) (a1 : Int32) (a2 : Int32) : gR :=
  gOb G a0 3 fun o2 => bV (f_X_needRow G a0 a1) fun G4 => gOb G4 a0 3 fun o6 => bV (f_X_needList G4 a0 a2) fun G8 => gFA G8 a0 3 0 fun v9 => gOb G8 v9 1 fun o11 => bI (f_I_lengthOf G8 v9 a1) fun v14 G13 => gFA G13 a0 3 0 fun v15 => gOb G13 v15 1 fun o17 => bV (f_I_copyToRow G13 v15 a1 a2) fun G19 => gOb G19 a0 3 fun o21 => bI (f_X_endAround G19 a0 a1) fun v24 G23 => rI v14 G23
theorem k_X_assign {l : Launch} {D : va_G} {B : Nat} {O : State → Heap → Prop} (hV : zG l D B O) (G : gH) (a0 : Nat) (a1 : Int32) (a2 : Int32) : gMet (zVm l D B O) m_X_assign 7 [.ref a0, .int a1, .int a2] G (f_X_assign G a0 a1 a2) := by
  have hdd : lSa m_X_assign 0 [(.aload_n 0, 0), (.iload_n 1, 0)] = true ∧ lIa m_X_assign 2 (.invokevirtual 106) 3 = true ∧ lSa m_X_assign 5 [(.aload_n 0, 0), (.iload_n 2, 0)] = true ∧ lIa m_X_assign 7 (.invokevirtual 23) 3 = true ∧ lSa m_X_assign 10 [(.aload_n 0, 0)] = true ∧ lIa m_X_assign 11 (.getfield 10) 3 = true ∧ lSa m_X_assign 14 [(.iload_n 1, 0)] = true ∧ lIa m_X_assign 15 (.invokevirtual 34) 3 = true ∧ lSa m_X_assign 18 [(.istore_n 3, 0), (.aload_n 0, 0)] = true ∧ lIa m_X_assign 20 (.getfield 10) 3 = true ∧ lSa m_X_assign 23 [(.iload_n 1, 0), (.iload_n 2, 0)] = true ∧ lIa m_X_assign 25 (.invokevirtual 109) 3 = true ∧ lSa m_X_assign 28 [(.aload_n 0, 0), (.iload_n 1, 0)] = true ∧ lIa m_X_assign 30 (.invokevirtual 103) 3 = true ∧ lSa m_X_assign 33 [(.pop, 0), (.iload_n 3, 0)] = true ∧ lIa m_X_assign 35 (.ireturn) 1 = true := by decide +kernel
  refine lA8 hdd (fun dd0 dd1 dd2 dd3 dd4 dd5 dd6 dd7 hdd => ?_)
  obtain ⟨dd8, dd9, dd10, dd11, dd12, dd13, dd14, dd15⟩ := hdd
  refine gMet.of (by decide +kernel) (Nat.le_of_ble_eq_true rfl) [some (.ref a0), some (.int a1), some (.int a2), none] (fun ls h => zEn_ok (n := 4) h) ?_
  intro o Gf h
  unfold f_X_assign at h
  refine Y.blk (pc' := 2) (L' := [some (.ref a0), some (.int a1), some (.int a2), none]) (st' := [.int a1, .ref a0]) (sg := [(.aload_n 0, 0), (.iload_n 1, 0)]) (lSa_ok dd0) rfl ?_
  obtain ⟨_, o2, e1, m3, h⟩ := gOb_inv h
  refine Y.callN (yC.Vi (b := a0) (As := [.int a1]) (st := []) (r := ("Partlister", T_X, 5)) hV.1 cb_X_needRow lk_X_106 in_X_needRow rfl se_X_needRow (lIa_ok dd1) rfl rfl (Nat.le_of_ble_eq_true rfl) (by decide) e1 m3) (k_X_needRow hV G a0 a1) h (fun G4 _ h => ?_)
  refine Y.blk (pc' := 7) (L' := [some (.ref a0), some (.int a1), some (.int a2), none]) (st' := [.int a2, .ref a0]) (sg := [(.aload_n 0, 0), (.iload_n 2, 0)]) (lSa_ok dd2) rfl ?_
  obtain ⟨_, o6, e5, m7, h⟩ := gOb_inv h
  refine Y.callN (yC.Vi (b := a0) (As := [.int a2]) (st := []) (r := ("Partlister", T_X, 5)) hV.1 cb_X_needList lk_X_23 in_X_needList rfl se_X_needList (lIa_ok dd3) rfl rfl (Nat.le_of_ble_eq_true rfl) (by decide) e5 m7) (k_X_needList hV G4 a0 a2) h (fun G8 _ h => ?_)
  refine Y.blk (pc' := 11) (L' := [some (.ref a0), some (.int a1), some (.int a2), none]) (st' := [.ref a0]) (sg := [(.aload_n 0, 0)]) (lSa_ok dd4) rfl ?_
  refine Y.getA fl_X_10 (lIa_ok dd5) h (fun v9 h => ?_)
  refine Y.blk (pc' := 15) (L' := [some (.ref a0), some (.int a1), some (.int a2), none]) (st' := [.int a1, .ref v9]) (sg := [(.iload_n 1, 0)]) (lSa_ok dd6) rfl ?_
  obtain ⟨_, o11, e10, m12, h⟩ := gOb_inv h
  refine Y.callI (yC.Vi (b := v9) (As := [.int a1]) (st := []) (r := ("Partlister$Lists", T_I, 7)) hV.1 cb_I_lengthOf lk_X_34 in_I_lengthOf rfl se_I_lengthOf (lIa_ok dd7) rfl rfl (Nat.le_of_ble_eq_true rfl) (by decide) e10 m12) (k_I_lengthOf hV G8 v9 a1) h (fun v14 G13 _ h => ?_)
  refine Y.blk (pc' := 20) (L' := [some (.ref a0), some (.int a1), some (.int a2), some (.int v14)]) (st' := [.ref a0]) (sg := [(.istore_n 3, 0), (.aload_n 0, 0)]) (lSa_ok dd8) rfl ?_
  refine Y.getA fl_X_10 (lIa_ok dd9) h (fun v15 h => ?_)
  refine Y.blk (pc' := 25) (L' := [some (.ref a0), some (.int a1), some (.int a2), some (.int v14)]) (st' := [.int a2, .int a1, .ref v15]) (sg := [(.iload_n 1, 0), (.iload_n 2, 0)]) (lSa_ok dd10) rfl ?_
  obtain ⟨_, o17, e16, m18, h⟩ := gOb_inv h
  refine Y.callN (yC.Vi (b := v15) (As := [.int a1, .int a2]) (st := []) (r := ("Partlister$Lists", T_I, 7)) hV.1 cb_I_copyToRow lk_X_109 in_I_copyToRow rfl se_I_copyToRow (lIa_ok dd11) rfl rfl (Nat.le_of_ble_eq_true rfl) (by decide) e16 m18) (k_I_copyToRow hV G13 v15 a1 a2) h (fun G19 _ h => ?_)
  refine Y.blk (pc' := 30) (L' := [some (.ref a0), some (.int a1), some (.int a2), some (.int v14)]) (st' := [.int a1, .ref a0]) (sg := [(.aload_n 0, 0), (.iload_n 1, 0)]) (lSa_ok dd12) rfl ?_
  obtain ⟨_, o21, e20, m22, h⟩ := gOb_inv h
  refine Y.callI (yC.Vi (b := a0) (As := [.int a1]) (st := []) (r := ("Partlister", T_X, 5)) hV.1 cb_X_endAround lk_X_103 in_X_endAround rfl se_X_endAround (lIa_ok dd13) rfl rfl (Nat.le_of_ble_eq_true rfl) (by decide) e20 m22) (k_X_endAround hV G19 a0 a1) h (fun v24 G23 _ h => ?_)
  refine Y.blk (pc' := 35) (L' := [some (.ref a0), some (.int a1), some (.int a2), some (.int v14)]) (st' := [.int v14]) (sg := [(.pop, 0), (.iload_n 3, 0)]) (lSa_ok dd14) rfl ?_
  exact Y.iret rfl (lIa_ok dd15) h

def f_I_sweepOut_L41 (K107 : gH → Nat → Int32 → Int32 → Int32 → gR) : Nat → gH → Nat → Int32 → Int32 → Int32 → Int32 → Int32 → Int32 → Int32 → gR
  | 0, _, _, _, _, _, _, _, _, _ => none
  | n + 1, G, x0, x1, x2, x3, x5, x6, x7, x8 =>
    if x6 ≤ x8 then K107 G x0 x1 x6 x7
    else gOb G x0 1 fun o23 => bI (f_I_thingAt G x0 x3 x8) fun v26 G25 => if x5 ≤ x8 then (if (nI 0) = 0 then gOb G25 x0 1 fun o28 => bV (f_I_write G25 x0 x3 x7 v26) fun G30 => f_I_sweepOut_L41 K107 n G30 x0 x1 x2 x3 x5 x6 (x7 + (nI 1)) (x8 + (nI 1))
        else f_I_sweepOut_L41 K107 n G25 x0 x1 x2 x3 x5 x6 x7 (x8 + (nI 1)))
      else bI (f_X_keyOf G25 v26) fun v34 G33 => if ((x2 >>> (v34 &&& 31)) &&& (nI 1)) = (nI 1) then (if (nI 1) = 0 then gOb G33 x0 1 fun o36 => bV (f_I_write G33 x0 x3 x7 v26) fun G38 => f_I_sweepOut_L41 K107 n G38 x0 x1 x2 x3 x5 x6 (x7 + (nI 1)) (x8 + (nI 1))
          else f_I_sweepOut_L41 K107 n G33 x0 x1 x2 x3 x5 x6 x7 (x8 + (nI 1)))
        else if (nI 0) = 0 then gOb G33 x0 1 fun o41 => bV (f_I_write G33 x0 x3 x7 v26) fun G43 => f_I_sweepOut_L41 K107 n G43 x0 x1 x2 x3 x5 x6 (x7 + (nI 1)) (x8 + (nI 1))
          else f_I_sweepOut_L41 K107 n G33 x0 x1 x2 x3 x5 x6 x7 (x8 + (nI 1))
def f_I_sweepOut (G : gH) (a0 : Nat) (a1 : Int32) (a2 : Int32) : gR :=
  gOb G a0 1 fun o2 => bI (f_I_rowOf G a0 a1) fun v5 G4 => gFA G4 a0 1 4 fun v6 => gOb G4 v6 2 fun o8 => bI (f_N_read G4 v6 a1) fun v11 G10 => gOb G10 a0 1 fun o13 => bI (f_I_lengthOf G10 a0 a1) fun v16 G15 => gOb G15 a0 1 fun o18 => bI (f_I_lengthOf G15 a0 v5) fun v21 G20 => f_I_sweepOut_L41 (fun G52 x48 x49 x50 x51 => gOb G52 x48 1 fun o54 => bV (f_I_lengthen G52 x48 x49 (x51 - x50)) fun G56 => rI (x50 - x51) G56) zFu G20 a0 a1 a2 v5 (v11 + v16) v21 v11 v11
theorem k_I_sweepOut_L41 {l : Launch} {D : va_G} {B : Nat} {O : State → Heap → Prop} (hV : zG l D B O) {o : gO} {Gf : gH} (K107 : gH → Nat → Int32 → Int32 → Int32 → gR) (hK107 : ∀ (G : gH) (x0 : Nat) (x1 : Int32) (x6 : Int32) (x7 : Int32), K107 G x0 x1 x6 x7 = some (o, Gf) → Y (zVm l D B O) m_I_sweepOut 4 o Gf 107 [some (.ref x0), some (.int x1), none, none, none, none, some (.int x6), some (.int x7), none, none, none] [] G) : ∀ (n : Nat) (G : gH) (x0 : Nat) (x1 : Int32) (x2 : Int32) (x3 : Int32) (x5 : Int32) (x6 : Int32) (x7 : Int32) (x8 : Int32), f_I_sweepOut_L41 K107 n G x0 x1 x2 x3 x5 x6 x7 x8 = some (o, Gf) → Y (zVm l D B O) m_I_sweepOut 4 o Gf 41 [some (.ref x0), some (.int x1), some (.int x2), some (.int x3), none, some (.int x5), some (.int x6), some (.int x7), some (.int x8), none, none] [] G := by
  have hdd : lSa m_I_sweepOut 41 [(.iload 8, 0), (.iload 6, 0)] = true ∧ lIa m_I_sweepOut 45 (.if_icmp .ge 62) 3 = true ∧ lSa m_I_sweepOut 48 [(.aload_n 0, 0), (.iload_n 3, 0), (.iload 8, 0)] = true ∧ lIa m_I_sweepOut 52 (.invokevirtual 50) 3 = true ∧ lSa m_I_sweepOut 55 [(.istore 9, 0), (.iload 8, 0), (.iload 5, 0)] = true ∧ lIa m_I_sweepOut 61 (.if_icmp .ge 20) 3 = true ∧ lSa m_I_sweepOut 81 [(.iconst 0, nI 0), (.istore 10, 0), (.iload 10, 0)] = true ∧ lIa m_I_sweepOut 86 (.ifCond .ne 15) 3 = true ∧ lSa m_I_sweepOut 89 [(.aload_n 0, 0), (.iload_n 3, 0), (.iload 7, 0), (.iload 9, 0)] = true ∧ lIa m_I_sweepOut 95 (.invokevirtual 53) 3 = true ∧ lSa m_I_sweepOut 98 [(.iinc 7 1, nI 1), (.iinc 8 1, nI 1)] = true ∧ lIa m_I_sweepOut 104 (.goto (-63)) 3 = true ∧ lSa m_I_sweepOut 101 [(.iinc 8 1, nI 1)] = true ∧ lSa m_I_sweepOut 64 [(.iload_n 2, 0), (.iload 9, 0)] = true ∧ lIa m_I_sweepOut 67 (.invokestatic 47) 3 = true ∧ lSa m_I_sweepOut 70 [(.ishr, 0), (.iconst 1, nI 1), (.iand, 0), (.iconst 1, nI 1)] = true ∧ lIa m_I_sweepOut 74 (.if_icmp .ne 7) 3 = true ∧ lSa m_I_sweepOut 77 [(.iconst 1, nI 1)] = true ∧ lIa m_I_sweepOut 78 (.goto 4) 3 = true ∧ lSa m_I_sweepOut 82 [(.istore 10, 0), (.iload 10, 0)] = true := by decide +kernel
  refine lA8 hdd (fun dd0 dd1 dd2 dd3 dd4 dd5 dd6 dd7 hdd => ?_)
  refine lA8 hdd (fun dd8 dd9 dd10 dd11 dd12 dd13 dd14 dd15 hdd => ?_)
  obtain ⟨dd16, dd17, dd18, dd19⟩ := hdd
  intro n
  induction n with
  | zero => intro G x0 x1 x2 x3 x5 x6 x7 x8 h; cases h
  | succ n ih =>
    intro G x0 x1 x2 x3 x5 x6 x7 x8 h
    unfold f_I_sweepOut_L41 at h
    refine Y.blk (pc' := 45) (L' := [some (.ref x0), some (.int x1), some (.int x2), some (.int x3), none, some (.int x5), some (.int x6), some (.int x7), some (.int x8), none, none]) (st' := [.int x6, .int x8]) (sg := [(.iload 8, 0), (.iload 6, 0)]) (lSa_ok dd0) rfl ?_
    refine Y.ic_ge (off := 62) (tgt := 107) (lIa_ok dd1) (by decide) h (fun c47 h => ?_) (fun c47 h => ?_)
    · refine Y.less (L' := [some (.ref x0), some (.int x1), none, none, none, none, some (.int x6), some (.int x7), none, none, none]) (zLe_some (zLe_some (zLe_none (zLe_none (zLe_some (zLe_none (zLe_some (zLe_some (zLe_none (zLe_some (zLe_some (zLe_nil)))))))))))) ?_
      exact hK107 G x0 x1 x6 x7 h
    · refine Y.blk (pc' := 52) (L' := [some (.ref x0), some (.int x1), some (.int x2), some (.int x3), none, some (.int x5), some (.int x6), some (.int x7), some (.int x8), none, none]) (st' := [.int x8, .int x3, .ref x0]) (sg := [(.aload_n 0, 0), (.iload_n 3, 0), (.iload 8, 0)]) (lSa_ok dd2) rfl ?_
      obtain ⟨_, o23, e22, m24, h⟩ := gOb_inv h
      refine Y.callI (yC.Vi (b := x0) (As := [.int x3, .int x8]) (st := []) (r := ("Partlister$Lists", T_I, 7)) hV.1 cb_I_thingAt lk_I_50 in_I_thingAt rfl se_I_thingAt (lIa_ok dd3) rfl rfl (Nat.le_of_ble_eq_true rfl) (by decide) e22 m24) (k_I_thingAt hV G x0 x3 x8) h (fun v26 G25 _ h => ?_)
      refine Y.blk (pc' := 61) (L' := [some (.ref x0), some (.int x1), some (.int x2), some (.int x3), none, some (.int x5), some (.int x6), some (.int x7), some (.int x8), some (.int v26), none]) (st' := [.int x5, .int x8]) (sg := [(.istore 9, 0), (.iload 8, 0), (.iload 5, 0)]) (lSa_ok dd4) rfl ?_
      refine Y.ic_ge (off := 20) (tgt := 81) (lIa_ok dd5) (by decide) h (fun c46 h => ?_) (fun c46 h => ?_)
      · refine Y.blk (pc' := 86) (L' := [some (.ref x0), some (.int x1), some (.int x2), some (.int x3), none, some (.int x5), some (.int x6), some (.int x7), some (.int x8), some (.int v26), some (.int (nI 0))]) (st' := [.int (nI 0)]) (sg := [(.iconst 0, nI 0), (.istore 10, 0), (.iload 10, 0)]) (lSa_ok dd6) rfl ?_
        refine Y.if_ne (off := 15) (tgt := 101) (lIa_ok dd7) (by decide) h (fun c31 h => ?_) (fun c31 h => ?_)
        · refine Y.blk (pc' := 95) (L' := [some (.ref x0), some (.int x1), some (.int x2), some (.int x3), none, some (.int x5), some (.int x6), some (.int x7), some (.int x8), some (.int v26), some (.int (nI 0))]) (st' := [.int v26, .int x7, .int x3, .ref x0]) (sg := [(.aload_n 0, 0), (.iload_n 3, 0), (.iload 7, 0), (.iload 9, 0)]) (lSa_ok dd8) rfl ?_
          obtain ⟨_, o28, e27, m29, h⟩ := gOb_inv h
          refine Y.callN (yC.Vi (b := x0) (As := [.int x3, .int x7, .int v26]) (st := []) (r := ("Partlister$Lists", T_I, 7)) hV.1 cb_I_write lk_I_53 in_I_write rfl se_I_write (lIa_ok dd9) rfl rfl (Nat.le_of_ble_eq_true rfl) (by decide) e27 m29) (k_I_write hV G25 x0 x3 x7 v26) h (fun G30 _ h => ?_)
          refine Y.blk (pc' := 104) (L' := [some (.ref x0), some (.int x1), some (.int x2), some (.int x3), none, some (.int x5), some (.int x6), some (.int (x7 + (nI 1))), some (.int (x8 + (nI 1))), some (.int v26), some (.int (nI 0))]) (st' := []) (sg := [(.iinc 7 1, nI 1), (.iinc 8 1, nI 1)]) (lSa_ok dd10) rfl ?_
          refine Y.goto (off := -63) (tgt := 41) (lIa_ok dd11) (by decide) ?_
          refine Y.less (L' := [some (.ref x0), some (.int x1), some (.int x2), some (.int x3), none, some (.int x5), some (.int x6), some (.int (x7 + (nI 1))), some (.int (x8 + (nI 1))), none, none]) (zLe_some (zLe_some (zLe_some (zLe_some (zLe_some (zLe_some (zLe_some (zLe_some (zLe_some (zLe_none (zLe_none (zLe_nil)))))))))))) ?_
          exact ih G30 x0 x1 x2 x3 x5 x6 (x7 + (nI 1)) (x8 + (nI 1)) h
        · refine Y.blk (pc' := 104) (L' := [some (.ref x0), some (.int x1), some (.int x2), some (.int x3), none, some (.int x5), some (.int x6), some (.int x7), some (.int (x8 + (nI 1))), some (.int v26), some (.int (nI 0))]) (st' := []) (sg := [(.iinc 8 1, nI 1)]) (lSa_ok dd12) rfl ?_
          refine Y.goto (off := -63) (tgt := 41) (lIa_ok dd11) (by decide) ?_
          refine Y.less (L' := [some (.ref x0), some (.int x1), some (.int x2), some (.int x3), none, some (.int x5), some (.int x6), some (.int x7), some (.int (x8 + (nI 1))), none, none]) (zLe_some (zLe_some (zLe_some (zLe_some (zLe_some (zLe_some (zLe_some (zLe_some (zLe_some (zLe_none (zLe_none (zLe_nil)))))))))))) ?_
          exact ih G25 x0 x1 x2 x3 x5 x6 x7 (x8 + (nI 1)) h
      · refine Y.blk (pc' := 67) (L' := [some (.ref x0), some (.int x1), some (.int x2), some (.int x3), none, some (.int x5), some (.int x6), some (.int x7), some (.int x8), some (.int v26), none]) (st' := [.int v26, .int x2]) (sg := [(.iload_n 2, 0), (.iload 9, 0)]) (lSa_ok dd13) rfl ?_
        refine Y.callI (yC.SN (As := [.int v26]) (st := [.int x2]) hV.1 cb_X_keyOf lk_I_47 st_X_keyOf (lIa_ok dd14) rfl rfl (Nat.le_of_ble_eq_true rfl) (by decide)) (k_X_keyOf hV G25 v26) h (fun v34 G33 _ h => ?_)
        refine Y.blk (pc' := 74) (L' := [some (.ref x0), some (.int x1), some (.int x2), some (.int x3), none, some (.int x5), some (.int x6), some (.int x7), some (.int x8), some (.int v26), none]) (st' := [.int (nI 1), .int ((x2 >>> (v34 &&& 31)) &&& (nI 1))]) (sg := [(.ishr, 0), (.iconst 1, nI 1), (.iand, 0), (.iconst 1, nI 1)]) (lSa_ok dd15) rfl ?_
        refine Y.ic_ne (off := 7) (tgt := 81) (lIa_ok dd16) (by decide) h (fun c45 h => ?_) (fun c45 h => ?_)
        · refine Y.blk (pc' := 78) (L' := [some (.ref x0), some (.int x1), some (.int x2), some (.int x3), none, some (.int x5), some (.int x6), some (.int x7), some (.int x8), some (.int v26), none]) (st' := [.int (nI 1)]) (sg := [(.iconst 1, nI 1)]) (lSa_ok dd17) rfl ?_
          refine Y.goto (off := 4) (tgt := 82) (lIa_ok dd18) (by decide) ?_
          refine Y.blk (pc' := 86) (L' := [some (.ref x0), some (.int x1), some (.int x2), some (.int x3), none, some (.int x5), some (.int x6), some (.int x7), some (.int x8), some (.int v26), some (.int (nI 1))]) (st' := [.int (nI 1)]) (sg := [(.istore 10, 0), (.iload 10, 0)]) (lSa_ok dd19) rfl ?_
          refine Y.if_ne (off := 15) (tgt := 101) (lIa_ok dd7) (by decide) h (fun c39 h => ?_) (fun c39 h => ?_)
          · refine Y.blk (pc' := 95) (L' := [some (.ref x0), some (.int x1), some (.int x2), some (.int x3), none, some (.int x5), some (.int x6), some (.int x7), some (.int x8), some (.int v26), some (.int (nI 1))]) (st' := [.int v26, .int x7, .int x3, .ref x0]) (sg := [(.aload_n 0, 0), (.iload_n 3, 0), (.iload 7, 0), (.iload 9, 0)]) (lSa_ok dd8) rfl ?_
            obtain ⟨_, o36, e35, m37, h⟩ := gOb_inv h
            refine Y.callN (yC.Vi (b := x0) (As := [.int x3, .int x7, .int v26]) (st := []) (r := ("Partlister$Lists", T_I, 7)) hV.1 cb_I_write lk_I_53 in_I_write rfl se_I_write (lIa_ok dd9) rfl rfl (Nat.le_of_ble_eq_true rfl) (by decide) e35 m37) (k_I_write hV G33 x0 x3 x7 v26) h (fun G38 _ h => ?_)
            refine Y.blk (pc' := 104) (L' := [some (.ref x0), some (.int x1), some (.int x2), some (.int x3), none, some (.int x5), some (.int x6), some (.int (x7 + (nI 1))), some (.int (x8 + (nI 1))), some (.int v26), some (.int (nI 1))]) (st' := []) (sg := [(.iinc 7 1, nI 1), (.iinc 8 1, nI 1)]) (lSa_ok dd10) rfl ?_
            refine Y.goto (off := -63) (tgt := 41) (lIa_ok dd11) (by decide) ?_
            refine Y.less (L' := [some (.ref x0), some (.int x1), some (.int x2), some (.int x3), none, some (.int x5), some (.int x6), some (.int (x7 + (nI 1))), some (.int (x8 + (nI 1))), none, none]) (zLe_some (zLe_some (zLe_some (zLe_some (zLe_some (zLe_some (zLe_some (zLe_some (zLe_some (zLe_none (zLe_none (zLe_nil)))))))))))) ?_
            exact ih G38 x0 x1 x2 x3 x5 x6 (x7 + (nI 1)) (x8 + (nI 1)) h
          · refine Y.blk (pc' := 104) (L' := [some (.ref x0), some (.int x1), some (.int x2), some (.int x3), none, some (.int x5), some (.int x6), some (.int x7), some (.int (x8 + (nI 1))), some (.int v26), some (.int (nI 1))]) (st' := []) (sg := [(.iinc 8 1, nI 1)]) (lSa_ok dd12) rfl ?_
            refine Y.goto (off := -63) (tgt := 41) (lIa_ok dd11) (by decide) ?_
            refine Y.less (L' := [some (.ref x0), some (.int x1), some (.int x2), some (.int x3), none, some (.int x5), some (.int x6), some (.int x7), some (.int (x8 + (nI 1))), none, none]) (zLe_some (zLe_some (zLe_some (zLe_some (zLe_some (zLe_some (zLe_some (zLe_some (zLe_some (zLe_none (zLe_none (zLe_nil)))))))))))) ?_
            exact ih G33 x0 x1 x2 x3 x5 x6 x7 (x8 + (nI 1)) h
        · refine Y.blk (pc' := 86) (L' := [some (.ref x0), some (.int x1), some (.int x2), some (.int x3), none, some (.int x5), some (.int x6), some (.int x7), some (.int x8), some (.int v26), some (.int (nI 0))]) (st' := [.int (nI 0)]) (sg := [(.iconst 0, nI 0), (.istore 10, 0), (.iload 10, 0)]) (lSa_ok dd6) rfl ?_
          refine Y.if_ne (off := 15) (tgt := 101) (lIa_ok dd7) (by decide) h (fun c44 h => ?_) (fun c44 h => ?_)
          · refine Y.blk (pc' := 95) (L' := [some (.ref x0), some (.int x1), some (.int x2), some (.int x3), none, some (.int x5), some (.int x6), some (.int x7), some (.int x8), some (.int v26), some (.int (nI 0))]) (st' := [.int v26, .int x7, .int x3, .ref x0]) (sg := [(.aload_n 0, 0), (.iload_n 3, 0), (.iload 7, 0), (.iload 9, 0)]) (lSa_ok dd8) rfl ?_
            obtain ⟨_, o41, e40, m42, h⟩ := gOb_inv h
            refine Y.callN (yC.Vi (b := x0) (As := [.int x3, .int x7, .int v26]) (st := []) (r := ("Partlister$Lists", T_I, 7)) hV.1 cb_I_write lk_I_53 in_I_write rfl se_I_write (lIa_ok dd9) rfl rfl (Nat.le_of_ble_eq_true rfl) (by decide) e40 m42) (k_I_write hV G33 x0 x3 x7 v26) h (fun G43 _ h => ?_)
            refine Y.blk (pc' := 104) (L' := [some (.ref x0), some (.int x1), some (.int x2), some (.int x3), none, some (.int x5), some (.int x6), some (.int (x7 + (nI 1))), some (.int (x8 + (nI 1))), some (.int v26), some (.int (nI 0))]) (st' := []) (sg := [(.iinc 7 1, nI 1), (.iinc 8 1, nI 1)]) (lSa_ok dd10) rfl ?_
            refine Y.goto (off := -63) (tgt := 41) (lIa_ok dd11) (by decide) ?_
            refine Y.less (L' := [some (.ref x0), some (.int x1), some (.int x2), some (.int x3), none, some (.int x5), some (.int x6), some (.int (x7 + (nI 1))), some (.int (x8 + (nI 1))), none, none]) (zLe_some (zLe_some (zLe_some (zLe_some (zLe_some (zLe_some (zLe_some (zLe_some (zLe_some (zLe_none (zLe_none (zLe_nil)))))))))))) ?_
            exact ih G43 x0 x1 x2 x3 x5 x6 (x7 + (nI 1)) (x8 + (nI 1)) h
          · refine Y.blk (pc' := 104) (L' := [some (.ref x0), some (.int x1), some (.int x2), some (.int x3), none, some (.int x5), some (.int x6), some (.int x7), some (.int (x8 + (nI 1))), some (.int v26), some (.int (nI 0))]) (st' := []) (sg := [(.iinc 8 1, nI 1)]) (lSa_ok dd12) rfl ?_
            refine Y.goto (off := -63) (tgt := 41) (lIa_ok dd11) (by decide) ?_
            refine Y.less (L' := [some (.ref x0), some (.int x1), some (.int x2), some (.int x3), none, some (.int x5), some (.int x6), some (.int x7), some (.int (x8 + (nI 1))), none, none]) (zLe_some (zLe_some (zLe_some (zLe_some (zLe_some (zLe_some (zLe_some (zLe_some (zLe_some (zLe_none (zLe_none (zLe_nil)))))))))))) ?_
            exact ih G33 x0 x1 x2 x3 x5 x6 x7 (x8 + (nI 1)) h
theorem k_I_sweepOut {l : Launch} {D : va_G} {B : Nat} {O : State → Heap → Prop} (hV : zG l D B O) (G : gH) (a0 : Nat) (a1 : Int32) (a2 : Int32) : gMet (zVm l D B O) m_I_sweepOut 4 [.ref a0, .int a1, .int a2] G (f_I_sweepOut G a0 a1 a2) := by
  have hdd : lSa m_I_sweepOut 0 [(.aload_n 0, 0), (.iload_n 1, 0)] = true ∧ lIa m_I_sweepOut 2 (.invokevirtual 56) 3 = true ∧ lSa m_I_sweepOut 5 [(.istore_n 3, 0), (.aload_n 0, 0)] = true ∧ lIa m_I_sweepOut 7 (.getfield 29) 3 = true ∧ lSa m_I_sweepOut 10 [(.iload_n 1, 0)] = true ∧ lIa m_I_sweepOut 11 (.invokevirtual 39) 3 = true ∧ lSa m_I_sweepOut 14 [(.istore 4, 0), (.iload 4, 0), (.aload_n 0, 0), (.iload_n 1, 0)] = true ∧ lIa m_I_sweepOut 20 (.invokevirtual 59) 3 = true ∧ lSa m_I_sweepOut 23 [(.iadd, 0), (.istore 5, 0), (.aload_n 0, 0), (.iload_n 3, 0)] = true ∧ lIa m_I_sweepOut 28 (.invokevirtual 59) 3 = true ∧ lSa m_I_sweepOut 31 [(.istore 6, 0), (.iload 4, 0), (.istore 7, 0), (.iload 4, 0), (.istore 8, 0)] = true ∧ lSa m_I_sweepOut 107 [(.aload_n 0, 0), (.iload_n 1, 0), (.iload 7, 0), (.iload 6, 0), (.isub, 0)] = true ∧ lIa m_I_sweepOut 114 (.invokevirtual 62) 3 = true ∧ lSa m_I_sweepOut 117 [(.iload 6, 0), (.iload 7, 0), (.isub, 0)] = true ∧ lIa m_I_sweepOut 122 (.ireturn) 1 = true := by decide +kernel
  refine lA8 hdd (fun dd0 dd1 dd2 dd3 dd4 dd5 dd6 dd7 hdd => ?_)
  obtain ⟨dd8, dd9, dd10, dd11, dd12, dd13, dd14⟩ := hdd
  refine gMet.of (by decide +kernel) (Nat.le_of_ble_eq_true rfl) [some (.ref a0), some (.int a1), some (.int a2), none, none, none, none, none, none, none, none] (fun ls h => zEn_ok (n := 11) h) ?_
  intro o Gf h
  unfold f_I_sweepOut at h
  refine Y.blk (pc' := 2) (L' := [some (.ref a0), some (.int a1), some (.int a2), none, none, none, none, none, none, none, none]) (st' := [.int a1, .ref a0]) (sg := [(.aload_n 0, 0), (.iload_n 1, 0)]) (lSa_ok dd0) rfl ?_
  obtain ⟨_, o2, e1, m3, h⟩ := gOb_inv h
  refine Y.callI (yC.Vi (b := a0) (As := [.int a1]) (st := []) (r := ("Partlister$Lists", T_I, 7)) hV.1 cb_I_rowOf lk_I_56 in_I_rowOf rfl se_I_rowOf (lIa_ok dd1) rfl rfl (Nat.le_of_ble_eq_true rfl) (by decide) e1 m3) (k_I_rowOf hV G a0 a1) h (fun v5 G4 _ h => ?_)
  refine Y.blk (pc' := 7) (L' := [some (.ref a0), some (.int a1), some (.int a2), some (.int v5), none, none, none, none, none, none, none]) (st' := [.ref a0]) (sg := [(.istore_n 3, 0), (.aload_n 0, 0)]) (lSa_ok dd2) rfl ?_
  refine Y.getA fl_I_29 (lIa_ok dd3) h (fun v6 h => ?_)
  refine Y.blk (pc' := 11) (L' := [some (.ref a0), some (.int a1), some (.int a2), some (.int v5), none, none, none, none, none, none, none]) (st' := [.int a1, .ref v6]) (sg := [(.iload_n 1, 0)]) (lSa_ok dd4) rfl ?_
  obtain ⟨_, o8, e7, m9, h⟩ := gOb_inv h
  refine Y.callI (yC.Vi (b := v6) (As := [.int a1]) (st := []) (r := ("Partlister$Numbers", T_N, 1)) hV.1 cb_N_read lk_I_39 in_N_read rfl se_N_read (lIa_ok dd5) rfl rfl (Nat.le_of_ble_eq_true rfl) (by decide) e7 m9) (k_N_read hV G4 v6 a1) h (fun v11 G10 _ h => ?_)
  refine Y.blk (pc' := 20) (L' := [some (.ref a0), some (.int a1), some (.int a2), some (.int v5), some (.int v11), none, none, none, none, none, none]) (st' := [.int a1, .ref a0, .int v11]) (sg := [(.istore 4, 0), (.iload 4, 0), (.aload_n 0, 0), (.iload_n 1, 0)]) (lSa_ok dd6) rfl ?_
  obtain ⟨_, o13, e12, m14, h⟩ := gOb_inv h
  refine Y.callI (yC.Vi (b := a0) (As := [.int a1]) (st := [.int v11]) (r := ("Partlister$Lists", T_I, 7)) hV.1 cb_I_lengthOf lk_I_59 in_I_lengthOf rfl se_I_lengthOf (lIa_ok dd7) rfl rfl (Nat.le_of_ble_eq_true rfl) (by decide) e12 m14) (k_I_lengthOf hV G10 a0 a1) h (fun v16 G15 _ h => ?_)
  refine Y.blk (pc' := 28) (L' := [some (.ref a0), some (.int a1), some (.int a2), some (.int v5), some (.int v11), some (.int (v11 + v16)), none, none, none, none, none]) (st' := [.int v5, .ref a0]) (sg := [(.iadd, 0), (.istore 5, 0), (.aload_n 0, 0), (.iload_n 3, 0)]) (lSa_ok dd8) rfl ?_
  obtain ⟨_, o18, e17, m19, h⟩ := gOb_inv h
  refine Y.callI (yC.Vi (b := a0) (As := [.int v5]) (st := []) (r := ("Partlister$Lists", T_I, 7)) hV.1 cb_I_lengthOf lk_I_59 in_I_lengthOf rfl se_I_lengthOf (lIa_ok dd9) rfl rfl (Nat.le_of_ble_eq_true rfl) (by decide) e17 m19) (k_I_lengthOf hV G15 a0 v5) h (fun v21 G20 _ h => ?_)
  refine Y.blk (pc' := 41) (L' := [some (.ref a0), some (.int a1), some (.int a2), some (.int v5), some (.int v11), some (.int (v11 + v16)), some (.int v21), some (.int v11), some (.int v11), none, none]) (st' := []) (sg := [(.istore 6, 0), (.iload 4, 0), (.istore 7, 0), (.iload 4, 0), (.istore 8, 0)]) (lSa_ok dd10) rfl ?_
  refine Y.less (L' := [some (.ref a0), some (.int a1), some (.int a2), some (.int v5), none, some (.int (v11 + v16)), some (.int v21), some (.int v11), some (.int v11), none, none]) (zLe_some (zLe_some (zLe_some (zLe_some (zLe_none (zLe_some (zLe_some (zLe_some (zLe_some (zLe_some (zLe_some (zLe_nil)))))))))))) ?_
  refine k_I_sweepOut_L41 hV _ ?_  zFu G20 a0 a1 a2 v5 (v11 + v16) v21 v11 v11 h
  · intro G52 x48 x49 x50 x51 h
    refine Y.blk (pc' := 114) (L' := [some (.ref x48), some (.int x49), none, none, none, none, some (.int x50), some (.int x51), none, none, none]) (st' := [.int (x51 - x50), .int x49, .ref x48]) (sg := [(.aload_n 0, 0), (.iload_n 1, 0), (.iload 7, 0), (.iload 6, 0), (.isub, 0)]) (lSa_ok dd11) rfl ?_
    obtain ⟨_, o54, e53, m55, h⟩ := gOb_inv h
    refine Y.callN (yC.Vi (b := x48) (As := [.int x49, .int (x51 - x50)]) (st := []) (r := ("Partlister$Lists", T_I, 7)) hV.1 cb_I_lengthen lk_I_62 in_I_lengthen rfl se_I_lengthen (lIa_ok dd12) rfl rfl (Nat.le_of_ble_eq_true rfl) (by decide) e53 m55) (k_I_lengthen hV G52 x48 x49 (x51 - x50)) h (fun G56 _ h => ?_)
    refine Y.blk (pc' := 122) (L' := [some (.ref x48), some (.int x49), none, none, none, none, some (.int x50), some (.int x51), none, none, none]) (st' := [.int (x50 - x51)]) (sg := [(.iload 6, 0), (.iload 7, 0), (.isub, 0)]) (lSa_ok dd13) rfl ?_
    exact Y.iret rfl (lIa_ok dd14) h
