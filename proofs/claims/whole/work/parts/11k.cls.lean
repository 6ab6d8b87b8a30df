def f_X_previous (G : gH) (a0 : Nat) (a1 : Int32) : gR :=
  gOb G a0 3 fun o2 => bV (f_X_needCursor G a0 a1) fun G4 => gFA G4 a0 3 1 fun v5 => gOb G4 v5 0 fun o7 => bI (f_U_isStale G4 v5 a1) fun v10 G9 => if v10 = 0 then (gFA G9 a0 3 1 fun v11 => gOb G9 v11 0 fun o13 => bI (f_U_nextOf G9 v11 a1) fun v16 G15 => if 0 ≤ (v16 - (nI 1)) then gFA G15 a0 3 1 fun v17 => gOb G15 v17 0 fun o19 => bV (f_U_stand G15 v17 a1 (v16 - (nI 1)) (v16 - (nI 1))) fun G21 => gFA G21 a0 3 0 fun v22 => gFA G21 a0 3 1 fun v23 => gOb G21 v23 0 fun o25 => bI (f_U_listOf G21 v23 a1) fun v28 G27 => gOb G27 v22 1 fun o30 => bI (f_I_thingAt G27 v22 v28 (v16 - (nI 1))) fun v33 G32 => bI (f_X_tagOf G32 v33) fun v36 G35 => rI v36 G35
    else gOb G15 a0 3 fun o38 => bI (f_X_failWith G15 a0 (-8)) fun v41 G40 => rI v41 G40)
  else gOb G9 a0 3 fun o44 => bI (f_X_failWith G9 a0 (-9)) fun v47 G46 => rI v47 G46
theorem k_X_previous {l : Launch} {D : va_G} {B : Nat} {O : State → Heap → Prop} (hV : zG l D B O) (G : gH) (a0 : Nat) (a1 : Int32) : gMet (zVm l D B O) m_X_previous 7 [.ref a0, .int a1] G (f_X_previous G a0 a1) := by
  have hdd : lSa m_X_previous 0 [(.aload_n 0, 0), (.iload_n 1, 0)] = true ∧ lIa m_X_previous 2 (.invokevirtual 167) 3 = true ∧ lSa m_X_previous 5 [(.aload_n 0, 0)] = true ∧ lIa m_X_previous 6 (.getfield 19) 3 = true ∧ lSa m_X_previous 9 [(.iload_n 1, 0)] = true ∧ lIa m_X_previous 10 (.invokevirtual 170) 3 = true ∧ lIa m_X_previous 13 (.ifCond .eq 10) 3 = true ∧ lSa m_X_previous 23 [(.aload_n 0, 0)] = true ∧ lIa m_X_previous 24 (.getfield 19) 3 = true ∧ lSa m_X_previous 27 [(.iload_n 1, 0)] = true ∧ lIa m_X_previous 28 (.invokevirtual 176) 3 = true ∧ lSa m_X_previous 31 [(.iconst 1, nI 1), (.isub, 0), (.istore_n 2, 0), (.iload_n 2, 0)] = true ∧ lIa m_X_previous 35 (.ifCond .ge 10) 3 = true ∧ lSa m_X_previous 45 [(.aload_n 0, 0)] = true ∧ lIa m_X_previous 46 (.getfield 19) 3 = true ∧ lSa m_X_previous 49 [(.iload_n 1, 0), (.iload_n 2, 0), (.iload_n 2, 0)] = true ∧ lIa m_X_previous 52 (.invokevirtual 179) 3 = true ∧ lSa m_X_previous 55 [(.aload_n 0, 0)] = true ∧ lIa m_X_previous 56 (.getfield 10) 3 = true ∧ lSa m_X_previous 59 [(.aload_n 0, 0)] = true ∧ lIa m_X_previous 60 (.getfield 19) 3 = true ∧ lSa m_X_previous 63 [(.iload_n 1, 0)] = true ∧ lIa m_X_previous 64 (.invokevirtual 152) 3 = true ∧ lSa m_X_previous 67 [(.iload_n 2, 0)] = true ∧ lIa m_X_previous 68 (.invokevirtual 94) 3 = true ∧ lIa m_X_previous 71 (.invokestatic 48) 3 = true ∧ lIa m_X_previous 74 (.ireturn) 1 = true ∧ lSa m_X_previous 38 [(.aload_n 0, 0), (.bipush (-8), -8)] = true ∧ lIa m_X_previous 41 (.invokevirtual 173) 3 = true ∧ lIa m_X_previous 44 (.ireturn) 1 = true ∧ lSa m_X_previous 16 [(.aload_n 0, 0), (.bipush (-9), -9)] = true ∧ lIa m_X_previous 19 (.invokevirtual 173) 3 = true ∧ lIa m_X_previous 22 (.ireturn) 1 = true := by decide +kernel
  refine lA8 hdd (fun dd0 dd1 dd2 dd3 dd4 dd5 dd6 dd7 hdd => ?_)
  refine lA8 hdd (fun dd8 dd9 dd10 dd11 dd12 dd13 dd14 dd15 hdd => ?_)
  refine lA8 hdd (fun dd16 dd17 dd18 dd19 dd20 dd21 dd22 dd23 hdd => ?_)
  refine lA8 hdd (fun dd24 dd25 dd26 dd27 dd28 dd29 dd30 dd31 hdd => ?_)
  have dd32 := hdd
  refine gMet.of (by decide +kernel) (Nat.le_of_ble_eq_true rfl) [some (.ref a0), some (.int a1), none] (fun ls h => zEn_ok (n := 3) h) ?_
  intro o Gf h
  unfold f_X_previous at h
  refine Y.blk (pc' := 2) (L' := [some (.ref a0), some (.int a1), none]) (st' := [.int a1, .ref a0]) (sg := [(.aload_n 0, 0), (.iload_n 1, 0)]) (lSa_ok dd0) rfl ?_
  obtain ⟨_, o2, e1, m3, h⟩ := gOb_inv h
  refine Y.callN (yC.Vi (b := a0) (As := [.int a1]) (st := []) (r := ("Partlister", T_X, 5)) hV.1 cb_X_needCursor lk_X_167 in_X_needCursor rfl se_X_needCursor (lIa_ok dd1) rfl rfl (Nat.le_of_ble_eq_true rfl) (by decide) e1 m3) (k_X_needCursor hV G a0 a1) h (fun G4 _ h => ?_)
  refine Y.blk (pc' := 6) (L' := [some (.ref a0), some (.int a1), none]) (st' := [.ref a0]) (sg := [(.aload_n 0, 0)]) (lSa_ok dd2) rfl ?_
  refine Y.getA fl_X_19 (lIa_ok dd3) h (fun v5 h => ?_)
  refine Y.blk (pc' := 10) (L' := [some (.ref a0), some (.int a1), none]) (st' := [.int a1, .ref v5]) (sg := [(.iload_n 1, 0)]) (lSa_ok dd4) rfl ?_
  obtain ⟨_, o7, e6, m8, h⟩ := gOb_inv h
  refine Y.callI (yC.Vi (b := v5) (As := [.int a1]) (st := []) (r := ("Partlister$Cursors", T_U, 5)) hV.1 cb_U_isStale lk_X_170 in_U_isStale rfl se_U_isStale (lIa_ok dd5) rfl rfl (Nat.le_of_ble_eq_true rfl) (by decide) e6 m8) (k_U_isStale hV G4 v5 a1) h (fun v10 G9 _ h => ?_)
  refine Y.if_eq (off := 10) (tgt := 23) (lIa_ok dd6) (by decide) h (fun c48 h => ?_) (fun c48 h => ?_)
  · refine Y.blk (pc' := 24) (L' := [some (.ref a0), some (.int a1), none]) (st' := [.ref a0]) (sg := [(.aload_n 0, 0)]) (lSa_ok dd7) rfl ?_
    refine Y.getA fl_X_19 (lIa_ok dd8) h (fun v11 h => ?_)
    refine Y.blk (pc' := 28) (L' := [some (.ref a0), some (.int a1), none]) (st' := [.int a1, .ref v11]) (sg := [(.iload_n 1, 0)]) (lSa_ok dd9) rfl ?_
    obtain ⟨_, o13, e12, m14, h⟩ := gOb_inv h
    refine Y.callI (yC.Vi (b := v11) (As := [.int a1]) (st := []) (r := ("Partlister$Cursors", T_U, 5)) hV.1 cb_U_nextOf lk_X_176 in_U_nextOf rfl se_U_nextOf (lIa_ok dd10) rfl rfl (Nat.le_of_ble_eq_true rfl) (by decide) e12 m14) (k_U_nextOf hV G9 v11 a1) h (fun v16 G15 _ h => ?_)
    refine Y.blk (pc' := 35) (L' := [some (.ref a0), some (.int a1), some (.int (v16 - (nI 1)))]) (st' := [.int (v16 - (nI 1))]) (sg := [(.iconst 1, nI 1), (.isub, 0), (.istore_n 2, 0), (.iload_n 2, 0)]) (lSa_ok dd11) rfl ?_
    refine Y.if_ge (off := 10) (tgt := 45) (lIa_ok dd12) (by decide) h (fun c42 h => ?_) (fun c42 h => ?_)
    · refine Y.blk (pc' := 46) (L' := [some (.ref a0), some (.int a1), some (.int (v16 - (nI 1)))]) (st' := [.ref a0]) (sg := [(.aload_n 0, 0)]) (lSa_ok dd13) rfl ?_
      refine Y.getA fl_X_19 (lIa_ok dd14) h (fun v17 h => ?_)
      refine Y.blk (pc' := 52) (L' := [some (.ref a0), some (.int a1), some (.int (v16 - (nI 1)))]) (st' := [.int (v16 - (nI 1)), .int (v16 - (nI 1)), .int a1, .ref v17]) (sg := [(.iload_n 1, 0), (.iload_n 2, 0), (.iload_n 2, 0)]) (lSa_ok dd15) rfl ?_
      obtain ⟨_, o19, e18, m20, h⟩ := gOb_inv h
      refine Y.callN (yC.Vi (b := v17) (As := [.int a1, .int (v16 - (nI 1)), .int (v16 - (nI 1))]) (st := []) (r := ("Partlister$Cursors", T_U, 5)) hV.1 cb_U_stand lk_X_179 in_U_stand rfl se_U_stand (lIa_ok dd16) rfl rfl (Nat.le_of_ble_eq_true rfl) (by decide) e18 m20) (k_U_stand hV G15 v17 a1 (v16 - (nI 1)) (v16 - (nI 1))) h (fun G21 _ h => ?_)
      refine Y.blk (pc' := 56) (L' := [some (.ref a0), some (.int a1), some (.int (v16 - (nI 1)))]) (st' := [.ref a0]) (sg := [(.aload_n 0, 0)]) (lSa_ok dd17) rfl ?_
      refine Y.getA fl_X_10 (lIa_ok dd18) h (fun v22 h => ?_)
      refine Y.blk (pc' := 60) (L' := [some (.ref a0), some (.int a1), some (.int (v16 - (nI 1)))]) (st' := [.ref a0, .ref v22]) (sg := [(.aload_n 0, 0)]) (lSa_ok dd19) rfl ?_
      refine Y.getA fl_X_19 (lIa_ok dd20) h (fun v23 h => ?_)
      refine Y.blk (pc' := 64) (L' := [some (.ref a0), some (.int a1), some (.int (v16 - (nI 1)))]) (st' := [.int a1, .ref v23, .ref v22]) (sg := [(.iload_n 1, 0)]) (lSa_ok dd21) rfl ?_
      obtain ⟨_, o25, e24, m26, h⟩ := gOb_inv h
      refine Y.callI (yC.Vi (b := v23) (As := [.int a1]) (st := [.ref v22]) (r := ("Partlister$Cursors", T_U, 5)) hV.1 cb_U_listOf lk_X_152 in_U_listOf rfl se_U_listOf (lIa_ok dd22) rfl rfl (Nat.le_of_ble_eq_true rfl) (by decide) e24 m26) (k_U_listOf hV G21 v23 a1) h (fun v28 G27 _ h => ?_)
      refine Y.blk (pc' := 68) (L' := [some (.ref a0), some (.int a1), some (.int (v16 - (nI 1)))]) (st' := [.int (v16 - (nI 1)), .int v28, .ref v22]) (sg := [(.iload_n 2, 0)]) (lSa_ok dd23) rfl ?_
      obtain ⟨_, o30, e29, m31, h⟩ := gOb_inv h
      refine Y.callI (yC.Vi (b := v22) (As := [.int v28, .int (v16 - (nI 1))]) (st := []) (r := ("Partlister$Lists", T_I, 7)) hV.1 cb_I_thingAt lk_X_94 in_I_thingAt rfl se_I_thingAt (lIa_ok dd24) rfl rfl (Nat.le_of_ble_eq_true rfl) (by decide) e29 m31) (k_I_thingAt hV G27 v22 v28 (v16 - (nI 1))) h (fun v33 G32 _ h => ?_)
      refine Y.callI (yC.S (As := [.int v33]) (st := []) hV.1 cb_X_tagOf lk_X_48 st_X_tagOf (lIa_ok dd25) rfl rfl (Nat.le_of_ble_eq_true rfl) (by decide)) (k_X_tagOf hV G32 v33) h (fun v36 G35 _ h => ?_)
      exact Y.iret rfl (lIa_ok dd26) h
    · refine Y.blk (pc' := 41) (L' := [some (.ref a0), some (.int a1), some (.int (v16 - (nI 1)))]) (st' := [.int (-8), .ref a0]) (sg := [(.aload_n 0, 0), (.bipush (-8), -8)]) (lSa_ok dd27) rfl ?_
      obtain ⟨_, o38, e37, m39, h⟩ := gOb_inv h
      refine Y.callI (yC.Vi (b := a0) (As := [.int (-8)]) (st := []) (r := ("Partlister", T_X, 5)) hV.1 cb_X_failWith lk_X_173 in_X_failWith rfl se_X_failWith (lIa_ok dd28) rfl rfl (Nat.le_of_ble_eq_true rfl) (by decide) e37 m39) (k_X_failWith hV G15 a0 (-8)) h (fun v41 G40 _ h => ?_)
      exact Y.iret rfl (lIa_ok dd29) h
  · refine Y.blk (pc' := 19) (L' := [some (.ref a0), some (.int a1), none]) (st' := [.int (-9), .ref a0]) (sg := [(.aload_n 0, 0), (.bipush (-9), -9)]) (lSa_ok dd30) rfl ?_
    obtain ⟨_, o44, e43, m45, h⟩ := gOb_inv h
    refine Y.callI (yC.Vi (b := a0) (As := [.int (-9)]) (st := []) (r := ("Partlister", T_X, 5)) hV.1 cb_X_failWith lk_X_173 in_X_failWith rfl se_X_failWith (lIa_ok dd31) rfl rfl (Nat.le_of_ble_eq_true rfl) (by decide) e43 m45) (k_X_failWith hV G9 a0 (-9)) h (fun v47 G46 _ h => ?_)
    exact Y.iret rfl (lIa_ok dd32) h

def f_X_put (G : gH) (a0 : Nat) (a1 : Int32) (a2 : Int32) : gR :=
  gOb G a0 3 fun o2 => bV (f_X_needCursor G a0 a1) fun G4 => gOb G4 a0 3 fun o6 => bV (f_X_needKey G4 a0 a2) fun G8 => gFA G8 a0 3 1 fun v9 => gOb G8 v9 0 fun o11 => bI (f_U_isStale G8 v9 a1) fun v14 G13 => if v14 = 0 then (gFA G13 a0 3 1 fun v15 => gOb G13 v15 0 fun o17 => bI (f_U_lastOf G13 v15 a1) fun v20 G19 => if v20 = (-1) then gOb G19 a0 3 fun o22 => bI (f_X_failWith G19 a0 (-7)) fun v25 G24 => rI v25 G24
    else gOb G19 a0 3 fun o27 => bI (f_X_make G19 a0 a2) fun v30 G29 => gFA G29 a0 3 0 fun v31 => gFA G29 a0 3 1 fun v32 => gOb G29 v32 0 fun o34 => bI (f_U_listOf G29 v32 a1) fun v37 G36 => gOb G36 v31 1 fun o39 => bV (f_I_write G36 v31 v37 v20 v30) fun G41 => bI (f_X_tagOf G41 v30) fun v44 G43 => rI v44 G43)
  else gOb G13 a0 3 fun o47 => bI (f_X_failWith G13 a0 (-9)) fun v50 G49 => rI v50 G49
theorem k_X_put {l : Launch} {D : va_G} {B : Nat} {O : State → Heap → Prop} (hV : zG l D B O) (G : gH) (a0 : Nat) (a1 : Int32) (a2 : Int32) : gMet (zVm l D B O) m_X_put 7 [.ref a0, .int a1, .int a2] G (f_X_put G a0 a1 a2) := by
  have hdd : lSa m_X_put 0 [(.aload_n 0, 0), (.iload_n 1, 0)] = true ∧ lIa m_X_put 2 (.invokevirtual 167) 3 = true ∧ lSa m_X_put 5 [(.aload_n 0, 0), (.iload_n 2, 0)] = true ∧ lIa m_X_put 7 (.invokevirtual 27) 3 = true ∧ lSa m_X_put 10 [(.aload_n 0, 0)] = true ∧ lIa m_X_put 11 (.getfield 19) 3 = true ∧ lSa m_X_put 14 [(.iload_n 1, 0)] = true ∧ lIa m_X_put 15 (.invokevirtual 170) 3 = true ∧ lIa m_X_put 18 (.ifCond .eq 10) 3 = true ∧ lSa m_X_put 28 [(.aload_n 0, 0)] = true ∧ lIa m_X_put 29 (.getfield 19) 3 = true ∧ lSa m_X_put 32 [(.iload_n 1, 0)] = true ∧ lIa m_X_put 33 (.invokevirtual 182) 3 = true ∧ lSa m_X_put 36 [(.istore_n 3, 0), (.iload_n 3, 0), (.iconst (-1), -1)] = true ∧ lIa m_X_put 39 (.if_icmp .ne 10) 3 = true ∧ lSa m_X_put 42 [(.aload_n 0, 0), (.bipush (-7), -7)] = true ∧ lIa m_X_put 45 (.invokevirtual 173) 3 = true ∧ lIa m_X_put 48 (.ireturn) 1 = true ∧ lSa m_X_put 49 [(.aload_n 0, 0), (.iload_n 2, 0)] = true ∧ lIa m_X_put 51 (.invokevirtual 38) 3 = true ∧ lSa m_X_put 54 [(.istore 4, 0), (.aload_n 0, 0)] = true ∧ lIa m_X_put 57 (.getfield 10) 3 = true ∧ lSa m_X_put 60 [(.aload_n 0, 0)] = true ∧ lIa m_X_put 61 (.getfield 19) 3 = true ∧ lSa m_X_put 64 [(.iload_n 1, 0)] = true ∧ lIa m_X_put 65 (.invokevirtual 152) 3 = true ∧ lSa m_X_put 68 [(.iload_n 3, 0), (.iload 4, 0)] = true ∧ lIa m_X_put 71 (.invokevirtual 65) 3 = true ∧ lSa m_X_put 74 [(.iload 4, 0)] = true ∧ lIa m_X_put 76 (.invokestatic 48) 3 = true ∧ lIa m_X_put 79 (.ireturn) 1 = true ∧ lSa m_X_put 21 [(.aload_n 0, 0), (.bipush (-9), -9)] = true ∧ lIa m_X_put 24 (.invokevirtual 173) 3 = true ∧ lIa m_X_put 27 (.ireturn) 1 = true := by decide +kernel
  refine lA8 hdd (fun dd0 dd1 dd2 dd3 dd4 dd5 dd6 dd7 hdd => ?_)
  refine lA8 hdd (fun dd8 dd9 dd10 dd11 dd12 dd13 dd14 dd15 hdd => ?_)
  refine lA8 hdd (fun dd16 dd17 dd18 dd19 dd20 dd21 dd22 dd23 hdd => ?_)
  refine lA8 hdd (fun dd24 dd25 dd26 dd27 dd28 dd29 dd30 dd31 hdd => ?_)
  obtain ⟨dd32, dd33⟩ := hdd
  refine gMet.of (by decide +kernel) (Nat.le_of_ble_eq_true rfl) [some (.ref a0), some (.int a1), some (.int a2), none, none] (fun ls h => zEn_ok (n := 5) h) ?_
  intro o Gf h
  unfold f_X_put at h
  refine Y.blk (pc' := 2) (L' := [some (.ref a0), some (.int a1), some (.int a2), none, none]) (st' := [.int a1, .ref a0]) (sg := [(.aload_n 0, 0), (.iload_n 1, 0)]) (lSa_ok dd0) rfl ?_
  obtain ⟨_, o2, e1, m3, h⟩ := gOb_inv h
  refine Y.callN (yC.Vi (b := a0) (As := [.int a1]) (st := []) (r := ("Partlister", T_X, 5)) hV.1 cb_X_needCursor lk_X_167 in_X_needCursor rfl se_X_needCursor (lIa_ok dd1) rfl rfl (Nat.le_of_ble_eq_true rfl) (by decide) e1 m3) (k_X_needCursor hV G a0 a1) h (fun G4 _ h => ?_)
  refine Y.blk (pc' := 7) (L' := [some (.ref a0), some (.int a1), some (.int a2), none, none]) (st' := [.int a2, .ref a0]) (sg := [(.aload_n 0, 0), (.iload_n 2, 0)]) (lSa_ok dd2) rfl ?_
  obtain ⟨_, o6, e5, m7, h⟩ := gOb_inv h
  refine Y.callN (yC.Vi (b := a0) (As := [.int a2]) (st := []) (r := ("Partlister", T_X, 5)) hV.1 cb_X_needKey lk_X_27 in_X_needKey rfl se_X_needKey (lIa_ok dd3) rfl rfl (Nat.le_of_ble_eq_true rfl) (by decide) e5 m7) (k_X_needKey hV G4 a0 a2) h (fun G8 _ h => ?_)
  refine Y.blk (pc' := 11) (L' := [some (.ref a0), some (.int a1), some (.int a2), none, none]) (st' := [.ref a0]) (sg := [(.aload_n 0, 0)]) (lSa_ok dd4) rfl ?_
  refine Y.getA fl_X_19 (lIa_ok dd5) h (fun v9 h => ?_)
  refine Y.blk (pc' := 15) (L' := [some (.ref a0), some (.int a1), some (.int a2), none, none]) (st' := [.int a1, .ref v9]) (sg := [(.iload_n 1, 0)]) (lSa_ok dd6) rfl ?_
  obtain ⟨_, o11, e10, m12, h⟩ := gOb_inv h
  refine Y.callI (yC.Vi (b := v9) (As := [.int a1]) (st := []) (r := ("Partlister$Cursors", T_U, 5)) hV.1 cb_U_isStale lk_X_170 in_U_isStale rfl se_U_isStale (lIa_ok dd7) rfl rfl (Nat.le_of_ble_eq_true rfl) (by decide) e10 m12) (k_U_isStale hV G8 v9 a1) h (fun v14 G13 _ h => ?_)
  refine Y.if_eq (off := 10) (tgt := 28) (lIa_ok dd8) (by decide) h (fun c51 h => ?_) (fun c51 h => ?_)
  · refine Y.blk (pc' := 29) (L' := [some (.ref a0), some (.int a1), some (.int a2), none, none]) (st' := [.ref a0]) (sg := [(.aload_n 0, 0)]) (lSa_ok dd9) rfl ?_
    refine Y.getA fl_X_19 (lIa_ok dd10) h (fun v15 h => ?_)
    refine Y.blk (pc' := 33) (L' := [some (.ref a0), some (.int a1), some (.int a2), none, none]) (st' := [.int a1, .ref v15]) (sg := [(.iload_n 1, 0)]) (lSa_ok dd11) rfl ?_
    obtain ⟨_, o17, e16, m18, h⟩ := gOb_inv h
    refine Y.callI (yC.Vi (b := v15) (As := [.int a1]) (st := []) (r := ("Partlister$Cursors", T_U, 5)) hV.1 cb_U_lastOf lk_X_182 in_U_lastOf rfl se_U_lastOf (lIa_ok dd12) rfl rfl (Nat.le_of_ble_eq_true rfl) (by decide) e16 m18) (k_U_lastOf hV G13 v15 a1) h (fun v20 G19 _ h => ?_)
    refine Y.blk (pc' := 39) (L' := [some (.ref a0), some (.int a1), some (.int a2), some (.int v20), none]) (st' := [.int (-1), .int v20]) (sg := [(.istore_n 3, 0), (.iload_n 3, 0), (.iconst (-1), -1)]) (lSa_ok dd13) rfl ?_
    refine Y.ic_ne (off := 10) (tgt := 49) (lIa_ok dd14) (by decide) h (fun c45 h => ?_) (fun c45 h => ?_)
    · refine Y.blk (pc' := 45) (L' := [some (.ref a0), some (.int a1), some (.int a2), some (.int v20), none]) (st' := [.int (-7), .ref a0]) (sg := [(.aload_n 0, 0), (.bipush (-7), -7)]) (lSa_ok dd15) rfl ?_
      obtain ⟨_, o22, e21, m23, h⟩ := gOb_inv h
      refine Y.callI (yC.Vi (b := a0) (As := [.int (-7)]) (st := []) (r := ("Partlister", T_X, 5)) hV.1 cb_X_failWith lk_X_173 in_X_failWith rfl se_X_failWith (lIa_ok dd16) rfl rfl (Nat.le_of_ble_eq_true rfl) (by decide) e21 m23) (k_X_failWith hV G19 a0 (-7)) h (fun v25 G24 _ h => ?_)
      exact Y.iret rfl (lIa_ok dd17) h
    · refine Y.blk (pc' := 51) (L' := [some (.ref a0), some (.int a1), some (.int a2), some (.int v20), none]) (st' := [.int a2, .ref a0]) (sg := [(.aload_n 0, 0), (.iload_n 2, 0)]) (lSa_ok dd18) rfl ?_
      obtain ⟨_, o27, e26, m28, h⟩ := gOb_inv h
      refine Y.callI (yC.Vi (b := a0) (As := [.int a2]) (st := []) (r := ("Partlister", T_X, 5)) hV.1 cb_X_make lk_X_38 in_X_make rfl se_X_make (lIa_ok dd19) rfl rfl (Nat.le_of_ble_eq_true rfl) (by decide) e26 m28) (k_X_make hV G19 a0 a2) h (fun v30 G29 _ h => ?_)
      refine Y.blk (pc' := 57) (L' := [some (.ref a0), some (.int a1), some (.int a2), some (.int v20), some (.int v30)]) (st' := [.ref a0]) (sg := [(.istore 4, 0), (.aload_n 0, 0)]) (lSa_ok dd20) rfl ?_
      refine Y.getA fl_X_10 (lIa_ok dd21) h (fun v31 h => ?_)
      refine Y.blk (pc' := 61) (L' := [some (.ref a0), some (.int a1), some (.int a2), some (.int v20), some (.int v30)]) (st' := [.ref a0, .ref v31]) (sg := [(.aload_n 0, 0)]) (lSa_ok dd22) rfl ?_
      refine Y.getA fl_X_19 (lIa_ok dd23) h (fun v32 h => ?_)
      refine Y.blk (pc' := 65) (L' := [some (.ref a0), some (.int a1), some (.int a2), some (.int v20), some (.int v30)]) (st' := [.int a1, .ref v32, .ref v31]) (sg := [(.iload_n 1, 0)]) (lSa_ok dd24) rfl ?_
      obtain ⟨_, o34, e33, m35, h⟩ := gOb_inv h
      refine Y.callI (yC.Vi (b := v32) (As := [.int a1]) (st := [.ref v31]) (r := ("Partlister$Cursors", T_U, 5)) hV.1 cb_U_listOf lk_X_152 in_U_listOf rfl se_U_listOf (lIa_ok dd25) rfl rfl (Nat.le_of_ble_eq_true rfl) (by decide) e33 m35) (k_U_listOf hV G29 v32 a1) h (fun v37 G36 _ h => ?_)
      refine Y.blk (pc' := 71) (L' := [some (.ref a0), some (.int a1), some (.int a2), some (.int v20), some (.int v30)]) (st' := [.int v30, .int v20, .int v37, .ref v31]) (sg := [(.iload_n 3, 0), (.iload 4, 0)]) (lSa_ok dd26) rfl ?_
      obtain ⟨_, o39, e38, m40, h⟩ := gOb_inv h
      refine Y.callN (yC.Vi (b := v31) (As := [.int v37, .int v20, .int v30]) (st := []) (r := ("Partlister$Lists", T_I, 7)) hV.1 cb_I_write lk_X_65 in_I_write rfl se_I_write (lIa_ok dd27) rfl rfl (Nat.le_of_ble_eq_true rfl) (by decide) e38 m40) (k_I_write hV G36 v31 v37 v20 v30) h (fun G41 _ h => ?_)
      refine Y.blk (pc' := 76) (L' := [some (.ref a0), some (.int a1), some (.int a2), some (.int v20), some (.int v30)]) (st' := [.int v30]) (sg := [(.iload 4, 0)]) (lSa_ok dd28) rfl ?_
      refine Y.callI (yC.S (As := [.int v30]) (st := []) hV.1 cb_X_tagOf lk_X_48 st_X_tagOf (lIa_ok dd29) rfl rfl (Nat.le_of_ble_eq_true rfl) (by decide)) (k_X_tagOf hV G41 v30) h (fun v44 G43 _ h => ?_)
      exact Y.iret rfl (lIa_ok dd30) h
  · refine Y.blk (pc' := 24) (L' := [some (.ref a0), some (.int a1), some (.int a2), none, none]) (st' := [.int (-9), .ref a0]) (sg := [(.aload_n 0, 0), (.bipush (-9), -9)]) (lSa_ok dd31) rfl ?_
    obtain ⟨_, o47, e46, m48, h⟩ := gOb_inv h
    refine Y.callI (yC.Vi (b := a0) (As := [.int (-9)]) (st := []) (r := ("Partlister", T_X, 5)) hV.1 cb_X_failWith lk_X_173 in_X_failWith rfl se_X_failWith (lIa_ok dd32) rfl rfl (Nat.le_of_ble_eq_true rfl) (by decide) e46 m48) (k_X_failWith hV G13 a0 (-9)) h (fun v50 G49 _ h => ?_)
    exact Y.iret rfl (lIa_ok dd33) h

def f_X_remove (G : gH) (a0 : Nat) (a1 : Int32) (a2 : Int32) : gR :=
  gOb G a0 3 fun o2 => bV (f_X_needList G a0 a1) fun G4 => gOb G4 a0 3 fun o6 => bV (f_X_needKey G4 a0 a2) fun G8 => gFA G8 a0 3 0 fun v9 => gOb G8 v9 1 fun o11 => bI (f_I_firstOf G8 v9 a1 a2) fun v14 G13 => if v14 = (-1) then rZ (nI 0) G13
  else gOb G13 a0 3 fun o16 => bI (f_X_takeOut G13 a0 a1 v14 (-1)) fun v19 G18 => rZ (nI 1) G18
theorem k_X_remove {l : Launch} {D : va_G} {B : Nat} {O : State → Heap → Prop} (hV : zG l D B O) (G : gH) (a0 : Nat) (a1 : Int32) (a2 : Int32) : gMet (zVm l D B O) m_X_remove 7 [.ref a0, .int a1, .int a2] G (f_X_remove G a0 a1 a2) := by
  have hdd : lSa m_X_remove 0 [(.aload_n 0, 0), (.iload_n 1, 0)] = true ∧ lIa m_X_remove 2 (.invokevirtual 23) 3 = true ∧ lSa m_X_remove 5 [(.aload_n 0, 0), (.iload_n 2, 0)] = true ∧ lIa m_X_remove 7 (.invokevirtual 27) 3 = true ∧ lSa m_X_remove 10 [(.aload_n 0, 0)] = true ∧ lIa m_X_remove 11 (.getfield 10) 3 = true ∧ lSa m_X_remove 14 [(.iload_n 1, 0), (.iload_n 2, 0)] = true ∧ lIa m_X_remove 16 (.invokevirtual 72) 3 = true ∧ lSa m_X_remove 19 [(.istore_n 3, 0), (.iload_n 3, 0), (.iconst (-1), -1)] = true ∧ lIa m_X_remove 22 (.if_icmp .ne 5) 3 = true ∧ lSa m_X_remove 25 [(.iconst 0, nI 0)] = true ∧ lIa m_X_remove 26 (.ireturn) 1 = true ∧ lSa m_X_remove 27 [(.aload_n 0, 0), (.iload_n 1, 0), (.iload_n 3, 0), (.iconst (-1), -1)] = true ∧ lIa m_X_remove 31 (.invokevirtual 69) 3 = true ∧ lSa m_X_remove 34 [(.pop, 0), (.iconst 1, nI 1)] = true ∧ lIa m_X_remove 36 (.ireturn) 1 = true := by decide +kernel
  refine lA8 hdd (fun dd0 dd1 dd2 dd3 dd4 dd5 dd6 dd7 hdd => ?_)
  obtain ⟨dd8, dd9, dd10, dd11, dd12, dd13, dd14, dd15⟩ := hdd
  refine gMet.of (by decide +kernel) (Nat.le_of_ble_eq_true rfl) [some (.ref a0), some (.int a1), some (.int a2), none] (fun ls h => zEn_ok (n := 4) h) ?_
  intro o Gf h
  unfold f_X_remove at h
  refine Y.blk (pc' := 2) (L' := [some (.ref a0), some (.int a1), some (.int a2), none]) (st' := [.int a1, .ref a0]) (sg := [(.aload_n 0, 0), (.iload_n 1, 0)]) (lSa_ok dd0) rfl ?_
  obtain ⟨_, o2, e1, m3, h⟩ := gOb_inv h
  refine Y.callN (yC.Vi (b := a0) (As := [.int a1]) (st := []) (r := ("Partlister", T_X, 5)) hV.1 cb_X_needList lk_X_23 in_X_needList rfl se_X_needList (lIa_ok dd1) rfl rfl (Nat.le_of_ble_eq_true rfl) (by decide) e1 m3) (k_X_needList hV G a0 a1) h (fun G4 _ h => ?_)
  refine Y.blk (pc' := 7) (L' := [some (.ref a0), some (.int a1), some (.int a2), none]) (st' := [.int a2, .ref a0]) (sg := [(.aload_n 0, 0), (.iload_n 2, 0)]) (lSa_ok dd2) rfl ?_
  obtain ⟨_, o6, e5, m7, h⟩ := gOb_inv h
  refine Y.callN (yC.Vi (b := a0) (As := [.int a2]) (st := []) (r := ("Partlister", T_X, 5)) hV.1 cb_X_needKey lk_X_27 in_X_needKey rfl se_X_needKey (lIa_ok dd3) rfl rfl (Nat.le_of_ble_eq_true rfl) (by decide) e5 m7) (k_X_needKey hV G4 a0 a2) h (fun G8 _ h => ?_)
  refine Y.blk (pc' := 11) (L' := [some (.ref a0), some (.int a1), some (.int a2), none]) (st' := [.ref a0]) (sg := [(.aload_n 0, 0)]) (lSa_ok dd4) rfl ?_
  refine Y.getA fl_X_10 (lIa_ok dd5) h (fun v9 h => ?_)
  refine Y.blk (pc' := 16) (L' := [some (.ref a0), some (.int a1), some (.int a2), none]) (st' := [.int a2, .int a1, .ref v9]) (sg := [(.iload_n 1, 0), (.iload_n 2, 0)]) (lSa_ok dd6) rfl ?_
  obtain ⟨_, o11, e10, m12, h⟩ := gOb_inv h
  refine Y.callI (yC.Vi (b := v9) (As := [.int a1, .int a2]) (st := []) (r := ("Partlister$Lists", T_I, 7)) hV.1 cb_I_firstOf lk_X_72 in_I_firstOf rfl se_I_firstOf (lIa_ok dd7) rfl rfl (Nat.le_of_ble_eq_true rfl) (by decide) e10 m12) (k_I_firstOf hV G8 v9 a1 a2) h (fun v14 G13 _ h => ?_)
  refine Y.blk (pc' := 22) (L' := [some (.ref a0), some (.int a1), some (.int a2), some (.int v14)]) (st' := [.int (-1), .int v14]) (sg := [(.istore_n 3, 0), (.iload_n 3, 0), (.iconst (-1), -1)]) (lSa_ok dd8) rfl ?_
  refine Y.ic_ne (off := 5) (tgt := 27) (lIa_ok dd9) (by decide) h (fun c20 h => ?_) (fun c20 h => ?_)
  · refine Y.blk (pc' := 26) (L' := [some (.ref a0), some (.int a1), some (.int a2), some (.int v14)]) (st' := [.int (nI 0)]) (sg := [(.iconst 0, nI 0)]) (lSa_ok dd10) rfl ?_
    exact Y.zret rfl (lIa_ok dd11) h
  · refine Y.blk (pc' := 31) (L' := [some (.ref a0), some (.int a1), some (.int a2), some (.int v14)]) (st' := [.int (-1), .int v14, .int a1, .ref a0]) (sg := [(.aload_n 0, 0), (.iload_n 1, 0), (.iload_n 3, 0), (.iconst (-1), -1)]) (lSa_ok dd12) rfl ?_
    obtain ⟨_, o16, e15, m17, h⟩ := gOb_inv h
    refine Y.callI (yC.Vi (b := a0) (As := [.int a1, .int v14, .int (-1)]) (st := []) (r := ("Partlister", T_X, 5)) hV.1 cb_X_takeOut lk_X_69 in_X_takeOut rfl se_X_takeOut (lIa_ok dd13) rfl rfl (Nat.le_of_ble_eq_true rfl) (by decide) e15 m17) (k_X_takeOut hV G13 a0 a1 v14 (-1)) h (fun v19 G18 _ h => ?_)
    refine Y.blk (pc' := 36) (L' := [some (.ref a0), some (.int a1), some (.int a2), some (.int v14)]) (st' := [.int (nI 1)]) (sg := [(.pop, 0), (.iconst 1, nI 1)]) (lSa_ok dd14) rfl ?_
    exact Y.zret rfl (lIa_ok dd15) h

def f_X_removeAll (G : gH) (a0 : Nat) (a1 : Int32) (a2 : Int32) : gR :=
  gOb G a0 3 fun o2 => bV (f_X_needList G a0 a1) fun G4 => gOb G4 a0 3 fun o6 => bV (f_X_needList G4 a0 a2) fun G8 => gOb G8 a0 3 fun o10 => bV (f_X_needOtherRow G8 a0 a1 a2) fun G12 => gFA G12 a0 3 0 fun v13 => gOb G12 v13 1 fun o15 => bI (f_I_keysOf G12 v13 a2) fun v18 G17 => gOb G17 a0 3 fun o20 => bI (f_X_takeOutAll G17 a0 a1 v18) fun v23 G22 => rI v23 G22
theorem k_X_removeAll {l : Launch} {D : va_G} {B : Nat} {O : State → Heap → Prop} (hV : zG l D B O) (G : gH) (a0 : Nat) (a1 : Int32) (a2 : Int32) : gMet (zVm l D B O) m_X_removeAll 7 [.ref a0, .int a1, .int a2] G (f_X_removeAll G a0 a1 a2) := by
  have hdd : lSa m_X_removeAll 0 [(.aload_n 0, 0), (.iload_n 1, 0)] = true ∧ lIa m_X_removeAll 2 (.invokevirtual 23) 3 = true ∧ lSa m_X_removeAll 5 [(.aload_n 0, 0), (.iload_n 2, 0)] = true ∧ lIa m_X_removeAll 7 (.invokevirtual 23) 3 = true ∧ lSa m_X_removeAll 10 [(.aload_n 0, 0), (.iload_n 1, 0), (.iload_n 2, 0)] = true ∧ lIa m_X_removeAll 13 (.invokevirtual 51) 3 = true ∧ lSa m_X_removeAll 16 [(.aload_n 0, 0), (.iload_n 1, 0), (.aload_n 0, 0)] = true ∧ lIa m_X_removeAll 19 (.getfield 10) 3 = true ∧ lSa m_X_removeAll 22 [(.iload_n 2, 0)] = true ∧ lIa m_X_removeAll 23 (.invokevirtual 75) 3 = true ∧ lIa m_X_removeAll 26 (.invokevirtual 78) 3 = true ∧ lIa m_X_removeAll 29 (.ireturn) 1 = true := by decide +kernel
  refine lA8 hdd (fun dd0 dd1 dd2 dd3 dd4 dd5 dd6 dd7 hdd => ?_)
  obtain ⟨dd8, dd9, dd10, dd11⟩ := hdd
  refine gMet.of (by decide +kernel) (Nat.le_of_ble_eq_true rfl) [some (.ref a0), some (.int a1), some (.int a2)] (fun ls h => zEn_ok (n := 3) h) ?_
  intro o Gf h
  unfold f_X_removeAll at h
  refine Y.blk (pc' := 2) (L' := [some (.ref a0), some (.int a1), some (.int a2)]) (st' := [.int a1, .ref a0]) (sg := [(.aload_n 0, 0), (.iload_n 1, 0)]) (lSa_ok dd0) rfl ?_
  obtain ⟨_, o2, e1, m3, h⟩ := gOb_inv h
  refine Y.callN (yC.Vi (b := a0) (As := [.int a1]) (st := []) (r := ("Partlister", T_X, 5)) hV.1 cb_X_needList lk_X_23 in_X_needList rfl se_X_needList (lIa_ok dd1) rfl rfl (Nat.le_of_ble_eq_true rfl) (by decide) e1 m3) (k_X_needList hV G a0 a1) h (fun G4 _ h => ?_)
  refine Y.blk (pc' := 7) (L' := [some (.ref a0), some (.int a1), some (.int a2)]) (st' := [.int a2, .ref a0]) (sg := [(.aload_n 0, 0), (.iload_n 2, 0)]) (lSa_ok dd2) rfl ?_
  obtain ⟨_, o6, e5, m7, h⟩ := gOb_inv h
  refine Y.callN (yC.Vi (b := a0) (As := [.int a2]) (st := []) (r := ("Partlister", T_X, 5)) hV.1 cb_X_needList lk_X_23 in_X_needList rfl se_X_needList (lIa_ok dd3) rfl rfl (Nat.le_of_ble_eq_true rfl) (by decide) e5 m7) (k_X_needList hV G4 a0 a2) h (fun G8 _ h => ?_)
  refine Y.blk (pc' := 13) (L' := [some (.ref a0), some (.int a1), some (.int a2)]) (st' := [.int a2, .int a1, .ref a0]) (sg := [(.aload_n 0, 0), (.iload_n 1, 0), (.iload_n 2, 0)]) (lSa_ok dd4) rfl ?_
  obtain ⟨_, o10, e9, m11, h⟩ := gOb_inv h
  refine Y.callN (yC.Vi (b := a0) (As := [.int a1, .int a2]) (st := []) (r := ("Partlister", T_X, 5)) hV.1 cb_X_needOtherRow lk_X_51 in_X_needOtherRow rfl se_X_needOtherRow (lIa_ok dd5) rfl rfl (Nat.le_of_ble_eq_true rfl) (by decide) e9 m11) (k_X_needOtherRow hV G8 a0 a1 a2) h (fun G12 _ h => ?_)
  refine Y.blk (pc' := 19) (L' := [some (.ref a0), some (.int a1), some (.int a2)]) (st' := [.ref a0, .int a1, .ref a0]) (sg := [(.aload_n 0, 0), (.iload_n 1, 0), (.aload_n 0, 0)]) (lSa_ok dd6) rfl ?_
  refine Y.getA fl_X_10 (lIa_ok dd7) h (fun v13 h => ?_)
  refine Y.blk (pc' := 23) (L' := [some (.ref a0), some (.int a1), some (.int a2)]) (st' := [.int a2, .ref v13, .int a1, .ref a0]) (sg := [(.iload_n 2, 0)]) (lSa_ok dd8) rfl ?_
  obtain ⟨_, o15, e14, m16, h⟩ := gOb_inv h
  refine Y.callI (yC.Vi (b := v13) (As := [.int a2]) (st := [.int a1, .ref a0]) (r := ("Partlister$Lists", T_I, 7)) hV.1 cb_I_keysOf lk_X_75 in_I_keysOf rfl se_I_keysOf (lIa_ok dd9) rfl rfl (Nat.le_of_ble_eq_true rfl) (by decide) e14 m16) (k_I_keysOf hV G12 v13 a2) h (fun v18 G17 _ h => ?_)
  obtain ⟨_, o20, e19, m21, h⟩ := gOb_inv h
  refine Y.callI (yC.Vi (b := a0) (As := [.int a1, .int v18]) (st := []) (r := ("Partlister", T_X, 5)) hV.1 cb_X_takeOutAll lk_X_78 in_X_takeOutAll rfl se_X_takeOutAll (lIa_ok dd10) rfl rfl (Nat.le_of_ble_eq_true rfl) (by decide) e19 m21) (k_X_takeOutAll hV G17 a0 a1 v18) h (fun v23 G22 _ h => ?_)
  exact Y.iret rfl (lIa_ok dd11) h

def f_X_removeAt (G : gH) (a0 : Nat) (a1 : Int32) (a2 : Int32) : gR :=
  gOb G a0 3 fun o2 => bV (f_X_needList G a0 a1) fun G4 => gOb G4 a0 3 fun o6 => bV (f_X_needPlace G4 a0 a1 a2) fun G8 => gOb G8 a0 3 fun o10 => bI (f_X_takeOut G8 a0 a1 a2 (-1)) fun v13 G12 => bI (f_X_tagOf G12 v13) fun v16 G15 => rI v16 G15
theorem k_X_removeAt {l : Launch} {D : va_G} {B : Nat} {O : State → Heap → Prop} (hV : zG l D B O) (G : gH) (a0 : Nat) (a1 : Int32) (a2 : Int32) : gMet (zVm l D B O) m_X_removeAt 7 [.ref a0, .int a1, .int a2] G (f_X_removeAt G a0 a1 a2) := by
  have hdd : lSa m_X_removeAt 0 [(.aload_n 0, 0), (.iload_n 1, 0)] = true ∧ lIa m_X_removeAt 2 (.invokevirtual 23) 3 = true ∧ lSa m_X_removeAt 5 [(.aload_n 0, 0), (.iload_n 1, 0), (.iload_n 2, 0)] = true ∧ lIa m_X_removeAt 8 (.invokevirtual 58) 3 = true ∧ lSa m_X_removeAt 11 [(.aload_n 0, 0), (.iload_n 1, 0), (.iload_n 2, 0), (.iconst (-1), -1)] = true ∧ lIa m_X_removeAt 15 (.invokevirtual 69) 3 = true ∧ lIa m_X_removeAt 18 (.invokestatic 48) 3 = true ∧ lIa m_X_removeAt 21 (.ireturn) 1 = true := by decide +kernel
  obtain ⟨dd0, dd1, dd2, dd3, dd4, dd5, dd6, dd7⟩ := hdd
  refine gMet.of (by decide +kernel) (Nat.le_of_ble_eq_true rfl) [some (.ref a0), some (.int a1), some (.int a2)] (fun ls h => zEn_ok (n := 3) h) ?_
  intro o Gf h
  unfold f_X_removeAt at h
  refine Y.blk (pc' := 2) (L' := [some (.ref a0), some (.int a1), some (.int a2)]) (st' := [.int a1, .ref a0]) (sg := [(.aload_n 0, 0), (.iload_n 1, 0)]) (lSa_ok dd0) rfl ?_
  obtain ⟨_, o2, e1, m3, h⟩ := gOb_inv h
  refine Y.callN (yC.Vi (b := a0) (As := [.int a1]) (st := []) (r := ("Partlister", T_X, 5)) hV.1 cb_X_needList lk_X_23 in_X_needList rfl se_X_needList (lIa_ok dd1) rfl rfl (Nat.le_of_ble_eq_true rfl) (by decide) e1 m3) (k_X_needList hV G a0 a1) h (fun G4 _ h => ?_)
  refine Y.blk (pc' := 8) (L' := [some (.ref a0), some (.int a1), some (.int a2)]) (st' := [.int a2, .int a1, .ref a0]) (sg := [(.aload_n 0, 0), (.iload_n 1, 0), (.iload_n 2, 0)]) (lSa_ok dd2) rfl ?_
  obtain ⟨_, o6, e5, m7, h⟩ := gOb_inv h
  refine Y.callN (yC.Vi (b := a0) (As := [.int a1, .int a2]) (st := []) (r := ("Partlister", T_X, 5)) hV.1 cb_X_needPlace lk_X_58 in_X_needPlace rfl se_X_needPlace (lIa_ok dd3) rfl rfl (Nat.le_of_ble_eq_true rfl) (by decide) e5 m7) (k_X_needPlace hV G4 a0 a1 a2) h (fun G8 _ h => ?_)
  refine Y.blk (pc' := 15) (L' := [some (.ref a0), some (.int a1), some (.int a2)]) (st' := [.int (-1), .int a2, .int a1, .ref a0]) (sg := [(.aload_n 0, 0), (.iload_n 1, 0), (.iload_n 2, 0), (.iconst (-1), -1)]) (lSa_ok dd4) rfl ?_
  obtain ⟨_, o10, e9, m11, h⟩ := gOb_inv h
  refine Y.callI (yC.Vi (b := a0) (As := [.int a1, .int a2, .int (-1)]) (st := []) (r := ("Partlister", T_X, 5)) hV.1 cb_X_takeOut lk_X_69 in_X_takeOut rfl se_X_takeOut (lIa_ok dd5) rfl rfl (Nat.le_of_ble_eq_true rfl) (by decide) e9 m11) (k_X_takeOut hV G8 a0 a1 a2 (-1)) h (fun v13 G12 _ h => ?_)
  refine Y.callI (yC.S (As := [.int v13]) (st := []) hV.1 cb_X_tagOf lk_X_48 st_X_tagOf (lIa_ok dd6) rfl rfl (Nat.le_of_ble_eq_true rfl) (by decide)) (k_X_tagOf hV G12 v13) h (fun v16 G15 _ h => ?_)
  exact Y.iret rfl (lIa_ok dd7) h

def f_X_removeIf_L51 (K85 : gH → Nat → Int32 → Int32 → gR) : Nat → gH → Nat → Int32 → Int32 → Int32 → Int32 → Int32 → gR
  | 0, _, _, _, _, _, _, _ => none
  | n + 1, G, x0, x1, x2, x3, x4, x5 =>
    if (nI 31) ≤ x5 then K85 G x0 x1 x4
    else gRem x5 x2 fun v5 => if v5 = x3 then f_X_removeIf_L51 K85 n G x0 x1 x2 x3 (x4 ||| ((nI 1) <<< (x5 &&& 31))) (x5 + (nI 1))
      else f_X_removeIf_L51 K85 n G x0 x1 x2 x3 (x4 ||| (nI 0)) (x5 + (nI 1))
def f_X_removeIf (G : gH) (a0 : Nat) (a1 : Int32) (a2 : Int32) (a3 : Int32) : gR :=
  gOb G a0 3 fun o2 => bV (f_X_needList G a0 a1) fun G4 => if a2 < (nI 1) then gThrow "java/lang/IllegalArgumentException" G4
  else if a2 ≤ (nI 9) then (if a3 < 0 then gThrow "java/lang/IllegalArgumentException" G4
      else if a3 < a2 then f_X_removeIf_L51 (fun G11 x8 x9 x10 => gOb G11 x8 3 fun o13 => bI (f_X_takeOutAll G11 x8 x9 x10) fun v16 G15 => rI v16 G15) zFu G4 a0 a1 a2 a3 (nI 0) (nI 0)
        else gThrow "java/lang/IllegalArgumentException" G4)
    else gThrow "java/lang/IllegalArgumentException" G4
theorem k_X_removeIf_L51 {l : Launch} {D : va_G} {B : Nat} {O : State → Heap → Prop} (hV : zG l D B O) {o : gO} {Gf : gH} (K85 : gH → Nat → Int32 → Int32 → gR) (hK85 : ∀ (G : gH) (x0 : Nat) (x1 : Int32) (x4 : Int32), K85 G x0 x1 x4 = some (o, Gf) → Y (zVm l D B O) m_X_removeIf 7 o Gf 85 [some (.ref x0), some (.int x1), none, none, some (.int x4), none] [] G) : ∀ (n : Nat) (G : gH) (x0 : Nat) (x1 : Int32) (x2 : Int32) (x3 : Int32) (x4 : Int32) (x5 : Int32), f_X_removeIf_L51 K85 n G x0 x1 x2 x3 x4 x5 = some (o, Gf) → Y (zVm l D B O) m_X_removeIf 7 o Gf 51 [some (.ref x0), some (.int x1), some (.int x2), some (.int x3), some (.int x4), some (.int x5)] [] G := by
  have hdd : lSa m_X_removeIf 51 [(.iload 5, 0), (.bipush 31, nI 31)] = true ∧ lIa m_X_removeIf 55 (.if_icmp .ge 30) 3 = true ∧ lSa m_X_removeIf 58 [(.iload 4, 0), (.iload 5, 0), (.iload_n 2, 0)] = true ∧ lIa m_X_removeIf 63 (.irem) 1 = true ∧ lSa m_X_removeIf 64 [(.iload_n 3, 0)] = true ∧ lIa m_X_removeIf 65 (.if_icmp .ne 10) 3 = true ∧ lSa m_X_removeIf 68 [(.iconst 1, nI 1), (.iload 5, 0), (.ishl, 0)] = true ∧ lIa m_X_removeIf 72 (.goto 4) 3 = true ∧ lSa m_X_removeIf 76 [(.ior, 0), (.istore 4, 0), (.iinc 5 1, nI 1)] = true ∧ lIa m_X_removeIf 82 (.goto (-31)) 3 = true ∧ lSa m_X_removeIf 75 [(.iconst 0, nI 0), (.ior, 0), (.istore 4, 0), (.iinc 5 1, nI 1)] = true := by decide +kernel
  refine lA8 hdd (fun dd0 dd1 dd2 dd3 dd4 dd5 dd6 dd7 hdd => ?_)
  obtain ⟨dd8, dd9, dd10⟩ := hdd
  intro n
  induction n with
  | zero => intro G x0 x1 x2 x3 x4 x5 h; cases h
  | succ n ih =>
    intro G x0 x1 x2 x3 x4 x5 h
    unfold f_X_removeIf_L51 at h
    refine Y.blk (pc' := 55) (L' := [some (.ref x0), some (.int x1), some (.int x2), some (.int x3), some (.int x4), some (.int x5)]) (st' := [.int (nI 31), .int x5]) (sg := [(.iload 5, 0), (.bipush 31, nI 31)]) (lSa_ok dd0) rfl ?_
    refine Y.ic_ge (off := 30) (tgt := 85) (lIa_ok dd1) (by decide) h (fun c7 h => ?_) (fun c7 h => ?_)
    · refine Y.less (L' := [some (.ref x0), some (.int x1), none, none, some (.int x4), none]) (zLe_some (zLe_some (zLe_none (zLe_none (zLe_some (zLe_none (zLe_nil))))))) ?_
      exact hK85 G x0 x1 x4 h
    · refine Y.blk (pc' := 63) (L' := [some (.ref x0), some (.int x1), some (.int x2), some (.int x3), some (.int x4), some (.int x5)]) (st' := [.int x2, .int x5, .int x4]) (sg := [(.iload 4, 0), (.iload 5, 0), (.iload_n 2, 0)]) (lSa_ok dd2) rfl ?_
      refine Y.irem (lIa_ok dd3) h (fun v5 h => ?_)
      refine Y.blk (pc' := 65) (L' := [some (.ref x0), some (.int x1), some (.int x2), some (.int x3), some (.int x4), some (.int x5)]) (st' := [.int x3, .int v5, .int x4]) (sg := [(.iload_n 3, 0)]) (lSa_ok dd4) rfl ?_
      refine Y.ic_ne (off := 10) (tgt := 75) (lIa_ok dd5) (by decide) h (fun c6 h => ?_) (fun c6 h => ?_)
      · refine Y.blk (pc' := 72) (L' := [some (.ref x0), some (.int x1), some (.int x2), some (.int x3), some (.int x4), some (.int x5)]) (st' := [.int ((nI 1) <<< (x5 &&& 31)), .int x4]) (sg := [(.iconst 1, nI 1), (.iload 5, 0), (.ishl, 0)]) (lSa_ok dd6) rfl ?_
        refine Y.goto (off := 4) (tgt := 76) (lIa_ok dd7) (by decide) ?_
        refine Y.blk (pc' := 82) (L' := [some (.ref x0), some (.int x1), some (.int x2), some (.int x3), some (.int (x4 ||| ((nI 1) <<< (x5 &&& 31)))), some (.int (x5 + (nI 1)))]) (st' := []) (sg := [(.ior, 0), (.istore 4, 0), (.iinc 5 1, nI 1)]) (lSa_ok dd8) rfl ?_
        refine Y.goto (off := -31) (tgt := 51) (lIa_ok dd9) (by decide) ?_
        exact ih G x0 x1 x2 x3 (x4 ||| ((nI 1) <<< (x5 &&& 31))) (x5 + (nI 1)) h
      · refine Y.blk (pc' := 82) (L' := [some (.ref x0), some (.int x1), some (.int x2), some (.int x3), some (.int (x4 ||| (nI 0))), some (.int (x5 + (nI 1)))]) (st' := []) (sg := [(.iconst 0, nI 0), (.ior, 0), (.istore 4, 0), (.iinc 5 1, nI 1)]) (lSa_ok dd10) rfl ?_
        refine Y.goto (off := -31) (tgt := 51) (lIa_ok dd9) (by decide) ?_
        exact ih G x0 x1 x2 x3 (x4 ||| (nI 0)) (x5 + (nI 1)) h
theorem k_X_removeIf {l : Launch} {D : va_G} {B : Nat} {O : State → Heap → Prop} (hV : zG l D B O) (G : gH) (a0 : Nat) (a1 : Int32) (a2 : Int32) (a3 : Int32) : gMet (zVm l D B O) m_X_removeIf 7 [.ref a0, .int a1, .int a2, .int a3] G (f_X_removeIf G a0 a1 a2 a3) := by
  have hdd : lSa m_X_removeIf 0 [(.aload_n 0, 0), (.iload_n 1, 0)] = true ∧ lIa m_X_removeIf 2 (.invokevirtual 23) 3 = true ∧ lSa m_X_removeIf 5 [(.iload_n 2, 0), (.iconst 1, nI 1)] = true ∧ lIa m_X_removeIf 7 (.if_icmp .lt 9) 3 = true ∧ lIa m_X_removeIf 16 (.new 81) 3 = true ∧ lIa m_X_removeIf 19 (.dup) 1 = true ∧ lIa m_X_removeIf 20 (.ldc 83) 2 = true ∧ lIa m_X_removeIf 22 (.invokespecial 85) 3 = true ∧ lIa m_X_removeIf 25 (.athrow) 1 = true ∧ lSa m_X_removeIf 10 [(.iload_n 2, 0), (.bipush 9, nI 9)] = true ∧ lIa m_X_removeIf 13 (.if_icmp .le 13) 3 = true ∧ lSa m_X_removeIf 26 [(.iload_n 3, 0)] = true ∧ lIa m_X_removeIf 27 (.ifCond .lt 8) 3 = true ∧ lIa m_X_removeIf 35 (.new 81) 3 = true ∧ lIa m_X_removeIf 38 (.dup) 1 = true ∧ lIa m_X_removeIf 39 (.ldc 88) 2 = true ∧ lIa m_X_removeIf 41 (.invokespecial 85) 3 = true ∧ lIa m_X_removeIf 44 (.athrow) 1 = true ∧ lSa m_X_removeIf 30 [(.iload_n 3, 0), (.iload_n 2, 0)] = true ∧ lIa m_X_removeIf 32 (.if_icmp .lt 13) 3 = true ∧ lSa m_X_removeIf 45 [(.iconst 0, nI 0), (.istore 4, 0), (.iconst 0, nI 0), (.istore 5, 0)] = true ∧ lSa m_X_removeIf 85 [(.aload_n 0, 0), (.iload_n 1, 0), (.iload 4, 0)] = true ∧ lIa m_X_removeIf 89 (.invokevirtual 78) 3 = true ∧ lIa m_X_removeIf 92 (.ireturn) 1 = true := by decide +kernel
  refine lA8 hdd (fun dd0 dd1 dd2 dd3 dd4 dd5 dd6 dd7 hdd => ?_)
  refine lA8 hdd (fun dd8 dd9 dd10 dd11 dd12 dd13 dd14 dd15 hdd => ?_)
  obtain ⟨dd16, dd17, dd18, dd19, dd20, dd21, dd22, dd23⟩ := hdd
  refine gMet.of (by decide +kernel) (Nat.le_of_ble_eq_true rfl) [some (.ref a0), some (.int a1), some (.int a2), some (.int a3), none, none] (fun ls h => zEn_ok (n := 6) h) ?_
  intro o Gf h
  unfold f_X_removeIf at h
  refine Y.blk (pc' := 2) (L' := [some (.ref a0), some (.int a1), some (.int a2), some (.int a3), none, none]) (st' := [.int a1, .ref a0]) (sg := [(.aload_n 0, 0), (.iload_n 1, 0)]) (lSa_ok dd0) rfl ?_
  obtain ⟨_, o2, e1, m3, h⟩ := gOb_inv h
  refine Y.callN (yC.Vi (b := a0) (As := [.int a1]) (st := []) (r := ("Partlister", T_X, 5)) hV.1 cb_X_needList lk_X_23 in_X_needList rfl se_X_needList (lIa_ok dd1) rfl rfl (Nat.le_of_ble_eq_true rfl) (by decide) e1 m3) (k_X_needList hV G a0 a1) h (fun G4 _ h => ?_)
  refine Y.blk (pc' := 7) (L' := [some (.ref a0), some (.int a1), some (.int a2), some (.int a3), none, none]) (st' := [.int (nI 1), .int a2]) (sg := [(.iload_n 2, 0), (.iconst 1, nI 1)]) (lSa_ok dd2) rfl ?_
  refine Y.ic_lt (off := 9) (tgt := 16) (lIa_ok dd3) (by decide) h (fun c20 h => ?_) (fun c20 h => ?_)
  · exact Y.throwS (is := 83) (text := "by is not 1 to 9") (names := zNm) hV.1 (hV.2 _ _ _ (by decide +kernel)) (by decide +kernel) (by decide +kernel) ck_X_81 ini_IAE tw_X_85 tg_X_85 (by decide) (by decide) rfl (Nat.le_of_ble_eq_true rfl) (lIa_ok dd4) (lIa_ok dd5) (lIa_ok dd6) (lIa_ok dd7) (lIa_ok dd8) h
  · refine Y.blk (pc' := 13) (L' := [some (.ref a0), some (.int a1), some (.int a2), some (.int a3), none, none]) (st' := [.int (nI 9), .int a2]) (sg := [(.iload_n 2, 0), (.bipush 9, nI 9)]) (lSa_ok dd9) rfl ?_
    refine Y.ic_le (off := 13) (tgt := 26) (lIa_ok dd10) (by decide) h (fun c19 h => ?_) (fun c19 h => ?_)
    · refine Y.blk (pc' := 27) (L' := [some (.ref a0), some (.int a1), some (.int a2), some (.int a3), none, none]) (st' := [.int a3]) (sg := [(.iload_n 3, 0)]) (lSa_ok dd11) rfl ?_
      refine Y.if_lt (off := 8) (tgt := 35) (lIa_ok dd12) (by decide) h (fun c18 h => ?_) (fun c18 h => ?_)
      · exact Y.throwS (is := 88) (text := "rest is not 0 to by - 1") (names := zNm) hV.1 (hV.2 _ _ _ (by decide +kernel)) (by decide +kernel) (by decide +kernel) ck_X_81 ini_IAE tw_X_85 tg_X_85 (by decide) (by decide) rfl (Nat.le_of_ble_eq_true rfl) (lIa_ok dd13) (lIa_ok dd14) (lIa_ok dd15) (lIa_ok dd16) (lIa_ok dd17) h
      · refine Y.blk (pc' := 32) (L' := [some (.ref a0), some (.int a1), some (.int a2), some (.int a3), none, none]) (st' := [.int a2, .int a3]) (sg := [(.iload_n 3, 0), (.iload_n 2, 0)]) (lSa_ok dd18) rfl ?_
        refine Y.ic_lt (off := 13) (tgt := 45) (lIa_ok dd19) (by decide) h (fun c17 h => ?_) (fun c17 h => ?_)
        · refine Y.blk (pc' := 51) (L' := [some (.ref a0), some (.int a1), some (.int a2), some (.int a3), some (.int (nI 0)), some (.int (nI 0))]) (st' := []) (sg := [(.iconst 0, nI 0), (.istore 4, 0), (.iconst 0, nI 0), (.istore 5, 0)]) (lSa_ok dd20) rfl ?_
          refine k_X_removeIf_L51 hV _ ?_  zFu G4 a0 a1 a2 a3 (nI 0) (nI 0) h
          · intro G11 x8 x9 x10 h
            refine Y.blk (pc' := 89) (L' := [some (.ref x8), some (.int x9), none, none, some (.int x10), none]) (st' := [.int x10, .int x9, .ref x8]) (sg := [(.aload_n 0, 0), (.iload_n 1, 0), (.iload 4, 0)]) (lSa_ok dd21) rfl ?_
            obtain ⟨_, o13, e12, m14, h⟩ := gOb_inv h
            refine Y.callI (yC.Vi (b := x8) (As := [.int x9, .int x10]) (st := []) (r := ("Partlister", T_X, 5)) hV.1 cb_X_takeOutAll lk_X_78 in_X_takeOutAll rfl se_X_takeOutAll (lIa_ok dd22) rfl rfl (Nat.le_of_ble_eq_true rfl) (by decide) e12 m14) (k_X_takeOutAll hV G11 x8 x9 x10) h (fun v16 G15 _ h => ?_)
            exact Y.iret rfl (lIa_ok dd23) h
        · exact Y.throwS (is := 88) (text := "rest is not 0 to by - 1") (names := zNm) hV.1 (hV.2 _ _ _ (by decide +kernel)) (by decide +kernel) (by decide +kernel) ck_X_81 ini_IAE tw_X_85 tg_X_85 (by decide) (by decide) rfl (Nat.le_of_ble_eq_true rfl) (lIa_ok dd13) (lIa_ok dd14) (lIa_ok dd15) (lIa_ok dd16) (lIa_ok dd17) h
    · exact Y.throwS (is := 83) (text := "by is not 1 to 9") (names := zNm) hV.1 (hV.2 _ _ _ (by decide +kernel)) (by decide +kernel) (by decide +kernel) ck_X_81 ini_IAE tw_X_85 tg_X_85 (by decide) (by decide) rfl (Nat.le_of_ble_eq_true rfl) (lIa_ok dd4) (lIa_ok dd5) (lIa_ok dd6) (lIa_ok dd7) (lIa_ok dd8) h

def f_X_replaceAll_L58 (K113 : gH → Nat → Int32 → Int32 → gR) : Nat → gH → Nat → Int32 → Int32 → Int32 → Int32 → Int32 → gR
  | 0, _, _, _, _, _, _, _ => none
  | n + 1, G, x0, x1, x2, x3, x4, x5 =>
    if x4 ≤ x5 then K113 G x0 x1 x4
    else gFA G x0 3 0 fun v11 => gOb G v11 1 fun o13 => bI (f_I_thingAt G v11 x1 x5) fun v16 G15 => gFA G15 x0 3 0 fun v17 => bI (f_X_tagOf G15 v16) fun v20 G19 => bI (f_X_keyOf G19 v16) fun v23 G22 => gRem ((v23 * x2) + x3) (nI 31) fun v24 => bI (f_X_thingOf G22 v20 v24) fun v27 G26 => gOb G26 v17 1 fun o29 => bV (f_I_write G26 v17 x1 x5 v27) fun G31 => f_X_replaceAll_L58 K113 n G31 x0 x1 x2 x3 x4 (x5 + (nI 1))
def f_X_replaceAll (G : gH) (a0 : Nat) (a1 : Int32) (a2 : Int32) (a3 : Int32) : gR :=
  gOb G a0 3 fun o2 => bV (f_X_needList G a0 a1) fun G4 => if a2 < 0 then gThrow "java/lang/IllegalArgumentException" G4
  else if a2 < (nI 31) then (if a3 < 0 then gThrow "java/lang/IllegalArgumentException" G4
      else if a3 < (nI 31) then gFA G4 a0 3 0 fun v5 => gOb G4 v5 1 fun o7 => bI (f_I_lengthOf G4 v5 a1) fun v10 G9 => f_X_replaceAll_L58 (fun G36 x33 x34 x35 => gOb G36 x33 3 fun o38 => bI (f_X_endAround G36 x33 x34) fun v41 G40 => rI x35 G40) zFu G9 a0 a1 a2 a3 v10 (nI 0)
        else gThrow "java/lang/IllegalArgumentException" G4)
    else gThrow "java/lang/IllegalArgumentException" G4
theorem k_X_replaceAll_L58 {l : Launch} {D : va_G} {B : Nat} {O : State → Heap → Prop} (hV : zG l D B O) {o : gO} {Gf : gH} (K113 : gH → Nat → Int32 → Int32 → gR) (hK113 : ∀ (G : gH) (x0 : Nat) (x1 : Int32) (x4 : Int32), K113 G x0 x1 x4 = some (o, Gf) → Y (zVm l D B O) m_X_replaceAll 7 o Gf 113 [some (.ref x0), some (.int x1), none, none, some (.int x4), none, none] [] G) : ∀ (n : Nat) (G : gH) (x0 : Nat) (x1 : Int32) (x2 : Int32) (x3 : Int32) (x4 : Int32) (x5 : Int32), f_X_replaceAll_L58 K113 n G x0 x1 x2 x3 x4 x5 = some (o, Gf) → Y (zVm l D B O) m_X_replaceAll 7 o Gf 58 [some (.ref x0), some (.int x1), some (.int x2), some (.int x3), some (.int x4), some (.int x5), none] [] G := by
  have hdd : lSa m_X_replaceAll 58 [(.iload 5, 0), (.iload 4, 0)] = true ∧ lIa m_X_replaceAll 62 (.if_icmp .ge 51) 3 = true ∧ lSa m_X_replaceAll 65 [(.aload_n 0, 0)] = true ∧ lIa m_X_replaceAll 66 (.getfield 10) 3 = true ∧ lSa m_X_replaceAll 69 [(.iload_n 1, 0), (.iload 5, 0)] = true ∧ lIa m_X_replaceAll 72 (.invokevirtual 94) 3 = true ∧ lSa m_X_replaceAll 75 [(.istore 6, 0), (.aload_n 0, 0)] = true ∧ lIa m_X_replaceAll 78 (.getfield 10) 3 = true ∧ lSa m_X_replaceAll 81 [(.iload_n 1, 0), (.iload 5, 0), (.iload 6, 0)] = true ∧ lIa m_X_replaceAll 86 (.invokestatic 48) 3 = true ∧ lSa m_X_replaceAll 89 [(.iload 6, 0)] = true ∧ lIa m_X_replaceAll 91 (.invokestatic 97) 3 = true ∧ lSa m_X_replaceAll 94 [(.iload_n 2, 0), (.imul, 0), (.iload_n 3, 0), (.iadd, 0), (.bipush 31, nI 31)] = true ∧ lIa m_X_replaceAll 100 (.irem) 1 = true ∧ lIa m_X_replaceAll 101 (.invokestatic 100) 3 = true ∧ lIa m_X_replaceAll 104 (.invokevirtual 65) 3 = true ∧ lSa m_X_replaceAll 107 [(.iinc 5 1, nI 1)] = true ∧ lIa m_X_replaceAll 110 (.goto (-52)) 3 = true := by decide +kernel
  refine lA8 hdd (fun dd0 dd1 dd2 dd3 dd4 dd5 dd6 dd7 hdd => ?_)
  refine lA8 hdd (fun dd8 dd9 dd10 dd11 dd12 dd13 dd14 dd15 hdd => ?_)
  obtain ⟨dd16, dd17⟩ := hdd
  intro n
  induction n with
  | zero => intro G x0 x1 x2 x3 x4 x5 h; cases h
  | succ n ih =>
    intro G x0 x1 x2 x3 x4 x5 h
    unfold f_X_replaceAll_L58 at h
    refine Y.blk (pc' := 62) (L' := [some (.ref x0), some (.int x1), some (.int x2), some (.int x3), some (.int x4), some (.int x5), none]) (st' := [.int x4, .int x5]) (sg := [(.iload 5, 0), (.iload 4, 0)]) (lSa_ok dd0) rfl ?_
    refine Y.ic_ge (off := 51) (tgt := 113) (lIa_ok dd1) (by decide) h (fun c32 h => ?_) (fun c32 h => ?_)
    · refine Y.less (L' := [some (.ref x0), some (.int x1), none, none, some (.int x4), none, none]) (zLe_some (zLe_some (zLe_none (zLe_none (zLe_some (zLe_none (zLe_some (zLe_nil)))))))) ?_
      exact hK113 G x0 x1 x4 h
    · refine Y.blk (pc' := 66) (L' := [some (.ref x0), some (.int x1), some (.int x2), some (.int x3), some (.int x4), some (.int x5), none]) (st' := [.ref x0]) (sg := [(.aload_n 0, 0)]) (lSa_ok dd2) rfl ?_
      refine Y.getA fl_X_10 (lIa_ok dd3) h (fun v11 h => ?_)
      refine Y.blk (pc' := 72) (L' := [some (.ref x0), some (.int x1), some (.int x2), some (.int x3), some (.int x4), some (.int x5), none]) (st' := [.int x5, .int x1, .ref v11]) (sg := [(.iload_n 1, 0), (.iload 5, 0)]) (lSa_ok dd4) rfl ?_
      obtain ⟨_, o13, e12, m14, h⟩ := gOb_inv h
      refine Y.callI (yC.Vi (b := v11) (As := [.int x1, .int x5]) (st := []) (r := ("Partlister$Lists", T_I, 7)) hV.1 cb_I_thingAt lk_X_94 in_I_thingAt rfl se_I_thingAt (lIa_ok dd5) rfl rfl (Nat.le_of_ble_eq_true rfl) (by decide) e12 m14) (k_I_thingAt hV G v11 x1 x5) h (fun v16 G15 _ h => ?_)
      refine Y.blk (pc' := 78) (L' := [some (.ref x0), some (.int x1), some (.int x2), some (.int x3), some (.int x4), some (.int x5), some (.int v16)]) (st' := [.ref x0]) (sg := [(.istore 6, 0), (.aload_n 0, 0)]) (lSa_ok dd6) rfl ?_
      refine Y.getA fl_X_10 (lIa_ok dd7) h (fun v17 h => ?_)
      refine Y.blk (pc' := 86) (L' := [some (.ref x0), some (.int x1), some (.int x2), some (.int x3), some (.int x4), some (.int x5), some (.int v16)]) (st' := [.int v16, .int x5, .int x1, .ref v17]) (sg := [(.iload_n 1, 0), (.iload 5, 0), (.iload 6, 0)]) (lSa_ok dd8) rfl ?_
      refine Y.callI (yC.S (As := [.int v16]) (st := [.int x5, .int x1, .ref v17]) hV.1 cb_X_tagOf lk_X_48 st_X_tagOf (lIa_ok dd9) rfl rfl (Nat.le_of_ble_eq_true rfl) (by decide)) (k_X_tagOf hV G15 v16) h (fun v20 G19 _ h => ?_)
      refine Y.blk (pc' := 91) (L' := [some (.ref x0), some (.int x1), some (.int x2), some (.int x3), some (.int x4), some (.int x5), some (.int v16)]) (st' := [.int v16, .int v20, .int x5, .int x1, .ref v17]) (sg := [(.iload 6, 0)]) (lSa_ok dd10) rfl ?_
      refine Y.callI (yC.S (As := [.int v16]) (st := [.int v20, .int x5, .int x1, .ref v17]) hV.1 cb_X_keyOf lk_X_97 st_X_keyOf (lIa_ok dd11) rfl rfl (Nat.le_of_ble_eq_true rfl) (by decide)) (k_X_keyOf hV G19 v16) h (fun v23 G22 _ h => ?_)
      refine Y.blk (pc' := 100) (L' := [some (.ref x0), some (.int x1), some (.int x2), some (.int x3), some (.int x4), some (.int x5), some (.int v16)]) (st' := [.int (nI 31), .int ((v23 * x2) + x3), .int v20, .int x5, .int x1, .ref v17]) (sg := [(.iload_n 2, 0), (.imul, 0), (.iload_n 3, 0), (.iadd, 0), (.bipush 31, nI 31)]) (lSa_ok dd12) rfl ?_
      refine Y.irem (lIa_ok dd13) h (fun v24 h => ?_)
      refine Y.callI (yC.S (As := [.int v20, .int v24]) (st := [.int x5, .int x1, .ref v17]) hV.1 cb_X_thingOf lk_X_100 st_X_thingOf (lIa_ok dd14) rfl rfl (Nat.le_of_ble_eq_true rfl) (by decide)) (k_X_thingOf hV G22 v20 v24) h (fun v27 G26 _ h => ?_)
      obtain ⟨_, o29, e28, m30, h⟩ := gOb_inv h
      refine Y.callN (yC.Vi (b := v17) (As := [.int x1, .int x5, .int v27]) (st := []) (r := ("Partlister$Lists", T_I, 7)) hV.1 cb_I_write lk_X_65 in_I_write rfl se_I_write (lIa_ok dd15) rfl rfl (Nat.le_of_ble_eq_true rfl) (by decide) e28 m30) (k_I_write hV G26 v17 x1 x5 v27) h (fun G31 _ h => ?_)
      refine Y.blk (pc' := 110) (L' := [some (.ref x0), some (.int x1), some (.int x2), some (.int x3), some (.int x4), some (.int (x5 + (nI 1))), some (.int v16)]) (st' := []) (sg := [(.iinc 5 1, nI 1)]) (lSa_ok dd16) rfl ?_
      refine Y.goto (off := -52) (tgt := 58) (lIa_ok dd17) (by decide) ?_
      refine Y.less (L' := [some (.ref x0), some (.int x1), some (.int x2), some (.int x3), some (.int x4), some (.int (x5 + (nI 1))), none]) (zLe_some (zLe_some (zLe_some (zLe_some (zLe_some (zLe_some (zLe_none (zLe_nil)))))))) ?_
      exact ih G31 x0 x1 x2 x3 x4 (x5 + (nI 1)) h
theorem k_X_replaceAll {l : Launch} {D : va_G} {B : Nat} {O : State → Heap → Prop} (hV : zG l D B O) (G : gH) (a0 : Nat) (a1 : Int32) (a2 : Int32) (a3 : Int32) : gMet (zVm l D B O) m_X_replaceAll 7 [.ref a0, .int a1, .int a2, .int a3] G (f_X_replaceAll G a0 a1 a2 a3) := by
  have hdd : lSa m_X_replaceAll 0 [(.aload_n 0, 0), (.iload_n 1, 0)] = true ∧ lIa m_X_replaceAll 2 (.invokevirtual 23) 3 = true ∧ lSa m_X_replaceAll 5 [(.iload_n 2, 0)] = true ∧ lIa m_X_replaceAll 6 (.ifCond .lt 9) 3 = true ∧ lIa m_X_replaceAll 15 (.new 81) 3 = true ∧ lIa m_X_replaceAll 18 (.dup) 1 = true ∧ lIa m_X_replaceAll 19 (.ldc 90) 2 = true ∧ lIa m_X_replaceAll 21 (.invokespecial 85) 3 = true ∧ lIa m_X_replaceAll 24 (.athrow) 1 = true ∧ lSa m_X_replaceAll 9 [(.iload_n 2, 0), (.bipush 31, nI 31)] = true ∧ lIa m_X_replaceAll 12 (.if_icmp .lt 13) 3 = true ∧ lSa m_X_replaceAll 25 [(.iload_n 3, 0)] = true ∧ lIa m_X_replaceAll 26 (.ifCond .lt 9) 3 = true ∧ lIa m_X_replaceAll 35 (.new 81) 3 = true ∧ lIa m_X_replaceAll 38 (.dup) 1 = true ∧ lIa m_X_replaceAll 39 (.ldc 92) 2 = true ∧ lIa m_X_replaceAll 41 (.invokespecial 85) 3 = true ∧ lIa m_X_replaceAll 44 (.athrow) 1 = true ∧ lSa m_X_replaceAll 29 [(.iload_n 3, 0), (.bipush 31, nI 31)] = true ∧ lIa m_X_replaceAll 32 (.if_icmp .lt 13) 3 = true ∧ lSa m_X_replaceAll 45 [(.aload_n 0, 0)] = true ∧ lIa m_X_replaceAll 46 (.getfield 10) 3 = true ∧ lSa m_X_replaceAll 49 [(.iload_n 1, 0)] = true ∧ lIa m_X_replaceAll 50 (.invokevirtual 34) 3 = true ∧ lSa m_X_replaceAll 53 [(.istore 4, 0), (.iconst 0, nI 0), (.istore 5, 0)] = true ∧ lSa m_X_replaceAll 113 [(.aload_n 0, 0), (.iload_n 1, 0)] = true ∧ lIa m_X_replaceAll 115 (.invokevirtual 103) 3 = true ∧ lSa m_X_replaceAll 118 [(.pop, 0), (.iload 4, 0)] = true ∧ lIa m_X_replaceAll 121 (.ireturn) 1 = true := by decide +kernel
  refine lA8 hdd (fun dd0 dd1 dd2 dd3 dd4 dd5 dd6 dd7 hdd => ?_)
  refine lA8 hdd (fun dd8 dd9 dd10 dd11 dd12 dd13 dd14 dd15 hdd => ?_)
  refine lA8 hdd (fun dd16 dd17 dd18 dd19 dd20 dd21 dd22 dd23 hdd => ?_)
  obtain ⟨dd24, dd25, dd26, dd27, dd28⟩ := hdd
  refine gMet.of (by decide +kernel) (Nat.le_of_ble_eq_true rfl) [some (.ref a0), some (.int a1), some (.int a2), some (.int a3), none, none, none] (fun ls h => zEn_ok (n := 7) h) ?_
  intro o Gf h
  unfold f_X_replaceAll at h
  refine Y.blk (pc' := 2) (L' := [some (.ref a0), some (.int a1), some (.int a2), some (.int a3), none, none, none]) (st' := [.int a1, .ref a0]) (sg := [(.aload_n 0, 0), (.iload_n 1, 0)]) (lSa_ok dd0) rfl ?_
  obtain ⟨_, o2, e1, m3, h⟩ := gOb_inv h
  refine Y.callN (yC.Vi (b := a0) (As := [.int a1]) (st := []) (r := ("Partlister", T_X, 5)) hV.1 cb_X_needList lk_X_23 in_X_needList rfl se_X_needList (lIa_ok dd1) rfl rfl (Nat.le_of_ble_eq_true rfl) (by decide) e1 m3) (k_X_needList hV G a0 a1) h (fun G4 _ h => ?_)
  refine Y.blk (pc' := 6) (L' := [some (.ref a0), some (.int a1), some (.int a2), some (.int a3), none, none, none]) (st' := [.int a2]) (sg := [(.iload_n 2, 0)]) (lSa_ok dd2) rfl ?_
  refine Y.if_lt (off := 9) (tgt := 15) (lIa_ok dd3) (by decide) h (fun c45 h => ?_) (fun c45 h => ?_)
  · exact Y.throwS (is := 90) (text := "times is not 0 to 30") (names := zNm) hV.1 (hV.2 _ _ _ (by decide +kernel)) (by decide +kernel) (by decide +kernel) ck_X_81 ini_IAE tw_X_85 tg_X_85 (by decide) (by decide) rfl (Nat.le_of_ble_eq_true rfl) (lIa_ok dd4) (lIa_ok dd5) (lIa_ok dd6) (lIa_ok dd7) (lIa_ok dd8) h
  · refine Y.blk (pc' := 12) (L' := [some (.ref a0), some (.int a1), some (.int a2), some (.int a3), none, none, none]) (st' := [.int (nI 31), .int a2]) (sg := [(.iload_n 2, 0), (.bipush 31, nI 31)]) (lSa_ok dd9) rfl ?_
    refine Y.ic_lt (off := 13) (tgt := 25) (lIa_ok dd10) (by decide) h (fun c44 h => ?_) (fun c44 h => ?_)
    · refine Y.blk (pc' := 26) (L' := [some (.ref a0), some (.int a1), some (.int a2), some (.int a3), none, none, none]) (st' := [.int a3]) (sg := [(.iload_n 3, 0)]) (lSa_ok dd11) rfl ?_
      refine Y.if_lt (off := 9) (tgt := 35) (lIa_ok dd12) (by decide) h (fun c43 h => ?_) (fun c43 h => ?_)
      · exact Y.throwS (is := 92) (text := "more is not 0 to 30") (names := zNm) hV.1 (hV.2 _ _ _ (by decide +kernel)) (by decide +kernel) (by decide +kernel) ck_X_81 ini_IAE tw_X_85 tg_X_85 (by decide) (by decide) rfl (Nat.le_of_ble_eq_true rfl) (lIa_ok dd13) (lIa_ok dd14) (lIa_ok dd15) (lIa_ok dd16) (lIa_ok dd17) h
      · refine Y.blk (pc' := 32) (L' := [some (.ref a0), some (.int a1), some (.int a2), some (.int a3), none, none, none]) (st' := [.int (nI 31), .int a3]) (sg := [(.iload_n 3, 0), (.bipush 31, nI 31)]) (lSa_ok dd18) rfl ?_
        refine Y.ic_lt (off := 13) (tgt := 45) (lIa_ok dd19) (by decide) h (fun c42 h => ?_) (fun c42 h => ?_)
        · refine Y.blk (pc' := 46) (L' := [some (.ref a0), some (.int a1), some (.int a2), some (.int a3), none, none, none]) (st' := [.ref a0]) (sg := [(.aload_n 0, 0)]) (lSa_ok dd20) rfl ?_
          refine Y.getA fl_X_10 (lIa_ok dd21) h (fun v5 h => ?_)
          refine Y.blk (pc' := 50) (L' := [some (.ref a0), some (.int a1), some (.int a2), some (.int a3), none, none, none]) (st' := [.int a1, .ref v5]) (sg := [(.iload_n 1, 0)]) (lSa_ok dd22) rfl ?_
          obtain ⟨_, o7, e6, m8, h⟩ := gOb_inv h
          refine Y.callI (yC.Vi (b := v5) (As := [.int a1]) (st := []) (r := ("Partlister$Lists", T_I, 7)) hV.1 cb_I_lengthOf lk_X_34 in_I_lengthOf rfl se_I_lengthOf (lIa_ok dd23) rfl rfl (Nat.le_of_ble_eq_true rfl) (by decide) e6 m8) (k_I_lengthOf hV G4 v5 a1) h (fun v10 G9 _ h => ?_)
          refine Y.blk (pc' := 58) (L' := [some (.ref a0), some (.int a1), some (.int a2), some (.int a3), some (.int v10), some (.int (nI 0)), none]) (st' := []) (sg := [(.istore 4, 0), (.iconst 0, nI 0), (.istore 5, 0)]) (lSa_ok dd24) rfl ?_
          refine k_X_replaceAll_L58 hV _ ?_  zFu G9 a0 a1 a2 a3 v10 (nI 0) h
          · intro G36 x33 x34 x35 h
            refine Y.blk (pc' := 115) (L' := [some (.ref x33), some (.int x34), none, none, some (.int x35), none, none]) (st' := [.int x34, .ref x33]) (sg := [(.aload_n 0, 0), (.iload_n 1, 0)]) (lSa_ok dd25) rfl ?_
            obtain ⟨_, o38, e37, m39, h⟩ := gOb_inv h
            refine Y.callI (yC.Vi (b := x33) (As := [.int x34]) (st := []) (r := ("Partlister", T_X, 5)) hV.1 cb_X_endAround lk_X_103 in_X_endAround rfl se_X_endAround (lIa_ok dd26) rfl rfl (Nat.le_of_ble_eq_true rfl) (by decide) e37 m39) (k_X_endAround hV G36 x33 x34) h (fun v41 G40 _ h => ?_)
            refine Y.blk (pc' := 121) (L' := [some (.ref x33), some (.int x34), none, none, some (.int x35), none, none]) (st' := [.int x35]) (sg := [(.pop, 0), (.iload 4, 0)]) (lSa_ok dd27) rfl ?_
            exact Y.iret rfl (lIa_ok dd28) h
        · exact Y.throwS (is := 92) (text := "more is not 0 to 30") (names := zNm) hV.1 (hV.2 _ _ _ (by decide +kernel)) (by decide +kernel) (by decide +kernel) ck_X_81 ini_IAE tw_X_85 tg_X_85 (by decide) (by decide) rfl (Nat.le_of_ble_eq_true rfl) (lIa_ok dd13) (lIa_ok dd14) (lIa_ok dd15) (lIa_ok dd16) (lIa_ok dd17) h
    · exact Y.throwS (is := 90) (text := "times is not 0 to 30") (names := zNm) hV.1 (hV.2 _ _ _ (by decide +kernel)) (by decide +kernel) (by decide +kernel) ck_X_81 ini_IAE tw_X_85 tg_X_85 (by decide) (by decide) rfl (Nat.le_of_ble_eq_true rfl) (lIa_ok dd4) (lIa_ok dd5) (lIa_ok dd6) (lIa_ok dd7) (lIa_ok dd8) h

def f_X_retainAll (G : gH) (a0 : Nat) (a1 : Int32) (a2 : Int32) : gR :=
  gOb G a0 3 fun o2 => bV (f_X_needList G a0 a1) fun G4 => gOb G4 a0 3 fun o6 => bV (f_X_needList G4 a0 a2) fun G8 => gOb G8 a0 3 fun o10 => bV (f_X_needOtherRow G8 a0 a1 a2) fun G12 => gFA G12 a0 3 0 fun v13 => gOb G12 v13 1 fun o15 => bI (f_I_keysOf G12 v13 a2) fun v18 G17 => gOb G17 a0 3 fun o20 => bI (f_X_takeOutAll G17 a0 a1 (v18 ^^^ (-1))) fun v23 G22 => rI v23 G22
theorem k_X_retainAll {l : Launch} {D : va_G} {B : Nat} {O : State → Heap → Prop} (hV : zG l D B O) (G : gH) (a0 : Nat) (a1 : Int32) (a2 : Int32) : gMet (zVm l D B O) m_X_retainAll 7 [.ref a0, .int a1, .int a2] G (f_X_retainAll G a0 a1 a2) := by
  have hdd : lSa m_X_retainAll 0 [(.aload_n 0, 0), (.iload_n 1, 0)] = true ∧ lIa m_X_retainAll 2 (.invokevirtual 23) 3 = true ∧ lSa m_X_retainAll 5 [(.aload_n 0, 0), (.iload_n 2, 0)] = true ∧ lIa m_X_retainAll 7 (.invokevirtual 23) 3 = true ∧ lSa m_X_retainAll 10 [(.aload_n 0, 0), (.iload_n 1, 0), (.iload_n 2, 0)] = true ∧ lIa m_X_retainAll 13 (.invokevirtual 51) 3 = true ∧ lSa m_X_retainAll 16 [(.aload_n 0, 0), (.iload_n 1, 0), (.aload_n 0, 0)] = true ∧ lIa m_X_retainAll 19 (.getfield 10) 3 = true ∧ lSa m_X_retainAll 22 [(.iload_n 2, 0)] = true ∧ lIa m_X_retainAll 23 (.invokevirtual 75) 3 = true ∧ lSa m_X_retainAll 26 [(.iconst (-1), -1), (.ixor, 0)] = true ∧ lIa m_X_retainAll 28 (.invokevirtual 78) 3 = true ∧ lIa m_X_retainAll 31 (.ireturn) 1 = true := by decide +kernel
  refine lA8 hdd (fun dd0 dd1 dd2 dd3 dd4 dd5 dd6 dd7 hdd => ?_)
  obtain ⟨dd8, dd9, dd10, dd11, dd12⟩ := hdd
  refine gMet.of (by decide +kernel) (Nat.le_of_ble_eq_true rfl) [some (.ref a0), some (.int a1), some (.int a2)] (fun ls h => zEn_ok (n := 3) h) ?_
  intro o Gf h
  unfold f_X_retainAll at h
  refine Y.blk (pc' := 2) (L' := [some (.ref a0), some (.int a1), some (.int a2)]) (st' := [.int a1, .ref a0]) (sg := [(.aload_n 0, 0), (.iload_n 1, 0)]) (lSa_ok dd0) rfl ?_
  obtain ⟨_, o2, e1, m3, h⟩ := gOb_inv h
  refine Y.callN (yC.Vi (b := a0) (As := [.int a1]) (st := []) (r := ("Partlister", T_X, 5)) hV.1 cb_X_needList lk_X_23 in_X_needList rfl se_X_needList (lIa_ok dd1) rfl rfl (Nat.le_of_ble_eq_true rfl) (by decide) e1 m3) (k_X_needList hV G a0 a1) h (fun G4 _ h => ?_)
  refine Y.blk (pc' := 7) (L' := [some (.ref a0), some (.int a1), some (.int a2)]) (st' := [.int a2, .ref a0]) (sg := [(.aload_n 0, 0), (.iload_n 2, 0)]) (lSa_ok dd2) rfl ?_
  obtain ⟨_, o6, e5, m7, h⟩ := gOb_inv h
  refine Y.callN (yC.Vi (b := a0) (As := [.int a2]) (st := []) (r := ("Partlister", T_X, 5)) hV.1 cb_X_needList lk_X_23 in_X_needList rfl se_X_needList (lIa_ok dd3) rfl rfl (Nat.le_of_ble_eq_true rfl) (by decide) e5 m7) (k_X_needList hV G4 a0 a2) h (fun G8 _ h => ?_)
  refine Y.blk (pc' := 13) (L' := [some (.ref a0), some (.int a1), some (.int a2)]) (st' := [.int a2, .int a1, .ref a0]) (sg := [(.aload_n 0, 0), (.iload_n 1, 0), (.iload_n 2, 0)]) (lSa_ok dd4) rfl ?_
  obtain ⟨_, o10, e9, m11, h⟩ := gOb_inv h
  refine Y.callN (yC.Vi (b := a0) (As := [.int a1, .int a2]) (st := []) (r := ("Partlister", T_X, 5)) hV.1 cb_X_needOtherRow lk_X_51 in_X_needOtherRow rfl se_X_needOtherRow (lIa_ok dd5) rfl rfl (Nat.le_of_ble_eq_true rfl) (by decide) e9 m11) (k_X_needOtherRow hV G8 a0 a1 a2) h (fun G12 _ h => ?_)
  refine Y.blk (pc' := 19) (L' := [some (.ref a0), some (.int a1), some (.int a2)]) (st' := [.ref a0, .int a1, .ref a0]) (sg := [(.aload_n 0, 0), (.iload_n 1, 0), (.aload_n 0, 0)]) (lSa_ok dd6) rfl ?_
  refine Y.getA fl_X_10 (lIa_ok dd7) h (fun v13 h => ?_)
  refine Y.blk (pc' := 23) (L' := [some (.ref a0), some (.int a1), some (.int a2)]) (st' := [.int a2, .ref v13, .int a1, .ref a0]) (sg := [(.iload_n 2, 0)]) (lSa_ok dd8) rfl ?_
  obtain ⟨_, o15, e14, m16, h⟩ := gOb_inv h
  refine Y.callI (yC.Vi (b := v13) (As := [.int a2]) (st := [.int a1, .ref a0]) (r := ("Partlister$Lists", T_I, 7)) hV.1 cb_I_keysOf lk_X_75 in_I_keysOf rfl se_I_keysOf (lIa_ok dd9) rfl rfl (Nat.le_of_ble_eq_true rfl) (by decide) e14 m16) (k_I_keysOf hV G12 v13 a2) h (fun v18 G17 _ h => ?_)
  refine Y.blk (pc' := 28) (L' := [some (.ref a0), some (.int a1), some (.int a2)]) (st' := [.int (v18 ^^^ (-1)), .int a1, .ref a0]) (sg := [(.iconst (-1), -1), (.ixor, 0)]) (lSa_ok dd10) rfl ?_
  obtain ⟨_, o20, e19, m21, h⟩ := gOb_inv h
  refine Y.callI (yC.Vi (b := a0) (As := [.int a1, .int (v18 ^^^ (-1))]) (st := []) (r := ("Partlister", T_X, 5)) hV.1 cb_X_takeOutAll lk_X_78 in_X_takeOutAll rfl se_X_takeOutAll (lIa_ok dd11) rfl rfl (Nat.le_of_ble_eq_true rfl) (by decide) e19 m21) (k_X_takeOutAll hV G17 a0 a1 (v18 ^^^ (-1))) h (fun v23 G22 _ h => ?_)
  exact Y.iret rfl (lIa_ok dd12) h

def f_X_run (G : gH) (a0 : Nat) (a1 : Int32) (a2 : Int32) : gR :=
  gOb G a0 3 fun o2 => bV (f_X_needCursor G a0 a1) fun G4 => gFA G4 a0 3 1 fun v5 => gOb G4 v5 0 fun o7 => bI (f_U_isStale G4 v5 a1) fun v10 G9 => if v10 = 0 then (gFA G9 a0 3 1 fun v11 => gOb G9 v11 0 fun o13 => bI (f_U_nextOf G9 v11 a1) fun v16 G15 => gFA G15 a0 3 0 fun v17 => gFA G15 a0 3 1 fun v18 => gOb G15 v18 0 fun o20 => bI (f_U_listOf G15 v18 a1) fun v23 G22 => gOb G22 v17 1 fun o25 => bI (f_I_lengthOf G22 v17 v23) fun v28 G27 => if a2 = 0 then (if (v28 - v16) ≤ 0 then (if (v28 - v16) ≤ 0 then rI (v28 - v16) G27
        else gFA G27 a0 3 1 fun v29 => gOb G27 v29 0 fun o31 => bV (f_U_stand G27 v29 a1 v28 (v28 - (nI 1))) fun G33 => rI (v28 - v16) G33)
      else if a2 = 0 then (if (v28 - v16) ≤ 0 then rI (v28 - v16) G27
          else gFA G27 a0 3 1 fun v35 => gOb G27 v35 0 fun o37 => bV (f_U_stand G27 v35 a1 v28 (v28 - (nI 1))) fun G39 => rI (v28 - v16) G39)
        else gFA G27 a0 3 1 fun v41 => gOb G27 v41 0 fun o43 => bV (f_U_stand G27 v41 a1 (nI 0) (nI 0)) fun G45 => rI (v28 - v16) G45)
    else if v16 ≤ 0 then (if v16 ≤ 0 then rI v16 G27
        else gFA G27 a0 3 1 fun v48 => gOb G27 v48 0 fun o50 => bV (f_U_stand G27 v48 a1 v28 (v28 - (nI 1))) fun G52 => rI v16 G52)
      else if a2 = 0 then (if v16 ≤ 0 then rI v16 G27
          else gFA G27 a0 3 1 fun v54 => gOb G27 v54 0 fun o56 => bV (f_U_stand G27 v54 a1 v28 (v28 - (nI 1))) fun G58 => rI v16 G58)
        else gFA G27 a0 3 1 fun v60 => gOb G27 v60 0 fun o62 => bV (f_U_stand G27 v60 a1 (nI 0) (nI 0)) fun G64 => rI v16 G64)
  else gOb G9 a0 3 fun o69 => bI (f_X_failWith G9 a0 (-9)) fun v72 G71 => rI v72 G71
theorem k_X_run {l : Launch} {D : va_G} {B : Nat} {O : State → Heap → Prop} (hV : zG l D B O) (G : gH) (a0 : Nat) (a1 : Int32) (a2 : Int32) : gMet (zVm l D B O) m_X_run 7 [.ref a0, .int a1, .int a2] G (f_X_run G a0 a1 a2) := by
  have hdd : lSa m_X_run 0 [(.aload_n 0, 0), (.iload_n 1, 0)] = true ∧ lIa m_X_run 2 (.invokevirtual 167) 3 = true ∧ lSa m_X_run 5 [(.aload_n 0, 0)] = true ∧ lIa m_X_run 6 (.getfield 19) 3 = true ∧ lSa m_X_run 9 [(.iload_n 1, 0)] = true ∧ lIa m_X_run 10 (.invokevirtual 170) 3 = true ∧ lIa m_X_run 13 (.ifCond .eq 10) 3 = true ∧ lSa m_X_run 23 [(.aload_n 0, 0)] = true ∧ lIa m_X_run 24 (.getfield 19) 3 = true ∧ lSa m_X_run 27 [(.iload_n 1, 0)] = true ∧ lIa m_X_run 28 (.invokevirtual 176) 3 = true ∧ lSa m_X_run 31 [(.istore_n 3, 0), (.aload_n 0, 0)] = true ∧ lIa m_X_run 33 (.getfield 10) 3 = true ∧ lSa m_X_run 36 [(.aload_n 0, 0)] = true ∧ lIa m_X_run 37 (.getfield 19) 3 = true ∧ lSa m_X_run 40 [(.iload_n 1, 0)] = true ∧ lIa m_X_run 41 (.invokevirtual 152) 3 = true ∧ lIa m_X_run 44 (.invokevirtual 34) 3 = true ∧ lSa m_X_run 47 [(.istore 4, 0), (.iload_n 2, 0)] = true ∧ lIa m_X_run 50 (.ifCond .eq 7) 3 = true ∧ lSa m_X_run 57 [(.iload 4, 0), (.iload_n 3, 0), (.isub, 0), (.istore 5, 0), (.iload 5, 0)] = true ∧ lIa m_X_run 65 (.ifCond .le 20) 3 = true ∧ lSa m_X_run 85 [(.iload 5, 0)] = true ∧ lIa m_X_run 87 (.ifCond .le 17) 3 = true ∧ lSa m_X_run 104 [(.iload 5, 0)] = true ∧ lIa m_X_run 106 (.ireturn) 1 = true ∧ lSa m_X_run 90 [(.aload_n 0, 0)] = true ∧ lIa m_X_run 91 (.getfield 19) 3 = true ∧ lSa m_X_run 94 [(.iload_n 1, 0), (.iload 4, 0), (.iload 4, 0), (.iconst 1, nI 1), (.isub, 0)] = true ∧ lIa m_X_run 101 (.invokevirtual 179) 3 = true ∧ lSa m_X_run 68 [(.iload_n 2, 0)] = true ∧ lIa m_X_run 69 (.ifCond .eq 16) 3 = true ∧ lSa m_X_run 72 [(.aload_n 0, 0)] = true ∧ lIa m_X_run 73 (.getfield 19) 3 = true ∧ lSa m_X_run 76 [(.iload_n 1, 0), (.iconst 0, nI 0), (.iconst 0, nI 0)] = true ∧ lIa m_X_run 79 (.invokevirtual 179) 3 = true ∧ lIa m_X_run 82 (.goto 22) 3 = true ∧ lSa m_X_run 53 [(.iload_n 3, 0)] = true ∧ lIa m_X_run 54 (.goto 7) 3 = true ∧ lSa m_X_run 61 [(.istore 5, 0), (.iload 5, 0)] = true ∧ lSa m_X_run 16 [(.aload_n 0, 0), (.bipush (-9), -9)] = true ∧ lIa m_X_run 19 (.invokevirtual 173) 3 = true ∧ lIa m_X_run 22 (.ireturn) 1 = true := by decide +kernel
  refine lA8 hdd (fun dd0 dd1 dd2 dd3 dd4 dd5 dd6 dd7 hdd => ?_)
  refine lA8 hdd (fun dd8 dd9 dd10 dd11 dd12 dd13 dd14 dd15 hdd => ?_)
  refine lA8 hdd (fun dd16 dd17 dd18 dd19 dd20 dd21 dd22 dd23 hdd => ?_)
  refine lA8 hdd (fun dd24 dd25 dd26 dd27 dd28 dd29 dd30 dd31 hdd => ?_)
  refine lA8 hdd (fun dd32 dd33 dd34 dd35 dd36 dd37 dd38 dd39 hdd => ?_)
  obtain ⟨dd40, dd41, dd42⟩ := hdd
  refine gMet.of (by decide +kernel) (Nat.le_of_ble_eq_true rfl) [some (.ref a0), some (.int a1), some (.int a2), none, none, none] (fun ls h => zEn_ok (n := 6) h) ?_
  intro o Gf h
  unfold f_X_run at h
  refine Y.blk (pc' := 2) (L' := [some (.ref a0), some (.int a1), some (.int a2), none, none, none]) (st' := [.int a1, .ref a0]) (sg := [(.aload_n 0, 0), (.iload_n 1, 0)]) (lSa_ok dd0) rfl ?_
  obtain ⟨_, o2, e1, m3, h⟩ := gOb_inv h
  refine Y.callN (yC.Vi (b := a0) (As := [.int a1]) (st := []) (r := ("Partlister", T_X, 5)) hV.1 cb_X_needCursor lk_X_167 in_X_needCursor rfl se_X_needCursor (lIa_ok dd1) rfl rfl (Nat.le_of_ble_eq_true rfl) (by decide) e1 m3) (k_X_needCursor hV G a0 a1) h (fun G4 _ h => ?_)
  refine Y.blk (pc' := 6) (L' := [some (.ref a0), some (.int a1), some (.int a2), none, none, none]) (st' := [.ref a0]) (sg := [(.aload_n 0, 0)]) (lSa_ok dd2) rfl ?_
  refine Y.getA fl_X_19 (lIa_ok dd3) h (fun v5 h => ?_)
  refine Y.blk (pc' := 10) (L' := [some (.ref a0), some (.int a1), some (.int a2), none, none, none]) (st' := [.int a1, .ref v5]) (sg := [(.iload_n 1, 0)]) (lSa_ok dd4) rfl ?_
  obtain ⟨_, o7, e6, m8, h⟩ := gOb_inv h
  refine Y.callI (yC.Vi (b := v5) (As := [.int a1]) (st := []) (r := ("Partlister$Cursors", T_U, 5)) hV.1 cb_U_isStale lk_X_170 in_U_isStale rfl se_U_isStale (lIa_ok dd5) rfl rfl (Nat.le_of_ble_eq_true rfl) (by decide) e6 m8) (k_U_isStale hV G4 v5 a1) h (fun v10 G9 _ h => ?_)
  refine Y.if_eq (off := 10) (tgt := 23) (lIa_ok dd6) (by decide) h (fun c73 h => ?_) (fun c73 h => ?_)
  · refine Y.blk (pc' := 24) (L' := [some (.ref a0), some (.int a1), some (.int a2), none, none, none]) (st' := [.ref a0]) (sg := [(.aload_n 0, 0)]) (lSa_ok dd7) rfl ?_
    refine Y.getA fl_X_19 (lIa_ok dd8) h (fun v11 h => ?_)
    refine Y.blk (pc' := 28) (L' := [some (.ref a0), some (.int a1), some (.int a2), none, none, none]) (st' := [.int a1, .ref v11]) (sg := [(.iload_n 1, 0)]) (lSa_ok dd9) rfl ?_
    obtain ⟨_, o13, e12, m14, h⟩ := gOb_inv h
    refine Y.callI (yC.Vi (b := v11) (As := [.int a1]) (st := []) (r := ("Partlister$Cursors", T_U, 5)) hV.1 cb_U_nextOf lk_X_176 in_U_nextOf rfl se_U_nextOf (lIa_ok dd10) rfl rfl (Nat.le_of_ble_eq_true rfl) (by decide) e12 m14) (k_U_nextOf hV G9 v11 a1) h (fun v16 G15 _ h => ?_)
    refine Y.blk (pc' := 33) (L' := [some (.ref a0), some (.int a1), some (.int a2), some (.int v16), none, none]) (st' := [.ref a0]) (sg := [(.istore_n 3, 0), (.aload_n 0, 0)]) (lSa_ok dd11) rfl ?_
    refine Y.getA fl_X_10 (lIa_ok dd12) h (fun v17 h => ?_)
    refine Y.blk (pc' := 37) (L' := [some (.ref a0), some (.int a1), some (.int a2), some (.int v16), none, none]) (st' := [.ref a0, .ref v17]) (sg := [(.aload_n 0, 0)]) (lSa_ok dd13) rfl ?_
    refine Y.getA fl_X_19 (lIa_ok dd14) h (fun v18 h => ?_)
    refine Y.blk (pc' := 41) (L' := [some (.ref a0), some (.int a1), some (.int a2), some (.int v16), none, none]) (st' := [.int a1, .ref v18, .ref v17]) (sg := [(.iload_n 1, 0)]) (lSa_ok dd15) rfl ?_
    obtain ⟨_, o20, e19, m21, h⟩ := gOb_inv h
    refine Y.callI (yC.Vi (b := v18) (As := [.int a1]) (st := [.ref v17]) (r := ("Partlister$Cursors", T_U, 5)) hV.1 cb_U_listOf lk_X_152 in_U_listOf rfl se_U_listOf (lIa_ok dd16) rfl rfl (Nat.le_of_ble_eq_true rfl) (by decide) e19 m21) (k_U_listOf hV G15 v18 a1) h (fun v23 G22 _ h => ?_)
    obtain ⟨_, o25, e24, m26, h⟩ := gOb_inv h
    refine Y.callI (yC.Vi (b := v17) (As := [.int v23]) (st := []) (r := ("Partlister$Lists", T_I, 7)) hV.1 cb_I_lengthOf lk_X_34 in_I_lengthOf rfl se_I_lengthOf (lIa_ok dd17) rfl rfl (Nat.le_of_ble_eq_true rfl) (by decide) e24 m26) (k_I_lengthOf hV G22 v17 v23) h (fun v28 G27 _ h => ?_)
    refine Y.blk (pc' := 50) (L' := [some (.ref a0), some (.int a1), some (.int a2), some (.int v16), some (.int v28), none]) (st' := [.int a2]) (sg := [(.istore 4, 0), (.iload_n 2, 0)]) (lSa_ok dd18) rfl ?_
    refine Y.if_eq (off := 7) (tgt := 57) (lIa_ok dd19) (by decide) h (fun c67 h => ?_) (fun c67 h => ?_)
    · refine Y.blk (pc' := 65) (L' := [some (.ref a0), some (.int a1), some (.int a2), some (.int v16), some (.int v28), some (.int (v28 - v16))]) (st' := [.int (v28 - v16)]) (sg := [(.iload 4, 0), (.iload_n 3, 0), (.isub, 0), (.istore 5, 0), (.iload 5, 0)]) (lSa_ok dd20) rfl ?_
      refine Y.if_le (off := 20) (tgt := 85) (lIa_ok dd21) (by decide) h (fun c47 h => ?_) (fun c47 h => ?_)
      · refine Y.blk (pc' := 87) (L' := [some (.ref a0), some (.int a1), some (.int a2), some (.int v16), some (.int v28), some (.int (v28 - v16))]) (st' := [.int (v28 - v16)]) (sg := [(.iload 5, 0)]) (lSa_ok dd22) rfl ?_
        refine Y.if_le (off := 17) (tgt := 104) (lIa_ok dd23) (by decide) h (fun c34 h => ?_) (fun c34 h => ?_)
        · refine Y.blk (pc' := 106) (L' := [some (.ref a0), some (.int a1), some (.int a2), some (.int v16), some (.int v28), some (.int (v28 - v16))]) (st' := [.int (v28 - v16)]) (sg := [(.iload 5, 0)]) (lSa_ok dd24) rfl ?_
          exact Y.iret rfl (lIa_ok dd25) h
        · refine Y.blk (pc' := 91) (L' := [some (.ref a0), some (.int a1), some (.int a2), some (.int v16), some (.int v28), some (.int (v28 - v16))]) (st' := [.ref a0]) (sg := [(.aload_n 0, 0)]) (lSa_ok dd26) rfl ?_
          refine Y.getA fl_X_19 (lIa_ok dd27) h (fun v29 h => ?_)
          refine Y.blk (pc' := 101) (L' := [some (.ref a0), some (.int a1), some (.int a2), some (.int v16), some (.int v28), some (.int (v28 - v16))]) (st' := [.int (v28 - (nI 1)), .int v28, .int a1, .ref v29]) (sg := [(.iload_n 1, 0), (.iload 4, 0), (.iload 4, 0), (.iconst 1, nI 1), (.isub, 0)]) (lSa_ok dd28) rfl ?_
          obtain ⟨_, o31, e30, m32, h⟩ := gOb_inv h
          refine Y.callN (yC.Vi (b := v29) (As := [.int a1, .int v28, .int (v28 - (nI 1))]) (st := []) (r := ("Partlister$Cursors", T_U, 5)) hV.1 cb_U_stand lk_X_179 in_U_stand rfl se_U_stand (lIa_ok dd29) rfl rfl (Nat.le_of_ble_eq_true rfl) (by decide) e30 m32) (k_U_stand hV G27 v29 a1 v28 (v28 - (nI 1))) h (fun G33 _ h => ?_)
          refine Y.blk (pc' := 106) (L' := [some (.ref a0), some (.int a1), some (.int a2), some (.int v16), some (.int v28), some (.int (v28 - v16))]) (st' := [.int (v28 - v16)]) (sg := [(.iload 5, 0)]) (lSa_ok dd24) rfl ?_
          exact Y.iret rfl (lIa_ok dd25) h
      · refine Y.blk (pc' := 69) (L' := [some (.ref a0), some (.int a1), some (.int a2), some (.int v16), some (.int v28), some (.int (v28 - v16))]) (st' := [.int a2]) (sg := [(.iload_n 2, 0)]) (lSa_ok dd30) rfl ?_
        refine Y.if_eq (off := 16) (tgt := 85) (lIa_ok dd31) (by decide) h (fun c46 h => ?_) (fun c46 h => ?_)
        · refine Y.blk (pc' := 87) (L' := [some (.ref a0), some (.int a1), some (.int a2), some (.int v16), some (.int v28), some (.int (v28 - v16))]) (st' := [.int (v28 - v16)]) (sg := [(.iload 5, 0)]) (lSa_ok dd22) rfl ?_
          refine Y.if_le (off := 17) (tgt := 104) (lIa_ok dd23) (by decide) h (fun c40 h => ?_) (fun c40 h => ?_)
          · refine Y.blk (pc' := 106) (L' := [some (.ref a0), some (.int a1), some (.int a2), some (.int v16), some (.int v28), some (.int (v28 - v16))]) (st' := [.int (v28 - v16)]) (sg := [(.iload 5, 0)]) (lSa_ok dd24) rfl ?_
            exact Y.iret rfl (lIa_ok dd25) h
          · refine Y.blk (pc' := 91) (L' := [some (.ref a0), some (.int a1), some (.int a2), some (.int v16), some (.int v28), some (.int (v28 - v16))]) (st' := [.ref a0]) (sg := [(.aload_n 0, 0)]) (lSa_ok dd26) rfl ?_
            refine Y.getA fl_X_19 (lIa_ok dd27) h (fun v35 h => ?_)
            refine Y.blk (pc' := 101) (L' := [some (.ref a0), some (.int a1), some (.int a2), some (.int v16), some (.int v28), some (.int (v28 - v16))]) (st' := [.int (v28 - (nI 1)), .int v28, .int a1, .ref v35]) (sg := [(.iload_n 1, 0), (.iload 4, 0), (.iload 4, 0), (.iconst 1, nI 1), (.isub, 0)]) (lSa_ok dd28) rfl ?_
            obtain ⟨_, o37, e36, m38, h⟩ := gOb_inv h
            refine Y.callN (yC.Vi (b := v35) (As := [.int a1, .int v28, .int (v28 - (nI 1))]) (st := []) (r := ("Partlister$Cursors", T_U, 5)) hV.1 cb_U_stand lk_X_179 in_U_stand rfl se_U_stand (lIa_ok dd29) rfl rfl (Nat.le_of_ble_eq_true rfl) (by decide) e36 m38) (k_U_stand hV G27 v35 a1 v28 (v28 - (nI 1))) h (fun G39 _ h => ?_)
            refine Y.blk (pc' := 106) (L' := [some (.ref a0), some (.int a1), some (.int a2), some (.int v16), some (.int v28), some (.int (v28 - v16))]) (st' := [.int (v28 - v16)]) (sg := [(.iload 5, 0)]) (lSa_ok dd24) rfl ?_
            exact Y.iret rfl (lIa_ok dd25) h
        · refine Y.blk (pc' := 73) (L' := [some (.ref a0), some (.int a1), some (.int a2), some (.int v16), some (.int v28), some (.int (v28 - v16))]) (st' := [.ref a0]) (sg := [(.aload_n 0, 0)]) (lSa_ok dd32) rfl ?_
          refine Y.getA fl_X_19 (lIa_ok dd33) h (fun v41 h => ?_)
          refine Y.blk (pc' := 79) (L' := [some (.ref a0), some (.int a1), some (.int a2), some (.int v16), some (.int v28), some (.int (v28 - v16))]) (st' := [.int (nI 0), .int (nI 0), .int a1, .ref v41]) (sg := [(.iload_n 1, 0), (.iconst 0, nI 0), (.iconst 0, nI 0)]) (lSa_ok dd34) rfl ?_
          obtain ⟨_, o43, e42, m44, h⟩ := gOb_inv h
          refine Y.callN (yC.Vi (b := v41) (As := [.int a1, .int (nI 0), .int (nI 0)]) (st := []) (r := ("Partlister$Cursors", T_U, 5)) hV.1 cb_U_stand lk_X_179 in_U_stand rfl se_U_stand (lIa_ok dd35) rfl rfl (Nat.le_of_ble_eq_true rfl) (by decide) e42 m44) (k_U_stand hV G27 v41 a1 (nI 0) (nI 0)) h (fun G45 _ h => ?_)
          refine Y.goto (off := 22) (tgt := 104) (lIa_ok dd36) (by decide) ?_
          refine Y.blk (pc' := 106) (L' := [some (.ref a0), some (.int a1), some (.int a2), some (.int v16), some (.int v28), some (.int (v28 - v16))]) (st' := [.int (v28 - v16)]) (sg := [(.iload 5, 0)]) (lSa_ok dd24) rfl ?_
          exact Y.iret rfl (lIa_ok dd25) h
    · refine Y.blk (pc' := 54) (L' := [some (.ref a0), some (.int a1), some (.int a2), some (.int v16), some (.int v28), none]) (st' := [.int v16]) (sg := [(.iload_n 3, 0)]) (lSa_ok dd37) rfl ?_
      refine Y.goto (off := 7) (tgt := 61) (lIa_ok dd38) (by decide) ?_
      refine Y.blk (pc' := 65) (L' := [some (.ref a0), some (.int a1), some (.int a2), some (.int v16), some (.int v28), some (.int v16)]) (st' := [.int v16]) (sg := [(.istore 5, 0), (.iload 5, 0)]) (lSa_ok dd39) rfl ?_
      refine Y.if_le (off := 20) (tgt := 85) (lIa_ok dd21) (by decide) h (fun c66 h => ?_) (fun c66 h => ?_)
      · refine Y.blk (pc' := 87) (L' := [some (.ref a0), some (.int a1), some (.int a2), some (.int v16), some (.int v28), some (.int v16)]) (st' := [.int v16]) (sg := [(.iload 5, 0)]) (lSa_ok dd22) rfl ?_
        refine Y.if_le (off := 17) (tgt := 104) (lIa_ok dd23) (by decide) h (fun c53 h => ?_) (fun c53 h => ?_)
        · refine Y.blk (pc' := 106) (L' := [some (.ref a0), some (.int a1), some (.int a2), some (.int v16), some (.int v28), some (.int v16)]) (st' := [.int v16]) (sg := [(.iload 5, 0)]) (lSa_ok dd24) rfl ?_
          exact Y.iret rfl (lIa_ok dd25) h
        · refine Y.blk (pc' := 91) (L' := [some (.ref a0), some (.int a1), some (.int a2), some (.int v16), some (.int v28), some (.int v16)]) (st' := [.ref a0]) (sg := [(.aload_n 0, 0)]) (lSa_ok dd26) rfl ?_
          refine Y.getA fl_X_19 (lIa_ok dd27) h (fun v48 h => ?_)
          refine Y.blk (pc' := 101) (L' := [some (.ref a0), some (.int a1), some (.int a2), some (.int v16), some (.int v28), some (.int v16)]) (st' := [.int (v28 - (nI 1)), .int v28, .int a1, .ref v48]) (sg := [(.iload_n 1, 0), (.iload 4, 0), (.iload 4, 0), (.iconst 1, nI 1), (.isub, 0)]) (lSa_ok dd28) rfl ?_
          obtain ⟨_, o50, e49, m51, h⟩ := gOb_inv h
          refine Y.callN (yC.Vi (b := v48) (As := [.int a1, .int v28, .int (v28 - (nI 1))]) (st := []) (r := ("Partlister$Cursors", T_U, 5)) hV.1 cb_U_stand lk_X_179 in_U_stand rfl se_U_stand (lIa_ok dd29) rfl rfl (Nat.le_of_ble_eq_true rfl) (by decide) e49 m51) (k_U_stand hV G27 v48 a1 v28 (v28 - (nI 1))) h (fun G52 _ h => ?_)
          refine Y.blk (pc' := 106) (L' := [some (.ref a0), some (.int a1), some (.int a2), some (.int v16), some (.int v28), some (.int v16)]) (st' := [.int v16]) (sg := [(.iload 5, 0)]) (lSa_ok dd24) rfl ?_
          exact Y.iret rfl (lIa_ok dd25) h
      · refine Y.blk (pc' := 69) (L' := [some (.ref a0), some (.int a1), some (.int a2), some (.int v16), some (.int v28), some (.int v16)]) (st' := [.int a2]) (sg := [(.iload_n 2, 0)]) (lSa_ok dd30) rfl ?_
        refine Y.if_eq (off := 16) (tgt := 85) (lIa_ok dd31) (by decide) h (fun c65 h => ?_) (fun c65 h => ?_)
        · refine Y.blk (pc' := 87) (L' := [some (.ref a0), some (.int a1), some (.int a2), some (.int v16), some (.int v28), some (.int v16)]) (st' := [.int v16]) (sg := [(.iload 5, 0)]) (lSa_ok dd22) rfl ?_
          refine Y.if_le (off := 17) (tgt := 104) (lIa_ok dd23) (by decide) h (fun c59 h => ?_) (fun c59 h => ?_)
          · refine Y.blk (pc' := 106) (L' := [some (.ref a0), some (.int a1), some (.int a2), some (.int v16), some (.int v28), some (.int v16)]) (st' := [.int v16]) (sg := [(.iload 5, 0)]) (lSa_ok dd24) rfl ?_
            exact Y.iret rfl (lIa_ok dd25) h
          · refine Y.blk (pc' := 91) (L' := [some (.ref a0), some (.int a1), some (.int a2), some (.int v16), some (.int v28), some (.int v16)]) (st' := [.ref a0]) (sg := [(.aload_n 0, 0)]) (lSa_ok dd26) rfl ?_
            refine Y.getA fl_X_19 (lIa_ok dd27) h (fun v54 h => ?_)
            refine Y.blk (pc' := 101) (L' := [some (.ref a0), some (.int a1), some (.int a2), some (.int v16), some (.int v28), some (.int v16)]) (st' := [.int (v28 - (nI 1)), .int v28, .int a1, .ref v54]) (sg := [(.iload_n 1, 0), (.iload 4, 0), (.iload 4, 0), (.iconst 1, nI 1), (.isub, 0)]) (lSa_ok dd28) rfl ?_
            obtain ⟨_, o56, e55, m57, h⟩ := gOb_inv h
            refine Y.callN (yC.Vi (b := v54) (As := [.int a1, .int v28, .int (v28 - (nI 1))]) (st := []) (r := ("Partlister$Cursors", T_U, 5)) hV.1 cb_U_stand lk_X_179 in_U_stand rfl se_U_stand (lIa_ok dd29) rfl rfl (Nat.le_of_ble_eq_true rfl) (by decide) e55 m57) (k_U_stand hV G27 v54 a1 v28 (v28 - (nI 1))) h (fun G58 _ h => ?_)
            refine Y.blk (pc' := 106) (L' := [some (.ref a0), some (.int a1), some (.int a2), some (.int v16), some (.int v28), some (.int v16)]) (st' := [.int v16]) (sg := [(.iload 5, 0)]) (lSa_ok dd24) rfl ?_
            exact Y.iret rfl (lIa_ok dd25) h
        · refine Y.blk (pc' := 73) (L' := [some (.ref a0), some (.int a1), some (.int a2), some (.int v16), some (.int v28), some (.int v16)]) (st' := [.ref a0]) (sg := [(.aload_n 0, 0)]) (lSa_ok dd32) rfl ?_
          refine Y.getA fl_X_19 (lIa_ok dd33) h (fun v60 h => ?_)
          refine Y.blk (pc' := 79) (L' := [some (.ref a0), some (.int a1), some (.int a2), some (.int v16), some (.int v28), some (.int v16)]) (st' := [.int (nI 0), .int (nI 0), .int a1, .ref v60]) (sg := [(.iload_n 1, 0), (.iconst 0, nI 0), (.iconst 0, nI 0)]) (lSa_ok dd34) rfl ?_
          obtain ⟨_, o62, e61, m63, h⟩ := gOb_inv h
          refine Y.callN (yC.Vi (b := v60) (As := [.int a1, .int (nI 0), .int (nI 0)]) (st := []) (r := ("Partlister$Cursors", T_U, 5)) hV.1 cb_U_stand lk_X_179 in_U_stand rfl se_U_stand (lIa_ok dd35) rfl rfl (Nat.le_of_ble_eq_true rfl) (by decide) e61 m63) (k_U_stand hV G27 v60 a1 (nI 0) (nI 0)) h (fun G64 _ h => ?_)
          refine Y.goto (off := 22) (tgt := 104) (lIa_ok dd36) (by decide) ?_
          refine Y.blk (pc' := 106) (L' := [some (.ref a0), some (.int a1), some (.int a2), some (.int v16), some (.int v28), some (.int v16)]) (st' := [.int v16]) (sg := [(.iload 5, 0)]) (lSa_ok dd24) rfl ?_
          exact Y.iret rfl (lIa_ok dd25) h
  · refine Y.blk (pc' := 19) (L' := [some (.ref a0), some (.int a1), some (.int a2), none, none, none]) (st' := [.int (-9), .ref a0]) (sg := [(.aload_n 0, 0), (.bipush (-9), -9)]) (lSa_ok dd40) rfl ?_
    obtain ⟨_, o69, e68, m70, h⟩ := gOb_inv h
    refine Y.callI (yC.Vi (b := a0) (As := [.int (-9)]) (st := []) (r := ("Partlister", T_X, 5)) hV.1 cb_X_failWith lk_X_173 in_X_failWith rfl se_X_failWith (lIa_ok dd41) rfl rfl (Nat.le_of_ble_eq_true rfl) (by decide) e68 m70) (k_X_failWith hV G9 a0 (-9)) h (fun v72 G71 _ h => ?_)
    exact Y.iret rfl (lIa_ok dd42) h
