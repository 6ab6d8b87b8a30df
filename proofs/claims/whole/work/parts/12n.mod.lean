def f_M_previous (G : gH) (a0 : Nat) (a1 : Int32) : gR :=
  gOb G a0 6 fun o2 => bI (f_M_isNoCursor G a0 a1) fun v5 G4 => gOb G4 a0 6 fun o7 => bI (f_M_start G4 a0 v5 (nI 1)) fun v10 G9 => if v10 = 0 then (gFA G9 a0 6 3 fun v11 => gLdq G9 v11 105 a1 (none) fun v12 => gFI G9 v12 4 3 fun v13 => if v13 = 0 then (gFI G9 v12 4 1 fun v14 => if v14 = 0 then gOb G9 a0 6 fun o16 => bI (f_M_fault G9 a0 (-8)) fun v19 G18 => rI v19 G18
        else gFI G9 v12 4 1 fun v20 => gPut G9 v12 4 1 (.int (v20 - (nI 1))) fun G21 => gFI G21 v12 4 1 fun v22 => gPut G21 v12 4 2 (.int v22) fun G23 => gFI G23 v12 4 0 fun v24 => gFI G23 v12 4 2 fun v25 => gOb G23 a0 6 fun o27 => bA (f_M_at G23 a0 v24 v25) fun v30 G29 => gLd G29 v30 100 (nI 1) fun v31 => rI v31 G29)
      else gOb G9 a0 6 fun o34 => bI (f_M_fault G9 a0 (-9)) fun v37 G36 => rI v37 G36)
  else rI (nI 0) G9
theorem k_M_previous {l : Launch} {D : va_G} {B : Nat} {O : State → Heap → Prop} (hV : zG l D B O) (G : gH) (a0 : Nat) (a1 : Int32) : gMet (zVm l D B O) m_M_previous 13 [.ref a0, .int a1] G (f_M_previous G a0 a1) := by
  have hdd : lSa m_M_previous 0 [(.aload_n 0, 0), (.aload_n 0, 0), (.iload_n 1, 0)] = true ∧ lIa m_M_previous 3 (.invokevirtual 214) 3 = true ∧ lSa m_M_previous 6 [(.iconst 1, nI 1)] = true ∧ lIa m_M_previous 7 (.invokevirtual 114) 3 = true ∧ lIa m_M_previous 10 (.ifCond .eq 5) 3 = true ∧ lSa m_M_previous 15 [(.aload_n 0, 0)] = true ∧ lIa m_M_previous 16 (.getfield 24) 3 = true ∧ lSa m_M_previous 19 [(.iload_n 1, 0)] = true ∧ lIa m_M_previous 20 (.aaload) 1 = true ∧ lSa m_M_previous 21 [(.astore_n 2, 0), (.aload_n 2, 0)] = true ∧ lIa m_M_previous 23 (.getfield 99) 3 = true ∧ lIa m_M_previous 26 (.ifCond .eq 10) 3 = true ∧ lSa m_M_previous 36 [(.aload_n 2, 0)] = true ∧ lIa m_M_previous 37 (.getfield 208) 3 = true ∧ lIa m_M_previous 40 (.ifCond .ne 10) 3 = true ∧ lSa m_M_previous 43 [(.aload_n 0, 0), (.bipush (-8), -8)] = true ∧ lIa m_M_previous 46 (.invokevirtual 217) 3 = true ∧ lIa m_M_previous 49 (.ireturn) 1 = true ∧ lSa m_M_previous 50 [(.aload_n 2, 0), (.dup, 0)] = true ∧ lIa m_M_previous 52 (.getfield 208) 3 = true ∧ lSa m_M_previous 55 [(.iconst 1, nI 1), (.isub, 0)] = true ∧ lIa m_M_previous 57 (.putfield 208) 3 = true ∧ lSa m_M_previous 60 [(.aload_n 2, 0), (.aload_n 2, 0)] = true ∧ lIa m_M_previous 62 (.getfield 208) 3 = true ∧ lIa m_M_previous 65 (.putfield 220) 3 = true ∧ lSa m_M_previous 68 [(.aload_n 0, 0), (.aload_n 2, 0)] = true ∧ lIa m_M_previous 70 (.getfield 89) 3 = true ∧ lSa m_M_previous 73 [(.aload_n 2, 0)] = true ∧ lIa m_M_previous 74 (.getfield 220) 3 = true ∧ lIa m_M_previous 77 (.invokevirtual 132) 3 = true ∧ lSa m_M_previous 80 [(.iconst 1, nI 1)] = true ∧ lIa m_M_previous 81 (.iaload) 1 = true ∧ lIa m_M_previous 82 (.ireturn) 1 = true ∧ lSa m_M_previous 29 [(.aload_n 0, 0), (.bipush (-9), -9)] = true ∧ lIa m_M_previous 32 (.invokevirtual 217) 3 = true ∧ lIa m_M_previous 35 (.ireturn) 1 = true ∧ lSa m_M_previous 13 [(.iconst 0, nI 0)] = true ∧ lIa m_M_previous 14 (.ireturn) 1 = true := by decide +kernel
  refine lA8 hdd (fun dd0 dd1 dd2 dd3 dd4 dd5 dd6 dd7 hdd => ?_)
  refine lA8 hdd (fun dd8 dd9 dd10 dd11 dd12 dd13 dd14 dd15 hdd => ?_)
  refine lA8 hdd (fun dd16 dd17 dd18 dd19 dd20 dd21 dd22 dd23 hdd => ?_)
  refine lA8 hdd (fun dd24 dd25 dd26 dd27 dd28 dd29 dd30 dd31 hdd => ?_)
  obtain ⟨dd32, dd33, dd34, dd35, dd36, dd37⟩ := hdd
  refine gMet.of (by decide +kernel) (Nat.le_of_ble_eq_true rfl) [some (.ref a0), some (.int a1), none] (fun ls h => zEn_ok (n := 3) h) ?_
  intro o Gf h
  unfold f_M_previous at h
  refine Y.blk (pc' := 3) (L' := [some (.ref a0), some (.int a1), none]) (st' := [.int a1, .ref a0, .ref a0]) (sg := [(.aload_n 0, 0), (.aload_n 0, 0), (.iload_n 1, 0)]) (lSa_ok dd0) rfl ?_
  obtain ⟨_, o2, e1, m3, h⟩ := gOb_inv h
  refine Y.callI (yC.Vi (b := a0) (As := [.int a1]) (st := [.ref a0]) (r := ("PartlisterModel", T_M, 9)) hV.1 cb_M_isNoCursor lk_M_214 in_M_isNoCursor rfl se_M_isNoCursor (lIa_ok dd1) rfl rfl (Nat.le_of_ble_eq_true rfl) (by decide) e1 m3) (k_M_isNoCursor hV G a0 a1) h (fun v5 G4 _ h => ?_)
  refine Y.blk (pc' := 7) (L' := [some (.ref a0), some (.int a1), none]) (st' := [.int (nI 1), .int v5, .ref a0]) (sg := [(.iconst 1, nI 1)]) (lSa_ok dd2) rfl ?_
  obtain ⟨_, o7, e6, m8, h⟩ := gOb_inv h
  refine Y.callI (yC.Vi (b := a0) (As := [.int v5, .int (nI 1)]) (st := []) (r := ("PartlisterModel", T_M, 9)) hV.1 cb_M_start lk_M_114 in_M_start rfl se_M_start (lIa_ok dd3) rfl rfl (Nat.le_of_ble_eq_true rfl) (by decide) e6 m8) (k_M_start hV G4 a0 v5 (nI 1)) h (fun v10 G9 _ h => ?_)
  refine Y.if_eq (off := 5) (tgt := 15) (lIa_ok dd4) (by decide) h (fun c39 h => ?_) (fun c39 h => ?_)
  · refine Y.blk (pc' := 16) (L' := [some (.ref a0), some (.int a1), none]) (st' := [.ref a0]) (sg := [(.aload_n 0, 0)]) (lSa_ok dd5) rfl ?_
    refine Y.getA fl_M_24 (lIa_ok dd6) h (fun v11 h => ?_)
    refine Y.blk (pc' := 20) (L' := [some (.ref a0), some (.int a1), none]) (st' := [.int a1, .ref v11]) (sg := [(.iload_n 1, 0)]) (lSa_ok dd7) rfl ?_
    refine Y.aald (t0 := 5) (lIa_ok dd8) rfl h (fun h => ?_) (fun v12 h => ?_)
    · refine Y.blk (pc' := 23) (L' := [some (.ref a0), some (.int a1), some (.null)]) (st' := [.null]) (sg := [(.astore_n 2, 0), (.aload_n 2, 0)]) (lSa_ok dd9) rfl ?_
      cases h
    · refine Y.blk (pc' := 23) (L' := [some (.ref a0), some (.int a1), some (.ref v12)]) (st' := [.ref v12]) (sg := [(.astore_n 2, 0), (.aload_n 2, 0)]) (lSa_ok dd9) rfl ?_
      refine Y.getI fl_M_99 (lIa_ok dd10) h (fun v13 h => ?_)
      refine Y.if_eq (off := 10) (tgt := 36) (lIa_ok dd11) (by decide) h (fun c38 h => ?_) (fun c38 h => ?_)
      · refine Y.blk (pc' := 37) (L' := [some (.ref a0), some (.int a1), some (.ref v12)]) (st' := [.ref v12]) (sg := [(.aload_n 2, 0)]) (lSa_ok dd12) rfl ?_
        refine Y.getI fl_M_208 (lIa_ok dd13) h (fun v14 h => ?_)
        refine Y.if_ne (off := 10) (tgt := 50) (lIa_ok dd14) (by decide) h (fun c32 h => ?_) (fun c32 h => ?_)
        · refine Y.blk (pc' := 46) (L' := [some (.ref a0), some (.int a1), some (.ref v12)]) (st' := [.int (-8), .ref a0]) (sg := [(.aload_n 0, 0), (.bipush (-8), -8)]) (lSa_ok dd15) rfl ?_
          obtain ⟨_, o16, e15, m17, h⟩ := gOb_inv h
          refine Y.callI (yC.Vi (b := a0) (As := [.int (-8)]) (st := []) (r := ("PartlisterModel", T_M, 9)) hV.1 cb_M_fault lk_M_217 in_M_fault rfl se_M_fault (lIa_ok dd16) rfl rfl (Nat.le_of_ble_eq_true rfl) (by decide) e15 m17) (k_M_fault hV G9 a0 (-8)) h (fun v19 G18 _ h => ?_)
          exact Y.iret rfl (lIa_ok dd17) h
        · refine Y.blk (pc' := 52) (L' := [some (.ref a0), some (.int a1), some (.ref v12)]) (st' := [.ref v12, .ref v12]) (sg := [(.aload_n 2, 0), (.dup, 0)]) (lSa_ok dd18) rfl ?_
          refine Y.getI fl_M_208 (lIa_ok dd19) h (fun v20 h => ?_)
          refine Y.blk (pc' := 57) (L' := [some (.ref a0), some (.int a1), some (.ref v12)]) (st' := [.int (v20 - (nI 1)), .ref v12]) (sg := [(.iconst 1, nI 1), (.isub, 0)]) (lSa_ok dd20) rfl ?_
          refine Y.putf fl_M_208 (by decide) rfl rfl (lIa_ok dd21) h (fun G21 _ _ h => ?_)
          refine Y.blk (pc' := 62) (L' := [some (.ref a0), some (.int a1), some (.ref v12)]) (st' := [.ref v12, .ref v12]) (sg := [(.aload_n 2, 0), (.aload_n 2, 0)]) (lSa_ok dd22) rfl ?_
          refine Y.getI fl_M_208 (lIa_ok dd23) h (fun v22 h => ?_)
          refine Y.putf fl_M_220 (by decide) rfl rfl (lIa_ok dd24) h (fun G23 _ _ h => ?_)
          refine Y.blk (pc' := 70) (L' := [some (.ref a0), some (.int a1), some (.ref v12)]) (st' := [.ref v12, .ref a0]) (sg := [(.aload_n 0, 0), (.aload_n 2, 0)]) (lSa_ok dd25) rfl ?_
          refine Y.getI fl_M_89 (lIa_ok dd26) h (fun v24 h => ?_)
          refine Y.blk (pc' := 74) (L' := [some (.ref a0), some (.int a1), some (.ref v12)]) (st' := [.ref v12, .int v24, .ref a0]) (sg := [(.aload_n 2, 0)]) (lSa_ok dd27) rfl ?_
          refine Y.getI fl_M_220 (lIa_ok dd28) h (fun v25 h => ?_)
          obtain ⟨_, o27, e26, m28, h⟩ := gOb_inv h
          refine Y.callA (yC.Vi (b := a0) (As := [.int v24, .int v25]) (st := []) (r := ("PartlisterModel", T_M, 9)) hV.1 cb_M_at lk_M_132 in_M_at rfl se_M_at (lIa_ok dd29) rfl rfl (Nat.le_of_ble_eq_true rfl) (by decide) e26 m28) (k_M_at hV G23 a0 v24 v25) h (fun v30 G29 _ h => ?_)
          refine Y.blk (pc' := 81) (L' := [some (.ref a0), some (.int a1), some (.ref v12)]) (st' := [.int (nI 1), .ref v30]) (sg := [(.iconst 1, nI 1)]) (lSa_ok dd30) rfl ?_
          refine Y.iald (t0 := 0) (lIa_ok dd31) rfl h (fun v31 h => ?_)
          exact Y.iret rfl (lIa_ok dd32) h
      · refine Y.blk (pc' := 32) (L' := [some (.ref a0), some (.int a1), some (.ref v12)]) (st' := [.int (-9), .ref a0]) (sg := [(.aload_n 0, 0), (.bipush (-9), -9)]) (lSa_ok dd33) rfl ?_
        obtain ⟨_, o34, e33, m35, h⟩ := gOb_inv h
        refine Y.callI (yC.Vi (b := a0) (As := [.int (-9)]) (st := []) (r := ("PartlisterModel", T_M, 9)) hV.1 cb_M_fault lk_M_217 in_M_fault rfl se_M_fault (lIa_ok dd34) rfl rfl (Nat.le_of_ble_eq_true rfl) (by decide) e33 m35) (k_M_fault hV G9 a0 (-9)) h (fun v37 G36 _ h => ?_)
        exact Y.iret rfl (lIa_ok dd35) h
  · refine Y.blk (pc' := 14) (L' := [some (.ref a0), some (.int a1), none]) (st' := [.int (nI 0)]) (sg := [(.iconst 0, nI 0)]) (lSa_ok dd36) rfl ?_
    exact Y.iret rfl (lIa_ok dd37) h

def f_M_put (G : gH) (a0 : Nat) (a1 : Int32) (a2 : Int32) : gR :=
  gOb G a0 6 fun o2 => bI (f_M_isNoCursor G a0 a1) fun v5 G4 => gOb G4 a0 6 fun o7 => bI (f_M_start G4 a0 v5 (nI 1)) fun v10 G9 => if v10 = 0 then (gOb G9 a0 6 fun o12 => bI (f_M_isNoKey G9 a0 a2) fun v15 G14 => gOb G14 a0 6 fun o17 => bI (f_M_refuse G14 a0 v15 (nI 2)) fun v20 G19 => if v20 = 0 then (gFA G19 a0 6 3 fun v21 => gLdq G19 v21 105 a1 (none) fun v22 => gFI G19 v22 4 3 fun v23 => if v23 = 0 then (gFI G19 v22 4 2 fun v24 => if v24 = (-1) then gOb G19 a0 6 fun o26 => bI (f_M_fault G19 a0 (-7)) fun v29 G28 => rI v29 G28
          else gFI G19 v22 4 0 fun v30 => gFI G19 v22 4 2 fun v31 => gOb G19 a0 6 fun o33 => bA (f_M_make G19 a0 a2) fun v36 G35 => gOb G35 a0 6 fun o38 => bA (f_M_write G35 a0 v30 v31 v36) fun v41 G40 => gFI G40 a0 6 4 fun v42 => rI (v42 - (nI 1)) G40)
        else gOb G19 a0 6 fun o45 => bI (f_M_fault G19 a0 (-9)) fun v48 G47 => rI v48 G47)
    else rI (nI 0) G19)
  else rI (nI 0) G9
theorem k_M_put {l : Launch} {D : va_G} {B : Nat} {O : State → Heap → Prop} (hV : zG l D B O) (G : gH) (a0 : Nat) (a1 : Int32) (a2 : Int32) : gMet (zVm l D B O) m_M_put 13 [.ref a0, .int a1, .int a2] G (f_M_put G a0 a1 a2) := by
  have hdd : lSa m_M_put 0 [(.aload_n 0, 0), (.aload_n 0, 0), (.iload_n 1, 0)] = true ∧ lIa m_M_put 3 (.invokevirtual 214) 3 = true ∧ lSa m_M_put 6 [(.iconst 1, nI 1)] = true ∧ lIa m_M_put 7 (.invokevirtual 114) 3 = true ∧ lIa m_M_put 10 (.ifCond .ne 16) 3 = true ∧ lSa m_M_put 13 [(.aload_n 0, 0), (.aload_n 0, 0), (.iload_n 2, 0)] = true ∧ lIa m_M_put 16 (.invokevirtual 160) 3 = true ∧ lSa m_M_put 19 [(.iconst 2, nI 2)] = true ∧ lIa m_M_put 20 (.invokevirtual 36) 3 = true ∧ lIa m_M_put 23 (.ifCond .eq 5) 3 = true ∧ lSa m_M_put 28 [(.aload_n 0, 0)] = true ∧ lIa m_M_put 29 (.getfield 24) 3 = true ∧ lSa m_M_put 32 [(.iload_n 1, 0)] = true ∧ lIa m_M_put 33 (.aaload) 1 = true ∧ lSa m_M_put 34 [(.astore_n 3, 0), (.aload_n 3, 0)] = true ∧ lIa m_M_put 36 (.getfield 99) 3 = true ∧ lIa m_M_put 39 (.ifCond .eq 10) 3 = true ∧ lSa m_M_put 49 [(.aload_n 3, 0)] = true ∧ lIa m_M_put 50 (.getfield 220) 3 = true ∧ lSa m_M_put 53 [(.iconst (-1), -1)] = true ∧ lIa m_M_put 54 (.if_icmp .ne 10) 3 = true ∧ lSa m_M_put 57 [(.aload_n 0, 0), (.bipush (-7), -7)] = true ∧ lIa m_M_put 60 (.invokevirtual 217) 3 = true ∧ lIa m_M_put 63 (.ireturn) 1 = true ∧ lSa m_M_put 64 [(.aload_n 0, 0), (.aload_n 3, 0)] = true ∧ lIa m_M_put 66 (.getfield 89) 3 = true ∧ lSa m_M_put 69 [(.aload_n 3, 0)] = true ∧ lIa m_M_put 70 (.getfield 220) 3 = true ∧ lSa m_M_put 73 [(.aload_n 0, 0), (.iload_n 2, 0)] = true ∧ lIa m_M_put 75 (.invokevirtual 120) 3 = true ∧ lIa m_M_put 78 (.invokevirtual 150) 3 = true ∧ lSa m_M_put 81 [(.pop, 0), (.aload_n 0, 0)] = true ∧ lIa m_M_put 83 (.getfield 76) 3 = true ∧ lSa m_M_put 86 [(.iconst 1, nI 1), (.isub, 0)] = true ∧ lIa m_M_put 88 (.ireturn) 1 = true ∧ lSa m_M_put 42 [(.aload_n 0, 0), (.bipush (-9), -9)] = true ∧ lIa m_M_put 45 (.invokevirtual 217) 3 = true ∧ lIa m_M_put 48 (.ireturn) 1 = true ∧ lSa m_M_put 26 [(.iconst 0, nI 0)] = true ∧ lIa m_M_put 27 (.ireturn) 1 = true := by decide +kernel
  refine lA8 hdd (fun dd0 dd1 dd2 dd3 dd4 dd5 dd6 dd7 hdd => ?_)
  refine lA8 hdd (fun dd8 dd9 dd10 dd11 dd12 dd13 dd14 dd15 hdd => ?_)
  refine lA8 hdd (fun dd16 dd17 dd18 dd19 dd20 dd21 dd22 dd23 hdd => ?_)
  refine lA8 hdd (fun dd24 dd25 dd26 dd27 dd28 dd29 dd30 dd31 hdd => ?_)
  obtain ⟨dd32, dd33, dd34, dd35, dd36, dd37, dd38, dd39⟩ := hdd
  refine gMet.of (by decide +kernel) (Nat.le_of_ble_eq_true rfl) [some (.ref a0), some (.int a1), some (.int a2), none] (fun ls h => zEn_ok (n := 4) h) ?_
  intro o Gf h
  unfold f_M_put at h
  refine Y.blk (pc' := 3) (L' := [some (.ref a0), some (.int a1), some (.int a2), none]) (st' := [.int a1, .ref a0, .ref a0]) (sg := [(.aload_n 0, 0), (.aload_n 0, 0), (.iload_n 1, 0)]) (lSa_ok dd0) rfl ?_
  obtain ⟨_, o2, e1, m3, h⟩ := gOb_inv h
  refine Y.callI (yC.Vi (b := a0) (As := [.int a1]) (st := [.ref a0]) (r := ("PartlisterModel", T_M, 9)) hV.1 cb_M_isNoCursor lk_M_214 in_M_isNoCursor rfl se_M_isNoCursor (lIa_ok dd1) rfl rfl (Nat.le_of_ble_eq_true rfl) (by decide) e1 m3) (k_M_isNoCursor hV G a0 a1) h (fun v5 G4 _ h => ?_)
  refine Y.blk (pc' := 7) (L' := [some (.ref a0), some (.int a1), some (.int a2), none]) (st' := [.int (nI 1), .int v5, .ref a0]) (sg := [(.iconst 1, nI 1)]) (lSa_ok dd2) rfl ?_
  obtain ⟨_, o7, e6, m8, h⟩ := gOb_inv h
  refine Y.callI (yC.Vi (b := a0) (As := [.int v5, .int (nI 1)]) (st := []) (r := ("PartlisterModel", T_M, 9)) hV.1 cb_M_start lk_M_114 in_M_start rfl se_M_start (lIa_ok dd3) rfl rfl (Nat.le_of_ble_eq_true rfl) (by decide) e6 m8) (k_M_start hV G4 a0 v5 (nI 1)) h (fun v10 G9 _ h => ?_)
  refine Y.if_ne (off := 16) (tgt := 26) (lIa_ok dd4) (by decide) h (fun c51 h => ?_) (fun c51 h => ?_)
  · refine Y.blk (pc' := 16) (L' := [some (.ref a0), some (.int a1), some (.int a2), none]) (st' := [.int a2, .ref a0, .ref a0]) (sg := [(.aload_n 0, 0), (.aload_n 0, 0), (.iload_n 2, 0)]) (lSa_ok dd5) rfl ?_
    obtain ⟨_, o12, e11, m13, h⟩ := gOb_inv h
    refine Y.callI (yC.Vi (b := a0) (As := [.int a2]) (st := [.ref a0]) (r := ("PartlisterModel", T_M, 9)) hV.1 cb_M_isNoKey lk_M_160 in_M_isNoKey rfl se_M_isNoKey (lIa_ok dd6) rfl rfl (Nat.le_of_ble_eq_true rfl) (by decide) e11 m13) (k_M_isNoKey hV G9 a0 a2) h (fun v15 G14 _ h => ?_)
    refine Y.blk (pc' := 20) (L' := [some (.ref a0), some (.int a1), some (.int a2), none]) (st' := [.int (nI 2), .int v15, .ref a0]) (sg := [(.iconst 2, nI 2)]) (lSa_ok dd7) rfl ?_
    obtain ⟨_, o17, e16, m18, h⟩ := gOb_inv h
    refine Y.callI (yC.Vi (b := a0) (As := [.int v15, .int (nI 2)]) (st := []) (r := ("PartlisterModel", T_M, 9)) hV.1 cb_M_refuse lk_M_36 in_M_refuse rfl se_M_refuse (lIa_ok dd8) rfl rfl (Nat.le_of_ble_eq_true rfl) (by decide) e16 m18) (k_M_refuse hV G14 a0 v15 (nI 2)) h (fun v20 G19 _ h => ?_)
    refine Y.if_eq (off := 5) (tgt := 28) (lIa_ok dd9) (by decide) h (fun c50 h => ?_) (fun c50 h => ?_)
    · refine Y.blk (pc' := 29) (L' := [some (.ref a0), some (.int a1), some (.int a2), none]) (st' := [.ref a0]) (sg := [(.aload_n 0, 0)]) (lSa_ok dd10) rfl ?_
      refine Y.getA fl_M_24 (lIa_ok dd11) h (fun v21 h => ?_)
      refine Y.blk (pc' := 33) (L' := [some (.ref a0), some (.int a1), some (.int a2), none]) (st' := [.int a1, .ref v21]) (sg := [(.iload_n 1, 0)]) (lSa_ok dd12) rfl ?_
      refine Y.aald (t0 := 5) (lIa_ok dd13) rfl h (fun h => ?_) (fun v22 h => ?_)
      · refine Y.blk (pc' := 36) (L' := [some (.ref a0), some (.int a1), some (.int a2), some (.null)]) (st' := [.null]) (sg := [(.astore_n 3, 0), (.aload_n 3, 0)]) (lSa_ok dd14) rfl ?_
        cases h
      · refine Y.blk (pc' := 36) (L' := [some (.ref a0), some (.int a1), some (.int a2), some (.ref v22)]) (st' := [.ref v22]) (sg := [(.astore_n 3, 0), (.aload_n 3, 0)]) (lSa_ok dd14) rfl ?_
        refine Y.getI fl_M_99 (lIa_ok dd15) h (fun v23 h => ?_)
        refine Y.if_eq (off := 10) (tgt := 49) (lIa_ok dd16) (by decide) h (fun c49 h => ?_) (fun c49 h => ?_)
        · refine Y.blk (pc' := 50) (L' := [some (.ref a0), some (.int a1), some (.int a2), some (.ref v22)]) (st' := [.ref v22]) (sg := [(.aload_n 3, 0)]) (lSa_ok dd17) rfl ?_
          refine Y.getI fl_M_220 (lIa_ok dd18) h (fun v24 h => ?_)
          refine Y.blk (pc' := 54) (L' := [some (.ref a0), some (.int a1), some (.int a2), some (.ref v22)]) (st' := [.int (-1), .int v24]) (sg := [(.iconst (-1), -1)]) (lSa_ok dd19) rfl ?_
          refine Y.ic_ne (off := 10) (tgt := 64) (lIa_ok dd20) (by decide) h (fun c43 h => ?_) (fun c43 h => ?_)
          · refine Y.blk (pc' := 60) (L' := [some (.ref a0), some (.int a1), some (.int a2), some (.ref v22)]) (st' := [.int (-7), .ref a0]) (sg := [(.aload_n 0, 0), (.bipush (-7), -7)]) (lSa_ok dd21) rfl ?_
            obtain ⟨_, o26, e25, m27, h⟩ := gOb_inv h
            refine Y.callI (yC.Vi (b := a0) (As := [.int (-7)]) (st := []) (r := ("PartlisterModel", T_M, 9)) hV.1 cb_M_fault lk_M_217 in_M_fault rfl se_M_fault (lIa_ok dd22) rfl rfl (Nat.le_of_ble_eq_true rfl) (by decide) e25 m27) (k_M_fault hV G19 a0 (-7)) h (fun v29 G28 _ h => ?_)
            exact Y.iret rfl (lIa_ok dd23) h
          · refine Y.blk (pc' := 66) (L' := [some (.ref a0), some (.int a1), some (.int a2), some (.ref v22)]) (st' := [.ref v22, .ref a0]) (sg := [(.aload_n 0, 0), (.aload_n 3, 0)]) (lSa_ok dd24) rfl ?_
            refine Y.getI fl_M_89 (lIa_ok dd25) h (fun v30 h => ?_)
            refine Y.blk (pc' := 70) (L' := [some (.ref a0), some (.int a1), some (.int a2), some (.ref v22)]) (st' := [.ref v22, .int v30, .ref a0]) (sg := [(.aload_n 3, 0)]) (lSa_ok dd26) rfl ?_
            refine Y.getI fl_M_220 (lIa_ok dd27) h (fun v31 h => ?_)
            refine Y.blk (pc' := 75) (L' := [some (.ref a0), some (.int a1), some (.int a2), some (.ref v22)]) (st' := [.int a2, .ref a0, .int v31, .int v30, .ref a0]) (sg := [(.aload_n 0, 0), (.iload_n 2, 0)]) (lSa_ok dd28) rfl ?_
            obtain ⟨_, o33, e32, m34, h⟩ := gOb_inv h
            refine Y.callA (yC.Vi (b := a0) (As := [.int a2]) (st := [.int v31, .int v30, .ref a0]) (r := ("PartlisterModel", T_M, 9)) hV.1 cb_M_make lk_M_120 in_M_make rfl se_M_make (lIa_ok dd29) rfl rfl (Nat.le_of_ble_eq_true rfl) (by decide) e32 m34) (k_M_make hV G19 a0 a2) h (fun v36 G35 _ h => ?_)
            obtain ⟨_, o38, e37, m39, h⟩ := gOb_inv h
            refine Y.callA (yC.Vi (b := a0) (As := [.int v30, .int v31, .ref v36]) (st := []) (r := ("PartlisterModel", T_M, 9)) hV.1 cb_M_write lk_M_150 in_M_write rfl se_M_write (lIa_ok dd30) rfl rfl (Nat.le_of_ble_eq_true rfl) (by decide) e37 m39) (k_M_write hV G35 a0 v30 v31 v36) h (fun v41 G40 _ h => ?_)
            refine Y.blk (pc' := 83) (L' := [some (.ref a0), some (.int a1), some (.int a2), some (.ref v22)]) (st' := [.ref a0]) (sg := [(.pop, 0), (.aload_n 0, 0)]) (lSa_ok dd31) rfl ?_
            refine Y.getI fl_M_76 (lIa_ok dd32) h (fun v42 h => ?_)
            refine Y.blk (pc' := 88) (L' := [some (.ref a0), some (.int a1), some (.int a2), some (.ref v22)]) (st' := [.int (v42 - (nI 1))]) (sg := [(.iconst 1, nI 1), (.isub, 0)]) (lSa_ok dd33) rfl ?_
            exact Y.iret rfl (lIa_ok dd34) h
        · refine Y.blk (pc' := 45) (L' := [some (.ref a0), some (.int a1), some (.int a2), some (.ref v22)]) (st' := [.int (-9), .ref a0]) (sg := [(.aload_n 0, 0), (.bipush (-9), -9)]) (lSa_ok dd35) rfl ?_
          obtain ⟨_, o45, e44, m46, h⟩ := gOb_inv h
          refine Y.callI (yC.Vi (b := a0) (As := [.int (-9)]) (st := []) (r := ("PartlisterModel", T_M, 9)) hV.1 cb_M_fault lk_M_217 in_M_fault rfl se_M_fault (lIa_ok dd36) rfl rfl (Nat.le_of_ble_eq_true rfl) (by decide) e44 m46) (k_M_fault hV G19 a0 (-9)) h (fun v48 G47 _ h => ?_)
          exact Y.iret rfl (lIa_ok dd37) h
    · refine Y.blk (pc' := 27) (L' := [some (.ref a0), some (.int a1), some (.int a2), none]) (st' := [.int (nI 0)]) (sg := [(.iconst 0, nI 0)]) (lSa_ok dd38) rfl ?_
      exact Y.iret rfl (lIa_ok dd39) h
  · refine Y.blk (pc' := 27) (L' := [some (.ref a0), some (.int a1), some (.int a2), none]) (st' := [.int (nI 0)]) (sg := [(.iconst 0, nI 0)]) (lSa_ok dd38) rfl ?_
    exact Y.iret rfl (lIa_ok dd39) h

def f_M_remove (G : gH) (a0 : Nat) (a1 : Int32) (a2 : Int32) : gR :=
  gOb G a0 6 fun o2 => bI (f_M_isNoList G a0 a1) fun v5 G4 => gOb G4 a0 6 fun o7 => bI (f_M_start G4 a0 v5 (nI 1)) fun v10 G9 => if v10 = 0 then (gOb G9 a0 6 fun o12 => bI (f_M_isNoKey G9 a0 a2) fun v15 G14 => gOb G14 a0 6 fun o17 => bI (f_M_refuse G14 a0 v15 (nI 2)) fun v20 G19 => if v20 = 0 then (gOb G19 a0 6 fun o22 => bI (f_M_firstOf G19 a0 a1 a2) fun v25 G24 => if v25 = (-1) then rZ (nI 0) G24
      else gOb G24 a0 6 fun o27 => bA (f_M_take G24 a0 a1 v25) fun v30 G29 => gOb G29 a0 6 fun o32 => bV (f_M_change G29 a0 a1 (-1) (-1)) fun G34 => rZ (nI 1) G34)
    else rZ (nI 0) G19)
  else rZ (nI 0) G9
theorem k_M_remove {l : Launch} {D : va_G} {B : Nat} {O : State → Heap → Prop} (hV : zG l D B O) (G : gH) (a0 : Nat) (a1 : Int32) (a2 : Int32) : gMet (zVm l D B O) m_M_remove 14 [.ref a0, .int a1, .int a2] G (f_M_remove G a0 a1 a2) := by
  have hdd : lSa m_M_remove 0 [(.aload_n 0, 0), (.aload_n 0, 0), (.iload_n 1, 0)] = true ∧ lIa m_M_remove 3 (.invokevirtual 110) 3 = true ∧ lSa m_M_remove 6 [(.iconst 1, nI 1)] = true ∧ lIa m_M_remove 7 (.invokevirtual 114) 3 = true ∧ lIa m_M_remove 10 (.ifCond .ne 16) 3 = true ∧ lSa m_M_remove 13 [(.aload_n 0, 0), (.aload_n 0, 0), (.iload_n 2, 0)] = true ∧ lIa m_M_remove 16 (.invokevirtual 160) 3 = true ∧ lSa m_M_remove 19 [(.iconst 2, nI 2)] = true ∧ lIa m_M_remove 20 (.invokevirtual 36) 3 = true ∧ lIa m_M_remove 23 (.ifCond .eq 5) 3 = true ∧ lSa m_M_remove 28 [(.aload_n 0, 0), (.iload_n 1, 0), (.iload_n 2, 0)] = true ∧ lIa m_M_remove 31 (.invokevirtual 163) 3 = true ∧ lSa m_M_remove 34 [(.istore_n 3, 0), (.iload_n 3, 0), (.iconst (-1), -1)] = true ∧ lIa m_M_remove 37 (.if_icmp .ne 5) 3 = true ∧ lSa m_M_remove 40 [(.iconst 0, nI 0)] = true ∧ lIa m_M_remove 41 (.ireturn) 1 = true ∧ lSa m_M_remove 42 [(.aload_n 0, 0), (.iload_n 1, 0), (.iload_n 3, 0)] = true ∧ lIa m_M_remove 45 (.invokevirtual 157) 3 = true ∧ lSa m_M_remove 48 [(.pop, 0), (.aload_n 0, 0), (.iload_n 1, 0), (.iconst (-1), -1), (.iconst (-1), -1)] = true ∧ lIa m_M_remove 53 (.invokevirtual 128) 3 = true ∧ lSa m_M_remove 56 [(.iconst 1, nI 1)] = true ∧ lIa m_M_remove 57 (.ireturn) 1 = true ∧ lSa m_M_remove 26 [(.iconst 0, nI 0)] = true ∧ lIa m_M_remove 27 (.ireturn) 1 = true := by decide +kernel
  refine lA8 hdd (fun dd0 dd1 dd2 dd3 dd4 dd5 dd6 dd7 hdd => ?_)
  refine lA8 hdd (fun dd8 dd9 dd10 dd11 dd12 dd13 dd14 dd15 hdd => ?_)
  obtain ⟨dd16, dd17, dd18, dd19, dd20, dd21, dd22, dd23⟩ := hdd
  refine gMet.of (by decide +kernel) (Nat.le_of_ble_eq_true rfl) [some (.ref a0), some (.int a1), some (.int a2), none] (fun ls h => zEn_ok (n := 4) h) ?_
  intro o Gf h
  unfold f_M_remove at h
  refine Y.blk (pc' := 3) (L' := [some (.ref a0), some (.int a1), some (.int a2), none]) (st' := [.int a1, .ref a0, .ref a0]) (sg := [(.aload_n 0, 0), (.aload_n 0, 0), (.iload_n 1, 0)]) (lSa_ok dd0) rfl ?_
  obtain ⟨_, o2, e1, m3, h⟩ := gOb_inv h
  refine Y.callI (yC.Vi (b := a0) (As := [.int a1]) (st := [.ref a0]) (r := ("PartlisterModel", T_M, 9)) hV.1 cb_M_isNoList lk_M_110 in_M_isNoList rfl se_M_isNoList (lIa_ok dd1) rfl rfl (Nat.le_of_ble_eq_true rfl) (by decide) e1 m3) (k_M_isNoList hV G a0 a1) h (fun v5 G4 _ h => ?_)
  refine Y.blk (pc' := 7) (L' := [some (.ref a0), some (.int a1), some (.int a2), none]) (st' := [.int (nI 1), .int v5, .ref a0]) (sg := [(.iconst 1, nI 1)]) (lSa_ok dd2) rfl ?_
  obtain ⟨_, o7, e6, m8, h⟩ := gOb_inv h
  refine Y.callI (yC.Vi (b := a0) (As := [.int v5, .int (nI 1)]) (st := []) (r := ("PartlisterModel", T_M, 9)) hV.1 cb_M_start lk_M_114 in_M_start rfl se_M_start (lIa_ok dd3) rfl rfl (Nat.le_of_ble_eq_true rfl) (by decide) e6 m8) (k_M_start hV G4 a0 v5 (nI 1)) h (fun v10 G9 _ h => ?_)
  refine Y.if_ne (off := 16) (tgt := 26) (lIa_ok dd4) (by decide) h (fun c37 h => ?_) (fun c37 h => ?_)
  · refine Y.blk (pc' := 16) (L' := [some (.ref a0), some (.int a1), some (.int a2), none]) (st' := [.int a2, .ref a0, .ref a0]) (sg := [(.aload_n 0, 0), (.aload_n 0, 0), (.iload_n 2, 0)]) (lSa_ok dd5) rfl ?_
    obtain ⟨_, o12, e11, m13, h⟩ := gOb_inv h
    refine Y.callI (yC.Vi (b := a0) (As := [.int a2]) (st := [.ref a0]) (r := ("PartlisterModel", T_M, 9)) hV.1 cb_M_isNoKey lk_M_160 in_M_isNoKey rfl se_M_isNoKey (lIa_ok dd6) rfl rfl (Nat.le_of_ble_eq_true rfl) (by decide) e11 m13) (k_M_isNoKey hV G9 a0 a2) h (fun v15 G14 _ h => ?_)
    refine Y.blk (pc' := 20) (L' := [some (.ref a0), some (.int a1), some (.int a2), none]) (st' := [.int (nI 2), .int v15, .ref a0]) (sg := [(.iconst 2, nI 2)]) (lSa_ok dd7) rfl ?_
    obtain ⟨_, o17, e16, m18, h⟩ := gOb_inv h
    refine Y.callI (yC.Vi (b := a0) (As := [.int v15, .int (nI 2)]) (st := []) (r := ("PartlisterModel", T_M, 9)) hV.1 cb_M_refuse lk_M_36 in_M_refuse rfl se_M_refuse (lIa_ok dd8) rfl rfl (Nat.le_of_ble_eq_true rfl) (by decide) e16 m18) (k_M_refuse hV G14 a0 v15 (nI 2)) h (fun v20 G19 _ h => ?_)
    refine Y.if_eq (off := 5) (tgt := 28) (lIa_ok dd9) (by decide) h (fun c36 h => ?_) (fun c36 h => ?_)
    · refine Y.blk (pc' := 31) (L' := [some (.ref a0), some (.int a1), some (.int a2), none]) (st' := [.int a2, .int a1, .ref a0]) (sg := [(.aload_n 0, 0), (.iload_n 1, 0), (.iload_n 2, 0)]) (lSa_ok dd10) rfl ?_
      obtain ⟨_, o22, e21, m23, h⟩ := gOb_inv h
      refine Y.callI (yC.Vi (b := a0) (As := [.int a1, .int a2]) (st := []) (r := ("PartlisterModel", T_M, 9)) hV.1 cb_M_firstOf lk_M_163 in_M_firstOf rfl se_M_firstOf (lIa_ok dd11) rfl rfl (Nat.le_of_ble_eq_true rfl) (by decide) e21 m23) (k_M_firstOf hV G19 a0 a1 a2) h (fun v25 G24 _ h => ?_)
      refine Y.blk (pc' := 37) (L' := [some (.ref a0), some (.int a1), some (.int a2), some (.int v25)]) (st' := [.int (-1), .int v25]) (sg := [(.istore_n 3, 0), (.iload_n 3, 0), (.iconst (-1), -1)]) (lSa_ok dd12) rfl ?_
      refine Y.ic_ne (off := 5) (tgt := 42) (lIa_ok dd13) (by decide) h (fun c35 h => ?_) (fun c35 h => ?_)
      · refine Y.blk (pc' := 41) (L' := [some (.ref a0), some (.int a1), some (.int a2), some (.int v25)]) (st' := [.int (nI 0)]) (sg := [(.iconst 0, nI 0)]) (lSa_ok dd14) rfl ?_
        exact Y.zret rfl (lIa_ok dd15) h
      · refine Y.blk (pc' := 45) (L' := [some (.ref a0), some (.int a1), some (.int a2), some (.int v25)]) (st' := [.int v25, .int a1, .ref a0]) (sg := [(.aload_n 0, 0), (.iload_n 1, 0), (.iload_n 3, 0)]) (lSa_ok dd16) rfl ?_
        obtain ⟨_, o27, e26, m28, h⟩ := gOb_inv h
        refine Y.callA (yC.Vi (b := a0) (As := [.int a1, .int v25]) (st := []) (r := ("PartlisterModel", T_M, 9)) hV.1 cb_M_take lk_M_157 in_M_take rfl se_M_take (lIa_ok dd17) rfl rfl (Nat.le_of_ble_eq_true rfl) (by decide) e26 m28) (k_M_take hV G24 a0 a1 v25) h (fun v30 G29 _ h => ?_)
        refine Y.blk (pc' := 53) (L' := [some (.ref a0), some (.int a1), some (.int a2), some (.int v25)]) (st' := [.int (-1), .int (-1), .int a1, .ref a0]) (sg := [(.pop, 0), (.aload_n 0, 0), (.iload_n 1, 0), (.iconst (-1), -1), (.iconst (-1), -1)]) (lSa_ok dd18) rfl ?_
        obtain ⟨_, o32, e31, m33, h⟩ := gOb_inv h
        refine Y.callN (yC.Vi (b := a0) (As := [.int a1, .int (-1), .int (-1)]) (st := []) (r := ("PartlisterModel", T_M, 9)) hV.1 cb_M_change lk_M_128 in_M_change rfl se_M_change (lIa_ok dd19) rfl rfl (Nat.le_of_ble_eq_true rfl) (by decide) e31 m33) (k_M_change hV G29 a0 a1 (-1) (-1)) h (fun G34 _ h => ?_)
        refine Y.blk (pc' := 57) (L' := [some (.ref a0), some (.int a1), some (.int a2), some (.int v25)]) (st' := [.int (nI 1)]) (sg := [(.iconst 1, nI 1)]) (lSa_ok dd20) rfl ?_
        exact Y.zret rfl (lIa_ok dd21) h
    · refine Y.blk (pc' := 27) (L' := [some (.ref a0), some (.int a1), some (.int a2), none]) (st' := [.int (nI 0)]) (sg := [(.iconst 0, nI 0)]) (lSa_ok dd22) rfl ?_
      exact Y.zret rfl (lIa_ok dd23) h
  · refine Y.blk (pc' := 27) (L' := [some (.ref a0), some (.int a1), some (.int a2), none]) (st' := [.int (nI 0)]) (sg := [(.iconst 0, nI 0)]) (lSa_ok dd22) rfl ?_
    exact Y.zret rfl (lIa_ok dd23) h

def f_M_takeAll_L11 (K47 : gH → Nat → Int32 → Int32 → gR) : Nat → gH → Nat → Int32 → Nat → Int32 → Int32 → gR
  | 0, _, _, _, _, _, _ => none
  | n + 1, G, x0, x1, x2, x3, x4 =>
    if x4 < 0 then K47 G x0 x1 x3
    else gOb G x0 6 fun o7 => bA (f_M_at G x0 x1 x4) fun v10 G9 => gLd G9 v10 100 (nI 0) fun v11 => gLd G9 x2 102 v11 fun v12 => if v12 = 0 then f_M_takeAll_L11 K47 n G9 x0 x1 x2 x3 (x4 + (-1))
      else gOb G9 x0 6 fun o14 => bA (f_M_take G9 x0 x1 x4) fun v17 G16 => f_M_takeAll_L11 K47 n G16 x0 x1 x2 (x3 + (nI 1)) (x4 + (-1))
def f_M_takeAll (G : gH) (a0 : Nat) (a1 : Int32) (a2 : Nat) : gR :=
  gOb G a0 6 fun o2 => bI (f_M_length G a0 a1) fun v5 G4 => f_M_takeAll_L11 (fun G23 x20 x21 x22 => gOb G23 x20 6 fun o25 => bV (f_M_change G23 x20 x21 (-x22) (-1)) fun G27 => rI x22 G27) zFu G4 a0 a1 a2 (nI 0) (v5 - (nI 1))
theorem k_M_takeAll_L11 {l : Launch} {D : va_G} {B : Nat} {O : State → Heap → Prop} (hV : zG l D B O) {o : gO} {Gf : gH} (K47 : gH → Nat → Int32 → Int32 → gR) (hK47 : ∀ (G : gH) (x0 : Nat) (x1 : Int32) (x3 : Int32), K47 G x0 x1 x3 = some (o, Gf) → Y (zVm l D B O) m_M_takeAll 14 o Gf 47 [some (.ref x0), some (.int x1), none, some (.int x3), none] [] G) : ∀ (n : Nat) (G : gH) (x0 : Nat) (x1 : Int32) (x2 : Nat) (x3 : Int32) (x4 : Int32), f_M_takeAll_L11 K47 n G x0 x1 x2 x3 x4 = some (o, Gf) → Y (zVm l D B O) m_M_takeAll 14 o Gf 11 [some (.ref x0), some (.int x1), some (.ref x2), some (.int x3), some (.int x4)] [] G := by
  have hdd : lSa m_M_takeAll 11 [(.iload 4, 0)] = true ∧ lIa m_M_takeAll 13 (.ifCond .lt 34) 3 = true ∧ lSa m_M_takeAll 16 [(.aload_n 2, 0), (.aload_n 0, 0), (.iload_n 1, 0), (.iload 4, 0)] = true ∧ lIa m_M_takeAll 21 (.invokevirtual 132) 3 = true ∧ lSa m_M_takeAll 24 [(.iconst 0, nI 0)] = true ∧ lIa m_M_takeAll 25 (.iaload) 1 = true ∧ lIa m_M_takeAll 26 (.baload) 1 = true ∧ lIa m_M_takeAll 27 (.ifCond .eq 14) 3 = true ∧ lSa m_M_takeAll 41 [(.iinc 4 (-1), -1)] = true ∧ lIa m_M_takeAll 44 (.goto (-33)) 3 = true ∧ lSa m_M_takeAll 30 [(.aload_n 0, 0), (.iload_n 1, 0), (.iload 4, 0)] = true ∧ lIa m_M_takeAll 34 (.invokevirtual 157) 3 = true ∧ lSa m_M_takeAll 37 [(.pop, 0), (.iinc 3 1, nI 1), (.iinc 4 (-1), -1)] = true := by decide +kernel
  refine lA8 hdd (fun dd0 dd1 dd2 dd3 dd4 dd5 dd6 dd7 hdd => ?_)
  obtain ⟨dd8, dd9, dd10, dd11, dd12⟩ := hdd
  intro n
  induction n with
  | zero => intro G x0 x1 x2 x3 x4 h; cases h
  | succ n ih =>
    intro G x0 x1 x2 x3 x4 h
    unfold f_M_takeAll_L11 at h
    refine Y.blk (pc' := 13) (L' := [some (.ref x0), some (.int x1), some (.ref x2), some (.int x3), some (.int x4)]) (st' := [.int x4]) (sg := [(.iload 4, 0)]) (lSa_ok dd0) rfl ?_
    refine Y.if_lt (off := 34) (tgt := 47) (lIa_ok dd1) (by decide) h (fun c19 h => ?_) (fun c19 h => ?_)
    · refine Y.less (L' := [some (.ref x0), some (.int x1), none, some (.int x3), none]) (zLe_some (zLe_some (zLe_none (zLe_some (zLe_none (zLe_nil)))))) ?_
      exact hK47 G x0 x1 x3 h
    · refine Y.blk (pc' := 21) (L' := [some (.ref x0), some (.int x1), some (.ref x2), some (.int x3), some (.int x4)]) (st' := [.int x4, .int x1, .ref x0, .ref x2]) (sg := [(.aload_n 2, 0), (.aload_n 0, 0), (.iload_n 1, 0), (.iload 4, 0)]) (lSa_ok dd2) rfl ?_
      obtain ⟨_, o7, e6, m8, h⟩ := gOb_inv h
      refine Y.callA (yC.Vi (b := x0) (As := [.int x1, .int x4]) (st := [.ref x2]) (r := ("PartlisterModel", T_M, 9)) hV.1 cb_M_at lk_M_132 in_M_at rfl se_M_at (lIa_ok dd3) rfl rfl (Nat.le_of_ble_eq_true rfl) (by decide) e6 m8) (k_M_at hV G x0 x1 x4) h (fun v10 G9 _ h => ?_)
      refine Y.blk (pc' := 25) (L' := [some (.ref x0), some (.int x1), some (.ref x2), some (.int x3), some (.int x4)]) (st' := [.int (nI 0), .ref v10, .ref x2]) (sg := [(.iconst 0, nI 0)]) (lSa_ok dd4) rfl ?_
      refine Y.iald (t0 := 0) (lIa_ok dd5) rfl h (fun v11 h => ?_)
      refine Y.zald (t0 := 2) (lIa_ok dd6) rfl h (fun v12 h => ?_)
      refine Y.if_eq (off := 14) (tgt := 41) (lIa_ok dd7) (by decide) h (fun c18 h => ?_) (fun c18 h => ?_)
      · refine Y.blk (pc' := 44) (L' := [some (.ref x0), some (.int x1), some (.ref x2), some (.int x3), some (.int (x4 + (-1)))]) (st' := []) (sg := [(.iinc 4 (-1), -1)]) (lSa_ok dd8) rfl ?_
        refine Y.goto (off := -33) (tgt := 11) (lIa_ok dd9) (by decide) ?_
        exact ih G9 x0 x1 x2 x3 (x4 + (-1)) h
      · refine Y.blk (pc' := 34) (L' := [some (.ref x0), some (.int x1), some (.ref x2), some (.int x3), some (.int x4)]) (st' := [.int x4, .int x1, .ref x0]) (sg := [(.aload_n 0, 0), (.iload_n 1, 0), (.iload 4, 0)]) (lSa_ok dd10) rfl ?_
        obtain ⟨_, o14, e13, m15, h⟩ := gOb_inv h
        refine Y.callA (yC.Vi (b := x0) (As := [.int x1, .int x4]) (st := []) (r := ("PartlisterModel", T_M, 9)) hV.1 cb_M_take lk_M_157 in_M_take rfl se_M_take (lIa_ok dd11) rfl rfl (Nat.le_of_ble_eq_true rfl) (by decide) e13 m15) (k_M_take hV G9 x0 x1 x4) h (fun v17 G16 _ h => ?_)
        refine Y.blk (pc' := 44) (L' := [some (.ref x0), some (.int x1), some (.ref x2), some (.int (x3 + (nI 1))), some (.int (x4 + (-1)))]) (st' := []) (sg := [(.pop, 0), (.iinc 3 1, nI 1), (.iinc 4 (-1), -1)]) (lSa_ok dd12) rfl ?_
        refine Y.goto (off := -33) (tgt := 11) (lIa_ok dd9) (by decide) ?_
        exact ih G16 x0 x1 x2 (x3 + (nI 1)) (x4 + (-1)) h
theorem k_M_takeAll {l : Launch} {D : va_G} {B : Nat} {O : State → Heap → Prop} (hV : zG l D B O) (G : gH) (a0 : Nat) (a1 : Int32) (a2 : Nat) : gMet (zVm l D B O) m_M_takeAll 14 [.ref a0, .int a1, .ref a2] G (f_M_takeAll G a0 a1 a2) := by
  have hdd : lSa m_M_takeAll 0 [(.iconst 0, nI 0), (.istore_n 3, 0), (.aload_n 0, 0), (.iload_n 1, 0)] = true ∧ lIa m_M_takeAll 4 (.invokevirtual 74) 3 = true ∧ lSa m_M_takeAll 7 [(.iconst 1, nI 1), (.isub, 0), (.istore 4, 0)] = true ∧ lSa m_M_takeAll 47 [(.aload_n 0, 0), (.iload_n 1, 0), (.iload_n 3, 0), (.ineg, 0), (.iconst (-1), -1)] = true ∧ lIa m_M_takeAll 52 (.invokevirtual 128) 3 = true ∧ lSa m_M_takeAll 55 [(.iload_n 3, 0)] = true ∧ lIa m_M_takeAll 56 (.ireturn) 1 = true := by decide +kernel
  obtain ⟨dd0, dd1, dd2, dd3, dd4, dd5, dd6⟩ := hdd
  refine gMet.of (by decide +kernel) (Nat.le_of_ble_eq_true rfl) [some (.ref a0), some (.int a1), some (.ref a2), none, none] (fun ls h => zEn_ok (n := 5) h) ?_
  intro o Gf h
  unfold f_M_takeAll at h
  refine Y.blk (pc' := 4) (L' := [some (.ref a0), some (.int a1), some (.ref a2), some (.int (nI 0)), none]) (st' := [.int a1, .ref a0]) (sg := [(.iconst 0, nI 0), (.istore_n 3, 0), (.aload_n 0, 0), (.iload_n 1, 0)]) (lSa_ok dd0) rfl ?_
  obtain ⟨_, o2, e1, m3, h⟩ := gOb_inv h
  refine Y.callI (yC.Vi (b := a0) (As := [.int a1]) (st := []) (r := ("PartlisterModel", T_M, 9)) hV.1 cb_M_length lk_M_74 in_M_length rfl se_M_length (lIa_ok dd1) rfl rfl (Nat.le_of_ble_eq_true rfl) (by decide) e1 m3) (k_M_length hV G a0 a1) h (fun v5 G4 _ h => ?_)
  refine Y.blk (pc' := 11) (L' := [some (.ref a0), some (.int a1), some (.ref a2), some (.int (nI 0)), some (.int (v5 - (nI 1)))]) (st' := []) (sg := [(.iconst 1, nI 1), (.isub, 0), (.istore 4, 0)]) (lSa_ok dd2) rfl ?_
  refine k_M_takeAll_L11 hV _ ?_  zFu G4 a0 a1 a2 (nI 0) (v5 - (nI 1)) h
  · intro G23 x20 x21 x22 h
    refine Y.blk (pc' := 52) (L' := [some (.ref x20), some (.int x21), none, some (.int x22), none]) (st' := [.int (-1), .int (-x22), .int x21, .ref x20]) (sg := [(.aload_n 0, 0), (.iload_n 1, 0), (.iload_n 3, 0), (.ineg, 0), (.iconst (-1), -1)]) (lSa_ok dd3) rfl ?_
    obtain ⟨_, o25, e24, m26, h⟩ := gOb_inv h
    refine Y.callN (yC.Vi (b := x20) (As := [.int x21, .int (-x22), .int (-1)]) (st := []) (r := ("PartlisterModel", T_M, 9)) hV.1 cb_M_change lk_M_128 in_M_change rfl se_M_change (lIa_ok dd4) rfl rfl (Nat.le_of_ble_eq_true rfl) (by decide) e24 m26) (k_M_change hV G23 x20 x21 (-x22) (-1)) h (fun G27 _ h => ?_)
    refine Y.blk (pc' := 56) (L' := [some (.ref x20), some (.int x21), none, some (.int x22), none]) (st' := [.int x22]) (sg := [(.iload_n 3, 0)]) (lSa_ok dd5) rfl ?_
    exact Y.iret rfl (lIa_ok dd6) h

def f_M_removeAll (G : gH) (a0 : Nat) (a1 : Int32) (a2 : Int32) : gR :=
  gOb G a0 6 fun o2 => bI (f_M_areOne G a0 a1 a2) fun v5 G4 => if v5 = 0 then gOb G4 a0 6 fun o7 => bA (f_M_keys G4 a0 a2 (nI 1)) fun v10 G9 => gOb G9 a0 6 fun o12 => bI (f_M_takeAll G9 a0 a1 v10) fun v15 G14 => rI v15 G14
  else rI (nI 0) G4
theorem k_M_removeAll {l : Launch} {D : va_G} {B : Nat} {O : State → Heap → Prop} (hV : zG l D B O) (G : gH) (a0 : Nat) (a1 : Int32) (a2 : Int32) : gMet (zVm l D B O) m_M_removeAll 15 [.ref a0, .int a1, .int a2] G (f_M_removeAll G a0 a1 a2) := by
  have hdd : lSa m_M_removeAll 0 [(.aload_n 0, 0), (.iload_n 1, 0), (.iload_n 2, 0)] = true ∧ lIa m_M_removeAll 3 (.invokevirtual 166) 3 = true ∧ lIa m_M_removeAll 6 (.ifCond .eq 7) 3 = true ∧ lSa m_M_removeAll 13 [(.aload_n 0, 0), (.iload_n 1, 0), (.aload_n 0, 0), (.iload_n 2, 0), (.iconst 1, nI 1)] = true ∧ lIa m_M_removeAll 18 (.invokevirtual 169) 3 = true ∧ lIa m_M_removeAll 21 (.invokevirtual 173) 3 = true ∧ lIa m_M_removeAll 24 (.ireturn) 1 = true ∧ lSa m_M_removeAll 9 [(.iconst 0, nI 0)] = true ∧ lIa m_M_removeAll 10 (.goto 14) 3 = true := by decide +kernel
  refine lA8 hdd (fun dd0 dd1 dd2 dd3 dd4 dd5 dd6 dd7 hdd => ?_)
  have dd8 := hdd
  refine gMet.of (by decide +kernel) (Nat.le_of_ble_eq_true rfl) [some (.ref a0), some (.int a1), some (.int a2)] (fun ls h => zEn_ok (n := 3) h) ?_
  intro o Gf h
  unfold f_M_removeAll at h
  refine Y.blk (pc' := 3) (L' := [some (.ref a0), some (.int a1), some (.int a2)]) (st' := [.int a2, .int a1, .ref a0]) (sg := [(.aload_n 0, 0), (.iload_n 1, 0), (.iload_n 2, 0)]) (lSa_ok dd0) rfl ?_
  obtain ⟨_, o2, e1, m3, h⟩ := gOb_inv h
  refine Y.callI (yC.Vi (b := a0) (As := [.int a1, .int a2]) (st := []) (r := ("PartlisterModel", T_M, 9)) hV.1 cb_M_areOne lk_M_166 in_M_areOne rfl se_M_areOne (lIa_ok dd1) rfl rfl (Nat.le_of_ble_eq_true rfl) (by decide) e1 m3) (k_M_areOne hV G a0 a1 a2) h (fun v5 G4 _ h => ?_)
  refine Y.if_eq (off := 7) (tgt := 13) (lIa_ok dd2) (by decide) h (fun c16 h => ?_) (fun c16 h => ?_)
  · refine Y.blk (pc' := 18) (L' := [some (.ref a0), some (.int a1), some (.int a2)]) (st' := [.int (nI 1), .int a2, .ref a0, .int a1, .ref a0]) (sg := [(.aload_n 0, 0), (.iload_n 1, 0), (.aload_n 0, 0), (.iload_n 2, 0), (.iconst 1, nI 1)]) (lSa_ok dd3) rfl ?_
    obtain ⟨_, o7, e6, m8, h⟩ := gOb_inv h
    refine Y.callA (yC.Vi (b := a0) (As := [.int a2, .int (nI 1)]) (st := [.int a1, .ref a0]) (r := ("PartlisterModel", T_M, 9)) hV.1 cb_M_keys lk_M_169 in_M_keys rfl se_M_keys (lIa_ok dd4) rfl rfl (Nat.le_of_ble_eq_true rfl) (by decide) e6 m8) (k_M_keys hV G4 a0 a2 (nI 1)) h (fun v10 G9 _ h => ?_)
    obtain ⟨_, o12, e11, m13, h⟩ := gOb_inv h
    refine Y.callI (yC.Vi (b := a0) (As := [.int a1, .ref v10]) (st := []) (r := ("PartlisterModel", T_M, 9)) hV.1 cb_M_takeAll lk_M_173 in_M_takeAll rfl se_M_takeAll (lIa_ok dd5) rfl rfl (Nat.le_of_ble_eq_true rfl) (by decide) e11 m13) (k_M_takeAll hV G9 a0 a1 v10) h (fun v15 G14 _ h => ?_)
    exact Y.iret rfl (lIa_ok dd6) h
  · refine Y.blk (pc' := 10) (L' := [some (.ref a0), some (.int a1), some (.int a2)]) (st' := [.int (nI 0)]) (sg := [(.iconst 0, nI 0)]) (lSa_ok dd7) rfl ?_
    refine Y.goto (off := 14) (tgt := 24) (lIa_ok dd8) (by decide) ?_
    exact Y.iret rfl (lIa_ok dd6) h

def f_M_removeAt (G : gH) (a0 : Nat) (a1 : Int32) (a2 : Int32) : gR :=
  gOb G a0 6 fun o2 => bI (f_M_isNoList G a0 a1) fun v5 G4 => if v5 = 0 then (gOb G4 a0 6 fun o7 => bI (f_M_isNoPlace G4 a0 a1 a2) fun v10 G9 => if v10 = 0 then (gOb G9 a0 6 fun o12 => bI (f_M_start G9 a0 (nI 0) (nI 1)) fun v15 G14 => if v15 = 0 then gOb G14 a0 6 fun o17 => bA (f_M_take G14 a0 a1 a2) fun v20 G19 => gLd G19 v20 100 (nI 1) fun v21 => gOb G19 a0 6 fun o23 => bV (f_M_change G19 a0 a1 (-1) (-1)) fun G25 => rI v21 G25
      else rI (nI 0) G14)
    else gOb G9 a0 6 fun o28 => bI (f_M_start G9 a0 (nI 1) (nI 1)) fun v31 G30 => if v31 = 0 then gOb G30 a0 6 fun o33 => bA (f_M_take G30 a0 a1 a2) fun v36 G35 => gLd G35 v36 100 (nI 1) fun v37 => gOb G35 a0 6 fun o39 => bV (f_M_change G35 a0 a1 (-1) (-1)) fun G41 => rI v37 G41
      else rI (nI 0) G30)
  else gOb G4 a0 6 fun o45 => bI (f_M_start G4 a0 (nI 1) (nI 1)) fun v48 G47 => if v48 = 0 then gOb G47 a0 6 fun o50 => bA (f_M_take G47 a0 a1 a2) fun v53 G52 => gLd G52 v53 100 (nI 1) fun v54 => gOb G52 a0 6 fun o56 => bV (f_M_change G52 a0 a1 (-1) (-1)) fun G58 => rI v54 G58
    else rI (nI 0) G47
theorem k_M_removeAt {l : Launch} {D : va_G} {B : Nat} {O : State → Heap → Prop} (hV : zG l D B O) (G : gH) (a0 : Nat) (a1 : Int32) (a2 : Int32) : gMet (zVm l D B O) m_M_removeAt 14 [.ref a0, .int a1, .int a2] G (f_M_removeAt G a0 a1 a2) := by
  have hdd : lSa m_M_removeAt 0 [(.aload_n 0, 0), (.aload_n 0, 0), (.iload_n 1, 0)] = true ∧ lIa m_M_removeAt 3 (.invokevirtual 110) 3 = true ∧ lIa m_M_removeAt 6 (.ifCond .ne 12) 3 = true ∧ lSa m_M_removeAt 9 [(.aload_n 0, 0), (.iload_n 1, 0), (.iload_n 2, 0)] = true ∧ lIa m_M_removeAt 12 (.invokevirtual 147) 3 = true ∧ lIa m_M_removeAt 15 (.ifCond .eq 7) 3 = true ∧ lSa m_M_removeAt 22 [(.iconst 0, nI 0), (.iconst 1, nI 1)] = true ∧ lIa m_M_removeAt 24 (.invokevirtual 114) 3 = true ∧ lIa m_M_removeAt 27 (.ifCond .eq 5) 3 = true ∧ lSa m_M_removeAt 32 [(.aload_n 0, 0), (.iload_n 1, 0), (.iload_n 2, 0)] = true ∧ lIa m_M_removeAt 35 (.invokevirtual 157) 3 = true ∧ lSa m_M_removeAt 38 [(.iconst 1, nI 1)] = true ∧ lIa m_M_removeAt 39 (.iaload) 1 = true ∧ lSa m_M_removeAt 40 [(.istore_n 3, 0), (.aload_n 0, 0), (.iload_n 1, 0), (.iconst (-1), -1), (.iconst (-1), -1)] = true ∧ lIa m_M_removeAt 45 (.invokevirtual 128) 3 = true ∧ lSa m_M_removeAt 48 [(.iload_n 3, 0)] = true ∧ lIa m_M_removeAt 49 (.ireturn) 1 = true ∧ lSa m_M_removeAt 30 [(.iconst 0, nI 0)] = true ∧ lIa m_M_removeAt 31 (.ireturn) 1 = true ∧ lSa m_M_removeAt 18 [(.iconst 1, nI 1)] = true ∧ lIa m_M_removeAt 19 (.goto 4) 3 = true ∧ lSa m_M_removeAt 23 [(.iconst 1, nI 1)] = true := by decide +kernel
  refine lA8 hdd (fun dd0 dd1 dd2 dd3 dd4 dd5 dd6 dd7 hdd => ?_)
  refine lA8 hdd (fun dd8 dd9 dd10 dd11 dd12 dd13 dd14 dd15 hdd => ?_)
  obtain ⟨dd16, dd17, dd18, dd19, dd20, dd21⟩ := hdd
  refine gMet.of (by decide +kernel) (Nat.le_of_ble_eq_true rfl) [some (.ref a0), some (.int a1), some (.int a2), none] (fun ls h => zEn_ok (n := 4) h) ?_
  intro o Gf h
  unfold f_M_removeAt at h
  refine Y.blk (pc' := 3) (L' := [some (.ref a0), some (.int a1), some (.int a2), none]) (st' := [.int a1, .ref a0, .ref a0]) (sg := [(.aload_n 0, 0), (.aload_n 0, 0), (.iload_n 1, 0)]) (lSa_ok dd0) rfl ?_
  obtain ⟨_, o2, e1, m3, h⟩ := gOb_inv h
  refine Y.callI (yC.Vi (b := a0) (As := [.int a1]) (st := [.ref a0]) (r := ("PartlisterModel", T_M, 9)) hV.1 cb_M_isNoList lk_M_110 in_M_isNoList rfl se_M_isNoList (lIa_ok dd1) rfl rfl (Nat.le_of_ble_eq_true rfl) (by decide) e1 m3) (k_M_isNoList hV G a0 a1) h (fun v5 G4 _ h => ?_)
  refine Y.if_ne (off := 12) (tgt := 18) (lIa_ok dd2) (by decide) h (fun c60 h => ?_) (fun c60 h => ?_)
  · refine Y.blk (pc' := 12) (L' := [some (.ref a0), some (.int a1), some (.int a2), none]) (st' := [.int a2, .int a1, .ref a0, .ref a0]) (sg := [(.aload_n 0, 0), (.iload_n 1, 0), (.iload_n 2, 0)]) (lSa_ok dd3) rfl ?_
    obtain ⟨_, o7, e6, m8, h⟩ := gOb_inv h
    refine Y.callI (yC.Vi (b := a0) (As := [.int a1, .int a2]) (st := [.ref a0]) (r := ("PartlisterModel", T_M, 9)) hV.1 cb_M_isNoPlace lk_M_147 in_M_isNoPlace rfl se_M_isNoPlace (lIa_ok dd4) rfl rfl (Nat.le_of_ble_eq_true rfl) (by decide) e6 m8) (k_M_isNoPlace hV G4 a0 a1 a2) h (fun v10 G9 _ h => ?_)
    refine Y.if_eq (off := 7) (tgt := 22) (lIa_ok dd5) (by decide) h (fun c43 h => ?_) (fun c43 h => ?_)
    · refine Y.blk (pc' := 24) (L' := [some (.ref a0), some (.int a1), some (.int a2), none]) (st' := [.int (nI 1), .int (nI 0), .ref a0]) (sg := [(.iconst 0, nI 0), (.iconst 1, nI 1)]) (lSa_ok dd6) rfl ?_
      obtain ⟨_, o12, e11, m13, h⟩ := gOb_inv h
      refine Y.callI (yC.Vi (b := a0) (As := [.int (nI 0), .int (nI 1)]) (st := []) (r := ("PartlisterModel", T_M, 9)) hV.1 cb_M_start lk_M_114 in_M_start rfl se_M_start (lIa_ok dd7) rfl rfl (Nat.le_of_ble_eq_true rfl) (by decide) e11 m13) (k_M_start hV G9 a0 (nI 0) (nI 1)) h (fun v15 G14 _ h => ?_)
      refine Y.if_eq (off := 5) (tgt := 32) (lIa_ok dd8) (by decide) h (fun c26 h => ?_) (fun c26 h => ?_)
      · refine Y.blk (pc' := 35) (L' := [some (.ref a0), some (.int a1), some (.int a2), none]) (st' := [.int a2, .int a1, .ref a0]) (sg := [(.aload_n 0, 0), (.iload_n 1, 0), (.iload_n 2, 0)]) (lSa_ok dd9) rfl ?_
        obtain ⟨_, o17, e16, m18, h⟩ := gOb_inv h
        refine Y.callA (yC.Vi (b := a0) (As := [.int a1, .int a2]) (st := []) (r := ("PartlisterModel", T_M, 9)) hV.1 cb_M_take lk_M_157 in_M_take rfl se_M_take (lIa_ok dd10) rfl rfl (Nat.le_of_ble_eq_true rfl) (by decide) e16 m18) (k_M_take hV G14 a0 a1 a2) h (fun v20 G19 _ h => ?_)
        refine Y.blk (pc' := 39) (L' := [some (.ref a0), some (.int a1), some (.int a2), none]) (st' := [.int (nI 1), .ref v20]) (sg := [(.iconst 1, nI 1)]) (lSa_ok dd11) rfl ?_
        refine Y.iald (t0 := 0) (lIa_ok dd12) rfl h (fun v21 h => ?_)
        refine Y.blk (pc' := 45) (L' := [some (.ref a0), some (.int a1), some (.int a2), some (.int v21)]) (st' := [.int (-1), .int (-1), .int a1, .ref a0]) (sg := [(.istore_n 3, 0), (.aload_n 0, 0), (.iload_n 1, 0), (.iconst (-1), -1), (.iconst (-1), -1)]) (lSa_ok dd13) rfl ?_
        obtain ⟨_, o23, e22, m24, h⟩ := gOb_inv h
        refine Y.callN (yC.Vi (b := a0) (As := [.int a1, .int (-1), .int (-1)]) (st := []) (r := ("PartlisterModel", T_M, 9)) hV.1 cb_M_change lk_M_128 in_M_change rfl se_M_change (lIa_ok dd14) rfl rfl (Nat.le_of_ble_eq_true rfl) (by decide) e22 m24) (k_M_change hV G19 a0 a1 (-1) (-1)) h (fun G25 _ h => ?_)
        refine Y.blk (pc' := 49) (L' := [some (.ref a0), some (.int a1), some (.int a2), some (.int v21)]) (st' := [.int v21]) (sg := [(.iload_n 3, 0)]) (lSa_ok dd15) rfl ?_
        exact Y.iret rfl (lIa_ok dd16) h
      · refine Y.blk (pc' := 31) (L' := [some (.ref a0), some (.int a1), some (.int a2), none]) (st' := [.int (nI 0)]) (sg := [(.iconst 0, nI 0)]) (lSa_ok dd17) rfl ?_
        exact Y.iret rfl (lIa_ok dd18) h
    · refine Y.blk (pc' := 19) (L' := [some (.ref a0), some (.int a1), some (.int a2), none]) (st' := [.int (nI 1), .ref a0]) (sg := [(.iconst 1, nI 1)]) (lSa_ok dd19) rfl ?_
      refine Y.goto (off := 4) (tgt := 23) (lIa_ok dd20) (by decide) ?_
      refine Y.blk (pc' := 24) (L' := [some (.ref a0), some (.int a1), some (.int a2), none]) (st' := [.int (nI 1), .int (nI 1), .ref a0]) (sg := [(.iconst 1, nI 1)]) (lSa_ok dd21) rfl ?_
      obtain ⟨_, o28, e27, m29, h⟩ := gOb_inv h
      refine Y.callI (yC.Vi (b := a0) (As := [.int (nI 1), .int (nI 1)]) (st := []) (r := ("PartlisterModel", T_M, 9)) hV.1 cb_M_start lk_M_114 in_M_start rfl se_M_start (lIa_ok dd7) rfl rfl (Nat.le_of_ble_eq_true rfl) (by decide) e27 m29) (k_M_start hV G9 a0 (nI 1) (nI 1)) h (fun v31 G30 _ h => ?_)
      refine Y.if_eq (off := 5) (tgt := 32) (lIa_ok dd8) (by decide) h (fun c42 h => ?_) (fun c42 h => ?_)
      · refine Y.blk (pc' := 35) (L' := [some (.ref a0), some (.int a1), some (.int a2), none]) (st' := [.int a2, .int a1, .ref a0]) (sg := [(.aload_n 0, 0), (.iload_n 1, 0), (.iload_n 2, 0)]) (lSa_ok dd9) rfl ?_
        obtain ⟨_, o33, e32, m34, h⟩ := gOb_inv h
        refine Y.callA (yC.Vi (b := a0) (As := [.int a1, .int a2]) (st := []) (r := ("PartlisterModel", T_M, 9)) hV.1 cb_M_take lk_M_157 in_M_take rfl se_M_take (lIa_ok dd10) rfl rfl (Nat.le_of_ble_eq_true rfl) (by decide) e32 m34) (k_M_take hV G30 a0 a1 a2) h (fun v36 G35 _ h => ?_)
        refine Y.blk (pc' := 39) (L' := [some (.ref a0), some (.int a1), some (.int a2), none]) (st' := [.int (nI 1), .ref v36]) (sg := [(.iconst 1, nI 1)]) (lSa_ok dd11) rfl ?_
        refine Y.iald (t0 := 0) (lIa_ok dd12) rfl h (fun v37 h => ?_)
        refine Y.blk (pc' := 45) (L' := [some (.ref a0), some (.int a1), some (.int a2), some (.int v37)]) (st' := [.int (-1), .int (-1), .int a1, .ref a0]) (sg := [(.istore_n 3, 0), (.aload_n 0, 0), (.iload_n 1, 0), (.iconst (-1), -1), (.iconst (-1), -1)]) (lSa_ok dd13) rfl ?_
        obtain ⟨_, o39, e38, m40, h⟩ := gOb_inv h
        refine Y.callN (yC.Vi (b := a0) (As := [.int a1, .int (-1), .int (-1)]) (st := []) (r := ("PartlisterModel", T_M, 9)) hV.1 cb_M_change lk_M_128 in_M_change rfl se_M_change (lIa_ok dd14) rfl rfl (Nat.le_of_ble_eq_true rfl) (by decide) e38 m40) (k_M_change hV G35 a0 a1 (-1) (-1)) h (fun G41 _ h => ?_)
        refine Y.blk (pc' := 49) (L' := [some (.ref a0), some (.int a1), some (.int a2), some (.int v37)]) (st' := [.int v37]) (sg := [(.iload_n 3, 0)]) (lSa_ok dd15) rfl ?_
        exact Y.iret rfl (lIa_ok dd16) h
      · refine Y.blk (pc' := 31) (L' := [some (.ref a0), some (.int a1), some (.int a2), none]) (st' := [.int (nI 0)]) (sg := [(.iconst 0, nI 0)]) (lSa_ok dd17) rfl ?_
        exact Y.iret rfl (lIa_ok dd18) h
  · refine Y.blk (pc' := 19) (L' := [some (.ref a0), some (.int a1), some (.int a2), none]) (st' := [.int (nI 1), .ref a0]) (sg := [(.iconst 1, nI 1)]) (lSa_ok dd19) rfl ?_
    refine Y.goto (off := 4) (tgt := 23) (lIa_ok dd20) (by decide) ?_
    refine Y.blk (pc' := 24) (L' := [some (.ref a0), some (.int a1), some (.int a2), none]) (st' := [.int (nI 1), .int (nI 1), .ref a0]) (sg := [(.iconst 1, nI 1)]) (lSa_ok dd21) rfl ?_
    obtain ⟨_, o45, e44, m46, h⟩ := gOb_inv h
    refine Y.callI (yC.Vi (b := a0) (As := [.int (nI 1), .int (nI 1)]) (st := []) (r := ("PartlisterModel", T_M, 9)) hV.1 cb_M_start lk_M_114 in_M_start rfl se_M_start (lIa_ok dd7) rfl rfl (Nat.le_of_ble_eq_true rfl) (by decide) e44 m46) (k_M_start hV G4 a0 (nI 1) (nI 1)) h (fun v48 G47 _ h => ?_)
    refine Y.if_eq (off := 5) (tgt := 32) (lIa_ok dd8) (by decide) h (fun c59 h => ?_) (fun c59 h => ?_)
    · refine Y.blk (pc' := 35) (L' := [some (.ref a0), some (.int a1), some (.int a2), none]) (st' := [.int a2, .int a1, .ref a0]) (sg := [(.aload_n 0, 0), (.iload_n 1, 0), (.iload_n 2, 0)]) (lSa_ok dd9) rfl ?_
      obtain ⟨_, o50, e49, m51, h⟩ := gOb_inv h
      refine Y.callA (yC.Vi (b := a0) (As := [.int a1, .int a2]) (st := []) (r := ("PartlisterModel", T_M, 9)) hV.1 cb_M_take lk_M_157 in_M_take rfl se_M_take (lIa_ok dd10) rfl rfl (Nat.le_of_ble_eq_true rfl) (by decide) e49 m51) (k_M_take hV G47 a0 a1 a2) h (fun v53 G52 _ h => ?_)
      refine Y.blk (pc' := 39) (L' := [some (.ref a0), some (.int a1), some (.int a2), none]) (st' := [.int (nI 1), .ref v53]) (sg := [(.iconst 1, nI 1)]) (lSa_ok dd11) rfl ?_
      refine Y.iald (t0 := 0) (lIa_ok dd12) rfl h (fun v54 h => ?_)
      refine Y.blk (pc' := 45) (L' := [some (.ref a0), some (.int a1), some (.int a2), some (.int v54)]) (st' := [.int (-1), .int (-1), .int a1, .ref a0]) (sg := [(.istore_n 3, 0), (.aload_n 0, 0), (.iload_n 1, 0), (.iconst (-1), -1), (.iconst (-1), -1)]) (lSa_ok dd13) rfl ?_
      obtain ⟨_, o56, e55, m57, h⟩ := gOb_inv h
      refine Y.callN (yC.Vi (b := a0) (As := [.int a1, .int (-1), .int (-1)]) (st := []) (r := ("PartlisterModel", T_M, 9)) hV.1 cb_M_change lk_M_128 in_M_change rfl se_M_change (lIa_ok dd14) rfl rfl (Nat.le_of_ble_eq_true rfl) (by decide) e55 m57) (k_M_change hV G52 a0 a1 (-1) (-1)) h (fun G58 _ h => ?_)
      refine Y.blk (pc' := 49) (L' := [some (.ref a0), some (.int a1), some (.int a2), some (.int v54)]) (st' := [.int v54]) (sg := [(.iload_n 3, 0)]) (lSa_ok dd15) rfl ?_
      exact Y.iret rfl (lIa_ok dd16) h
    · refine Y.blk (pc' := 31) (L' := [some (.ref a0), some (.int a1), some (.int a2), none]) (st' := [.int (nI 0)]) (sg := [(.iconst 0, nI 0)]) (lSa_ok dd17) rfl ?_
      exact Y.iret rfl (lIa_ok dd18) h

def f_M_removeIf_L58 (K89 : gH → Nat → Int32 → Nat → gR) : Nat → gH → Nat → Int32 → Int32 → Int32 → Nat → Int32 → gR
  | 0, _, _, _, _, _, _, _ => none
  | n + 1, G, x0, x1, x2, x3, x4, x5 =>
    if (nI 31) ≤ x5 then K89 G x0 x1 x4
    else gRem x5 x2 fun v21 => if v21 = x3 then gSt G x4 102 x5 (vp_nar .boolean (nI 1)) fun G22 => f_M_removeIf_L58 K89 n G22 x0 x1 x2 x3 x4 (x5 + (nI 1))
      else gSt G x4 102 x5 (vp_nar .boolean (nI 0)) fun G23 => f_M_removeIf_L58 K89 n G23 x0 x1 x2 x3 x4 (x5 + (nI 1))
def f_M_removeIf (G : gH) (a0 : Nat) (a1 : Int32) (a2 : Int32) (a3 : Int32) : gR :=
  gOb G a0 6 fun o2 => bI (f_M_isNoList G a0 a1) fun v5 G4 => gOb G4 a0 6 fun o7 => bI (f_M_start G4 a0 v5 (nI 1)) fun v10 G9 => if v10 = 0 then (bI (f_M_isIn G9 a2 (nI 1) (nI 9)) fun v13 G12 => if v13 = 0 then (gOb G12 a0 6 fun o15 => bI (f_M_refuse G12 a0 (nI 1) (nI 2)) fun v18 G17 => if v18 = 0 then gNewA G17 102 (nI 31) fun q19 G20 => f_M_removeIf_L58 (fun G29 x26 x27 x28 => gOb G29 x26 6 fun o31 => bI (f_M_takeAll G29 x26 x27 x28) fun v34 G33 => rI v34 G33) zFu G20 a0 a1 a2 a3 q19 (nI 0)
      else rI (nI 0) G17)
    else bI (f_M_isIn G12 a3 (nI 0) (a2 - (nI 1))) fun v38 G37 => if v38 = 0 then (gOb G37 a0 6 fun o40 => bI (f_M_refuse G37 a0 (nI 1) (nI 2)) fun v43 G42 => if v43 = 0 then gNewA G42 102 (nI 31) fun q44 G45 => f_M_removeIf_L58 (fun G49 x46 x47 x48 => gOb G49 x46 6 fun o51 => bI (f_M_takeAll G49 x46 x47 x48) fun v54 G53 => rI v54 G53) zFu G45 a0 a1 a2 a3 q44 (nI 0)
        else rI (nI 0) G42)
      else gOb G37 a0 6 fun o57 => bI (f_M_refuse G37 a0 (nI 0) (nI 2)) fun v60 G59 => if v60 = 0 then gNewA G59 102 (nI 31) fun q61 G62 => f_M_removeIf_L58 (fun G66 x63 x64 x65 => gOb G66 x63 6 fun o68 => bI (f_M_takeAll G66 x63 x64 x65) fun v71 G70 => rI v71 G70) zFu G62 a0 a1 a2 a3 q61 (nI 0)
        else rI (nI 0) G59)
  else rI (nI 0) G9
theorem k_M_removeIf_L58 {l : Launch} {D : va_G} {B : Nat} {O : State → Heap → Prop} (hV : zG l D B O) {o : gO} {Gf : gH} (K89 : gH → Nat → Int32 → Nat → gR) (hK89 : ∀ (G : gH) (x0 : Nat) (x1 : Int32) (x4 : Nat), K89 G x0 x1 x4 = some (o, Gf) → Y (zVm l D B O) m_M_removeIf 15 o Gf 89 [some (.ref x0), some (.int x1), none, none, some (.ref x4), none] [] G) : ∀ (n : Nat) (G : gH) (x0 : Nat) (x1 : Int32) (x2 : Int32) (x3 : Int32) (x4 : Nat) (x5 : Int32), f_M_removeIf_L58 K89 n G x0 x1 x2 x3 x4 x5 = some (o, Gf) → Y (zVm l D B O) m_M_removeIf 15 o Gf 58 [some (.ref x0), some (.int x1), some (.int x2), some (.int x3), some (.ref x4), some (.int x5)] [] G := by
  have hdd : lSa m_M_removeIf 58 [(.iload 5, 0), (.bipush 31, nI 31)] = true ∧ lIa m_M_removeIf 62 (.if_icmp .ge 27) 3 = true ∧ lSa m_M_removeIf 65 [(.aload 4, 0), (.iload 5, 0), (.iload 5, 0), (.iload_n 2, 0)] = true ∧ lIa m_M_removeIf 72 (.irem) 1 = true ∧ lSa m_M_removeIf 73 [(.iload_n 3, 0)] = true ∧ lIa m_M_removeIf 74 (.if_icmp .ne 7) 3 = true ∧ lSa m_M_removeIf 77 [(.iconst 1, nI 1)] = true ∧ lIa m_M_removeIf 78 (.goto 4) 3 = true ∧ lIa m_M_removeIf 82 (.bastore) 1 = true ∧ lSa m_M_removeIf 83 [(.iinc 5 1, nI 1)] = true ∧ lIa m_M_removeIf 86 (.goto (-28)) 3 = true ∧ lSa m_M_removeIf 81 [(.iconst 0, nI 0)] = true := by decide +kernel
  refine lA8 hdd (fun dd0 dd1 dd2 dd3 dd4 dd5 dd6 dd7 hdd => ?_)
  obtain ⟨dd8, dd9, dd10, dd11⟩ := hdd
  intro n
  induction n with
  | zero => intro G x0 x1 x2 x3 x4 x5 h; cases h
  | succ n ih =>
    intro G x0 x1 x2 x3 x4 x5 h
    unfold f_M_removeIf_L58 at h
    refine Y.blk (pc' := 62) (L' := [some (.ref x0), some (.int x1), some (.int x2), some (.int x3), some (.ref x4), some (.int x5)]) (st' := [.int (nI 31), .int x5]) (sg := [(.iload 5, 0), (.bipush 31, nI 31)]) (lSa_ok dd0) rfl ?_
    refine Y.ic_ge (off := 27) (tgt := 89) (lIa_ok dd1) (by decide) h (fun c25 h => ?_) (fun c25 h => ?_)
    · refine Y.less (L' := [some (.ref x0), some (.int x1), none, none, some (.ref x4), none]) (zLe_some (zLe_some (zLe_none (zLe_none (zLe_some (zLe_none (zLe_nil))))))) ?_
      exact hK89 G x0 x1 x4 h
    · refine Y.blk (pc' := 72) (L' := [some (.ref x0), some (.int x1), some (.int x2), some (.int x3), some (.ref x4), some (.int x5)]) (st' := [.int x2, .int x5, .int x5, .ref x4]) (sg := [(.aload 4, 0), (.iload 5, 0), (.iload 5, 0), (.iload_n 2, 0)]) (lSa_ok dd2) rfl ?_
      refine Y.irem (lIa_ok dd3) h (fun v21 h => ?_)
      refine Y.blk (pc' := 74) (L' := [some (.ref x0), some (.int x1), some (.int x2), some (.int x3), some (.ref x4), some (.int x5)]) (st' := [.int x3, .int v21, .int x5, .ref x4]) (sg := [(.iload_n 3, 0)]) (lSa_ok dd4) rfl ?_
      refine Y.ic_ne (off := 7) (tgt := 81) (lIa_ok dd5) (by decide) h (fun c24 h => ?_) (fun c24 h => ?_)
      · refine Y.blk (pc' := 78) (L' := [some (.ref x0), some (.int x1), some (.int x2), some (.int x3), some (.ref x4), some (.int x5)]) (st' := [.int (nI 1), .int x5, .ref x4]) (sg := [(.iconst 1, nI 1)]) (lSa_ok dd6) rfl ?_
        refine Y.goto (off := 4) (tgt := 82) (lIa_ok dd7) (by decide) ?_
        refine Y.zast (t0 := 2) (lIa_ok dd8) rfl (by decide) h (fun G22 _ _ h => ?_)
        refine Y.blk (pc' := 86) (L' := [some (.ref x0), some (.int x1), some (.int x2), some (.int x3), some (.ref x4), some (.int (x5 + (nI 1)))]) (st' := []) (sg := [(.iinc 5 1, nI 1)]) (lSa_ok dd9) rfl ?_
        refine Y.goto (off := -28) (tgt := 58) (lIa_ok dd10) (by decide) ?_
        exact ih G22 x0 x1 x2 x3 x4 (x5 + (nI 1)) h
      · refine Y.blk (pc' := 82) (L' := [some (.ref x0), some (.int x1), some (.int x2), some (.int x3), some (.ref x4), some (.int x5)]) (st' := [.int (nI 0), .int x5, .ref x4]) (sg := [(.iconst 0, nI 0)]) (lSa_ok dd11) rfl ?_
        refine Y.zast (t0 := 2) (lIa_ok dd8) rfl (by decide) h (fun G23 _ _ h => ?_)
        refine Y.blk (pc' := 86) (L' := [some (.ref x0), some (.int x1), some (.int x2), some (.int x3), some (.ref x4), some (.int (x5 + (nI 1)))]) (st' := []) (sg := [(.iinc 5 1, nI 1)]) (lSa_ok dd9) rfl ?_
        refine Y.goto (off := -28) (tgt := 58) (lIa_ok dd10) (by decide) ?_
        exact ih G23 x0 x1 x2 x3 x4 (x5 + (nI 1)) h
theorem k_M_removeIf {l : Launch} {D : va_G} {B : Nat} {O : State → Heap → Prop} (hV : zG l D B O) (G : gH) (a0 : Nat) (a1 : Int32) (a2 : Int32) (a3 : Int32) : gMet (zVm l D B O) m_M_removeIf 15 [.ref a0, .int a1, .int a2, .int a3] G (f_M_removeIf G a0 a1 a2 a3) := by
  have hdd : lSa m_M_removeIf 0 [(.aload_n 0, 0), (.aload_n 0, 0), (.iload_n 1, 0)] = true ∧ lIa m_M_removeIf 3 (.invokevirtual 110) 3 = true ∧ lSa m_M_removeIf 6 [(.iconst 1, nI 1)] = true ∧ lIa m_M_removeIf 7 (.invokevirtual 114) 3 = true ∧ lIa m_M_removeIf 10 (.ifCond .ne 37) 3 = true ∧ lSa m_M_removeIf 13 [(.aload_n 0, 0), (.iload_n 2, 0), (.iconst 1, nI 1), (.bipush 9, nI 9)] = true ∧ lIa m_M_removeIf 18 (.invokestatic 40) 3 = true ∧ lIa m_M_removeIf 21 (.ifCond .eq 14) 3 = true ∧ lSa m_M_removeIf 35 [(.iconst 1, nI 1)] = true ∧ lIa m_M_removeIf 36 (.goto 4) 3 = true ∧ lSa m_M_removeIf 40 [(.iconst 2, nI 2)] = true ∧ lIa m_M_removeIf 41 (.invokevirtual 36) 3 = true ∧ lIa m_M_removeIf 44 (.ifCond .eq 5) 3 = true ∧ lSa m_M_removeIf 49 [(.bipush 31, nI 31)] = true ∧ lSa m_M_removeIf 53 [(.astore 4, 0), (.iconst 0, nI 0), (.istore 5, 0)] = true ∧ lSa m_M_removeIf 89 [(.aload_n 0, 0), (.iload_n 1, 0), (.aload 4, 0)] = true ∧ lIa m_M_removeIf 93 (.invokevirtual 173) 3 = true ∧ lIa m_M_removeIf 96 (.ireturn) 1 = true ∧ lSa m_M_removeIf 47 [(.iconst 0, nI 0)] = true ∧ lIa m_M_removeIf 48 (.ireturn) 1 = true ∧ lSa m_M_removeIf 24 [(.iload_n 3, 0), (.iconst 0, nI 0), (.iload_n 2, 0), (.iconst 1, nI 1), (.isub, 0)] = true ∧ lIa m_M_removeIf 29 (.invokestatic 40) 3 = true ∧ lIa m_M_removeIf 32 (.ifCond .ne 7) 3 = true ∧ lSa m_M_removeIf 39 [(.iconst 0, nI 0), (.iconst 2, nI 2)] = true := by decide +kernel
  refine lA8 hdd (fun dd0 dd1 dd2 dd3 dd4 dd5 dd6 dd7 hdd => ?_)
  refine lA8 hdd (fun dd8 dd9 dd10 dd11 dd12 dd13 dd14 dd15 hdd => ?_)
  obtain ⟨dd16, dd17, dd18, dd19, dd20, dd21, dd22, dd23⟩ := hdd
  refine gMet.of (by decide +kernel) (Nat.le_of_ble_eq_true rfl) [some (.ref a0), some (.int a1), some (.int a2), some (.int a3), none, none] (fun ls h => zEn_ok (n := 6) h) ?_
  intro o Gf h
  unfold f_M_removeIf at h
  refine Y.blk (pc' := 3) (L' := [some (.ref a0), some (.int a1), some (.int a2), some (.int a3), none, none]) (st' := [.int a1, .ref a0, .ref a0]) (sg := [(.aload_n 0, 0), (.aload_n 0, 0), (.iload_n 1, 0)]) (lSa_ok dd0) rfl ?_
  obtain ⟨_, o2, e1, m3, h⟩ := gOb_inv h
  refine Y.callI (yC.Vi (b := a0) (As := [.int a1]) (st := [.ref a0]) (r := ("PartlisterModel", T_M, 9)) hV.1 cb_M_isNoList lk_M_110 in_M_isNoList rfl se_M_isNoList (lIa_ok dd1) rfl rfl (Nat.le_of_ble_eq_true rfl) (by decide) e1 m3) (k_M_isNoList hV G a0 a1) h (fun v5 G4 _ h => ?_)
  refine Y.blk (pc' := 7) (L' := [some (.ref a0), some (.int a1), some (.int a2), some (.int a3), none, none]) (st' := [.int (nI 1), .int v5, .ref a0]) (sg := [(.iconst 1, nI 1)]) (lSa_ok dd2) rfl ?_
  obtain ⟨_, o7, e6, m8, h⟩ := gOb_inv h
  refine Y.callI (yC.Vi (b := a0) (As := [.int v5, .int (nI 1)]) (st := []) (r := ("PartlisterModel", T_M, 9)) hV.1 cb_M_start lk_M_114 in_M_start rfl se_M_start (lIa_ok dd3) rfl rfl (Nat.le_of_ble_eq_true rfl) (by decide) e6 m8) (k_M_start hV G4 a0 v5 (nI 1)) h (fun v10 G9 _ h => ?_)
  refine Y.if_ne (off := 37) (tgt := 47) (lIa_ok dd4) (by decide) h (fun c75 h => ?_) (fun c75 h => ?_)
  · refine Y.blk (pc' := 18) (L' := [some (.ref a0), some (.int a1), some (.int a2), some (.int a3), none, none]) (st' := [.int (nI 9), .int (nI 1), .int a2, .ref a0]) (sg := [(.aload_n 0, 0), (.iload_n 2, 0), (.iconst 1, nI 1), (.bipush 9, nI 9)]) (lSa_ok dd5) rfl ?_
    refine Y.callI (yC.S (As := [.int a2, .int (nI 1), .int (nI 9)]) (st := [.ref a0]) hV.1 cb_M_isIn lk_M_40 st_M_isIn (lIa_ok dd6) rfl rfl (Nat.le_of_ble_eq_true rfl) (by decide)) (k_M_isIn hV G9 a2 (nI 1) (nI 9)) h (fun v13 G12 _ h => ?_)
    refine Y.if_eq (off := 14) (tgt := 35) (lIa_ok dd7) (by decide) h (fun c74 h => ?_) (fun c74 h => ?_)
    · refine Y.blk (pc' := 36) (L' := [some (.ref a0), some (.int a1), some (.int a2), some (.int a3), none, none]) (st' := [.int (nI 1), .ref a0]) (sg := [(.iconst 1, nI 1)]) (lSa_ok dd8) rfl ?_
      refine Y.goto (off := 4) (tgt := 40) (lIa_ok dd9) (by decide) ?_
      refine Y.blk (pc' := 41) (L' := [some (.ref a0), some (.int a1), some (.int a2), some (.int a3), none, none]) (st' := [.int (nI 2), .int (nI 1), .ref a0]) (sg := [(.iconst 2, nI 2)]) (lSa_ok dd10) rfl ?_
      obtain ⟨_, o15, e14, m16, h⟩ := gOb_inv h
      refine Y.callI (yC.Vi (b := a0) (As := [.int (nI 1), .int (nI 2)]) (st := []) (r := ("PartlisterModel", T_M, 9)) hV.1 cb_M_refuse lk_M_36 in_M_refuse rfl se_M_refuse (lIa_ok dd11) rfl rfl (Nat.le_of_ble_eq_true rfl) (by decide) e14 m16) (k_M_refuse hV G12 a0 (nI 1) (nI 2)) h (fun v18 G17 _ h => ?_)
      refine Y.if_eq (off := 5) (tgt := 49) (lIa_ok dd12) (by decide) h (fun c35 h => ?_) (fun c35 h => ?_)
      · refine Y.blk (pc' := 51) (L' := [some (.ref a0), some (.int a1), some (.int a2), some (.int a3), none, none]) (st' := [.int (nI 31)]) (sg := [(.bipush 31, nI 31)]) (lSa_ok dd13) rfl ?_
        refine Y.newa (at_ := .boolean) (t0 := 2) ac_z rfl (by decide) rfl (by decide) (by decide +kernel) h (fun q19 G20 h => ?_)
        refine Y.blk (pc' := 58) (L' := [some (.ref a0), some (.int a1), some (.int a2), some (.int a3), some (.ref q19), some (.int (nI 0))]) (st' := []) (sg := [(.astore 4, 0), (.iconst 0, nI 0), (.istore 5, 0)]) (lSa_ok dd14) rfl ?_
        refine k_M_removeIf_L58 hV _ ?_  zFu G20 a0 a1 a2 a3 q19 (nI 0) h
        · intro G29 x26 x27 x28 h
          refine Y.blk (pc' := 93) (L' := [some (.ref x26), some (.int x27), none, none, some (.ref x28), none]) (st' := [.ref x28, .int x27, .ref x26]) (sg := [(.aload_n 0, 0), (.iload_n 1, 0), (.aload 4, 0)]) (lSa_ok dd15) rfl ?_
          obtain ⟨_, o31, e30, m32, h⟩ := gOb_inv h
          refine Y.callI (yC.Vi (b := x26) (As := [.int x27, .ref x28]) (st := []) (r := ("PartlisterModel", T_M, 9)) hV.1 cb_M_takeAll lk_M_173 in_M_takeAll rfl se_M_takeAll (lIa_ok dd16) rfl rfl (Nat.le_of_ble_eq_true rfl) (by decide) e30 m32) (k_M_takeAll hV G29 x26 x27 x28) h (fun v34 G33 _ h => ?_)
          exact Y.iret rfl (lIa_ok dd17) h
      · refine Y.blk (pc' := 48) (L' := [some (.ref a0), some (.int a1), some (.int a2), some (.int a3), none, none]) (st' := [.int (nI 0)]) (sg := [(.iconst 0, nI 0)]) (lSa_ok dd18) rfl ?_
        exact Y.iret rfl (lIa_ok dd19) h
    · refine Y.blk (pc' := 29) (L' := [some (.ref a0), some (.int a1), some (.int a2), some (.int a3), none, none]) (st' := [.int (a2 - (nI 1)), .int (nI 0), .int a3, .ref a0]) (sg := [(.iload_n 3, 0), (.iconst 0, nI 0), (.iload_n 2, 0), (.iconst 1, nI 1), (.isub, 0)]) (lSa_ok dd20) rfl ?_
      refine Y.callI (yC.S (As := [.int a3, .int (nI 0), .int (a2 - (nI 1))]) (st := [.ref a0]) hV.1 cb_M_isIn lk_M_40 st_M_isIn (lIa_ok dd21) rfl rfl (Nat.le_of_ble_eq_true rfl) (by decide)) (k_M_isIn hV G12 a3 (nI 0) (a2 - (nI 1))) h (fun v38 G37 _ h => ?_)
      refine Y.if_ne (off := 7) (tgt := 39) (lIa_ok dd22) (by decide) h (fun c73 h => ?_) (fun c73 h => ?_)
      · refine Y.blk (pc' := 36) (L' := [some (.ref a0), some (.int a1), some (.int a2), some (.int a3), none, none]) (st' := [.int (nI 1), .ref a0]) (sg := [(.iconst 1, nI 1)]) (lSa_ok dd8) rfl ?_
        refine Y.goto (off := 4) (tgt := 40) (lIa_ok dd9) (by decide) ?_
        refine Y.blk (pc' := 41) (L' := [some (.ref a0), some (.int a1), some (.int a2), some (.int a3), none, none]) (st' := [.int (nI 2), .int (nI 1), .ref a0]) (sg := [(.iconst 2, nI 2)]) (lSa_ok dd10) rfl ?_
        obtain ⟨_, o40, e39, m41, h⟩ := gOb_inv h
        refine Y.callI (yC.Vi (b := a0) (As := [.int (nI 1), .int (nI 2)]) (st := []) (r := ("PartlisterModel", T_M, 9)) hV.1 cb_M_refuse lk_M_36 in_M_refuse rfl se_M_refuse (lIa_ok dd11) rfl rfl (Nat.le_of_ble_eq_true rfl) (by decide) e39 m41) (k_M_refuse hV G37 a0 (nI 1) (nI 2)) h (fun v43 G42 _ h => ?_)
        refine Y.if_eq (off := 5) (tgt := 49) (lIa_ok dd12) (by decide) h (fun c55 h => ?_) (fun c55 h => ?_)
        · refine Y.blk (pc' := 51) (L' := [some (.ref a0), some (.int a1), some (.int a2), some (.int a3), none, none]) (st' := [.int (nI 31)]) (sg := [(.bipush 31, nI 31)]) (lSa_ok dd13) rfl ?_
          refine Y.newa (at_ := .boolean) (t0 := 2) ac_z rfl (by decide) rfl (by decide) (by decide +kernel) h (fun q44 G45 h => ?_)
          refine Y.blk (pc' := 58) (L' := [some (.ref a0), some (.int a1), some (.int a2), some (.int a3), some (.ref q44), some (.int (nI 0))]) (st' := []) (sg := [(.astore 4, 0), (.iconst 0, nI 0), (.istore 5, 0)]) (lSa_ok dd14) rfl ?_
          refine k_M_removeIf_L58 hV _ ?_  zFu G45 a0 a1 a2 a3 q44 (nI 0) h
          · intro G49 x46 x47 x48 h
            refine Y.blk (pc' := 93) (L' := [some (.ref x46), some (.int x47), none, none, some (.ref x48), none]) (st' := [.ref x48, .int x47, .ref x46]) (sg := [(.aload_n 0, 0), (.iload_n 1, 0), (.aload 4, 0)]) (lSa_ok dd15) rfl ?_
            obtain ⟨_, o51, e50, m52, h⟩ := gOb_inv h
            refine Y.callI (yC.Vi (b := x46) (As := [.int x47, .ref x48]) (st := []) (r := ("PartlisterModel", T_M, 9)) hV.1 cb_M_takeAll lk_M_173 in_M_takeAll rfl se_M_takeAll (lIa_ok dd16) rfl rfl (Nat.le_of_ble_eq_true rfl) (by decide) e50 m52) (k_M_takeAll hV G49 x46 x47 x48) h (fun v54 G53 _ h => ?_)
            exact Y.iret rfl (lIa_ok dd17) h
        · refine Y.blk (pc' := 48) (L' := [some (.ref a0), some (.int a1), some (.int a2), some (.int a3), none, none]) (st' := [.int (nI 0)]) (sg := [(.iconst 0, nI 0)]) (lSa_ok dd18) rfl ?_
          exact Y.iret rfl (lIa_ok dd19) h
      · refine Y.blk (pc' := 41) (L' := [some (.ref a0), some (.int a1), some (.int a2), some (.int a3), none, none]) (st' := [.int (nI 2), .int (nI 0), .ref a0]) (sg := [(.iconst 0, nI 0), (.iconst 2, nI 2)]) (lSa_ok dd23) rfl ?_
        obtain ⟨_, o57, e56, m58, h⟩ := gOb_inv h
        refine Y.callI (yC.Vi (b := a0) (As := [.int (nI 0), .int (nI 2)]) (st := []) (r := ("PartlisterModel", T_M, 9)) hV.1 cb_M_refuse lk_M_36 in_M_refuse rfl se_M_refuse (lIa_ok dd11) rfl rfl (Nat.le_of_ble_eq_true rfl) (by decide) e56 m58) (k_M_refuse hV G37 a0 (nI 0) (nI 2)) h (fun v60 G59 _ h => ?_)
        refine Y.if_eq (off := 5) (tgt := 49) (lIa_ok dd12) (by decide) h (fun c72 h => ?_) (fun c72 h => ?_)
        · refine Y.blk (pc' := 51) (L' := [some (.ref a0), some (.int a1), some (.int a2), some (.int a3), none, none]) (st' := [.int (nI 31)]) (sg := [(.bipush 31, nI 31)]) (lSa_ok dd13) rfl ?_
          refine Y.newa (at_ := .boolean) (t0 := 2) ac_z rfl (by decide) rfl (by decide) (by decide +kernel) h (fun q61 G62 h => ?_)
          refine Y.blk (pc' := 58) (L' := [some (.ref a0), some (.int a1), some (.int a2), some (.int a3), some (.ref q61), some (.int (nI 0))]) (st' := []) (sg := [(.astore 4, 0), (.iconst 0, nI 0), (.istore 5, 0)]) (lSa_ok dd14) rfl ?_
          refine k_M_removeIf_L58 hV _ ?_  zFu G62 a0 a1 a2 a3 q61 (nI 0) h
          · intro G66 x63 x64 x65 h
            refine Y.blk (pc' := 93) (L' := [some (.ref x63), some (.int x64), none, none, some (.ref x65), none]) (st' := [.ref x65, .int x64, .ref x63]) (sg := [(.aload_n 0, 0), (.iload_n 1, 0), (.aload 4, 0)]) (lSa_ok dd15) rfl ?_
            obtain ⟨_, o68, e67, m69, h⟩ := gOb_inv h
            refine Y.callI (yC.Vi (b := x63) (As := [.int x64, .ref x65]) (st := []) (r := ("PartlisterModel", T_M, 9)) hV.1 cb_M_takeAll lk_M_173 in_M_takeAll rfl se_M_takeAll (lIa_ok dd16) rfl rfl (Nat.le_of_ble_eq_true rfl) (by decide) e67 m69) (k_M_takeAll hV G66 x63 x64 x65) h (fun v71 G70 _ h => ?_)
            exact Y.iret rfl (lIa_ok dd17) h
        · refine Y.blk (pc' := 48) (L' := [some (.ref a0), some (.int a1), some (.int a2), some (.int a3), none, none]) (st' := [.int (nI 0)]) (sg := [(.iconst 0, nI 0)]) (lSa_ok dd18) rfl ?_
          exact Y.iret rfl (lIa_ok dd19) h
  · refine Y.blk (pc' := 48) (L' := [some (.ref a0), some (.int a1), some (.int a2), some (.int a3), none, none]) (st' := [.int (nI 0)]) (sg := [(.iconst 0, nI 0)]) (lSa_ok dd18) rfl ?_
    exact Y.iret rfl (lIa_ok dd19) h

def f_M_replaceAll_L47 (K105 : gH → Nat → Int32 → gR) : Nat → gH → Nat → Int32 → Int32 → Int32 → Int32 → gR
  | 0, _, _, _, _, _, _ => none
  | n + 1, G, x0, x1, x2, x3, x4 =>
    gOb G x0 6 fun o27 => bI (f_M_length G x0 x1) fun v30 G29 => if v30 ≤ x4 then K105 G29 x0 x1
    else gNewA G29 100 (nI 2) fun q31 G32 => gOb G32 x0 6 fun o34 => bA (f_M_at G32 x0 x1 x4) fun v37 G36 => gLd G36 v37 100 (nI 0) fun v38 => gRem ((v38 * x2) + x3) (nI 31) fun v39 => gSt G36 q31 100 (nI 0) v39 fun G40 => gOb G40 x0 6 fun o42 => bA (f_M_at G40 x0 x1 x4) fun v45 G44 => gLd G44 v45 100 (nI 1) fun v46 => gSt G44 q31 100 (nI 1) v46 fun G47 => gOb G47 x0 6 fun o49 => bA (f_M_write G47 x0 x1 x4 q31) fun v52 G51 => f_M_replaceAll_L47 K105 n G51 x0 x1 x2 x3 (x4 + (nI 1))
def f_M_replaceAll (G : gH) (a0 : Nat) (a1 : Int32) (a2 : Int32) (a3 : Int32) : gR :=
  gOb G a0 6 fun o2 => bI (f_M_isNoList G a0 a1) fun v5 G4 => gOb G4 a0 6 fun o7 => bI (f_M_start G4 a0 v5 (nI 1)) fun v10 G9 => if v10 = 0 then (gOb G9 a0 6 fun o12 => bI (f_M_isNoKey G9 a0 a2) fun v15 G14 => if v15 = 0 then (gOb G14 a0 6 fun o17 => bI (f_M_isNoKey G14 a0 a3) fun v20 G19 => if v20 = 0 then (gOb G19 a0 6 fun o22 => bI (f_M_refuse G19 a0 (nI 0) (nI 2)) fun v25 G24 => if v25 = 0 then f_M_replaceAll_L47 (fun G56 x54 x55 => gOb G56 x54 6 fun o58 => bI (f_M_rowOf zDp G56 x54 x55) fun v61 G60 => gOb G60 x54 6 fun o63 => bI (f_M_endParts G60 x54 v61 x55) fun v66 G65 => gOb G65 x54 6 fun o68 => bI (f_M_rowOf zDp G65 x54 x55) fun v71 G70 => gOb G70 x54 6 fun o73 => bV (f_M_endCursors G70 x54 v71) fun G75 => gOb G75 x54 6 fun o77 => bI (f_M_length G75 x54 x55) fun v80 G79 => rI v80 G79) zFu G24 a0 a1 a2 a3 (nI 0)
        else rI (nI 0) G24)
      else gOb G19 a0 6 fun o83 => bI (f_M_refuse G19 a0 (nI 1) (nI 2)) fun v86 G85 => if v86 = 0 then f_M_replaceAll_L47 (fun G89 x87 x88 => gOb G89 x87 6 fun o91 => bI (f_M_rowOf zDp G89 x87 x88) fun v94 G93 => gOb G93 x87 6 fun o96 => bI (f_M_endParts G93 x87 v94 x88) fun v99 G98 => gOb G98 x87 6 fun o101 => bI (f_M_rowOf zDp G98 x87 x88) fun v104 G103 => gOb G103 x87 6 fun o106 => bV (f_M_endCursors G103 x87 v104) fun G108 => gOb G108 x87 6 fun o110 => bI (f_M_length G108 x87 x88) fun v113 G112 => rI v113 G112) zFu G85 a0 a1 a2 a3 (nI 0)
        else rI (nI 0) G85)
    else gOb G14 a0 6 fun o117 => bI (f_M_refuse G14 a0 (nI 1) (nI 2)) fun v120 G119 => if v120 = 0 then f_M_replaceAll_L47 (fun G123 x121 x122 => gOb G123 x121 6 fun o125 => bI (f_M_rowOf zDp G123 x121 x122) fun v128 G127 => gOb G127 x121 6 fun o130 => bI (f_M_endParts G127 x121 v128 x122) fun v133 G132 => gOb G132 x121 6 fun o135 => bI (f_M_rowOf zDp G132 x121 x122) fun v138 G137 => gOb G137 x121 6 fun o140 => bV (f_M_endCursors G137 x121 v138) fun G142 => gOb G142 x121 6 fun o144 => bI (f_M_length G142 x121 x122) fun v147 G146 => rI v147 G146) zFu G119 a0 a1 a2 a3 (nI 0)
      else rI (nI 0) G119)
  else rI (nI 0) G9
theorem k_M_replaceAll_L47 {l : Launch} {D : va_G} {B : Nat} {O : State → Heap → Prop} (hV : zG l D B O) {o : gO} {Gf : gH} (K105 : gH → Nat → Int32 → gR) (hK105 : ∀ (G : gH) (x0 : Nat) (x1 : Int32), K105 G x0 x1 = some (o, Gf) → Y (zVm l D B O) m_M_replaceAll 13 o Gf 105 [some (.ref x0), some (.int x1), none, none, none] [] G) : ∀ (n : Nat) (G : gH) (x0 : Nat) (x1 : Int32) (x2 : Int32) (x3 : Int32) (x4 : Int32), f_M_replaceAll_L47 K105 n G x0 x1 x2 x3 x4 = some (o, Gf) → Y (zVm l D B O) m_M_replaceAll 13 o Gf 47 [some (.ref x0), some (.int x1), some (.int x2), some (.int x3), some (.int x4)] [] G := by
  have hdd : lSa m_M_replaceAll 47 [(.iload 4, 0), (.aload_n 0, 0), (.iload_n 1, 0)] = true ∧ lIa m_M_replaceAll 51 (.invokevirtual 74) 3 = true ∧ lIa m_M_replaceAll 54 (.if_icmp .ge 51) 3 = true ∧ lSa m_M_replaceAll 57 [(.aload_n 0, 0), (.iload_n 1, 0), (.iload 4, 0), (.iconst 2, nI 2)] = true ∧ lSa m_M_replaceAll 64 [(.dup, 0), (.iconst 0, nI 0), (.aload_n 0, 0), (.iload_n 1, 0), (.iload 4, 0)] = true ∧ lIa m_M_replaceAll 70 (.invokevirtual 132) 3 = true ∧ lSa m_M_replaceAll 73 [(.iconst 0, nI 0)] = true ∧ lIa m_M_replaceAll 74 (.iaload) 1 = true ∧ lSa m_M_replaceAll 75 [(.iload_n 2, 0), (.imul, 0), (.iload_n 3, 0), (.iadd, 0), (.bipush 31, nI 31)] = true ∧ lIa m_M_replaceAll 81 (.irem) 1 = true ∧ lIa m_M_replaceAll 82 (.iastore) 1 = true ∧ lSa m_M_replaceAll 83 [(.dup, 0), (.iconst 1, nI 1), (.aload_n 0, 0), (.iload_n 1, 0), (.iload 4, 0)] = true ∧ lIa m_M_replaceAll 89 (.invokevirtual 132) 3 = true ∧ lSa m_M_replaceAll 92 [(.iconst 1, nI 1)] = true ∧ lIa m_M_replaceAll 93 (.iaload) 1 = true ∧ lIa m_M_replaceAll 94 (.iastore) 1 = true ∧ lIa m_M_replaceAll 95 (.invokevirtual 150) 3 = true ∧ lSa m_M_replaceAll 98 [(.pop, 0), (.iinc 4 1, nI 1)] = true ∧ lIa m_M_replaceAll 102 (.goto (-55)) 3 = true := by decide +kernel
  refine lA8 hdd (fun dd0 dd1 dd2 dd3 dd4 dd5 dd6 dd7 hdd => ?_)
  refine lA8 hdd (fun dd8 dd9 dd10 dd11 dd12 dd13 dd14 dd15 hdd => ?_)
  obtain ⟨dd16, dd17, dd18⟩ := hdd
  intro n
  induction n with
  | zero => intro G x0 x1 x2 x3 x4 h; cases h
  | succ n ih =>
    intro G x0 x1 x2 x3 x4 h
    unfold f_M_replaceAll_L47 at h
    refine Y.blk (pc' := 51) (L' := [some (.ref x0), some (.int x1), some (.int x2), some (.int x3), some (.int x4)]) (st' := [.int x1, .ref x0, .int x4]) (sg := [(.iload 4, 0), (.aload_n 0, 0), (.iload_n 1, 0)]) (lSa_ok dd0) rfl ?_
    obtain ⟨_, o27, e26, m28, h⟩ := gOb_inv h
    refine Y.callI (yC.Vi (b := x0) (As := [.int x1]) (st := [.int x4]) (r := ("PartlisterModel", T_M, 9)) hV.1 cb_M_length lk_M_74 in_M_length rfl se_M_length (lIa_ok dd1) rfl rfl (Nat.le_of_ble_eq_true rfl) (by decide) e26 m28) (k_M_length hV G x0 x1) h (fun v30 G29 _ h => ?_)
    refine Y.ic_ge (off := 51) (tgt := 105) (lIa_ok dd2) (by decide) h (fun c53 h => ?_) (fun c53 h => ?_)
    · refine Y.less (L' := [some (.ref x0), some (.int x1), none, none, none]) (zLe_some (zLe_some (zLe_none (zLe_none (zLe_none (zLe_nil)))))) ?_
      exact hK105 G29 x0 x1 h
    · refine Y.blk (pc' := 62) (L' := [some (.ref x0), some (.int x1), some (.int x2), some (.int x3), some (.int x4)]) (st' := [.int (nI 2), .int x4, .int x1, .ref x0]) (sg := [(.aload_n 0, 0), (.iload_n 1, 0), (.iload 4, 0), (.iconst 2, nI 2)]) (lSa_ok dd3) rfl ?_
      refine Y.newa (at_ := .int) (t0 := 0) ac_i rfl (by decide) rfl (by decide) (by decide +kernel) h (fun q31 G32 h => ?_)
      refine Y.blk (pc' := 70) (L' := [some (.ref x0), some (.int x1), some (.int x2), some (.int x3), some (.int x4)]) (st' := [.int x4, .int x1, .ref x0, .int (nI 0), .ref q31, .ref q31, .int x4, .int x1, .ref x0]) (sg := [(.dup, 0), (.iconst 0, nI 0), (.aload_n 0, 0), (.iload_n 1, 0), (.iload 4, 0)]) (lSa_ok dd4) rfl ?_
      obtain ⟨_, o34, e33, m35, h⟩ := gOb_inv h
      refine Y.callA (yC.Vi (b := x0) (As := [.int x1, .int x4]) (st := [.int (nI 0), .ref q31, .ref q31, .int x4, .int x1, .ref x0]) (r := ("PartlisterModel", T_M, 9)) hV.1 cb_M_at lk_M_132 in_M_at rfl se_M_at (lIa_ok dd5) rfl rfl (Nat.le_of_ble_eq_true rfl) (by decide) e33 m35) (k_M_at hV G32 x0 x1 x4) h (fun v37 G36 _ h => ?_)
      refine Y.blk (pc' := 74) (L' := [some (.ref x0), some (.int x1), some (.int x2), some (.int x3), some (.int x4)]) (st' := [.int (nI 0), .ref v37, .int (nI 0), .ref q31, .ref q31, .int x4, .int x1, .ref x0]) (sg := [(.iconst 0, nI 0)]) (lSa_ok dd6) rfl ?_
      refine Y.iald (t0 := 0) (lIa_ok dd7) rfl h (fun v38 h => ?_)
      refine Y.blk (pc' := 81) (L' := [some (.ref x0), some (.int x1), some (.int x2), some (.int x3), some (.int x4)]) (st' := [.int (nI 31), .int ((v38 * x2) + x3), .int (nI 0), .ref q31, .ref q31, .int x4, .int x1, .ref x0]) (sg := [(.iload_n 2, 0), (.imul, 0), (.iload_n 3, 0), (.iadd, 0), (.bipush 31, nI 31)]) (lSa_ok dd8) rfl ?_
      refine Y.irem (lIa_ok dd9) h (fun v39 h => ?_)
      refine Y.iast (t0 := 0) (lIa_ok dd10) rfl (by decide) h (fun G40 _ _ h => ?_)
      refine Y.blk (pc' := 89) (L' := [some (.ref x0), some (.int x1), some (.int x2), some (.int x3), some (.int x4)]) (st' := [.int x4, .int x1, .ref x0, .int (nI 1), .ref q31, .ref q31, .int x4, .int x1, .ref x0]) (sg := [(.dup, 0), (.iconst 1, nI 1), (.aload_n 0, 0), (.iload_n 1, 0), (.iload 4, 0)]) (lSa_ok dd11) rfl ?_
      obtain ⟨_, o42, e41, m43, h⟩ := gOb_inv h
      refine Y.callA (yC.Vi (b := x0) (As := [.int x1, .int x4]) (st := [.int (nI 1), .ref q31, .ref q31, .int x4, .int x1, .ref x0]) (r := ("PartlisterModel", T_M, 9)) hV.1 cb_M_at lk_M_132 in_M_at rfl se_M_at (lIa_ok dd12) rfl rfl (Nat.le_of_ble_eq_true rfl) (by decide) e41 m43) (k_M_at hV G40 x0 x1 x4) h (fun v45 G44 _ h => ?_)
      refine Y.blk (pc' := 93) (L' := [some (.ref x0), some (.int x1), some (.int x2), some (.int x3), some (.int x4)]) (st' := [.int (nI 1), .ref v45, .int (nI 1), .ref q31, .ref q31, .int x4, .int x1, .ref x0]) (sg := [(.iconst 1, nI 1)]) (lSa_ok dd13) rfl ?_
      refine Y.iald (t0 := 0) (lIa_ok dd14) rfl h (fun v46 h => ?_)
      refine Y.iast (t0 := 0) (lIa_ok dd15) rfl (by decide) h (fun G47 _ _ h => ?_)
      obtain ⟨_, o49, e48, m50, h⟩ := gOb_inv h
      refine Y.callA (yC.Vi (b := x0) (As := [.int x1, .int x4, .ref q31]) (st := []) (r := ("PartlisterModel", T_M, 9)) hV.1 cb_M_write lk_M_150 in_M_write rfl se_M_write (lIa_ok dd16) rfl rfl (Nat.le_of_ble_eq_true rfl) (by decide) e48 m50) (k_M_write hV G47 x0 x1 x4 q31) h (fun v52 G51 _ h => ?_)
      refine Y.blk (pc' := 102) (L' := [some (.ref x0), some (.int x1), some (.int x2), some (.int x3), some (.int (x4 + (nI 1)))]) (st' := []) (sg := [(.pop, 0), (.iinc 4 1, nI 1)]) (lSa_ok dd17) rfl ?_
      refine Y.goto (off := -55) (tgt := 47) (lIa_ok dd18) (by decide) ?_
      exact ih G51 x0 x1 x2 x3 (x4 + (nI 1)) h
theorem k_M_replaceAll {l : Launch} {D : va_G} {B : Nat} {O : State → Heap → Prop} (hV : zG l D B O) (G : gH) (a0 : Nat) (a1 : Int32) (a2 : Int32) (a3 : Int32) : gMet (zVm l D B O) m_M_replaceAll 13 [.ref a0, .int a1, .int a2, .int a3] G (f_M_replaceAll G a0 a1 a2 a3) := by
  have hdd : lSa m_M_replaceAll 0 [(.aload_n 0, 0), (.aload_n 0, 0), (.iload_n 1, 0)] = true ∧ lIa m_M_replaceAll 3 (.invokevirtual 110) 3 = true ∧ lSa m_M_replaceAll 6 [(.iconst 1, nI 1)] = true ∧ lIa m_M_replaceAll 7 (.invokevirtual 114) 3 = true ∧ lIa m_M_replaceAll 10 (.ifCond .ne 32) 3 = true ∧ lSa m_M_replaceAll 13 [(.aload_n 0, 0), (.aload_n 0, 0), (.iload_n 2, 0)] = true ∧ lIa m_M_replaceAll 16 (.invokevirtual 160) 3 = true ∧ lIa m_M_replaceAll 19 (.ifCond .ne 11) 3 = true ∧ lSa m_M_replaceAll 22 [(.aload_n 0, 0), (.iload_n 3, 0)] = true ∧ lIa m_M_replaceAll 24 (.invokevirtual 160) 3 = true ∧ lIa m_M_replaceAll 27 (.ifCond .eq 7) 3 = true ∧ lSa m_M_replaceAll 34 [(.iconst 0, nI 0), (.iconst 2, nI 2)] = true ∧ lIa m_M_replaceAll 36 (.invokevirtual 36) 3 = true ∧ lIa m_M_replaceAll 39 (.ifCond .eq 5) 3 = true ∧ lSa m_M_replaceAll 44 [(.iconst 0, nI 0), (.istore 4, 0)] = true ∧ lSa m_M_replaceAll 105 [(.aload_n 0, 0), (.aload_n 0, 0), (.iload_n 1, 0)] = true ∧ lIa m_M_replaceAll 108 (.invokevirtual 47) 3 = true ∧ lSa m_M_replaceAll 111 [(.iload_n 1, 0)] = true ∧ lIa m_M_replaceAll 112 (.invokevirtual 103) 3 = true ∧ lSa m_M_replaceAll 115 [(.pop, 0), (.aload_n 0, 0), (.aload_n 0, 0), (.iload_n 1, 0)] = true ∧ lIa m_M_replaceAll 119 (.invokevirtual 47) 3 = true ∧ lIa m_M_replaceAll 122 (.invokevirtual 177) 3 = true ∧ lSa m_M_replaceAll 125 [(.aload_n 0, 0), (.iload_n 1, 0)] = true ∧ lIa m_M_replaceAll 127 (.invokevirtual 74) 3 = true ∧ lIa m_M_replaceAll 130 (.ireturn) 1 = true ∧ lSa m_M_replaceAll 42 [(.iconst 0, nI 0)] = true ∧ lIa m_M_replaceAll 43 (.ireturn) 1 = true ∧ lSa m_M_replaceAll 30 [(.iconst 1, nI 1)] = true ∧ lIa m_M_replaceAll 31 (.goto 4) 3 = true ∧ lSa m_M_replaceAll 35 [(.iconst 2, nI 2)] = true := by decide +kernel
  refine lA8 hdd (fun dd0 dd1 dd2 dd3 dd4 dd5 dd6 dd7 hdd => ?_)
  refine lA8 hdd (fun dd8 dd9 dd10 dd11 dd12 dd13 dd14 dd15 hdd => ?_)
  refine lA8 hdd (fun dd16 dd17 dd18 dd19 dd20 dd21 dd22 dd23 hdd => ?_)
  obtain ⟨dd24, dd25, dd26, dd27, dd28, dd29⟩ := hdd
  refine gMet.of (by decide +kernel) (Nat.le_of_ble_eq_true rfl) [some (.ref a0), some (.int a1), some (.int a2), some (.int a3), none] (fun ls h => zEn_ok (n := 5) h) ?_
  intro o Gf h
  unfold f_M_replaceAll at h
  refine Y.blk (pc' := 3) (L' := [some (.ref a0), some (.int a1), some (.int a2), some (.int a3), none]) (st' := [.int a1, .ref a0, .ref a0]) (sg := [(.aload_n 0, 0), (.aload_n 0, 0), (.iload_n 1, 0)]) (lSa_ok dd0) rfl ?_
  obtain ⟨_, o2, e1, m3, h⟩ := gOb_inv h
  refine Y.callI (yC.Vi (b := a0) (As := [.int a1]) (st := [.ref a0]) (r := ("PartlisterModel", T_M, 9)) hV.1 cb_M_isNoList lk_M_110 in_M_isNoList rfl se_M_isNoList (lIa_ok dd1) rfl rfl (Nat.le_of_ble_eq_true rfl) (by decide) e1 m3) (k_M_isNoList hV G a0 a1) h (fun v5 G4 _ h => ?_)
  refine Y.blk (pc' := 7) (L' := [some (.ref a0), some (.int a1), some (.int a2), some (.int a3), none]) (st' := [.int (nI 1), .int v5, .ref a0]) (sg := [(.iconst 1, nI 1)]) (lSa_ok dd2) rfl ?_
  obtain ⟨_, o7, e6, m8, h⟩ := gOb_inv h
  refine Y.callI (yC.Vi (b := a0) (As := [.int v5, .int (nI 1)]) (st := []) (r := ("PartlisterModel", T_M, 9)) hV.1 cb_M_start lk_M_114 in_M_start rfl se_M_start (lIa_ok dd3) rfl rfl (Nat.le_of_ble_eq_true rfl) (by decide) e6 m8) (k_M_start hV G4 a0 v5 (nI 1)) h (fun v10 G9 _ h => ?_)
  refine Y.if_ne (off := 32) (tgt := 42) (lIa_ok dd4) (by decide) h (fun c150 h => ?_) (fun c150 h => ?_)
  · refine Y.blk (pc' := 16) (L' := [some (.ref a0), some (.int a1), some (.int a2), some (.int a3), none]) (st' := [.int a2, .ref a0, .ref a0]) (sg := [(.aload_n 0, 0), (.aload_n 0, 0), (.iload_n 2, 0)]) (lSa_ok dd5) rfl ?_
    obtain ⟨_, o12, e11, m13, h⟩ := gOb_inv h
    refine Y.callI (yC.Vi (b := a0) (As := [.int a2]) (st := [.ref a0]) (r := ("PartlisterModel", T_M, 9)) hV.1 cb_M_isNoKey lk_M_160 in_M_isNoKey rfl se_M_isNoKey (lIa_ok dd6) rfl rfl (Nat.le_of_ble_eq_true rfl) (by decide) e11 m13) (k_M_isNoKey hV G9 a0 a2) h (fun v15 G14 _ h => ?_)
    refine Y.if_ne (off := 11) (tgt := 30) (lIa_ok dd7) (by decide) h (fun c149 h => ?_) (fun c149 h => ?_)
    · refine Y.blk (pc' := 24) (L' := [some (.ref a0), some (.int a1), some (.int a2), some (.int a3), none]) (st' := [.int a3, .ref a0, .ref a0]) (sg := [(.aload_n 0, 0), (.iload_n 3, 0)]) (lSa_ok dd8) rfl ?_
      obtain ⟨_, o17, e16, m18, h⟩ := gOb_inv h
      refine Y.callI (yC.Vi (b := a0) (As := [.int a3]) (st := [.ref a0]) (r := ("PartlisterModel", T_M, 9)) hV.1 cb_M_isNoKey lk_M_160 in_M_isNoKey rfl se_M_isNoKey (lIa_ok dd9) rfl rfl (Nat.le_of_ble_eq_true rfl) (by decide) e16 m18) (k_M_isNoKey hV G14 a0 a3) h (fun v20 G19 _ h => ?_)
      refine Y.if_eq (off := 7) (tgt := 34) (lIa_ok dd10) (by decide) h (fun c115 h => ?_) (fun c115 h => ?_)
      · refine Y.blk (pc' := 36) (L' := [some (.ref a0), some (.int a1), some (.int a2), some (.int a3), none]) (st' := [.int (nI 2), .int (nI 0), .ref a0]) (sg := [(.iconst 0, nI 0), (.iconst 2, nI 2)]) (lSa_ok dd11) rfl ?_
        obtain ⟨_, o22, e21, m23, h⟩ := gOb_inv h
        refine Y.callI (yC.Vi (b := a0) (As := [.int (nI 0), .int (nI 2)]) (st := []) (r := ("PartlisterModel", T_M, 9)) hV.1 cb_M_refuse lk_M_36 in_M_refuse rfl se_M_refuse (lIa_ok dd12) rfl rfl (Nat.le_of_ble_eq_true rfl) (by decide) e21 m23) (k_M_refuse hV G19 a0 (nI 0) (nI 2)) h (fun v25 G24 _ h => ?_)
        refine Y.if_eq (off := 5) (tgt := 44) (lIa_ok dd13) (by decide) h (fun c81 h => ?_) (fun c81 h => ?_)
        · refine Y.blk (pc' := 47) (L' := [some (.ref a0), some (.int a1), some (.int a2), some (.int a3), some (.int (nI 0))]) (st' := []) (sg := [(.iconst 0, nI 0), (.istore 4, 0)]) (lSa_ok dd14) rfl ?_
          refine k_M_replaceAll_L47 hV _ ?_  zFu G24 a0 a1 a2 a3 (nI 0) h
          · intro G56 x54 x55 h
            refine Y.blk (pc' := 108) (L' := [some (.ref x54), some (.int x55), none, none, none]) (st' := [.int x55, .ref x54, .ref x54]) (sg := [(.aload_n 0, 0), (.aload_n 0, 0), (.iload_n 1, 0)]) (lSa_ok dd15) rfl ?_
            obtain ⟨_, o58, e57, m59, h⟩ := gOb_inv h
            refine Y.callI (yC.Vi (b := x54) (As := [.int x55]) (st := [.ref x54]) (r := ("PartlisterModel", T_M, 9)) hV.1 cb_M_rowOf lk_M_47 in_M_rowOf rfl se_M_rowOf (lIa_ok dd16) rfl rfl (Nat.le_of_ble_eq_true rfl) (by decide) e57 m59) (k_M_rowOf zDp hV G56 x54 x55) h (fun v61 G60 _ h => ?_)
            refine Y.blk (pc' := 112) (L' := [some (.ref x54), some (.int x55), none, none, none]) (st' := [.int x55, .int v61, .ref x54]) (sg := [(.iload_n 1, 0)]) (lSa_ok dd17) rfl ?_
            obtain ⟨_, o63, e62, m64, h⟩ := gOb_inv h
            refine Y.callI (yC.Vi (b := x54) (As := [.int v61, .int x55]) (st := []) (r := ("PartlisterModel", T_M, 9)) hV.1 cb_M_endParts lk_M_103 in_M_endParts rfl se_M_endParts (lIa_ok dd18) rfl rfl (Nat.le_of_ble_eq_true rfl) (by decide) e62 m64) (k_M_endParts hV G60 x54 v61 x55) h (fun v66 G65 _ h => ?_)
            refine Y.blk (pc' := 119) (L' := [some (.ref x54), some (.int x55), none, none, none]) (st' := [.int x55, .ref x54, .ref x54]) (sg := [(.pop, 0), (.aload_n 0, 0), (.aload_n 0, 0), (.iload_n 1, 0)]) (lSa_ok dd19) rfl ?_
            obtain ⟨_, o68, e67, m69, h⟩ := gOb_inv h
            refine Y.callI (yC.Vi (b := x54) (As := [.int x55]) (st := [.ref x54]) (r := ("PartlisterModel", T_M, 9)) hV.1 cb_M_rowOf lk_M_47 in_M_rowOf rfl se_M_rowOf (lIa_ok dd20) rfl rfl (Nat.le_of_ble_eq_true rfl) (by decide) e67 m69) (k_M_rowOf zDp hV G65 x54 x55) h (fun v71 G70 _ h => ?_)
            obtain ⟨_, o73, e72, m74, h⟩ := gOb_inv h
            refine Y.callN (yC.Vi (b := x54) (As := [.int v71]) (st := []) (r := ("PartlisterModel", T_M, 9)) hV.1 cb_M_endCursors lk_M_177 in_M_endCursors rfl se_M_endCursors (lIa_ok dd21) rfl rfl (Nat.le_of_ble_eq_true rfl) (by decide) e72 m74) (k_M_endCursors hV G70 x54 v71) h (fun G75 _ h => ?_)
            refine Y.blk (pc' := 127) (L' := [some (.ref x54), some (.int x55), none, none, none]) (st' := [.int x55, .ref x54]) (sg := [(.aload_n 0, 0), (.iload_n 1, 0)]) (lSa_ok dd22) rfl ?_
            obtain ⟨_, o77, e76, m78, h⟩ := gOb_inv h
            refine Y.callI (yC.Vi (b := x54) (As := [.int x55]) (st := []) (r := ("PartlisterModel", T_M, 9)) hV.1 cb_M_length lk_M_74 in_M_length rfl se_M_length (lIa_ok dd23) rfl rfl (Nat.le_of_ble_eq_true rfl) (by decide) e76 m78) (k_M_length hV G75 x54 x55) h (fun v80 G79 _ h => ?_)
            exact Y.iret rfl (lIa_ok dd24) h
        · refine Y.blk (pc' := 43) (L' := [some (.ref a0), some (.int a1), some (.int a2), some (.int a3), none]) (st' := [.int (nI 0)]) (sg := [(.iconst 0, nI 0)]) (lSa_ok dd25) rfl ?_
          exact Y.iret rfl (lIa_ok dd26) h
      · refine Y.blk (pc' := 31) (L' := [some (.ref a0), some (.int a1), some (.int a2), some (.int a3), none]) (st' := [.int (nI 1), .ref a0]) (sg := [(.iconst 1, nI 1)]) (lSa_ok dd27) rfl ?_
        refine Y.goto (off := 4) (tgt := 35) (lIa_ok dd28) (by decide) ?_
        refine Y.blk (pc' := 36) (L' := [some (.ref a0), some (.int a1), some (.int a2), some (.int a3), none]) (st' := [.int (nI 2), .int (nI 1), .ref a0]) (sg := [(.iconst 2, nI 2)]) (lSa_ok dd29) rfl ?_
        obtain ⟨_, o83, e82, m84, h⟩ := gOb_inv h
        refine Y.callI (yC.Vi (b := a0) (As := [.int (nI 1), .int (nI 2)]) (st := []) (r := ("PartlisterModel", T_M, 9)) hV.1 cb_M_refuse lk_M_36 in_M_refuse rfl se_M_refuse (lIa_ok dd12) rfl rfl (Nat.le_of_ble_eq_true rfl) (by decide) e82 m84) (k_M_refuse hV G19 a0 (nI 1) (nI 2)) h (fun v86 G85 _ h => ?_)
        refine Y.if_eq (off := 5) (tgt := 44) (lIa_ok dd13) (by decide) h (fun c114 h => ?_) (fun c114 h => ?_)
        · refine Y.blk (pc' := 47) (L' := [some (.ref a0), some (.int a1), some (.int a2), some (.int a3), some (.int (nI 0))]) (st' := []) (sg := [(.iconst 0, nI 0), (.istore 4, 0)]) (lSa_ok dd14) rfl ?_
          refine k_M_replaceAll_L47 hV _ ?_  zFu G85 a0 a1 a2 a3 (nI 0) h
          · intro G89 x87 x88 h
            refine Y.blk (pc' := 108) (L' := [some (.ref x87), some (.int x88), none, none, none]) (st' := [.int x88, .ref x87, .ref x87]) (sg := [(.aload_n 0, 0), (.aload_n 0, 0), (.iload_n 1, 0)]) (lSa_ok dd15) rfl ?_
            obtain ⟨_, o91, e90, m92, h⟩ := gOb_inv h
            refine Y.callI (yC.Vi (b := x87) (As := [.int x88]) (st := [.ref x87]) (r := ("PartlisterModel", T_M, 9)) hV.1 cb_M_rowOf lk_M_47 in_M_rowOf rfl se_M_rowOf (lIa_ok dd16) rfl rfl (Nat.le_of_ble_eq_true rfl) (by decide) e90 m92) (k_M_rowOf zDp hV G89 x87 x88) h (fun v94 G93 _ h => ?_)
            refine Y.blk (pc' := 112) (L' := [some (.ref x87), some (.int x88), none, none, none]) (st' := [.int x88, .int v94, .ref x87]) (sg := [(.iload_n 1, 0)]) (lSa_ok dd17) rfl ?_
            obtain ⟨_, o96, e95, m97, h⟩ := gOb_inv h
            refine Y.callI (yC.Vi (b := x87) (As := [.int v94, .int x88]) (st := []) (r := ("PartlisterModel", T_M, 9)) hV.1 cb_M_endParts lk_M_103 in_M_endParts rfl se_M_endParts (lIa_ok dd18) rfl rfl (Nat.le_of_ble_eq_true rfl) (by decide) e95 m97) (k_M_endParts hV G93 x87 v94 x88) h (fun v99 G98 _ h => ?_)
            refine Y.blk (pc' := 119) (L' := [some (.ref x87), some (.int x88), none, none, none]) (st' := [.int x88, .ref x87, .ref x87]) (sg := [(.pop, 0), (.aload_n 0, 0), (.aload_n 0, 0), (.iload_n 1, 0)]) (lSa_ok dd19) rfl ?_
            obtain ⟨_, o101, e100, m102, h⟩ := gOb_inv h
            refine Y.callI (yC.Vi (b := x87) (As := [.int x88]) (st := [.ref x87]) (r := ("PartlisterModel", T_M, 9)) hV.1 cb_M_rowOf lk_M_47 in_M_rowOf rfl se_M_rowOf (lIa_ok dd20) rfl rfl (Nat.le_of_ble_eq_true rfl) (by decide) e100 m102) (k_M_rowOf zDp hV G98 x87 x88) h (fun v104 G103 _ h => ?_)
            obtain ⟨_, o106, e105, m107, h⟩ := gOb_inv h
            refine Y.callN (yC.Vi (b := x87) (As := [.int v104]) (st := []) (r := ("PartlisterModel", T_M, 9)) hV.1 cb_M_endCursors lk_M_177 in_M_endCursors rfl se_M_endCursors (lIa_ok dd21) rfl rfl (Nat.le_of_ble_eq_true rfl) (by decide) e105 m107) (k_M_endCursors hV G103 x87 v104) h (fun G108 _ h => ?_)
            refine Y.blk (pc' := 127) (L' := [some (.ref x87), some (.int x88), none, none, none]) (st' := [.int x88, .ref x87]) (sg := [(.aload_n 0, 0), (.iload_n 1, 0)]) (lSa_ok dd22) rfl ?_
            obtain ⟨_, o110, e109, m111, h⟩ := gOb_inv h
            refine Y.callI (yC.Vi (b := x87) (As := [.int x88]) (st := []) (r := ("PartlisterModel", T_M, 9)) hV.1 cb_M_length lk_M_74 in_M_length rfl se_M_length (lIa_ok dd23) rfl rfl (Nat.le_of_ble_eq_true rfl) (by decide) e109 m111) (k_M_length hV G108 x87 x88) h (fun v113 G112 _ h => ?_)
            exact Y.iret rfl (lIa_ok dd24) h
        · refine Y.blk (pc' := 43) (L' := [some (.ref a0), some (.int a1), some (.int a2), some (.int a3), none]) (st' := [.int (nI 0)]) (sg := [(.iconst 0, nI 0)]) (lSa_ok dd25) rfl ?_
          exact Y.iret rfl (lIa_ok dd26) h
    · refine Y.blk (pc' := 31) (L' := [some (.ref a0), some (.int a1), some (.int a2), some (.int a3), none]) (st' := [.int (nI 1), .ref a0]) (sg := [(.iconst 1, nI 1)]) (lSa_ok dd27) rfl ?_
      refine Y.goto (off := 4) (tgt := 35) (lIa_ok dd28) (by decide) ?_
      refine Y.blk (pc' := 36) (L' := [some (.ref a0), some (.int a1), some (.int a2), some (.int a3), none]) (st' := [.int (nI 2), .int (nI 1), .ref a0]) (sg := [(.iconst 2, nI 2)]) (lSa_ok dd29) rfl ?_
      obtain ⟨_, o117, e116, m118, h⟩ := gOb_inv h
      refine Y.callI (yC.Vi (b := a0) (As := [.int (nI 1), .int (nI 2)]) (st := []) (r := ("PartlisterModel", T_M, 9)) hV.1 cb_M_refuse lk_M_36 in_M_refuse rfl se_M_refuse (lIa_ok dd12) rfl rfl (Nat.le_of_ble_eq_true rfl) (by decide) e116 m118) (k_M_refuse hV G14 a0 (nI 1) (nI 2)) h (fun v120 G119 _ h => ?_)
      refine Y.if_eq (off := 5) (tgt := 44) (lIa_ok dd13) (by decide) h (fun c148 h => ?_) (fun c148 h => ?_)
      · refine Y.blk (pc' := 47) (L' := [some (.ref a0), some (.int a1), some (.int a2), some (.int a3), some (.int (nI 0))]) (st' := []) (sg := [(.iconst 0, nI 0), (.istore 4, 0)]) (lSa_ok dd14) rfl ?_
        refine k_M_replaceAll_L47 hV _ ?_  zFu G119 a0 a1 a2 a3 (nI 0) h
        · intro G123 x121 x122 h
          refine Y.blk (pc' := 108) (L' := [some (.ref x121), some (.int x122), none, none, none]) (st' := [.int x122, .ref x121, .ref x121]) (sg := [(.aload_n 0, 0), (.aload_n 0, 0), (.iload_n 1, 0)]) (lSa_ok dd15) rfl ?_
          obtain ⟨_, o125, e124, m126, h⟩ := gOb_inv h
          refine Y.callI (yC.Vi (b := x121) (As := [.int x122]) (st := [.ref x121]) (r := ("PartlisterModel", T_M, 9)) hV.1 cb_M_rowOf lk_M_47 in_M_rowOf rfl se_M_rowOf (lIa_ok dd16) rfl rfl (Nat.le_of_ble_eq_true rfl) (by decide) e124 m126) (k_M_rowOf zDp hV G123 x121 x122) h (fun v128 G127 _ h => ?_)
          refine Y.blk (pc' := 112) (L' := [some (.ref x121), some (.int x122), none, none, none]) (st' := [.int x122, .int v128, .ref x121]) (sg := [(.iload_n 1, 0)]) (lSa_ok dd17) rfl ?_
          obtain ⟨_, o130, e129, m131, h⟩ := gOb_inv h
          refine Y.callI (yC.Vi (b := x121) (As := [.int v128, .int x122]) (st := []) (r := ("PartlisterModel", T_M, 9)) hV.1 cb_M_endParts lk_M_103 in_M_endParts rfl se_M_endParts (lIa_ok dd18) rfl rfl (Nat.le_of_ble_eq_true rfl) (by decide) e129 m131) (k_M_endParts hV G127 x121 v128 x122) h (fun v133 G132 _ h => ?_)
          refine Y.blk (pc' := 119) (L' := [some (.ref x121), some (.int x122), none, none, none]) (st' := [.int x122, .ref x121, .ref x121]) (sg := [(.pop, 0), (.aload_n 0, 0), (.aload_n 0, 0), (.iload_n 1, 0)]) (lSa_ok dd19) rfl ?_
          obtain ⟨_, o135, e134, m136, h⟩ := gOb_inv h
          refine Y.callI (yC.Vi (b := x121) (As := [.int x122]) (st := [.ref x121]) (r := ("PartlisterModel", T_M, 9)) hV.1 cb_M_rowOf lk_M_47 in_M_rowOf rfl se_M_rowOf (lIa_ok dd20) rfl rfl (Nat.le_of_ble_eq_true rfl) (by decide) e134 m136) (k_M_rowOf zDp hV G132 x121 x122) h (fun v138 G137 _ h => ?_)
          obtain ⟨_, o140, e139, m141, h⟩ := gOb_inv h
          refine Y.callN (yC.Vi (b := x121) (As := [.int v138]) (st := []) (r := ("PartlisterModel", T_M, 9)) hV.1 cb_M_endCursors lk_M_177 in_M_endCursors rfl se_M_endCursors (lIa_ok dd21) rfl rfl (Nat.le_of_ble_eq_true rfl) (by decide) e139 m141) (k_M_endCursors hV G137 x121 v138) h (fun G142 _ h => ?_)
          refine Y.blk (pc' := 127) (L' := [some (.ref x121), some (.int x122), none, none, none]) (st' := [.int x122, .ref x121]) (sg := [(.aload_n 0, 0), (.iload_n 1, 0)]) (lSa_ok dd22) rfl ?_
          obtain ⟨_, o144, e143, m145, h⟩ := gOb_inv h
          refine Y.callI (yC.Vi (b := x121) (As := [.int x122]) (st := []) (r := ("PartlisterModel", T_M, 9)) hV.1 cb_M_length lk_M_74 in_M_length rfl se_M_length (lIa_ok dd23) rfl rfl (Nat.le_of_ble_eq_true rfl) (by decide) e143 m145) (k_M_length hV G142 x121 x122) h (fun v147 G146 _ h => ?_)
          exact Y.iret rfl (lIa_ok dd24) h
      · refine Y.blk (pc' := 43) (L' := [some (.ref a0), some (.int a1), some (.int a2), some (.int a3), none]) (st' := [.int (nI 0)]) (sg := [(.iconst 0, nI 0)]) (lSa_ok dd25) rfl ?_
        exact Y.iret rfl (lIa_ok dd26) h
  · refine Y.blk (pc' := 43) (L' := [some (.ref a0), some (.int a1), some (.int a2), some (.int a3), none]) (st' := [.int (nI 0)]) (sg := [(.iconst 0, nI 0)]) (lSa_ok dd25) rfl ?_
    exact Y.iret rfl (lIa_ok dd26) h
