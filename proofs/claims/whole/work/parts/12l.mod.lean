def f_M_house (G : gH) (a0 : Nat) (a1 : Int32) : gR :=
  bI (f_M_isIn G a1 (nI 0) (nI 7)) fun v3 G2 => if v3 = 0 then (gOb G2 a0 6 fun o5 => bI (f_M_start G2 a0 (nI 1) (nI 1)) fun v8 G7 => if v8 = 0 then gOb G7 a0 6 fun o10 => bI (f_M_houseTold G7 a0 a1) fun v13 G12 => rI v13 G12
    else rI (nI 0) G7)
  else gOb G2 a0 6 fun o16 => bI (f_M_start G2 a0 (nI 0) (nI 1)) fun v19 G18 => if v19 = 0 then gOb G18 a0 6 fun o21 => bI (f_M_houseTold G18 a0 a1) fun v24 G23 => rI v24 G23
    else rI (nI 0) G18
theorem k_M_house {l : Launch} {D : va_G} {B : Nat} {O : State → Heap → Prop} (hV : zG l D B O) (G : gH) (a0 : Nat) (a1 : Int32) : gMet (zVm l D B O) m_M_house 4 [.ref a0, .int a1] G (f_M_house G a0 a1) := by
  have hdd : lSa m_M_house 0 [(.aload_n 0, 0), (.iload_n 1, 0), (.iconst 0, nI 0), (.bipush 7, nI 7)] = true ∧ lIa m_M_house 5 (.invokestatic 40) 3 = true ∧ lIa m_M_house 8 (.ifCond .ne 7) 3 = true ∧ lSa m_M_house 11 [(.iconst 1, nI 1)] = true ∧ lIa m_M_house 12 (.goto 4) 3 = true ∧ lSa m_M_house 16 [(.iconst 1, nI 1)] = true ∧ lIa m_M_house 17 (.invokevirtual 114) 3 = true ∧ lIa m_M_house 20 (.ifCond .eq 7) 3 = true ∧ lSa m_M_house 27 [(.aload_n 0, 0), (.iload_n 1, 0)] = true ∧ lIa m_M_house 29 (.invokevirtual 296) 3 = true ∧ lIa m_M_house 32 (.ireturn) 1 = true ∧ lSa m_M_house 23 [(.iconst 0, nI 0)] = true ∧ lIa m_M_house 24 (.goto 8) 3 = true ∧ lSa m_M_house 15 [(.iconst 0, nI 0), (.iconst 1, nI 1)] = true := by decide +kernel
  refine lA8 hdd (fun dd0 dd1 dd2 dd3 dd4 dd5 dd6 dd7 hdd => ?_)
  obtain ⟨dd8, dd9, dd10, dd11, dd12, dd13⟩ := hdd
  refine gMet.of (by decide +kernel) (Nat.le_of_ble_eq_true rfl) [some (.ref a0), some (.int a1)] (fun ls h => zEn_ok (n := 2) h) ?_
  intro o Gf h
  unfold f_M_house at h
  refine Y.blk (pc' := 5) (L' := [some (.ref a0), some (.int a1)]) (st' := [.int (nI 7), .int (nI 0), .int a1, .ref a0]) (sg := [(.aload_n 0, 0), (.iload_n 1, 0), (.iconst 0, nI 0), (.bipush 7, nI 7)]) (lSa_ok dd0) rfl ?_
  refine Y.callI (yC.S (As := [.int a1, .int (nI 0), .int (nI 7)]) (st := [.ref a0]) hV.1 cb_M_isIn lk_M_40 st_M_isIn (lIa_ok dd1) rfl rfl (Nat.le_of_ble_eq_true rfl) (by decide)) (k_M_isIn hV G a1 (nI 0) (nI 7)) h (fun v3 G2 _ h => ?_)
  refine Y.if_ne (off := 7) (tgt := 15) (lIa_ok dd2) (by decide) h (fun c26 h => ?_) (fun c26 h => ?_)
  · refine Y.blk (pc' := 12) (L' := [some (.ref a0), some (.int a1)]) (st' := [.int (nI 1), .ref a0]) (sg := [(.iconst 1, nI 1)]) (lSa_ok dd3) rfl ?_
    refine Y.goto (off := 4) (tgt := 16) (lIa_ok dd4) (by decide) ?_
    refine Y.blk (pc' := 17) (L' := [some (.ref a0), some (.int a1)]) (st' := [.int (nI 1), .int (nI 1), .ref a0]) (sg := [(.iconst 1, nI 1)]) (lSa_ok dd5) rfl ?_
    obtain ⟨_, o5, e4, m6, h⟩ := gOb_inv h
    refine Y.callI (yC.Vi (b := a0) (As := [.int (nI 1), .int (nI 1)]) (st := []) (r := ("PartlisterModel", T_M, 9)) hV.1 cb_M_start lk_M_114 in_M_start rfl se_M_start (lIa_ok dd6) rfl rfl (Nat.le_of_ble_eq_true rfl) (by decide) e4 m6) (k_M_start hV G2 a0 (nI 1) (nI 1)) h (fun v8 G7 _ h => ?_)
    refine Y.if_eq (off := 7) (tgt := 27) (lIa_ok dd7) (by decide) h (fun c14 h => ?_) (fun c14 h => ?_)
    · refine Y.blk (pc' := 29) (L' := [some (.ref a0), some (.int a1)]) (st' := [.int a1, .ref a0]) (sg := [(.aload_n 0, 0), (.iload_n 1, 0)]) (lSa_ok dd8) rfl ?_
      obtain ⟨_, o10, e9, m11, h⟩ := gOb_inv h
      refine Y.callI (yC.Vi (b := a0) (As := [.int a1]) (st := []) (r := ("PartlisterModel", T_M, 9)) hV.1 cb_M_houseTold lk_M_296 in_M_houseTold rfl se_M_houseTold (lIa_ok dd9) rfl rfl (Nat.le_of_ble_eq_true rfl) (by decide) e9 m11) (k_M_houseTold hV G7 a0 a1) h (fun v13 G12 _ h => ?_)
      exact Y.iret rfl (lIa_ok dd10) h
    · refine Y.blk (pc' := 24) (L' := [some (.ref a0), some (.int a1)]) (st' := [.int (nI 0)]) (sg := [(.iconst 0, nI 0)]) (lSa_ok dd11) rfl ?_
      refine Y.goto (off := 8) (tgt := 32) (lIa_ok dd12) (by decide) ?_
      exact Y.iret rfl (lIa_ok dd10) h
  · refine Y.blk (pc' := 17) (L' := [some (.ref a0), some (.int a1)]) (st' := [.int (nI 1), .int (nI 0), .ref a0]) (sg := [(.iconst 0, nI 0), (.iconst 1, nI 1)]) (lSa_ok dd13) rfl ?_
    obtain ⟨_, o16, e15, m17, h⟩ := gOb_inv h
    refine Y.callI (yC.Vi (b := a0) (As := [.int (nI 0), .int (nI 1)]) (st := []) (r := ("PartlisterModel", T_M, 9)) hV.1 cb_M_start lk_M_114 in_M_start rfl se_M_start (lIa_ok dd6) rfl rfl (Nat.le_of_ble_eq_true rfl) (by decide) e15 m17) (k_M_start hV G2 a0 (nI 0) (nI 1)) h (fun v19 G18 _ h => ?_)
    refine Y.if_eq (off := 7) (tgt := 27) (lIa_ok dd7) (by decide) h (fun c25 h => ?_) (fun c25 h => ?_)
    · refine Y.blk (pc' := 29) (L' := [some (.ref a0), some (.int a1)]) (st' := [.int a1, .ref a0]) (sg := [(.aload_n 0, 0), (.iload_n 1, 0)]) (lSa_ok dd8) rfl ?_
      obtain ⟨_, o21, e20, m22, h⟩ := gOb_inv h
      refine Y.callI (yC.Vi (b := a0) (As := [.int a1]) (st := []) (r := ("PartlisterModel", T_M, 9)) hV.1 cb_M_houseTold lk_M_296 in_M_houseTold rfl se_M_houseTold (lIa_ok dd9) rfl rfl (Nat.le_of_ble_eq_true rfl) (by decide) e20 m22) (k_M_houseTold hV G18 a0 a1) h (fun v24 G23 _ h => ?_)
      exact Y.iret rfl (lIa_ok dd10) h
    · refine Y.blk (pc' := 24) (L' := [some (.ref a0), some (.int a1)]) (st' := [.int (nI 0)]) (sg := [(.iconst 0, nI 0)]) (lSa_ok dd11) rfl ?_
      refine Y.goto (off := 8) (tgt := 32) (lIa_ok dd12) (by decide) ?_
      exact Y.iret rfl (lIa_ok dd10) h

def f_M_insert (w : Nat → Nat) (G : gH) (a0 : Nat) (a1 : Int32) (a2 : Int32) : gR :=
  gOb G a0 6 fun o2 => bI (f_M_isNoCursor G a0 a1) fun v5 G4 => gOb G4 a0 6 fun o7 => bI (f_M_start G4 a0 v5 (nI 1)) fun v10 G9 => if v10 = 0 then (gOb G9 a0 6 fun o12 => bI (f_M_isNoKey G9 a0 a2) fun v15 G14 => gOb G14 a0 6 fun o17 => bI (f_M_refuse G14 a0 v15 (nI 2)) fun v20 G19 => if v20 = 0 then (gFA G19 a0 6 3 fun v21 => gLdq G19 v21 105 a1 (none) fun v22 => gFI G19 v22 4 0 fun v23 => gOb G19 a0 6 fun o25 => bI (f_M_isFull G19 a0 v23 (nI 1)) fun v28 G27 => gOb G27 a0 6 fun o30 => bI (f_M_refuse G27 a0 v28 (nI 3)) fun v33 G32 => if v33 = 0 then (gFA G32 a0 6 3 fun v34 => gLdq G32 v34 105 a1 (none) fun v35 => gFI G32 v35 4 3 fun v36 => if v36 = 0 then gFI G32 v35 4 0 fun v37 => gFI G32 v35 4 1 fun v38 => gOb G32 a0 6 fun o40 => bA (f_M_make G32 a0 a2) fun v43 G42 => gOb G42 a0 6 fun o45 => bV (f_M_come w G42 a0 v37 v38 v43) fun G47 => gFI G47 v35 4 1 fun v48 => gPut G47 v35 4 1 (.int (v48 + (nI 1))) fun G49 => gPut G49 v35 4 2 (.int (-1)) fun G50 => gFI G50 v35 4 0 fun v51 => gOb G50 a0 6 fun o53 => bV (f_M_change G50 a0 v51 (nI 1) a1) fun G55 => gFI G55 a0 6 4 fun v56 => rI (v56 - (nI 1)) G55
            else gOb G32 a0 6 fun o58 => bI (f_M_fault G32 a0 (-9)) fun v61 G60 => rI v61 G60)
        else rI (nI 0) G32)
    else rI (nI 0) G19)
  else rI (nI 0) G9
theorem k_M_insert {l : Launch} {D : va_G} {B : Nat} {O : State → Heap → Prop} {w : Nat → Nat} (hV : zGw l D B O w) (G : gH) (a0 : Nat) (a1 : Int32) (a2 : Int32) : gMet (zVm l D B O) m_M_insert 14 [.ref a0, .int a1, .int a2] G (f_M_insert w G a0 a1 a2) := by
  have hdd : lSa m_M_insert 0 [(.aload_n 0, 0), (.aload_n 0, 0), (.iload_n 1, 0)] = true ∧ lIa m_M_insert 3 (.invokevirtual 214) 3 = true ∧ lSa m_M_insert 6 [(.iconst 1, nI 1)] = true ∧ lIa m_M_insert 7 (.invokevirtual 114) 3 = true ∧ lIa m_M_insert 10 (.ifCond .ne 38) 3 = true ∧ lSa m_M_insert 13 [(.aload_n 0, 0), (.aload_n 0, 0), (.iload_n 2, 0)] = true ∧ lIa m_M_insert 16 (.invokevirtual 160) 3 = true ∧ lSa m_M_insert 19 [(.iconst 2, nI 2)] = true ∧ lIa m_M_insert 20 (.invokevirtual 36) 3 = true ∧ lIa m_M_insert 23 (.ifCond .ne 25) 3 = true ∧ lSa m_M_insert 26 [(.aload_n 0, 0), (.aload_n 0, 0), (.aload_n 0, 0)] = true ∧ lIa m_M_insert 29 (.getfield 24) 3 = true ∧ lSa m_M_insert 32 [(.iload_n 1, 0)] = true ∧ lIa m_M_insert 33 (.aaload) 1 = true ∧ lIa m_M_insert 34 (.getfield 89) 3 = true ∧ lSa m_M_insert 37 [(.iconst 1, nI 1)] = true ∧ lIa m_M_insert 38 (.invokevirtual 117) 3 = true ∧ lSa m_M_insert 41 [(.iconst 3, nI 3)] = true ∧ lIa m_M_insert 42 (.invokevirtual 36) 3 = true ∧ lIa m_M_insert 45 (.ifCond .eq 5) 3 = true ∧ lSa m_M_insert 50 [(.aload_n 0, 0)] = true ∧ lIa m_M_insert 51 (.getfield 24) 3 = true ∧ lSa m_M_insert 54 [(.iload_n 1, 0)] = true ∧ lIa m_M_insert 55 (.aaload) 1 = true ∧ lSa m_M_insert 56 [(.astore_n 3, 0), (.aload_n 3, 0)] = true ∧ lIa m_M_insert 58 (.getfield 99) 3 = true ∧ lIa m_M_insert 61 (.ifCond .eq 10) 3 = true ∧ lSa m_M_insert 71 [(.aload_n 0, 0), (.aload_n 3, 0)] = true ∧ lIa m_M_insert 73 (.getfield 89) 3 = true ∧ lSa m_M_insert 76 [(.aload_n 3, 0)] = true ∧ lIa m_M_insert 77 (.getfield 208) 3 = true ∧ lSa m_M_insert 80 [(.aload_n 0, 0), (.iload_n 2, 0)] = true ∧ lIa m_M_insert 82 (.invokevirtual 120) 3 = true ∧ lIa m_M_insert 85 (.invokevirtual 124) 3 = true ∧ lSa m_M_insert 88 [(.aload_n 3, 0), (.dup, 0)] = true ∧ lIa m_M_insert 90 (.getfield 208) 3 = true ∧ lSa m_M_insert 93 [(.iconst 1, nI 1), (.iadd, 0)] = true ∧ lIa m_M_insert 95 (.putfield 208) 3 = true ∧ lSa m_M_insert 98 [(.aload_n 3, 0), (.iconst (-1), -1)] = true ∧ lIa m_M_insert 100 (.putfield 220) 3 = true ∧ lSa m_M_insert 103 [(.aload_n 0, 0), (.aload_n 3, 0)] = true ∧ lIa m_M_insert 105 (.getfield 89) 3 = true ∧ lSa m_M_insert 108 [(.iconst 1, nI 1), (.iload_n 1, 0)] = true ∧ lIa m_M_insert 110 (.invokevirtual 128) 3 = true ∧ lSa m_M_insert 113 [(.aload_n 0, 0)] = true ∧ lIa m_M_insert 114 (.getfield 76) 3 = true ∧ lSa m_M_insert 117 [(.iconst 1, nI 1), (.isub, 0)] = true ∧ lIa m_M_insert 119 (.ireturn) 1 = true ∧ lSa m_M_insert 64 [(.aload_n 0, 0), (.bipush (-9), -9)] = true ∧ lIa m_M_insert 67 (.invokevirtual 217) 3 = true ∧ lIa m_M_insert 70 (.ireturn) 1 = true ∧ lSa m_M_insert 48 [(.iconst 0, nI 0)] = true ∧ lIa m_M_insert 49 (.ireturn) 1 = true := by decide +kernel
  refine lA8 hdd (fun dd0 dd1 dd2 dd3 dd4 dd5 dd6 dd7 hdd => ?_)
  refine lA8 hdd (fun dd8 dd9 dd10 dd11 dd12 dd13 dd14 dd15 hdd => ?_)
  refine lA8 hdd (fun dd16 dd17 dd18 dd19 dd20 dd21 dd22 dd23 hdd => ?_)
  refine lA8 hdd (fun dd24 dd25 dd26 dd27 dd28 dd29 dd30 dd31 hdd => ?_)
  refine lA8 hdd (fun dd32 dd33 dd34 dd35 dd36 dd37 dd38 dd39 hdd => ?_)
  refine lA8 hdd (fun dd40 dd41 dd42 dd43 dd44 dd45 dd46 dd47 hdd => ?_)
  obtain ⟨dd48, dd49, dd50, dd51, dd52⟩ := hdd
  refine gMet.of (by decide +kernel) (Nat.le_of_ble_eq_true rfl) [some (.ref a0), some (.int a1), some (.int a2), none] (fun ls h => zEn_ok (n := 4) h) ?_
  intro o Gf h
  unfold f_M_insert at h
  refine Y.blk (pc' := 3) (L' := [some (.ref a0), some (.int a1), some (.int a2), none]) (st' := [.int a1, .ref a0, .ref a0]) (sg := [(.aload_n 0, 0), (.aload_n 0, 0), (.iload_n 1, 0)]) (lSa_ok dd0) rfl ?_
  obtain ⟨_, o2, e1, m3, h⟩ := gOb_inv h
  refine Y.callI (yC.Vi (b := a0) (As := [.int a1]) (st := [.ref a0]) (r := ("PartlisterModel", T_M, 9)) hV.1.1 cb_M_isNoCursor lk_M_214 in_M_isNoCursor rfl se_M_isNoCursor (lIa_ok dd1) rfl rfl (Nat.le_of_ble_eq_true rfl) (by decide) e1 m3) (k_M_isNoCursor hV.1 G a0 a1) h (fun v5 G4 _ h => ?_)
  refine Y.blk (pc' := 7) (L' := [some (.ref a0), some (.int a1), some (.int a2), none]) (st' := [.int (nI 1), .int v5, .ref a0]) (sg := [(.iconst 1, nI 1)]) (lSa_ok dd2) rfl ?_
  obtain ⟨_, o7, e6, m8, h⟩ := gOb_inv h
  refine Y.callI (yC.Vi (b := a0) (As := [.int v5, .int (nI 1)]) (st := []) (r := ("PartlisterModel", T_M, 9)) hV.1.1 cb_M_start lk_M_114 in_M_start rfl se_M_start (lIa_ok dd3) rfl rfl (Nat.le_of_ble_eq_true rfl) (by decide) e6 m8) (k_M_start hV.1 G4 a0 v5 (nI 1)) h (fun v10 G9 _ h => ?_)
  refine Y.if_ne (off := 38) (tgt := 48) (lIa_ok dd4) (by decide) h (fun c65 h => ?_) (fun c65 h => ?_)
  · refine Y.blk (pc' := 16) (L' := [some (.ref a0), some (.int a1), some (.int a2), none]) (st' := [.int a2, .ref a0, .ref a0]) (sg := [(.aload_n 0, 0), (.aload_n 0, 0), (.iload_n 2, 0)]) (lSa_ok dd5) rfl ?_
    obtain ⟨_, o12, e11, m13, h⟩ := gOb_inv h
    refine Y.callI (yC.Vi (b := a0) (As := [.int a2]) (st := [.ref a0]) (r := ("PartlisterModel", T_M, 9)) hV.1.1 cb_M_isNoKey lk_M_160 in_M_isNoKey rfl se_M_isNoKey (lIa_ok dd6) rfl rfl (Nat.le_of_ble_eq_true rfl) (by decide) e11 m13) (k_M_isNoKey hV.1 G9 a0 a2) h (fun v15 G14 _ h => ?_)
    refine Y.blk (pc' := 20) (L' := [some (.ref a0), some (.int a1), some (.int a2), none]) (st' := [.int (nI 2), .int v15, .ref a0]) (sg := [(.iconst 2, nI 2)]) (lSa_ok dd7) rfl ?_
    obtain ⟨_, o17, e16, m18, h⟩ := gOb_inv h
    refine Y.callI (yC.Vi (b := a0) (As := [.int v15, .int (nI 2)]) (st := []) (r := ("PartlisterModel", T_M, 9)) hV.1.1 cb_M_refuse lk_M_36 in_M_refuse rfl se_M_refuse (lIa_ok dd8) rfl rfl (Nat.le_of_ble_eq_true rfl) (by decide) e16 m18) (k_M_refuse hV.1 G14 a0 v15 (nI 2)) h (fun v20 G19 _ h => ?_)
    refine Y.if_ne (off := 25) (tgt := 48) (lIa_ok dd9) (by decide) h (fun c64 h => ?_) (fun c64 h => ?_)
    · refine Y.blk (pc' := 29) (L' := [some (.ref a0), some (.int a1), some (.int a2), none]) (st' := [.ref a0, .ref a0, .ref a0]) (sg := [(.aload_n 0, 0), (.aload_n 0, 0), (.aload_n 0, 0)]) (lSa_ok dd10) rfl ?_
      refine Y.getA fl_M_24 (lIa_ok dd11) h (fun v21 h => ?_)
      refine Y.blk (pc' := 33) (L' := [some (.ref a0), some (.int a1), some (.int a2), none]) (st' := [.int a1, .ref v21, .ref a0, .ref a0]) (sg := [(.iload_n 1, 0)]) (lSa_ok dd12) rfl ?_
      refine Y.aald (t0 := 5) (lIa_ok dd13) rfl h (fun h => ?_) (fun v22 h => ?_)
      · cases h
      · refine Y.getI fl_M_89 (lIa_ok dd14) h (fun v23 h => ?_)
        refine Y.blk (pc' := 38) (L' := [some (.ref a0), some (.int a1), some (.int a2), none]) (st' := [.int (nI 1), .int v23, .ref a0, .ref a0]) (sg := [(.iconst 1, nI 1)]) (lSa_ok dd15) rfl ?_
        obtain ⟨_, o25, e24, m26, h⟩ := gOb_inv h
        refine Y.callI (yC.Vi (b := a0) (As := [.int v23, .int (nI 1)]) (st := [.ref a0]) (r := ("PartlisterModel", T_M, 9)) hV.1.1 cb_M_isFull lk_M_117 in_M_isFull rfl se_M_isFull (lIa_ok dd16) rfl rfl (Nat.le_of_ble_eq_true rfl) (by decide) e24 m26) (k_M_isFull hV.1 G19 a0 v23 (nI 1)) h (fun v28 G27 _ h => ?_)
        refine Y.blk (pc' := 42) (L' := [some (.ref a0), some (.int a1), some (.int a2), none]) (st' := [.int (nI 3), .int v28, .ref a0]) (sg := [(.iconst 3, nI 3)]) (lSa_ok dd17) rfl ?_
        obtain ⟨_, o30, e29, m31, h⟩ := gOb_inv h
        refine Y.callI (yC.Vi (b := a0) (As := [.int v28, .int (nI 3)]) (st := []) (r := ("PartlisterModel", T_M, 9)) hV.1.1 cb_M_refuse lk_M_36 in_M_refuse rfl se_M_refuse (lIa_ok dd18) rfl rfl (Nat.le_of_ble_eq_true rfl) (by decide) e29 m31) (k_M_refuse hV.1 G27 a0 v28 (nI 3)) h (fun v33 G32 _ h => ?_)
        refine Y.if_eq (off := 5) (tgt := 50) (lIa_ok dd19) (by decide) h (fun c63 h => ?_) (fun c63 h => ?_)
        · refine Y.blk (pc' := 51) (L' := [some (.ref a0), some (.int a1), some (.int a2), none]) (st' := [.ref a0]) (sg := [(.aload_n 0, 0)]) (lSa_ok dd20) rfl ?_
          refine Y.getA fl_M_24 (lIa_ok dd21) h (fun v34 h => ?_)
          refine Y.blk (pc' := 55) (L' := [some (.ref a0), some (.int a1), some (.int a2), none]) (st' := [.int a1, .ref v34]) (sg := [(.iload_n 1, 0)]) (lSa_ok dd22) rfl ?_
          refine Y.aald (t0 := 5) (lIa_ok dd23) rfl h (fun h => ?_) (fun v35 h => ?_)
          · refine Y.blk (pc' := 58) (L' := [some (.ref a0), some (.int a1), some (.int a2), some (.null)]) (st' := [.null]) (sg := [(.astore_n 3, 0), (.aload_n 3, 0)]) (lSa_ok dd24) rfl ?_
            cases h
          · refine Y.blk (pc' := 58) (L' := [some (.ref a0), some (.int a1), some (.int a2), some (.ref v35)]) (st' := [.ref v35]) (sg := [(.astore_n 3, 0), (.aload_n 3, 0)]) (lSa_ok dd24) rfl ?_
            refine Y.getI fl_M_99 (lIa_ok dd25) h (fun v36 h => ?_)
            refine Y.if_eq (off := 10) (tgt := 71) (lIa_ok dd26) (by decide) h (fun c62 h => ?_) (fun c62 h => ?_)
            · refine Y.blk (pc' := 73) (L' := [some (.ref a0), some (.int a1), some (.int a2), some (.ref v35)]) (st' := [.ref v35, .ref a0]) (sg := [(.aload_n 0, 0), (.aload_n 3, 0)]) (lSa_ok dd27) rfl ?_
              refine Y.getI fl_M_89 (lIa_ok dd28) h (fun v37 h => ?_)
              refine Y.blk (pc' := 77) (L' := [some (.ref a0), some (.int a1), some (.int a2), some (.ref v35)]) (st' := [.ref v35, .int v37, .ref a0]) (sg := [(.aload_n 3, 0)]) (lSa_ok dd29) rfl ?_
              refine Y.getI fl_M_208 (lIa_ok dd30) h (fun v38 h => ?_)
              refine Y.blk (pc' := 82) (L' := [some (.ref a0), some (.int a1), some (.int a2), some (.ref v35)]) (st' := [.int a2, .ref a0, .int v38, .int v37, .ref a0]) (sg := [(.aload_n 0, 0), (.iload_n 2, 0)]) (lSa_ok dd31) rfl ?_
              obtain ⟨_, o40, e39, m41, h⟩ := gOb_inv h
              refine Y.callA (yC.Vi (b := a0) (As := [.int a2]) (st := [.int v38, .int v37, .ref a0]) (r := ("PartlisterModel", T_M, 9)) hV.1.1 cb_M_make lk_M_120 in_M_make rfl se_M_make (lIa_ok dd32) rfl rfl (Nat.le_of_ble_eq_true rfl) (by decide) e39 m41) (k_M_make hV.1 G32 a0 a2) h (fun v43 G42 _ h => ?_)
              obtain ⟨_, o45, e44, m46, h⟩ := gOb_inv h
              refine Y.callN (yC.Vi (b := a0) (As := [.int v37, .int v38, .ref v43]) (st := []) (r := ("PartlisterModel", T_M, 9)) hV.1.1 cb_M_come lk_M_124 in_M_come rfl se_M_come (lIa_ok dd33) rfl rfl (Nat.le_of_ble_eq_true rfl) (by decide) e44 m46) (k_M_come hV G42 a0 v37 v38 v43) h (fun G47 _ h => ?_)
              refine Y.blk (pc' := 90) (L' := [some (.ref a0), some (.int a1), some (.int a2), some (.ref v35)]) (st' := [.ref v35, .ref v35]) (sg := [(.aload_n 3, 0), (.dup, 0)]) (lSa_ok dd34) rfl ?_
              refine Y.getI fl_M_208 (lIa_ok dd35) h (fun v48 h => ?_)
              refine Y.blk (pc' := 95) (L' := [some (.ref a0), some (.int a1), some (.int a2), some (.ref v35)]) (st' := [.int (v48 + (nI 1)), .ref v35]) (sg := [(.iconst 1, nI 1), (.iadd, 0)]) (lSa_ok dd36) rfl ?_
              refine Y.putf fl_M_208 (by decide) rfl rfl (lIa_ok dd37) h (fun G49 _ _ h => ?_)
              refine Y.blk (pc' := 100) (L' := [some (.ref a0), some (.int a1), some (.int a2), some (.ref v35)]) (st' := [.int (-1), .ref v35]) (sg := [(.aload_n 3, 0), (.iconst (-1), -1)]) (lSa_ok dd38) rfl ?_
              refine Y.putf fl_M_220 (by decide) rfl rfl (lIa_ok dd39) h (fun G50 _ _ h => ?_)
              refine Y.blk (pc' := 105) (L' := [some (.ref a0), some (.int a1), some (.int a2), some (.ref v35)]) (st' := [.ref v35, .ref a0]) (sg := [(.aload_n 0, 0), (.aload_n 3, 0)]) (lSa_ok dd40) rfl ?_
              refine Y.getI fl_M_89 (lIa_ok dd41) h (fun v51 h => ?_)
              refine Y.blk (pc' := 110) (L' := [some (.ref a0), some (.int a1), some (.int a2), some (.ref v35)]) (st' := [.int a1, .int (nI 1), .int v51, .ref a0]) (sg := [(.iconst 1, nI 1), (.iload_n 1, 0)]) (lSa_ok dd42) rfl ?_
              obtain ⟨_, o53, e52, m54, h⟩ := gOb_inv h
              refine Y.callN (yC.Vi (b := a0) (As := [.int v51, .int (nI 1), .int a1]) (st := []) (r := ("PartlisterModel", T_M, 9)) hV.1.1 cb_M_change lk_M_128 in_M_change rfl se_M_change (lIa_ok dd43) rfl rfl (Nat.le_of_ble_eq_true rfl) (by decide) e52 m54) (k_M_change hV.1 G50 a0 v51 (nI 1) a1) h (fun G55 _ h => ?_)
              refine Y.blk (pc' := 114) (L' := [some (.ref a0), some (.int a1), some (.int a2), some (.ref v35)]) (st' := [.ref a0]) (sg := [(.aload_n 0, 0)]) (lSa_ok dd44) rfl ?_
              refine Y.getI fl_M_76 (lIa_ok dd45) h (fun v56 h => ?_)
              refine Y.blk (pc' := 119) (L' := [some (.ref a0), some (.int a1), some (.int a2), some (.ref v35)]) (st' := [.int (v56 - (nI 1))]) (sg := [(.iconst 1, nI 1), (.isub, 0)]) (lSa_ok dd46) rfl ?_
              exact Y.iret rfl (lIa_ok dd47) h
            · refine Y.blk (pc' := 67) (L' := [some (.ref a0), some (.int a1), some (.int a2), some (.ref v35)]) (st' := [.int (-9), .ref a0]) (sg := [(.aload_n 0, 0), (.bipush (-9), -9)]) (lSa_ok dd48) rfl ?_
              obtain ⟨_, o58, e57, m59, h⟩ := gOb_inv h
              refine Y.callI (yC.Vi (b := a0) (As := [.int (-9)]) (st := []) (r := ("PartlisterModel", T_M, 9)) hV.1.1 cb_M_fault lk_M_217 in_M_fault rfl se_M_fault (lIa_ok dd49) rfl rfl (Nat.le_of_ble_eq_true rfl) (by decide) e57 m59) (k_M_fault hV.1 G32 a0 (-9)) h (fun v61 G60 _ h => ?_)
              exact Y.iret rfl (lIa_ok dd50) h
        · refine Y.blk (pc' := 49) (L' := [some (.ref a0), some (.int a1), some (.int a2), none]) (st' := [.int (nI 0)]) (sg := [(.iconst 0, nI 0)]) (lSa_ok dd51) rfl ?_
          exact Y.iret rfl (lIa_ok dd52) h
    · refine Y.blk (pc' := 49) (L' := [some (.ref a0), some (.int a1), some (.int a2), none]) (st' := [.int (nI 0)]) (sg := [(.iconst 0, nI 0)]) (lSa_ok dd51) rfl ?_
      exact Y.iret rfl (lIa_ok dd52) h
  · refine Y.blk (pc' := 49) (L' := [some (.ref a0), some (.int a1), some (.int a2), none]) (st' := [.int (nI 0)]) (sg := [(.iconst 0, nI 0)]) (lSa_ok dd51) rfl ?_
    exact Y.iret rfl (lIa_ok dd52) h

def f_M_isSame (G : gH) (a0 : Nat) (a1 : Int32) (a2 : Int32) : gR :=
  gOb G a0 6 fun o2 => bI (f_M_areNone G a0 a1 a2) fun v5 G4 => if v5 = 0 then (gOb G4 a0 6 fun o7 => bI (f_M_same G4 a0 a1 a2) fun v10 G9 => if v10 = 0 then rZ (nI 0) G9
    else rZ (nI 1) G9)
  else rZ (nI 0) G4
theorem k_M_isSame {l : Launch} {D : va_G} {B : Nat} {O : State → Heap → Prop} (hV : zG l D B O) (G : gH) (a0 : Nat) (a1 : Int32) (a2 : Int32) : gMet (zVm l D B O) m_M_isSame 15 [.ref a0, .int a1, .int a2] G (f_M_isSame G a0 a1 a2) := by
  have hdd : lSa m_M_isSame 0 [(.aload_n 0, 0), (.iload_n 1, 0), (.iload_n 2, 0)] = true ∧ lIa m_M_isSame 3 (.invokevirtual 235) 3 = true ∧ lIa m_M_isSame 6 (.ifCond .ne 16) 3 = true ∧ lSa m_M_isSame 9 [(.aload_n 0, 0), (.iload_n 1, 0), (.iload_n 2, 0)] = true ∧ lIa m_M_isSame 12 (.invokevirtual 244) 3 = true ∧ lIa m_M_isSame 15 (.ifCond .eq 7) 3 = true ∧ lSa m_M_isSame 22 [(.iconst 0, nI 0)] = true ∧ lIa m_M_isSame 23 (.ireturn) 1 = true ∧ lSa m_M_isSame 18 [(.iconst 1, nI 1)] = true ∧ lIa m_M_isSame 19 (.goto 4) 3 = true := by decide +kernel
  refine lA8 hdd (fun dd0 dd1 dd2 dd3 dd4 dd5 dd6 dd7 hdd => ?_)
  obtain ⟨dd8, dd9⟩ := hdd
  refine gMet.of (by decide +kernel) (Nat.le_of_ble_eq_true rfl) [some (.ref a0), some (.int a1), some (.int a2)] (fun ls h => zEn_ok (n := 3) h) ?_
  intro o Gf h
  unfold f_M_isSame at h
  refine Y.blk (pc' := 3) (L' := [some (.ref a0), some (.int a1), some (.int a2)]) (st' := [.int a2, .int a1, .ref a0]) (sg := [(.aload_n 0, 0), (.iload_n 1, 0), (.iload_n 2, 0)]) (lSa_ok dd0) rfl ?_
  obtain ⟨_, o2, e1, m3, h⟩ := gOb_inv h
  refine Y.callI (yC.Vi (b := a0) (As := [.int a1, .int a2]) (st := []) (r := ("PartlisterModel", T_M, 9)) hV.1 cb_M_areNone lk_M_235 in_M_areNone rfl se_M_areNone (lIa_ok dd1) rfl rfl (Nat.le_of_ble_eq_true rfl) (by decide) e1 m3) (k_M_areNone hV G a0 a1 a2) h (fun v5 G4 _ h => ?_)
  refine Y.if_ne (off := 16) (tgt := 22) (lIa_ok dd2) (by decide) h (fun c12 h => ?_) (fun c12 h => ?_)
  · refine Y.blk (pc' := 12) (L' := [some (.ref a0), some (.int a1), some (.int a2)]) (st' := [.int a2, .int a1, .ref a0]) (sg := [(.aload_n 0, 0), (.iload_n 1, 0), (.iload_n 2, 0)]) (lSa_ok dd3) rfl ?_
    obtain ⟨_, o7, e6, m8, h⟩ := gOb_inv h
    refine Y.callI (yC.Vi (b := a0) (As := [.int a1, .int a2]) (st := []) (r := ("PartlisterModel", T_M, 9)) hV.1 cb_M_same lk_M_244 in_M_same rfl se_M_same (lIa_ok dd4) rfl rfl (Nat.le_of_ble_eq_true rfl) (by decide) e6 m8) (k_M_same hV G4 a0 a1 a2) h (fun v10 G9 _ h => ?_)
    refine Y.if_eq (off := 7) (tgt := 22) (lIa_ok dd5) (by decide) h (fun c11 h => ?_) (fun c11 h => ?_)
    · refine Y.blk (pc' := 23) (L' := [some (.ref a0), some (.int a1), some (.int a2)]) (st' := [.int (nI 0)]) (sg := [(.iconst 0, nI 0)]) (lSa_ok dd6) rfl ?_
      exact Y.zret rfl (lIa_ok dd7) h
    · refine Y.blk (pc' := 19) (L' := [some (.ref a0), some (.int a1), some (.int a2)]) (st' := [.int (nI 1)]) (sg := [(.iconst 1, nI 1)]) (lSa_ok dd8) rfl ?_
      refine Y.goto (off := 4) (tgt := 23) (lIa_ok dd9) (by decide) ?_
      exact Y.zret rfl (lIa_ok dd7) h
  · refine Y.blk (pc' := 23) (L' := [some (.ref a0), some (.int a1), some (.int a2)]) (st' := [.int (nI 0)]) (sg := [(.iconst 0, nI 0)]) (lSa_ok dd6) rfl ?_
    exact Y.zret rfl (lIa_ok dd7) h

def f_M_isSorted_L2 (K32 : gH → gR) (K40 : gH → gR) : Nat → gH → Nat → Int32 → Int32 → gR
  | 0, _, _, _, _ => none
  | n + 1, G, x0, x1, x2 =>
    gOb G x0 6 fun o2 => bI (f_M_length G x0 x1) fun v5 G4 => if v5 ≤ x2 then K40 G4
    else gOb G4 x0 6 fun o7 => bA (f_M_at G4 x0 x1 x2) fun v10 G9 => gLd G9 v10 100 (nI 0) fun v11 => gOb G9 x0 6 fun o13 => bA (f_M_at G9 x0 x1 (x2 - (nI 1))) fun v16 G15 => gLd G15 v16 100 (nI 0) fun v17 => if v17 ≤ v11 then f_M_isSorted_L2 K32 K40 n G15 x0 x1 (x2 + (nI 1))
      else K32 G15
def f_M_isSorted (G : gH) (a0 : Nat) (a1 : Int32) : gR :=
  f_M_isSorted_L2 (fun G20 => rZ (nI 0) G20) (fun G21 => rZ (nI 1) G21) zFu G a0 a1 (nI 1)
theorem k_M_isSorted_L2 {l : Launch} {D : va_G} {B : Nat} {O : State → Heap → Prop} (hV : zG l D B O) {o : gO} {Gf : gH} (K32 : gH → gR) (K40 : gH → gR) (hK32 : ∀ (G : gH), K32 G  = some (o, Gf) → Y (zVm l D B O) m_M_isSorted 13 o Gf 32 [none, none, none] [] G) (hK40 : ∀ (G : gH), K40 G  = some (o, Gf) → Y (zVm l D B O) m_M_isSorted 13 o Gf 40 [none, none, none] [] G) : ∀ (n : Nat) (G : gH) (x0 : Nat) (x1 : Int32) (x2 : Int32), f_M_isSorted_L2 K32 K40 n G x0 x1 x2 = some (o, Gf) → Y (zVm l D B O) m_M_isSorted 13 o Gf 2 [some (.ref x0), some (.int x1), some (.int x2)] [] G := by
  have hdd : lSa m_M_isSorted 2 [(.iload_n 2, 0), (.aload_n 0, 0), (.iload_n 1, 0)] = true ∧ lIa m_M_isSorted 5 (.invokevirtual 74) 3 = true ∧ lIa m_M_isSorted 8 (.if_icmp .ge 32) 3 = true ∧ lSa m_M_isSorted 11 [(.aload_n 0, 0), (.iload_n 1, 0), (.iload_n 2, 0)] = true ∧ lIa m_M_isSorted 14 (.invokevirtual 132) 3 = true ∧ lSa m_M_isSorted 17 [(.iconst 0, nI 0)] = true ∧ lIa m_M_isSorted 18 (.iaload) 1 = true ∧ lSa m_M_isSorted 19 [(.aload_n 0, 0), (.iload_n 1, 0), (.iload_n 2, 0), (.iconst 1, nI 1), (.isub, 0)] = true ∧ lIa m_M_isSorted 24 (.invokevirtual 132) 3 = true ∧ lSa m_M_isSorted 27 [(.iconst 0, nI 0)] = true ∧ lIa m_M_isSorted 28 (.iaload) 1 = true ∧ lIa m_M_isSorted 29 (.if_icmp .ge 5) 3 = true ∧ lSa m_M_isSorted 34 [(.iinc 2 1, nI 1)] = true ∧ lIa m_M_isSorted 37 (.goto (-35)) 3 = true := by decide +kernel
  refine lA8 hdd (fun dd0 dd1 dd2 dd3 dd4 dd5 dd6 dd7 hdd => ?_)
  obtain ⟨dd8, dd9, dd10, dd11, dd12, dd13⟩ := hdd
  intro n
  induction n with
  | zero => intro G x0 x1 x2 h; cases h
  | succ n ih =>
    intro G x0 x1 x2 h
    unfold f_M_isSorted_L2 at h
    refine Y.blk (pc' := 5) (L' := [some (.ref x0), some (.int x1), some (.int x2)]) (st' := [.int x1, .ref x0, .int x2]) (sg := [(.iload_n 2, 0), (.aload_n 0, 0), (.iload_n 1, 0)]) (lSa_ok dd0) rfl ?_
    obtain ⟨_, o2, e1, m3, h⟩ := gOb_inv h
    refine Y.callI (yC.Vi (b := x0) (As := [.int x1]) (st := [.int x2]) (r := ("PartlisterModel", T_M, 9)) hV.1 cb_M_length lk_M_74 in_M_length rfl se_M_length (lIa_ok dd1) rfl rfl (Nat.le_of_ble_eq_true rfl) (by decide) e1 m3) (k_M_length hV G x0 x1) h (fun v5 G4 _ h => ?_)
    refine Y.ic_ge (off := 32) (tgt := 40) (lIa_ok dd2) (by decide) h (fun c19 h => ?_) (fun c19 h => ?_)
    · refine Y.less (L' := [none, none, none]) (zLe_none (zLe_none (zLe_none (zLe_nil)))) ?_
      exact hK40 G4  h
    · refine Y.blk (pc' := 14) (L' := [some (.ref x0), some (.int x1), some (.int x2)]) (st' := [.int x2, .int x1, .ref x0]) (sg := [(.aload_n 0, 0), (.iload_n 1, 0), (.iload_n 2, 0)]) (lSa_ok dd3) rfl ?_
      obtain ⟨_, o7, e6, m8, h⟩ := gOb_inv h
      refine Y.callA (yC.Vi (b := x0) (As := [.int x1, .int x2]) (st := []) (r := ("PartlisterModel", T_M, 9)) hV.1 cb_M_at lk_M_132 in_M_at rfl se_M_at (lIa_ok dd4) rfl rfl (Nat.le_of_ble_eq_true rfl) (by decide) e6 m8) (k_M_at hV G4 x0 x1 x2) h (fun v10 G9 _ h => ?_)
      refine Y.blk (pc' := 18) (L' := [some (.ref x0), some (.int x1), some (.int x2)]) (st' := [.int (nI 0), .ref v10]) (sg := [(.iconst 0, nI 0)]) (lSa_ok dd5) rfl ?_
      refine Y.iald (t0 := 0) (lIa_ok dd6) rfl h (fun v11 h => ?_)
      refine Y.blk (pc' := 24) (L' := [some (.ref x0), some (.int x1), some (.int x2)]) (st' := [.int (x2 - (nI 1)), .int x1, .ref x0, .int v11]) (sg := [(.aload_n 0, 0), (.iload_n 1, 0), (.iload_n 2, 0), (.iconst 1, nI 1), (.isub, 0)]) (lSa_ok dd7) rfl ?_
      obtain ⟨_, o13, e12, m14, h⟩ := gOb_inv h
      refine Y.callA (yC.Vi (b := x0) (As := [.int x1, .int (x2 - (nI 1))]) (st := [.int v11]) (r := ("PartlisterModel", T_M, 9)) hV.1 cb_M_at lk_M_132 in_M_at rfl se_M_at (lIa_ok dd8) rfl rfl (Nat.le_of_ble_eq_true rfl) (by decide) e12 m14) (k_M_at hV G9 x0 x1 (x2 - (nI 1))) h (fun v16 G15 _ h => ?_)
      refine Y.blk (pc' := 28) (L' := [some (.ref x0), some (.int x1), some (.int x2)]) (st' := [.int (nI 0), .ref v16, .int v11]) (sg := [(.iconst 0, nI 0)]) (lSa_ok dd9) rfl ?_
      refine Y.iald (t0 := 0) (lIa_ok dd10) rfl h (fun v17 h => ?_)
      refine Y.ic_ge (off := 5) (tgt := 34) (lIa_ok dd11) (by decide) h (fun c18 h => ?_) (fun c18 h => ?_)
      · refine Y.blk (pc' := 37) (L' := [some (.ref x0), some (.int x1), some (.int (x2 + (nI 1)))]) (st' := []) (sg := [(.iinc 2 1, nI 1)]) (lSa_ok dd12) rfl ?_
        refine Y.goto (off := -35) (tgt := 2) (lIa_ok dd13) (by decide) ?_
        exact ih G15 x0 x1 (x2 + (nI 1)) h
      · refine Y.less (L' := [none, none, none]) (zLe_none (zLe_none (zLe_none (zLe_nil)))) ?_
        exact hK32 G15  h
theorem k_M_isSorted {l : Launch} {D : va_G} {B : Nat} {O : State → Heap → Prop} (hV : zG l D B O) (G : gH) (a0 : Nat) (a1 : Int32) : gMet (zVm l D B O) m_M_isSorted 13 [.ref a0, .int a1] G (f_M_isSorted G a0 a1) := by
  have hdd : lSa m_M_isSorted 0 [(.iconst 1, nI 1), (.istore_n 2, 0)] = true ∧ lSa m_M_isSorted 32 [(.iconst 0, nI 0)] = true ∧ lIa m_M_isSorted 33 (.ireturn) 1 = true ∧ lSa m_M_isSorted 40 [(.iconst 1, nI 1)] = true ∧ lIa m_M_isSorted 41 (.ireturn) 1 = true := by decide +kernel
  obtain ⟨dd0, dd1, dd2, dd3, dd4⟩ := hdd
  refine gMet.of (by decide +kernel) (Nat.le_of_ble_eq_true rfl) [some (.ref a0), some (.int a1), none] (fun ls h => zEn_ok (n := 3) h) ?_
  intro o Gf h
  unfold f_M_isSorted at h
  refine Y.blk (pc' := 2) (L' := [some (.ref a0), some (.int a1), some (.int (nI 1))]) (st' := []) (sg := [(.iconst 1, nI 1), (.istore_n 2, 0)]) (lSa_ok dd0) rfl ?_
  refine k_M_isSorted_L2 hV _ _ ?_ ?_  zFu G a0 a1 (nI 1) h
  · intro G20 h
    refine Y.blk (pc' := 33) (L' := [none, none, none]) (st' := [.int (nI 0)]) (sg := [(.iconst 0, nI 0)]) (lSa_ok dd1) rfl ?_
    exact Y.zret rfl (lIa_ok dd2) h
  · intro G21 h
    refine Y.blk (pc' := 41) (L' := [none, none, none]) (st' := [.int (nI 1)]) (sg := [(.iconst 1, nI 1)]) (lSa_ok dd3) rfl ?_
    exact Y.zret rfl (lIa_ok dd4) h

def f_M_isSound (w : Nat → Nat) (G : gH) (a0 : Nat) : gR :=
  gPut G a0 6 0 (.int (nI 0)) fun G1 => gOb G1 a0 6 fun o3 => bI (f_M_isWhole w G1 a0) fun v6 G5 => rZ v6 G5
theorem k_M_isSound {l : Launch} {D : va_G} {B : Nat} {O : State → Heap → Prop} {w : Nat → Nat} (hV : zGw l D B O w) (G : gH) (a0 : Nat) : gMet (zVm l D B O) m_M_isSound 15 [.ref a0] G (f_M_isSound w G a0) := by
  have hdd : lSa m_M_isSound 0 [(.aload_n 0, 0), (.iconst 0, nI 0)] = true ∧ lIa m_M_isSound 2 (.putfield 32) 3 = true ∧ lSa m_M_isSound 5 [(.aload_n 0, 0)] = true ∧ lIa m_M_isSound 6 (.invokevirtual 299) 3 = true ∧ lIa m_M_isSound 9 (.ireturn) 1 = true := by decide +kernel
  obtain ⟨dd0, dd1, dd2, dd3, dd4⟩ := hdd
  refine gMet.of (by decide +kernel) (Nat.le_of_ble_eq_true rfl) [some (.ref a0)] (fun ls h => zEn_ok (n := 1) h) ?_
  intro o Gf h
  unfold f_M_isSound at h
  refine Y.blk (pc' := 2) (L' := [some (.ref a0)]) (st' := [.int (nI 0), .ref a0]) (sg := [(.aload_n 0, 0), (.iconst 0, nI 0)]) (lSa_ok dd0) rfl ?_
  refine Y.putf fl_M_32 (by decide) rfl rfl (lIa_ok dd1) h (fun G1 _ _ h => ?_)
  refine Y.blk (pc' := 6) (L' := [some (.ref a0)]) (st' := [.ref a0]) (sg := [(.aload_n 0, 0)]) (lSa_ok dd2) rfl ?_
  obtain ⟨_, o3, e2, m4, h⟩ := gOb_inv h
  refine Y.callI (yC.Vi (b := a0) (As := []) (st := []) (r := ("PartlisterModel", T_M, 9)) hV.1.1 cb_M_isWhole lk_M_299 in_M_isWhole rfl se_M_isWhole (lIa_ok dd3) rfl rfl (Nat.le_of_ble_eq_true rfl) (by decide) e2 m4) (k_M_isWhole hV G1 a0) h (fun v6 G5 _ h => ?_)
  exact Y.zret rfl (lIa_ok dd4) h

def f_M_key (G : gH) (a0 : Nat) (a1 : Int32) (a2 : Int32) : gR :=
  gOb G a0 6 fun o2 => bI (f_M_isNoList G a0 a1) fun v5 G4 => if v5 = 0 then (gOb G4 a0 6 fun o7 => bI (f_M_isNoPlace G4 a0 a1 a2) fun v10 G9 => if v10 = 0 then (gOb G9 a0 6 fun o12 => bI (f_M_start G9 a0 (nI 0) (nI 1)) fun v15 G14 => if v15 = 0 then gOb G14 a0 6 fun o17 => bA (f_M_at G14 a0 a1 a2) fun v20 G19 => gLd G19 v20 100 (nI 0) fun v21 => rI v21 G19
      else rI (nI 0) G14)
    else gOb G9 a0 6 fun o24 => bI (f_M_start G9 a0 (nI 1) (nI 1)) fun v27 G26 => if v27 = 0 then gOb G26 a0 6 fun o29 => bA (f_M_at G26 a0 a1 a2) fun v32 G31 => gLd G31 v32 100 (nI 0) fun v33 => rI v33 G31
      else rI (nI 0) G26)
  else gOb G4 a0 6 fun o37 => bI (f_M_start G4 a0 (nI 1) (nI 1)) fun v40 G39 => if v40 = 0 then gOb G39 a0 6 fun o42 => bA (f_M_at G39 a0 a1 a2) fun v45 G44 => gLd G44 v45 100 (nI 0) fun v46 => rI v46 G44
    else rI (nI 0) G39
theorem k_M_key {l : Launch} {D : va_G} {B : Nat} {O : State → Heap → Prop} (hV : zG l D B O) (G : gH) (a0 : Nat) (a1 : Int32) (a2 : Int32) : gMet (zVm l D B O) m_M_key 13 [.ref a0, .int a1, .int a2] G (f_M_key G a0 a1 a2) := by
  have hdd : lSa m_M_key 0 [(.aload_n 0, 0), (.aload_n 0, 0), (.iload_n 1, 0)] = true ∧ lIa m_M_key 3 (.invokevirtual 110) 3 = true ∧ lIa m_M_key 6 (.ifCond .ne 12) 3 = true ∧ lSa m_M_key 9 [(.aload_n 0, 0), (.iload_n 1, 0), (.iload_n 2, 0)] = true ∧ lIa m_M_key 12 (.invokevirtual 147) 3 = true ∧ lIa m_M_key 15 (.ifCond .eq 7) 3 = true ∧ lSa m_M_key 22 [(.iconst 0, nI 0), (.iconst 1, nI 1)] = true ∧ lIa m_M_key 24 (.invokevirtual 114) 3 = true ∧ lIa m_M_key 27 (.ifCond .eq 7) 3 = true ∧ lSa m_M_key 34 [(.aload_n 0, 0), (.iload_n 1, 0), (.iload_n 2, 0)] = true ∧ lIa m_M_key 37 (.invokevirtual 132) 3 = true ∧ lSa m_M_key 40 [(.iconst 0, nI 0)] = true ∧ lIa m_M_key 41 (.iaload) 1 = true ∧ lIa m_M_key 42 (.ireturn) 1 = true ∧ lSa m_M_key 30 [(.iconst 0, nI 0)] = true ∧ lIa m_M_key 31 (.goto 11) 3 = true ∧ lSa m_M_key 18 [(.iconst 1, nI 1)] = true ∧ lIa m_M_key 19 (.goto 4) 3 = true ∧ lSa m_M_key 23 [(.iconst 1, nI 1)] = true := by decide +kernel
  refine lA8 hdd (fun dd0 dd1 dd2 dd3 dd4 dd5 dd6 dd7 hdd => ?_)
  refine lA8 hdd (fun dd8 dd9 dd10 dd11 dd12 dd13 dd14 dd15 hdd => ?_)
  obtain ⟨dd16, dd17, dd18⟩ := hdd
  refine gMet.of (by decide +kernel) (Nat.le_of_ble_eq_true rfl) [some (.ref a0), some (.int a1), some (.int a2)] (fun ls h => zEn_ok (n := 3) h) ?_
  intro o Gf h
  unfold f_M_key at h
  refine Y.blk (pc' := 3) (L' := [some (.ref a0), some (.int a1), some (.int a2)]) (st' := [.int a1, .ref a0, .ref a0]) (sg := [(.aload_n 0, 0), (.aload_n 0, 0), (.iload_n 1, 0)]) (lSa_ok dd0) rfl ?_
  obtain ⟨_, o2, e1, m3, h⟩ := gOb_inv h
  refine Y.callI (yC.Vi (b := a0) (As := [.int a1]) (st := [.ref a0]) (r := ("PartlisterModel", T_M, 9)) hV.1 cb_M_isNoList lk_M_110 in_M_isNoList rfl se_M_isNoList (lIa_ok dd1) rfl rfl (Nat.le_of_ble_eq_true rfl) (by decide) e1 m3) (k_M_isNoList hV G a0 a1) h (fun v5 G4 _ h => ?_)
  refine Y.if_ne (off := 12) (tgt := 18) (lIa_ok dd2) (by decide) h (fun c48 h => ?_) (fun c48 h => ?_)
  · refine Y.blk (pc' := 12) (L' := [some (.ref a0), some (.int a1), some (.int a2)]) (st' := [.int a2, .int a1, .ref a0, .ref a0]) (sg := [(.aload_n 0, 0), (.iload_n 1, 0), (.iload_n 2, 0)]) (lSa_ok dd3) rfl ?_
    obtain ⟨_, o7, e6, m8, h⟩ := gOb_inv h
    refine Y.callI (yC.Vi (b := a0) (As := [.int a1, .int a2]) (st := [.ref a0]) (r := ("PartlisterModel", T_M, 9)) hV.1 cb_M_isNoPlace lk_M_147 in_M_isNoPlace rfl se_M_isNoPlace (lIa_ok dd4) rfl rfl (Nat.le_of_ble_eq_true rfl) (by decide) e6 m8) (k_M_isNoPlace hV G4 a0 a1 a2) h (fun v10 G9 _ h => ?_)
    refine Y.if_eq (off := 7) (tgt := 22) (lIa_ok dd5) (by decide) h (fun c35 h => ?_) (fun c35 h => ?_)
    · refine Y.blk (pc' := 24) (L' := [some (.ref a0), some (.int a1), some (.int a2)]) (st' := [.int (nI 1), .int (nI 0), .ref a0]) (sg := [(.iconst 0, nI 0), (.iconst 1, nI 1)]) (lSa_ok dd6) rfl ?_
      obtain ⟨_, o12, e11, m13, h⟩ := gOb_inv h
      refine Y.callI (yC.Vi (b := a0) (As := [.int (nI 0), .int (nI 1)]) (st := []) (r := ("PartlisterModel", T_M, 9)) hV.1 cb_M_start lk_M_114 in_M_start rfl se_M_start (lIa_ok dd7) rfl rfl (Nat.le_of_ble_eq_true rfl) (by decide) e11 m13) (k_M_start hV G9 a0 (nI 0) (nI 1)) h (fun v15 G14 _ h => ?_)
      refine Y.if_eq (off := 7) (tgt := 34) (lIa_ok dd8) (by decide) h (fun c22 h => ?_) (fun c22 h => ?_)
      · refine Y.blk (pc' := 37) (L' := [some (.ref a0), some (.int a1), some (.int a2)]) (st' := [.int a2, .int a1, .ref a0]) (sg := [(.aload_n 0, 0), (.iload_n 1, 0), (.iload_n 2, 0)]) (lSa_ok dd9) rfl ?_
        obtain ⟨_, o17, e16, m18, h⟩ := gOb_inv h
        refine Y.callA (yC.Vi (b := a0) (As := [.int a1, .int a2]) (st := []) (r := ("PartlisterModel", T_M, 9)) hV.1 cb_M_at lk_M_132 in_M_at rfl se_M_at (lIa_ok dd10) rfl rfl (Nat.le_of_ble_eq_true rfl) (by decide) e16 m18) (k_M_at hV G14 a0 a1 a2) h (fun v20 G19 _ h => ?_)
        refine Y.blk (pc' := 41) (L' := [some (.ref a0), some (.int a1), some (.int a2)]) (st' := [.int (nI 0), .ref v20]) (sg := [(.iconst 0, nI 0)]) (lSa_ok dd11) rfl ?_
        refine Y.iald (t0 := 0) (lIa_ok dd12) rfl h (fun v21 h => ?_)
        exact Y.iret rfl (lIa_ok dd13) h
      · refine Y.blk (pc' := 31) (L' := [some (.ref a0), some (.int a1), some (.int a2)]) (st' := [.int (nI 0)]) (sg := [(.iconst 0, nI 0)]) (lSa_ok dd14) rfl ?_
        refine Y.goto (off := 11) (tgt := 42) (lIa_ok dd15) (by decide) ?_
        exact Y.iret rfl (lIa_ok dd13) h
    · refine Y.blk (pc' := 19) (L' := [some (.ref a0), some (.int a1), some (.int a2)]) (st' := [.int (nI 1), .ref a0]) (sg := [(.iconst 1, nI 1)]) (lSa_ok dd16) rfl ?_
      refine Y.goto (off := 4) (tgt := 23) (lIa_ok dd17) (by decide) ?_
      refine Y.blk (pc' := 24) (L' := [some (.ref a0), some (.int a1), some (.int a2)]) (st' := [.int (nI 1), .int (nI 1), .ref a0]) (sg := [(.iconst 1, nI 1)]) (lSa_ok dd18) rfl ?_
      obtain ⟨_, o24, e23, m25, h⟩ := gOb_inv h
      refine Y.callI (yC.Vi (b := a0) (As := [.int (nI 1), .int (nI 1)]) (st := []) (r := ("PartlisterModel", T_M, 9)) hV.1 cb_M_start lk_M_114 in_M_start rfl se_M_start (lIa_ok dd7) rfl rfl (Nat.le_of_ble_eq_true rfl) (by decide) e23 m25) (k_M_start hV G9 a0 (nI 1) (nI 1)) h (fun v27 G26 _ h => ?_)
      refine Y.if_eq (off := 7) (tgt := 34) (lIa_ok dd8) (by decide) h (fun c34 h => ?_) (fun c34 h => ?_)
      · refine Y.blk (pc' := 37) (L' := [some (.ref a0), some (.int a1), some (.int a2)]) (st' := [.int a2, .int a1, .ref a0]) (sg := [(.aload_n 0, 0), (.iload_n 1, 0), (.iload_n 2, 0)]) (lSa_ok dd9) rfl ?_
        obtain ⟨_, o29, e28, m30, h⟩ := gOb_inv h
        refine Y.callA (yC.Vi (b := a0) (As := [.int a1, .int a2]) (st := []) (r := ("PartlisterModel", T_M, 9)) hV.1 cb_M_at lk_M_132 in_M_at rfl se_M_at (lIa_ok dd10) rfl rfl (Nat.le_of_ble_eq_true rfl) (by decide) e28 m30) (k_M_at hV G26 a0 a1 a2) h (fun v32 G31 _ h => ?_)
        refine Y.blk (pc' := 41) (L' := [some (.ref a0), some (.int a1), some (.int a2)]) (st' := [.int (nI 0), .ref v32]) (sg := [(.iconst 0, nI 0)]) (lSa_ok dd11) rfl ?_
        refine Y.iald (t0 := 0) (lIa_ok dd12) rfl h (fun v33 h => ?_)
        exact Y.iret rfl (lIa_ok dd13) h
      · refine Y.blk (pc' := 31) (L' := [some (.ref a0), some (.int a1), some (.int a2)]) (st' := [.int (nI 0)]) (sg := [(.iconst 0, nI 0)]) (lSa_ok dd14) rfl ?_
        refine Y.goto (off := 11) (tgt := 42) (lIa_ok dd15) (by decide) ?_
        exact Y.iret rfl (lIa_ok dd13) h
  · refine Y.blk (pc' := 19) (L' := [some (.ref a0), some (.int a1), some (.int a2)]) (st' := [.int (nI 1), .ref a0]) (sg := [(.iconst 1, nI 1)]) (lSa_ok dd16) rfl ?_
    refine Y.goto (off := 4) (tgt := 23) (lIa_ok dd17) (by decide) ?_
    refine Y.blk (pc' := 24) (L' := [some (.ref a0), some (.int a1), some (.int a2)]) (st' := [.int (nI 1), .int (nI 1), .ref a0]) (sg := [(.iconst 1, nI 1)]) (lSa_ok dd18) rfl ?_
    obtain ⟨_, o37, e36, m38, h⟩ := gOb_inv h
    refine Y.callI (yC.Vi (b := a0) (As := [.int (nI 1), .int (nI 1)]) (st := []) (r := ("PartlisterModel", T_M, 9)) hV.1 cb_M_start lk_M_114 in_M_start rfl se_M_start (lIa_ok dd7) rfl rfl (Nat.le_of_ble_eq_true rfl) (by decide) e36 m38) (k_M_start hV G4 a0 (nI 1) (nI 1)) h (fun v40 G39 _ h => ?_)
    refine Y.if_eq (off := 7) (tgt := 34) (lIa_ok dd8) (by decide) h (fun c47 h => ?_) (fun c47 h => ?_)
    · refine Y.blk (pc' := 37) (L' := [some (.ref a0), some (.int a1), some (.int a2)]) (st' := [.int a2, .int a1, .ref a0]) (sg := [(.aload_n 0, 0), (.iload_n 1, 0), (.iload_n 2, 0)]) (lSa_ok dd9) rfl ?_
      obtain ⟨_, o42, e41, m43, h⟩ := gOb_inv h
      refine Y.callA (yC.Vi (b := a0) (As := [.int a1, .int a2]) (st := []) (r := ("PartlisterModel", T_M, 9)) hV.1 cb_M_at lk_M_132 in_M_at rfl se_M_at (lIa_ok dd10) rfl rfl (Nat.le_of_ble_eq_true rfl) (by decide) e41 m43) (k_M_at hV G39 a0 a1 a2) h (fun v45 G44 _ h => ?_)
      refine Y.blk (pc' := 41) (L' := [some (.ref a0), some (.int a1), some (.int a2)]) (st' := [.int (nI 0), .ref v45]) (sg := [(.iconst 0, nI 0)]) (lSa_ok dd11) rfl ?_
      refine Y.iald (t0 := 0) (lIa_ok dd12) rfl h (fun v46 h => ?_)
      exact Y.iret rfl (lIa_ok dd13) h
    · refine Y.blk (pc' := 31) (L' := [some (.ref a0), some (.int a1), some (.int a2)]) (st' := [.int (nI 0)]) (sg := [(.iconst 0, nI 0)]) (lSa_ok dd14) rfl ?_
      refine Y.goto (off := 11) (tgt := 42) (lIa_ok dd15) (by decide) ?_
      exact Y.iret rfl (lIa_ok dd13) h

def f_M_keys_L8 (K50 : gH → Nat → gR) : Nat → gH → Nat → Int32 → Int32 → Nat → Int32 → gR
  | 0, _, _, _, _, _, _ => none
  | n + 1, G, x0, x1, x2, x3, x4 =>
    if (nI 31) ≤ x4 then K50 G x3
    else gOb G x0 6 fun o4 => bI (f_M_firstOf G x0 x1 x4) fun v7 G6 => if v7 = (-1) then (if (nI 0) = x2 then gSt G6 x3 102 x4 (vp_nar .boolean (nI 1)) fun G8 => f_M_keys_L8 K50 n G8 x0 x1 x2 x3 (x4 + (nI 1))
        else gSt G6 x3 102 x4 (vp_nar .boolean (nI 0)) fun G9 => f_M_keys_L8 K50 n G9 x0 x1 x2 x3 (x4 + (nI 1)))
      else if (nI 1) = x2 then gSt G6 x3 102 x4 (vp_nar .boolean (nI 1)) fun G11 => f_M_keys_L8 K50 n G11 x0 x1 x2 x3 (x4 + (nI 1))
        else gSt G6 x3 102 x4 (vp_nar .boolean (nI 0)) fun G12 => f_M_keys_L8 K50 n G12 x0 x1 x2 x3 (x4 + (nI 1))
def f_M_keys (G : gH) (a0 : Nat) (a1 : Int32) (a2 : Int32) : gR :=
  gNewA G 102 (nI 31) fun q1 G2 => f_M_keys_L8 (fun G17 x16 => rA x16 G17) zFu G2 a0 a1 a2 q1 (nI 0)
theorem k_M_keys_L8 {l : Launch} {D : va_G} {B : Nat} {O : State → Heap → Prop} (hV : zG l D B O) {o : gO} {Gf : gH} (K50 : gH → Nat → gR) (hK50 : ∀ (G : gH) (x3 : Nat), K50 G x3 = some (o, Gf) → Y (zVm l D B O) m_M_keys 14 o Gf 50 [none, none, none, some (.ref x3), none] [] G) : ∀ (n : Nat) (G : gH) (x0 : Nat) (x1 : Int32) (x2 : Int32) (x3 : Nat) (x4 : Int32), f_M_keys_L8 K50 n G x0 x1 x2 x3 x4 = some (o, Gf) → Y (zVm l D B O) m_M_keys 14 o Gf 8 [some (.ref x0), some (.int x1), some (.int x2), some (.ref x3), some (.int x4)] [] G := by
  have hdd : lSa m_M_keys 8 [(.iload 4, 0), (.bipush 31, nI 31)] = true ∧ lIa m_M_keys 12 (.if_icmp .ge 38) 3 = true ∧ lSa m_M_keys 15 [(.aload_n 3, 0), (.iload 4, 0), (.aload_n 0, 0), (.iload_n 1, 0), (.iload 4, 0)] = true ∧ lIa m_M_keys 22 (.invokevirtual 163) 3 = true ∧ lSa m_M_keys 25 [(.iconst (-1), -1)] = true ∧ lIa m_M_keys 26 (.if_icmp .eq 7) 3 = true ∧ lSa m_M_keys 33 [(.iconst 0, nI 0), (.iload_n 2, 0)] = true ∧ lIa m_M_keys 35 (.if_icmp .ne 7) 3 = true ∧ lSa m_M_keys 38 [(.iconst 1, nI 1)] = true ∧ lIa m_M_keys 39 (.goto 4) 3 = true ∧ lIa m_M_keys 43 (.bastore) 1 = true ∧ lSa m_M_keys 44 [(.iinc 4 1, nI 1)] = true ∧ lIa m_M_keys 47 (.goto (-39)) 3 = true ∧ lSa m_M_keys 42 [(.iconst 0, nI 0)] = true ∧ lSa m_M_keys 29 [(.iconst 1, nI 1)] = true ∧ lIa m_M_keys 30 (.goto 4) 3 = true ∧ lSa m_M_keys 34 [(.iload_n 2, 0)] = true := by decide +kernel
  refine lA8 hdd (fun dd0 dd1 dd2 dd3 dd4 dd5 dd6 dd7 hdd => ?_)
  refine lA8 hdd (fun dd8 dd9 dd10 dd11 dd12 dd13 dd14 dd15 hdd => ?_)
  have dd16 := hdd
  intro n
  induction n with
  | zero => intro G x0 x1 x2 x3 x4 h; cases h
  | succ n ih =>
    intro G x0 x1 x2 x3 x4 h
    unfold f_M_keys_L8 at h
    refine Y.blk (pc' := 12) (L' := [some (.ref x0), some (.int x1), some (.int x2), some (.ref x3), some (.int x4)]) (st' := [.int (nI 31), .int x4]) (sg := [(.iload 4, 0), (.bipush 31, nI 31)]) (lSa_ok dd0) rfl ?_
    refine Y.ic_ge (off := 38) (tgt := 50) (lIa_ok dd1) (by decide) h (fun c15 h => ?_) (fun c15 h => ?_)
    · refine Y.less (L' := [none, none, none, some (.ref x3), none]) (zLe_none (zLe_none (zLe_none (zLe_some (zLe_none (zLe_nil)))))) ?_
      exact hK50 G x3 h
    · refine Y.blk (pc' := 22) (L' := [some (.ref x0), some (.int x1), some (.int x2), some (.ref x3), some (.int x4)]) (st' := [.int x4, .int x1, .ref x0, .int x4, .ref x3]) (sg := [(.aload_n 3, 0), (.iload 4, 0), (.aload_n 0, 0), (.iload_n 1, 0), (.iload 4, 0)]) (lSa_ok dd2) rfl ?_
      obtain ⟨_, o4, e3, m5, h⟩ := gOb_inv h
      refine Y.callI (yC.Vi (b := x0) (As := [.int x1, .int x4]) (st := [.int x4, .ref x3]) (r := ("PartlisterModel", T_M, 9)) hV.1 cb_M_firstOf lk_M_163 in_M_firstOf rfl se_M_firstOf (lIa_ok dd3) rfl rfl (Nat.le_of_ble_eq_true rfl) (by decide) e3 m5) (k_M_firstOf hV G x0 x1 x4) h (fun v7 G6 _ h => ?_)
      refine Y.blk (pc' := 26) (L' := [some (.ref x0), some (.int x1), some (.int x2), some (.ref x3), some (.int x4)]) (st' := [.int (-1), .int v7, .int x4, .ref x3]) (sg := [(.iconst (-1), -1)]) (lSa_ok dd4) rfl ?_
      refine Y.ic_eq (off := 7) (tgt := 33) (lIa_ok dd5) (by decide) h (fun c14 h => ?_) (fun c14 h => ?_)
      · refine Y.blk (pc' := 35) (L' := [some (.ref x0), some (.int x1), some (.int x2), some (.ref x3), some (.int x4)]) (st' := [.int x2, .int (nI 0), .int x4, .ref x3]) (sg := [(.iconst 0, nI 0), (.iload_n 2, 0)]) (lSa_ok dd6) rfl ?_
        refine Y.ic_ne (off := 7) (tgt := 42) (lIa_ok dd7) (by decide) h (fun c10 h => ?_) (fun c10 h => ?_)
        · refine Y.blk (pc' := 39) (L' := [some (.ref x0), some (.int x1), some (.int x2), some (.ref x3), some (.int x4)]) (st' := [.int (nI 1), .int x4, .ref x3]) (sg := [(.iconst 1, nI 1)]) (lSa_ok dd8) rfl ?_
          refine Y.goto (off := 4) (tgt := 43) (lIa_ok dd9) (by decide) ?_
          refine Y.zast (t0 := 2) (lIa_ok dd10) rfl (by decide) h (fun G8 _ _ h => ?_)
          refine Y.blk (pc' := 47) (L' := [some (.ref x0), some (.int x1), some (.int x2), some (.ref x3), some (.int (x4 + (nI 1)))]) (st' := []) (sg := [(.iinc 4 1, nI 1)]) (lSa_ok dd11) rfl ?_
          refine Y.goto (off := -39) (tgt := 8) (lIa_ok dd12) (by decide) ?_
          exact ih G8 x0 x1 x2 x3 (x4 + (nI 1)) h
        · refine Y.blk (pc' := 43) (L' := [some (.ref x0), some (.int x1), some (.int x2), some (.ref x3), some (.int x4)]) (st' := [.int (nI 0), .int x4, .ref x3]) (sg := [(.iconst 0, nI 0)]) (lSa_ok dd13) rfl ?_
          refine Y.zast (t0 := 2) (lIa_ok dd10) rfl (by decide) h (fun G9 _ _ h => ?_)
          refine Y.blk (pc' := 47) (L' := [some (.ref x0), some (.int x1), some (.int x2), some (.ref x3), some (.int (x4 + (nI 1)))]) (st' := []) (sg := [(.iinc 4 1, nI 1)]) (lSa_ok dd11) rfl ?_
          refine Y.goto (off := -39) (tgt := 8) (lIa_ok dd12) (by decide) ?_
          exact ih G9 x0 x1 x2 x3 (x4 + (nI 1)) h
      · refine Y.blk (pc' := 30) (L' := [some (.ref x0), some (.int x1), some (.int x2), some (.ref x3), some (.int x4)]) (st' := [.int (nI 1), .int x4, .ref x3]) (sg := [(.iconst 1, nI 1)]) (lSa_ok dd14) rfl ?_
        refine Y.goto (off := 4) (tgt := 34) (lIa_ok dd15) (by decide) ?_
        refine Y.blk (pc' := 35) (L' := [some (.ref x0), some (.int x1), some (.int x2), some (.ref x3), some (.int x4)]) (st' := [.int x2, .int (nI 1), .int x4, .ref x3]) (sg := [(.iload_n 2, 0)]) (lSa_ok dd16) rfl ?_
        refine Y.ic_ne (off := 7) (tgt := 42) (lIa_ok dd7) (by decide) h (fun c13 h => ?_) (fun c13 h => ?_)
        · refine Y.blk (pc' := 39) (L' := [some (.ref x0), some (.int x1), some (.int x2), some (.ref x3), some (.int x4)]) (st' := [.int (nI 1), .int x4, .ref x3]) (sg := [(.iconst 1, nI 1)]) (lSa_ok dd8) rfl ?_
          refine Y.goto (off := 4) (tgt := 43) (lIa_ok dd9) (by decide) ?_
          refine Y.zast (t0 := 2) (lIa_ok dd10) rfl (by decide) h (fun G11 _ _ h => ?_)
          refine Y.blk (pc' := 47) (L' := [some (.ref x0), some (.int x1), some (.int x2), some (.ref x3), some (.int (x4 + (nI 1)))]) (st' := []) (sg := [(.iinc 4 1, nI 1)]) (lSa_ok dd11) rfl ?_
          refine Y.goto (off := -39) (tgt := 8) (lIa_ok dd12) (by decide) ?_
          exact ih G11 x0 x1 x2 x3 (x4 + (nI 1)) h
        · refine Y.blk (pc' := 43) (L' := [some (.ref x0), some (.int x1), some (.int x2), some (.ref x3), some (.int x4)]) (st' := [.int (nI 0), .int x4, .ref x3]) (sg := [(.iconst 0, nI 0)]) (lSa_ok dd13) rfl ?_
          refine Y.zast (t0 := 2) (lIa_ok dd10) rfl (by decide) h (fun G12 _ _ h => ?_)
          refine Y.blk (pc' := 47) (L' := [some (.ref x0), some (.int x1), some (.int x2), some (.ref x3), some (.int (x4 + (nI 1)))]) (st' := []) (sg := [(.iinc 4 1, nI 1)]) (lSa_ok dd11) rfl ?_
          refine Y.goto (off := -39) (tgt := 8) (lIa_ok dd12) (by decide) ?_
          exact ih G12 x0 x1 x2 x3 (x4 + (nI 1)) h
theorem k_M_keys {l : Launch} {D : va_G} {B : Nat} {O : State → Heap → Prop} (hV : zG l D B O) (G : gH) (a0 : Nat) (a1 : Int32) (a2 : Int32) : gMet (zVm l D B O) m_M_keys 14 [.ref a0, .int a1, .int a2] G (f_M_keys G a0 a1 a2) := by
  have hdd : lSa m_M_keys 0 [(.bipush 31, nI 31)] = true ∧ lSa m_M_keys 4 [(.astore_n 3, 0), (.iconst 0, nI 0), (.istore 4, 0)] = true ∧ lSa m_M_keys 50 [(.aload_n 3, 0)] = true ∧ lIa m_M_keys 51 (.areturn) 1 = true := by decide +kernel
  obtain ⟨dd0, dd1, dd2, dd3⟩ := hdd
  refine gMet.of (by decide +kernel) (Nat.le_of_ble_eq_true rfl) [some (.ref a0), some (.int a1), some (.int a2), none, none] (fun ls h => zEn_ok (n := 5) h) ?_
  intro o Gf h
  unfold f_M_keys at h
  refine Y.blk (pc' := 2) (L' := [some (.ref a0), some (.int a1), some (.int a2), none, none]) (st' := [.int (nI 31)]) (sg := [(.bipush 31, nI 31)]) (lSa_ok dd0) rfl ?_
  refine Y.newa (at_ := .boolean) (t0 := 2) ac_z rfl (by decide) rfl (by decide) (by decide +kernel) h (fun q1 G2 h => ?_)
  refine Y.blk (pc' := 8) (L' := [some (.ref a0), some (.int a1), some (.int a2), some (.ref q1), some (.int (nI 0))]) (st' := []) (sg := [(.astore_n 3, 0), (.iconst 0, nI 0), (.istore 4, 0)]) (lSa_ok dd1) rfl ?_
  refine k_M_keys_L8 hV _ ?_  zFu G2 a0 a1 a2 q1 (nI 0) h
  · intro G17 x16 h
    refine Y.blk (pc' := 51) (L' := [none, none, none, some (.ref x16), none]) (st' := [.ref x16]) (sg := [(.aload_n 3, 0)]) (lSa_ok dd2) rfl ?_
    exact Y.aret rfl (by first | exact Or.inl ⟨_, rfl⟩ | exact Or.inr ⟨_, rfl⟩) (lIa_ok dd3) h

def f_M_knock (G : gH) (a0 : Nat) : gR :=
  gPut G a0 6 0 (.int (nI 0)) fun G1 => gFI G1 a0 6 8 fun v2 => gPut G1 a0 6 8 (.int (v2 + (nI 1))) fun G3 => gFI G3 a0 6 8 fun v4 => rI v4 G3
theorem k_M_knock {l : Launch} {D : va_G} {B : Nat} {O : State → Heap → Prop} (hV : zG l D B O) (G : gH) (a0 : Nat) : gMet (zVm l D B O) m_M_knock 2 [.ref a0] G (f_M_knock G a0) := by
  have hdd : lSa m_M_knock 0 [(.aload_n 0, 0), (.iconst 0, nI 0)] = true ∧ lIa m_M_knock 2 (.putfield 32) 3 = true ∧ lSa m_M_knock 5 [(.aload_n 0, 0), (.dup, 0)] = true ∧ lIa m_M_knock 7 (.getfield 293) 3 = true ∧ lSa m_M_knock 10 [(.iconst 1, nI 1), (.iadd, 0)] = true ∧ lIa m_M_knock 12 (.putfield 293) 3 = true ∧ lSa m_M_knock 15 [(.aload_n 0, 0)] = true ∧ lIa m_M_knock 16 (.getfield 293) 3 = true ∧ lIa m_M_knock 19 (.ireturn) 1 = true := by decide +kernel
  refine lA8 hdd (fun dd0 dd1 dd2 dd3 dd4 dd5 dd6 dd7 hdd => ?_)
  have dd8 := hdd
  refine gMet.of (by decide +kernel) (Nat.le_of_ble_eq_true rfl) [some (.ref a0)] (fun ls h => zEn_ok (n := 1) h) ?_
  intro o Gf h
  unfold f_M_knock at h
  refine Y.blk (pc' := 2) (L' := [some (.ref a0)]) (st' := [.int (nI 0), .ref a0]) (sg := [(.aload_n 0, 0), (.iconst 0, nI 0)]) (lSa_ok dd0) rfl ?_
  refine Y.putf fl_M_32 (by decide) rfl rfl (lIa_ok dd1) h (fun G1 _ _ h => ?_)
  refine Y.blk (pc' := 7) (L' := [some (.ref a0)]) (st' := [.ref a0, .ref a0]) (sg := [(.aload_n 0, 0), (.dup, 0)]) (lSa_ok dd2) rfl ?_
  refine Y.getI fl_M_293 (lIa_ok dd3) h (fun v2 h => ?_)
  refine Y.blk (pc' := 12) (L' := [some (.ref a0)]) (st' := [.int (v2 + (nI 1)), .ref a0]) (sg := [(.iconst 1, nI 1), (.iadd, 0)]) (lSa_ok dd4) rfl ?_
  refine Y.putf fl_M_293 (by decide) rfl rfl (lIa_ok dd5) h (fun G3 _ _ h => ?_)
  refine Y.blk (pc' := 16) (L' := [some (.ref a0)]) (st' := [.ref a0]) (sg := [(.aload_n 0, 0)]) (lSa_ok dd6) rfl ?_
  refine Y.getI fl_M_293 (lIa_ok dd7) h (fun v4 h => ?_)
  exact Y.iret rfl (lIa_ok dd8) h

def f_M_last (G : gH) (a0 : Nat) (a1 : Int32) (a2 : Int32) : gR :=
  gOb G a0 6 fun o2 => bI (f_M_isNoList G a0 a1) fun v5 G4 => gOb G4 a0 6 fun o7 => bI (f_M_start G4 a0 v5 (nI 1)) fun v10 G9 => if v10 = 0 then (gOb G9 a0 6 fun o12 => bI (f_M_isNoKey G9 a0 a2) fun v15 G14 => gOb G14 a0 6 fun o17 => bI (f_M_refuse G14 a0 v15 (nI 2)) fun v20 G19 => if v20 = 0 then gOb G19 a0 6 fun o22 => bI (f_M_lastOf G19 a0 a1 a2) fun v25 G24 => rI v25 G24
    else rI (nI 0) G19)
  else rI (nI 0) G9
theorem k_M_last {l : Launch} {D : va_G} {B : Nat} {O : State → Heap → Prop} (hV : zG l D B O) (G : gH) (a0 : Nat) (a1 : Int32) (a2 : Int32) : gMet (zVm l D B O) m_M_last 14 [.ref a0, .int a1, .int a2] G (f_M_last G a0 a1 a2) := by
  have hdd : lSa m_M_last 0 [(.aload_n 0, 0), (.aload_n 0, 0), (.iload_n 1, 0)] = true ∧ lIa m_M_last 3 (.invokevirtual 110) 3 = true ∧ lSa m_M_last 6 [(.iconst 1, nI 1)] = true ∧ lIa m_M_last 7 (.invokevirtual 114) 3 = true ∧ lIa m_M_last 10 (.ifCond .ne 16) 3 = true ∧ lSa m_M_last 13 [(.aload_n 0, 0), (.aload_n 0, 0), (.iload_n 2, 0)] = true ∧ lIa m_M_last 16 (.invokevirtual 160) 3 = true ∧ lSa m_M_last 19 [(.iconst 2, nI 2)] = true ∧ lIa m_M_last 20 (.invokevirtual 36) 3 = true ∧ lIa m_M_last 23 (.ifCond .eq 7) 3 = true ∧ lSa m_M_last 30 [(.aload_n 0, 0), (.iload_n 1, 0), (.iload_n 2, 0)] = true ∧ lIa m_M_last 33 (.invokevirtual 226) 3 = true ∧ lIa m_M_last 36 (.ireturn) 1 = true ∧ lSa m_M_last 26 [(.iconst 0, nI 0)] = true ∧ lIa m_M_last 27 (.goto 9) 3 = true := by decide +kernel
  refine lA8 hdd (fun dd0 dd1 dd2 dd3 dd4 dd5 dd6 dd7 hdd => ?_)
  obtain ⟨dd8, dd9, dd10, dd11, dd12, dd13, dd14⟩ := hdd
  refine gMet.of (by decide +kernel) (Nat.le_of_ble_eq_true rfl) [some (.ref a0), some (.int a1), some (.int a2)] (fun ls h => zEn_ok (n := 3) h) ?_
  intro o Gf h
  unfold f_M_last at h
  refine Y.blk (pc' := 3) (L' := [some (.ref a0), some (.int a1), some (.int a2)]) (st' := [.int a1, .ref a0, .ref a0]) (sg := [(.aload_n 0, 0), (.aload_n 0, 0), (.iload_n 1, 0)]) (lSa_ok dd0) rfl ?_
  obtain ⟨_, o2, e1, m3, h⟩ := gOb_inv h
  refine Y.callI (yC.Vi (b := a0) (As := [.int a1]) (st := [.ref a0]) (r := ("PartlisterModel", T_M, 9)) hV.1 cb_M_isNoList lk_M_110 in_M_isNoList rfl se_M_isNoList (lIa_ok dd1) rfl rfl (Nat.le_of_ble_eq_true rfl) (by decide) e1 m3) (k_M_isNoList hV G a0 a1) h (fun v5 G4 _ h => ?_)
  refine Y.blk (pc' := 7) (L' := [some (.ref a0), some (.int a1), some (.int a2)]) (st' := [.int (nI 1), .int v5, .ref a0]) (sg := [(.iconst 1, nI 1)]) (lSa_ok dd2) rfl ?_
  obtain ⟨_, o7, e6, m8, h⟩ := gOb_inv h
  refine Y.callI (yC.Vi (b := a0) (As := [.int v5, .int (nI 1)]) (st := []) (r := ("PartlisterModel", T_M, 9)) hV.1 cb_M_start lk_M_114 in_M_start rfl se_M_start (lIa_ok dd3) rfl rfl (Nat.le_of_ble_eq_true rfl) (by decide) e6 m8) (k_M_start hV G4 a0 v5 (nI 1)) h (fun v10 G9 _ h => ?_)
  refine Y.if_ne (off := 16) (tgt := 26) (lIa_ok dd4) (by decide) h (fun c27 h => ?_) (fun c27 h => ?_)
  · refine Y.blk (pc' := 16) (L' := [some (.ref a0), some (.int a1), some (.int a2)]) (st' := [.int a2, .ref a0, .ref a0]) (sg := [(.aload_n 0, 0), (.aload_n 0, 0), (.iload_n 2, 0)]) (lSa_ok dd5) rfl ?_
    obtain ⟨_, o12, e11, m13, h⟩ := gOb_inv h
    refine Y.callI (yC.Vi (b := a0) (As := [.int a2]) (st := [.ref a0]) (r := ("PartlisterModel", T_M, 9)) hV.1 cb_M_isNoKey lk_M_160 in_M_isNoKey rfl se_M_isNoKey (lIa_ok dd6) rfl rfl (Nat.le_of_ble_eq_true rfl) (by decide) e11 m13) (k_M_isNoKey hV G9 a0 a2) h (fun v15 G14 _ h => ?_)
    refine Y.blk (pc' := 20) (L' := [some (.ref a0), some (.int a1), some (.int a2)]) (st' := [.int (nI 2), .int v15, .ref a0]) (sg := [(.iconst 2, nI 2)]) (lSa_ok dd7) rfl ?_
    obtain ⟨_, o17, e16, m18, h⟩ := gOb_inv h
    refine Y.callI (yC.Vi (b := a0) (As := [.int v15, .int (nI 2)]) (st := []) (r := ("PartlisterModel", T_M, 9)) hV.1 cb_M_refuse lk_M_36 in_M_refuse rfl se_M_refuse (lIa_ok dd8) rfl rfl (Nat.le_of_ble_eq_true rfl) (by decide) e16 m18) (k_M_refuse hV G14 a0 v15 (nI 2)) h (fun v20 G19 _ h => ?_)
    refine Y.if_eq (off := 7) (tgt := 30) (lIa_ok dd9) (by decide) h (fun c26 h => ?_) (fun c26 h => ?_)
    · refine Y.blk (pc' := 33) (L' := [some (.ref a0), some (.int a1), some (.int a2)]) (st' := [.int a2, .int a1, .ref a0]) (sg := [(.aload_n 0, 0), (.iload_n 1, 0), (.iload_n 2, 0)]) (lSa_ok dd10) rfl ?_
      obtain ⟨_, o22, e21, m23, h⟩ := gOb_inv h
      refine Y.callI (yC.Vi (b := a0) (As := [.int a1, .int a2]) (st := []) (r := ("PartlisterModel", T_M, 9)) hV.1 cb_M_lastOf lk_M_226 in_M_lastOf rfl se_M_lastOf (lIa_ok dd11) rfl rfl (Nat.le_of_ble_eq_true rfl) (by decide) e21 m23) (k_M_lastOf hV G19 a0 a1 a2) h (fun v25 G24 _ h => ?_)
      exact Y.iret rfl (lIa_ok dd12) h
    · refine Y.blk (pc' := 27) (L' := [some (.ref a0), some (.int a1), some (.int a2)]) (st' := [.int (nI 0)]) (sg := [(.iconst 0, nI 0)]) (lSa_ok dd13) rfl ?_
      refine Y.goto (off := 9) (tgt := 36) (lIa_ok dd14) (by decide) ?_
      exact Y.iret rfl (lIa_ok dd12) h
  · refine Y.blk (pc' := 27) (L' := [some (.ref a0), some (.int a1), some (.int a2)]) (st' := [.int (nI 0)]) (sg := [(.iconst 0, nI 0)]) (lSa_ok dd13) rfl ?_
    refine Y.goto (off := 9) (tgt := 36) (lIa_ok dd14) (by decide) ?_
    exact Y.iret rfl (lIa_ok dd12) h

def f_M_many (G : gH) (a0 : Nat) (a1 : Int32) (a2 : Int32) : gR :=
  gOb G a0 6 fun o2 => bI (f_M_isNoList G a0 a1) fun v5 G4 => gOb G4 a0 6 fun o7 => bI (f_M_start G4 a0 v5 (nI 1)) fun v10 G9 => if v10 = 0 then (gOb G9 a0 6 fun o12 => bI (f_M_isNoKey G9 a0 a2) fun v15 G14 => gOb G14 a0 6 fun o17 => bI (f_M_refuse G14 a0 v15 (nI 2)) fun v20 G19 => if v20 = 0 then gOb G19 a0 6 fun o22 => bI (f_M_manyOf G19 a0 a1 a2) fun v25 G24 => rI v25 G24
    else rI (nI 0) G19)
  else rI (nI 0) G9
theorem k_M_many {l : Launch} {D : va_G} {B : Nat} {O : State → Heap → Prop} (hV : zG l D B O) (G : gH) (a0 : Nat) (a1 : Int32) (a2 : Int32) : gMet (zVm l D B O) m_M_many 14 [.ref a0, .int a1, .int a2] G (f_M_many G a0 a1 a2) := by
  have hdd : lSa m_M_many 0 [(.aload_n 0, 0), (.aload_n 0, 0), (.iload_n 1, 0)] = true ∧ lIa m_M_many 3 (.invokevirtual 110) 3 = true ∧ lSa m_M_many 6 [(.iconst 1, nI 1)] = true ∧ lIa m_M_many 7 (.invokevirtual 114) 3 = true ∧ lIa m_M_many 10 (.ifCond .ne 16) 3 = true ∧ lSa m_M_many 13 [(.aload_n 0, 0), (.aload_n 0, 0), (.iload_n 2, 0)] = true ∧ lIa m_M_many 16 (.invokevirtual 160) 3 = true ∧ lSa m_M_many 19 [(.iconst 2, nI 2)] = true ∧ lIa m_M_many 20 (.invokevirtual 36) 3 = true ∧ lIa m_M_many 23 (.ifCond .eq 7) 3 = true ∧ lSa m_M_many 30 [(.aload_n 0, 0), (.iload_n 1, 0), (.iload_n 2, 0)] = true ∧ lIa m_M_many 33 (.invokevirtual 229) 3 = true ∧ lIa m_M_many 36 (.ireturn) 1 = true ∧ lSa m_M_many 26 [(.iconst 0, nI 0)] = true ∧ lIa m_M_many 27 (.goto 9) 3 = true := by decide +kernel
  refine lA8 hdd (fun dd0 dd1 dd2 dd3 dd4 dd5 dd6 dd7 hdd => ?_)
  obtain ⟨dd8, dd9, dd10, dd11, dd12, dd13, dd14⟩ := hdd
  refine gMet.of (by decide +kernel) (Nat.le_of_ble_eq_true rfl) [some (.ref a0), some (.int a1), some (.int a2)] (fun ls h => zEn_ok (n := 3) h) ?_
  intro o Gf h
  unfold f_M_many at h
  refine Y.blk (pc' := 3) (L' := [some (.ref a0), some (.int a1), some (.int a2)]) (st' := [.int a1, .ref a0, .ref a0]) (sg := [(.aload_n 0, 0), (.aload_n 0, 0), (.iload_n 1, 0)]) (lSa_ok dd0) rfl ?_
  obtain ⟨_, o2, e1, m3, h⟩ := gOb_inv h
  refine Y.callI (yC.Vi (b := a0) (As := [.int a1]) (st := [.ref a0]) (r := ("PartlisterModel", T_M, 9)) hV.1 cb_M_isNoList lk_M_110 in_M_isNoList rfl se_M_isNoList (lIa_ok dd1) rfl rfl (Nat.le_of_ble_eq_true rfl) (by decide) e1 m3) (k_M_isNoList hV G a0 a1) h (fun v5 G4 _ h => ?_)
  refine Y.blk (pc' := 7) (L' := [some (.ref a0), some (.int a1), some (.int a2)]) (st' := [.int (nI 1), .int v5, .ref a0]) (sg := [(.iconst 1, nI 1)]) (lSa_ok dd2) rfl ?_
  obtain ⟨_, o7, e6, m8, h⟩ := gOb_inv h
  refine Y.callI (yC.Vi (b := a0) (As := [.int v5, .int (nI 1)]) (st := []) (r := ("PartlisterModel", T_M, 9)) hV.1 cb_M_start lk_M_114 in_M_start rfl se_M_start (lIa_ok dd3) rfl rfl (Nat.le_of_ble_eq_true rfl) (by decide) e6 m8) (k_M_start hV G4 a0 v5 (nI 1)) h (fun v10 G9 _ h => ?_)
  refine Y.if_ne (off := 16) (tgt := 26) (lIa_ok dd4) (by decide) h (fun c27 h => ?_) (fun c27 h => ?_)
  · refine Y.blk (pc' := 16) (L' := [some (.ref a0), some (.int a1), some (.int a2)]) (st' := [.int a2, .ref a0, .ref a0]) (sg := [(.aload_n 0, 0), (.aload_n 0, 0), (.iload_n 2, 0)]) (lSa_ok dd5) rfl ?_
    obtain ⟨_, o12, e11, m13, h⟩ := gOb_inv h
    refine Y.callI (yC.Vi (b := a0) (As := [.int a2]) (st := [.ref a0]) (r := ("PartlisterModel", T_M, 9)) hV.1 cb_M_isNoKey lk_M_160 in_M_isNoKey rfl se_M_isNoKey (lIa_ok dd6) rfl rfl (Nat.le_of_ble_eq_true rfl) (by decide) e11 m13) (k_M_isNoKey hV G9 a0 a2) h (fun v15 G14 _ h => ?_)
    refine Y.blk (pc' := 20) (L' := [some (.ref a0), some (.int a1), some (.int a2)]) (st' := [.int (nI 2), .int v15, .ref a0]) (sg := [(.iconst 2, nI 2)]) (lSa_ok dd7) rfl ?_
    obtain ⟨_, o17, e16, m18, h⟩ := gOb_inv h
    refine Y.callI (yC.Vi (b := a0) (As := [.int v15, .int (nI 2)]) (st := []) (r := ("PartlisterModel", T_M, 9)) hV.1 cb_M_refuse lk_M_36 in_M_refuse rfl se_M_refuse (lIa_ok dd8) rfl rfl (Nat.le_of_ble_eq_true rfl) (by decide) e16 m18) (k_M_refuse hV G14 a0 v15 (nI 2)) h (fun v20 G19 _ h => ?_)
    refine Y.if_eq (off := 7) (tgt := 30) (lIa_ok dd9) (by decide) h (fun c26 h => ?_) (fun c26 h => ?_)
    · refine Y.blk (pc' := 33) (L' := [some (.ref a0), some (.int a1), some (.int a2)]) (st' := [.int a2, .int a1, .ref a0]) (sg := [(.aload_n 0, 0), (.iload_n 1, 0), (.iload_n 2, 0)]) (lSa_ok dd10) rfl ?_
      obtain ⟨_, o22, e21, m23, h⟩ := gOb_inv h
      refine Y.callI (yC.Vi (b := a0) (As := [.int a1, .int a2]) (st := []) (r := ("PartlisterModel", T_M, 9)) hV.1 cb_M_manyOf lk_M_229 in_M_manyOf rfl se_M_manyOf (lIa_ok dd11) rfl rfl (Nat.le_of_ble_eq_true rfl) (by decide) e21 m23) (k_M_manyOf hV G19 a0 a1 a2) h (fun v25 G24 _ h => ?_)
      exact Y.iret rfl (lIa_ok dd12) h
    · refine Y.blk (pc' := 27) (L' := [some (.ref a0), some (.int a1), some (.int a2)]) (st' := [.int (nI 0)]) (sg := [(.iconst 0, nI 0)]) (lSa_ok dd13) rfl ?_
      refine Y.goto (off := 9) (tgt := 36) (lIa_ok dd14) (by decide) ?_
      exact Y.iret rfl (lIa_ok dd12) h
  · refine Y.blk (pc' := 27) (L' := [some (.ref a0), some (.int a1), some (.int a2)]) (st' := [.int (nI 0)]) (sg := [(.iconst 0, nI 0)]) (lSa_ok dd13) rfl ?_
    refine Y.goto (off := 9) (tgt := 36) (lIa_ok dd14) (by decide) ?_
    exact Y.iret rfl (lIa_ok dd12) h

def f_M_move_L54 (w : Nat → Nat) (K91 : gH → Nat → Int32 → Int32 → gR) : Nat → gH → Nat → Int32 → Int32 → Nat → Int32 → Int32 → gR
  | 0, _, _, _, _, _, _, _ => none
  | n + 1, G, x0, x1, x2, x3, x4, x5 =>
    if x4 ≤ x5 then K91 G x0 x1 x4
    else bI (f_MA_floorMod G (x5 + x2) x4) fun v31 G30 => gOb G30 x3 9 fun o33 => bA (f_AL_get G30 x3 x5) fun v36 G35 => gCaA G35 v36 100 (gOb G35 x0 6 fun o38 => bA (f_M_write G35 x0 x1 v31 v36) fun v41 G40 => f_M_move_L54 w K91 n G40 x0 x1 x2 x3 x4 (x5 + (nI 1)))
def f_M_move (w : Nat → Nat) (G : gH) (a0 : Nat) (a1 : Int32) (a2 : Int32) : gR :=
  gOb G a0 6 fun o2 => bI (f_M_isNoList G a0 a1) fun v5 G4 => gOb G4 a0 6 fun o7 => bI (f_M_start G4 a0 v5 (nI 1)) fun v10 G9 => if v10 = 0 then (bI (f_M_isIn G9 a2 (-40) (nI 40)) fun v13 G12 => if v13 = 0 then (gOb G12 a0 6 fun o15 => bI (f_M_refuse G12 a0 (nI 1) (nI 2)) fun v18 G17 => if v18 = 0 then (gOb G17 a0 6 fun o20 => bA (f_M_copy w G17 a0 a1) fun v23 G22 => gOb G22 v23 9 fun o25 => bI (f_AL_size G22 v23) fun v28 G27 => f_M_move_L54 w (fun G46 x43 x44 x45 => if x45 = 0 then rI (-1) G46
          else gOb G46 x43 6 fun o48 => bA (f_M_at G46 x43 x44 (nI 0)) fun v51 G50 => gLd G50 v51 100 (nI 1) fun v52 => rI v52 G50) zFu G27 a0 a1 a2 v23 v28 (nI 0))
      else rI (nI 0) G17)
    else gOb G12 a0 6 fun o56 => bI (f_M_refuse G12 a0 (nI 0) (nI 2)) fun v59 G58 => if v59 = 0 then (gOb G58 a0 6 fun o61 => bA (f_M_copy w G58 a0 a1) fun v64 G63 => gOb G63 v64 9 fun o66 => bI (f_AL_size G63 v64) fun v69 G68 => f_M_move_L54 w (fun G73 x70 x71 x72 => if x72 = 0 then rI (-1) G73
          else gOb G73 x70 6 fun o75 => bA (f_M_at G73 x70 x71 (nI 0)) fun v78 G77 => gLd G77 v78 100 (nI 1) fun v79 => rI v79 G77) zFu G68 a0 a1 a2 v64 v69 (nI 0))
      else rI (nI 0) G58)
  else rI (nI 0) G9
theorem k_M_move_L54 {l : Launch} {D : va_G} {B : Nat} {O : State → Heap → Prop} {w : Nat → Nat} (hV : zGw l D B O w) {o : gO} {Gf : gH} (K91 : gH → Nat → Int32 → Int32 → gR) (hK91 : ∀ (G : gH) (x0 : Nat) (x1 : Int32) (x4 : Int32), K91 G x0 x1 x4 = some (o, Gf) → Y (zVm l D B O) m_M_move 14 o Gf 91 [some (.ref x0), some (.int x1), none, none, some (.int x4), none] [] G) : ∀ (n : Nat) (G : gH) (x0 : Nat) (x1 : Int32) (x2 : Int32) (x3 : Nat) (x4 : Int32) (x5 : Int32), f_M_move_L54 w K91 n G x0 x1 x2 x3 x4 x5 = some (o, Gf) → Y (zVm l D B O) m_M_move 14 o Gf 54 [some (.ref x0), some (.int x1), some (.int x2), some (.ref x3), some (.int x4), some (.int x5)] [] G := by
  have hdd : lSa m_M_move 54 [(.iload 5, 0), (.iload 4, 0)] = true ∧ lIa m_M_move 58 (.if_icmp .ge 33) 3 = true ∧ lSa m_M_move 61 [(.aload_n 0, 0), (.iload_n 1, 0), (.iload 5, 0), (.iload_n 2, 0), (.iadd, 0), (.iload 4, 0)] = true ∧ lIa m_M_move 69 (.invokestatic 192) 3 = true ∧ lSa m_M_move 72 [(.aload_n 3, 0), (.iload 5, 0)] = true ∧ lIa m_M_move 75 (.invokevirtual 57) 3 = true ∧ lIa m_M_move 78 (.checkcast 72) 3 = true ∧ lIa m_M_move 81 (.invokevirtual 150) 3 = true ∧ lSa m_M_move 84 [(.pop, 0), (.iinc 5 1, nI 1)] = true ∧ lIa m_M_move 88 (.goto (-34)) 3 = true := by decide +kernel
  refine lA8 hdd (fun dd0 dd1 dd2 dd3 dd4 dd5 dd6 dd7 hdd => ?_)
  obtain ⟨dd8, dd9⟩ := hdd
  intro n
  induction n with
  | zero => intro G x0 x1 x2 x3 x4 x5 h; cases h
  | succ n ih =>
    intro G x0 x1 x2 x3 x4 x5 h
    unfold f_M_move_L54 at h
    refine Y.blk (pc' := 58) (L' := [some (.ref x0), some (.int x1), some (.int x2), some (.ref x3), some (.int x4), some (.int x5)]) (st' := [.int x4, .int x5]) (sg := [(.iload 5, 0), (.iload 4, 0)]) (lSa_ok dd0) rfl ?_
    refine Y.ic_ge (off := 33) (tgt := 91) (lIa_ok dd1) (by decide) h (fun c42 h => ?_) (fun c42 h => ?_)
    · refine Y.less (L' := [some (.ref x0), some (.int x1), none, none, some (.int x4), none]) (zLe_some (zLe_some (zLe_none (zLe_none (zLe_some (zLe_none (zLe_nil))))))) ?_
      exact hK91 G x0 x1 x4 h
    · refine Y.blk (pc' := 69) (L' := [some (.ref x0), some (.int x1), some (.int x2), some (.ref x3), some (.int x4), some (.int x5)]) (st' := [.int x4, .int (x5 + x2), .int x1, .ref x0]) (sg := [(.aload_n 0, 0), (.iload_n 1, 0), (.iload 5, 0), (.iload_n 2, 0), (.iadd, 0), (.iload 4, 0)]) (lSa_ok dd2) rfl ?_
      refine Y.callI (yC.S (As := [.int (x5 + x2), .int x4]) (st := [.int x1, .ref x0]) hV.1.1 cb_MA_floorMod lk_M_192 st_MA_floorMod (lIa_ok dd3) rfl rfl (Nat.le_of_ble_eq_true rfl) (by decide)) (k_MA_floorMod hV.1 G (x5 + x2) x4) h (fun v31 G30 _ h => ?_)
      refine Y.blk (pc' := 75) (L' := [some (.ref x0), some (.int x1), some (.int x2), some (.ref x3), some (.int x4), some (.int x5)]) (st' := [.int x5, .ref x3, .int v31, .int x1, .ref x0]) (sg := [(.aload_n 3, 0), (.iload 5, 0)]) (lSa_ok dd4) rfl ?_
      obtain ⟨_, o33, e32, m34, h⟩ := gOb_inv h
      refine Y.callA (yC.Vi (b := x3) (As := [.int x5]) (st := [.int v31, .int x1, .ref x0]) (r := ("java/util/ArrayList", T_AL, 3)) hV.1.1 cb_AL_get lk_M_57 in_AL_get rfl se_AL_get (lIa_ok dd5) rfl rfl (Nat.le_of_ble_eq_true rfl) (by decide) e32 m34) (k_AL_get hV.1 G30 x3 x5) h (fun v36 G35 _ h => ?_)
      refine Y.castA (t0 := 0) (nm := "[I") (lIa_ok dd6) rfl (by decide) ck_M_72 h (fun h => ?_)
      obtain ⟨_, o38, e37, m39, h⟩ := gOb_inv h
      refine Y.callA (yC.Vi (b := x0) (As := [.int x1, .int v31, .ref v36]) (st := []) (r := ("PartlisterModel", T_M, 9)) hV.1.1 cb_M_write lk_M_150 in_M_write rfl se_M_write (lIa_ok dd7) rfl rfl (Nat.le_of_ble_eq_true rfl) (by decide) e37 m39) (k_M_write hV.1 G35 x0 x1 v31 v36) h (fun v41 G40 _ h => ?_)
      refine Y.blk (pc' := 88) (L' := [some (.ref x0), some (.int x1), some (.int x2), some (.ref x3), some (.int x4), some (.int (x5 + (nI 1)))]) (st' := []) (sg := [(.pop, 0), (.iinc 5 1, nI 1)]) (lSa_ok dd8) rfl ?_
      refine Y.goto (off := -34) (tgt := 54) (lIa_ok dd9) (by decide) ?_
      exact ih G40 x0 x1 x2 x3 x4 (x5 + (nI 1)) h
theorem k_M_move {l : Launch} {D : va_G} {B : Nat} {O : State → Heap → Prop} {w : Nat → Nat} (hV : zGw l D B O w) (G : gH) (a0 : Nat) (a1 : Int32) (a2 : Int32) : gMet (zVm l D B O) m_M_move 14 [.ref a0, .int a1, .int a2] G (f_M_move w G a0 a1 a2) := by
  have hdd : lSa m_M_move 0 [(.aload_n 0, 0), (.aload_n 0, 0), (.iload_n 1, 0)] = true ∧ lIa m_M_move 3 (.invokevirtual 110) 3 = true ∧ lSa m_M_move 6 [(.iconst 1, nI 1)] = true ∧ lIa m_M_move 7 (.invokevirtual 114) 3 = true ∧ lIa m_M_move 10 (.ifCond .ne 27) 3 = true ∧ lSa m_M_move 13 [(.aload_n 0, 0), (.iload_n 2, 0), (.bipush (-40), -40), (.bipush 40, nI 40)] = true ∧ lIa m_M_move 19 (.invokestatic 40) 3 = true ∧ lIa m_M_move 22 (.ifCond .ne 7) 3 = true ∧ lSa m_M_move 25 [(.iconst 1, nI 1)] = true ∧ lIa m_M_move 26 (.goto 4) 3 = true ∧ lSa m_M_move 30 [(.iconst 2, nI 2)] = true ∧ lIa m_M_move 31 (.invokevirtual 36) 3 = true ∧ lIa m_M_move 34 (.ifCond .eq 5) 3 = true ∧ lSa m_M_move 39 [(.aload_n 0, 0), (.iload_n 1, 0)] = true ∧ lIa m_M_move 41 (.invokevirtual 136) 3 = true ∧ lSa m_M_move 44 [(.astore_n 3, 0), (.aload_n 3, 0)] = true ∧ lIa m_M_move 46 (.invokevirtual 61) 3 = true ∧ lSa m_M_move 49 [(.istore 4, 0), (.iconst 0, nI 0), (.istore 5, 0)] = true ∧ lSa m_M_move 91 [(.iload 4, 0)] = true ∧ lIa m_M_move 93 (.ifCond .ne 7) 3 = true ∧ lSa m_M_move 96 [(.iconst (-1), -1)] = true ∧ lIa m_M_move 97 (.goto 11) 3 = true ∧ lIa m_M_move 108 (.ireturn) 1 = true ∧ lSa m_M_move 100 [(.aload_n 0, 0), (.iload_n 1, 0), (.iconst 0, nI 0)] = true ∧ lIa m_M_move 103 (.invokevirtual 132) 3 = true ∧ lSa m_M_move 106 [(.iconst 1, nI 1)] = true ∧ lIa m_M_move 107 (.iaload) 1 = true ∧ lSa m_M_move 37 [(.iconst 0, nI 0)] = true ∧ lIa m_M_move 38 (.ireturn) 1 = true ∧ lSa m_M_move 29 [(.iconst 0, nI 0), (.iconst 2, nI 2)] = true := by decide +kernel
  refine lA8 hdd (fun dd0 dd1 dd2 dd3 dd4 dd5 dd6 dd7 hdd => ?_)
  refine lA8 hdd (fun dd8 dd9 dd10 dd11 dd12 dd13 dd14 dd15 hdd => ?_)
  refine lA8 hdd (fun dd16 dd17 dd18 dd19 dd20 dd21 dd22 dd23 hdd => ?_)
  obtain ⟨dd24, dd25, dd26, dd27, dd28, dd29⟩ := hdd
  refine gMet.of (by decide +kernel) (Nat.le_of_ble_eq_true rfl) [some (.ref a0), some (.int a1), some (.int a2), none, none, none] (fun ls h => zEn_ok (n := 6) h) ?_
  intro o Gf h
  unfold f_M_move at h
  refine Y.blk (pc' := 3) (L' := [some (.ref a0), some (.int a1), some (.int a2), none, none, none]) (st' := [.int a1, .ref a0, .ref a0]) (sg := [(.aload_n 0, 0), (.aload_n 0, 0), (.iload_n 1, 0)]) (lSa_ok dd0) rfl ?_
  obtain ⟨_, o2, e1, m3, h⟩ := gOb_inv h
  refine Y.callI (yC.Vi (b := a0) (As := [.int a1]) (st := [.ref a0]) (r := ("PartlisterModel", T_M, 9)) hV.1.1 cb_M_isNoList lk_M_110 in_M_isNoList rfl se_M_isNoList (lIa_ok dd1) rfl rfl (Nat.le_of_ble_eq_true rfl) (by decide) e1 m3) (k_M_isNoList hV.1 G a0 a1) h (fun v5 G4 _ h => ?_)
  refine Y.blk (pc' := 7) (L' := [some (.ref a0), some (.int a1), some (.int a2), none, none, none]) (st' := [.int (nI 1), .int v5, .ref a0]) (sg := [(.iconst 1, nI 1)]) (lSa_ok dd2) rfl ?_
  obtain ⟨_, o7, e6, m8, h⟩ := gOb_inv h
  refine Y.callI (yC.Vi (b := a0) (As := [.int v5, .int (nI 1)]) (st := []) (r := ("PartlisterModel", T_M, 9)) hV.1.1 cb_M_start lk_M_114 in_M_start rfl se_M_start (lIa_ok dd3) rfl rfl (Nat.le_of_ble_eq_true rfl) (by decide) e6 m8) (k_M_start hV.1 G4 a0 v5 (nI 1)) h (fun v10 G9 _ h => ?_)
  refine Y.if_ne (off := 27) (tgt := 37) (lIa_ok dd4) (by decide) h (fun c83 h => ?_) (fun c83 h => ?_)
  · refine Y.blk (pc' := 19) (L' := [some (.ref a0), some (.int a1), some (.int a2), none, none, none]) (st' := [.int (nI 40), .int (-40), .int a2, .ref a0]) (sg := [(.aload_n 0, 0), (.iload_n 2, 0), (.bipush (-40), -40), (.bipush 40, nI 40)]) (lSa_ok dd5) rfl ?_
    refine Y.callI (yC.S (As := [.int a2, .int (-40), .int (nI 40)]) (st := [.ref a0]) hV.1.1 cb_M_isIn lk_M_40 st_M_isIn (lIa_ok dd6) rfl rfl (Nat.le_of_ble_eq_true rfl) (by decide)) (k_M_isIn hV.1 G9 a2 (-40) (nI 40)) h (fun v13 G12 _ h => ?_)
    refine Y.if_ne (off := 7) (tgt := 29) (lIa_ok dd7) (by decide) h (fun c82 h => ?_) (fun c82 h => ?_)
    · refine Y.blk (pc' := 26) (L' := [some (.ref a0), some (.int a1), some (.int a2), none, none, none]) (st' := [.int (nI 1), .ref a0]) (sg := [(.iconst 1, nI 1)]) (lSa_ok dd8) rfl ?_
      refine Y.goto (off := 4) (tgt := 30) (lIa_ok dd9) (by decide) ?_
      refine Y.blk (pc' := 31) (L' := [some (.ref a0), some (.int a1), some (.int a2), none, none, none]) (st' := [.int (nI 2), .int (nI 1), .ref a0]) (sg := [(.iconst 2, nI 2)]) (lSa_ok dd10) rfl ?_
      obtain ⟨_, o15, e14, m16, h⟩ := gOb_inv h
      refine Y.callI (yC.Vi (b := a0) (As := [.int (nI 1), .int (nI 2)]) (st := []) (r := ("PartlisterModel", T_M, 9)) hV.1.1 cb_M_refuse lk_M_36 in_M_refuse rfl se_M_refuse (lIa_ok dd11) rfl rfl (Nat.le_of_ble_eq_true rfl) (by decide) e14 m16) (k_M_refuse hV.1 G12 a0 (nI 1) (nI 2)) h (fun v18 G17 _ h => ?_)
      refine Y.if_eq (off := 5) (tgt := 39) (lIa_ok dd12) (by decide) h (fun c54 h => ?_) (fun c54 h => ?_)
      · refine Y.blk (pc' := 41) (L' := [some (.ref a0), some (.int a1), some (.int a2), none, none, none]) (st' := [.int a1, .ref a0]) (sg := [(.aload_n 0, 0), (.iload_n 1, 0)]) (lSa_ok dd13) rfl ?_
        obtain ⟨_, o20, e19, m21, h⟩ := gOb_inv h
        refine Y.callA (yC.Vi (b := a0) (As := [.int a1]) (st := []) (r := ("PartlisterModel", T_M, 9)) hV.1.1 cb_M_copy lk_M_136 in_M_copy rfl se_M_copy (lIa_ok dd14) rfl rfl (Nat.le_of_ble_eq_true rfl) (by decide) e19 m21) (k_M_copy hV G17 a0 a1) h (fun v23 G22 _ h => ?_)
        refine Y.blk (pc' := 46) (L' := [some (.ref a0), some (.int a1), some (.int a2), some (.ref v23), none, none]) (st' := [.ref v23]) (sg := [(.astore_n 3, 0), (.aload_n 3, 0)]) (lSa_ok dd15) rfl ?_
        obtain ⟨_, o25, e24, m26, h⟩ := gOb_inv h
        refine Y.callI (yC.Vi (b := v23) (As := []) (st := []) (r := ("java/util/ArrayList", T_AL, 3)) hV.1.1 cb_AL_size lk_M_61 in_AL_size rfl se_AL_size (lIa_ok dd16) rfl rfl (Nat.le_of_ble_eq_true rfl) (by decide) e24 m26) (k_AL_size hV.1 G22 v23) h (fun v28 G27 _ h => ?_)
        refine Y.blk (pc' := 54) (L' := [some (.ref a0), some (.int a1), some (.int a2), some (.ref v23), some (.int v28), some (.int (nI 0))]) (st' := []) (sg := [(.istore 4, 0), (.iconst 0, nI 0), (.istore 5, 0)]) (lSa_ok dd17) rfl ?_
        refine k_M_move_L54 hV _ ?_  zFu G27 a0 a1 a2 v23 v28 (nI 0) h
        · intro G46 x43 x44 x45 h
          refine Y.blk (pc' := 93) (L' := [some (.ref x43), some (.int x44), none, none, some (.int x45), none]) (st' := [.int x45]) (sg := [(.iload 4, 0)]) (lSa_ok dd18) rfl ?_
          refine Y.if_ne (off := 7) (tgt := 100) (lIa_ok dd19) (by decide) h (fun c53 h => ?_) (fun c53 h => ?_)
          · refine Y.blk (pc' := 97) (L' := [some (.ref x43), some (.int x44), none, none, some (.int x45), none]) (st' := [.int (-1)]) (sg := [(.iconst (-1), -1)]) (lSa_ok dd20) rfl ?_
            refine Y.goto (off := 11) (tgt := 108) (lIa_ok dd21) (by decide) ?_
            exact Y.iret rfl (lIa_ok dd22) h
          · refine Y.blk (pc' := 103) (L' := [some (.ref x43), some (.int x44), none, none, some (.int x45), none]) (st' := [.int (nI 0), .int x44, .ref x43]) (sg := [(.aload_n 0, 0), (.iload_n 1, 0), (.iconst 0, nI 0)]) (lSa_ok dd23) rfl ?_
            obtain ⟨_, o48, e47, m49, h⟩ := gOb_inv h
            refine Y.callA (yC.Vi (b := x43) (As := [.int x44, .int (nI 0)]) (st := []) (r := ("PartlisterModel", T_M, 9)) hV.1.1 cb_M_at lk_M_132 in_M_at rfl se_M_at (lIa_ok dd24) rfl rfl (Nat.le_of_ble_eq_true rfl) (by decide) e47 m49) (k_M_at hV.1 G46 x43 x44 (nI 0)) h (fun v51 G50 _ h => ?_)
            refine Y.blk (pc' := 107) (L' := [some (.ref x43), some (.int x44), none, none, some (.int x45), none]) (st' := [.int (nI 1), .ref v51]) (sg := [(.iconst 1, nI 1)]) (lSa_ok dd25) rfl ?_
            refine Y.iald (t0 := 0) (lIa_ok dd26) rfl h (fun v52 h => ?_)
            exact Y.iret rfl (lIa_ok dd22) h
      · refine Y.blk (pc' := 38) (L' := [some (.ref a0), some (.int a1), some (.int a2), none, none, none]) (st' := [.int (nI 0)]) (sg := [(.iconst 0, nI 0)]) (lSa_ok dd27) rfl ?_
        exact Y.iret rfl (lIa_ok dd28) h
    · refine Y.blk (pc' := 31) (L' := [some (.ref a0), some (.int a1), some (.int a2), none, none, none]) (st' := [.int (nI 2), .int (nI 0), .ref a0]) (sg := [(.iconst 0, nI 0), (.iconst 2, nI 2)]) (lSa_ok dd29) rfl ?_
      obtain ⟨_, o56, e55, m57, h⟩ := gOb_inv h
      refine Y.callI (yC.Vi (b := a0) (As := [.int (nI 0), .int (nI 2)]) (st := []) (r := ("PartlisterModel", T_M, 9)) hV.1.1 cb_M_refuse lk_M_36 in_M_refuse rfl se_M_refuse (lIa_ok dd11) rfl rfl (Nat.le_of_ble_eq_true rfl) (by decide) e55 m57) (k_M_refuse hV.1 G12 a0 (nI 0) (nI 2)) h (fun v59 G58 _ h => ?_)
      refine Y.if_eq (off := 5) (tgt := 39) (lIa_ok dd12) (by decide) h (fun c81 h => ?_) (fun c81 h => ?_)
      · refine Y.blk (pc' := 41) (L' := [some (.ref a0), some (.int a1), some (.int a2), none, none, none]) (st' := [.int a1, .ref a0]) (sg := [(.aload_n 0, 0), (.iload_n 1, 0)]) (lSa_ok dd13) rfl ?_
        obtain ⟨_, o61, e60, m62, h⟩ := gOb_inv h
        refine Y.callA (yC.Vi (b := a0) (As := [.int a1]) (st := []) (r := ("PartlisterModel", T_M, 9)) hV.1.1 cb_M_copy lk_M_136 in_M_copy rfl se_M_copy (lIa_ok dd14) rfl rfl (Nat.le_of_ble_eq_true rfl) (by decide) e60 m62) (k_M_copy hV G58 a0 a1) h (fun v64 G63 _ h => ?_)
        refine Y.blk (pc' := 46) (L' := [some (.ref a0), some (.int a1), some (.int a2), some (.ref v64), none, none]) (st' := [.ref v64]) (sg := [(.astore_n 3, 0), (.aload_n 3, 0)]) (lSa_ok dd15) rfl ?_
        obtain ⟨_, o66, e65, m67, h⟩ := gOb_inv h
        refine Y.callI (yC.Vi (b := v64) (As := []) (st := []) (r := ("java/util/ArrayList", T_AL, 3)) hV.1.1 cb_AL_size lk_M_61 in_AL_size rfl se_AL_size (lIa_ok dd16) rfl rfl (Nat.le_of_ble_eq_true rfl) (by decide) e65 m67) (k_AL_size hV.1 G63 v64) h (fun v69 G68 _ h => ?_)
        refine Y.blk (pc' := 54) (L' := [some (.ref a0), some (.int a1), some (.int a2), some (.ref v64), some (.int v69), some (.int (nI 0))]) (st' := []) (sg := [(.istore 4, 0), (.iconst 0, nI 0), (.istore 5, 0)]) (lSa_ok dd17) rfl ?_
        refine k_M_move_L54 hV _ ?_  zFu G68 a0 a1 a2 v64 v69 (nI 0) h
        · intro G73 x70 x71 x72 h
          refine Y.blk (pc' := 93) (L' := [some (.ref x70), some (.int x71), none, none, some (.int x72), none]) (st' := [.int x72]) (sg := [(.iload 4, 0)]) (lSa_ok dd18) rfl ?_
          refine Y.if_ne (off := 7) (tgt := 100) (lIa_ok dd19) (by decide) h (fun c80 h => ?_) (fun c80 h => ?_)
          · refine Y.blk (pc' := 97) (L' := [some (.ref x70), some (.int x71), none, none, some (.int x72), none]) (st' := [.int (-1)]) (sg := [(.iconst (-1), -1)]) (lSa_ok dd20) rfl ?_
            refine Y.goto (off := 11) (tgt := 108) (lIa_ok dd21) (by decide) ?_
            exact Y.iret rfl (lIa_ok dd22) h
          · refine Y.blk (pc' := 103) (L' := [some (.ref x70), some (.int x71), none, none, some (.int x72), none]) (st' := [.int (nI 0), .int x71, .ref x70]) (sg := [(.aload_n 0, 0), (.iload_n 1, 0), (.iconst 0, nI 0)]) (lSa_ok dd23) rfl ?_
            obtain ⟨_, o75, e74, m76, h⟩ := gOb_inv h
            refine Y.callA (yC.Vi (b := x70) (As := [.int x71, .int (nI 0)]) (st := []) (r := ("PartlisterModel", T_M, 9)) hV.1.1 cb_M_at lk_M_132 in_M_at rfl se_M_at (lIa_ok dd24) rfl rfl (Nat.le_of_ble_eq_true rfl) (by decide) e74 m76) (k_M_at hV.1 G73 x70 x71 (nI 0)) h (fun v78 G77 _ h => ?_)
            refine Y.blk (pc' := 107) (L' := [some (.ref x70), some (.int x71), none, none, some (.int x72), none]) (st' := [.int (nI 1), .ref v78]) (sg := [(.iconst 1, nI 1)]) (lSa_ok dd25) rfl ?_
            refine Y.iald (t0 := 0) (lIa_ok dd26) rfl h (fun v79 h => ?_)
            exact Y.iret rfl (lIa_ok dd22) h
      · refine Y.blk (pc' := 38) (L' := [some (.ref a0), some (.int a1), some (.int a2), none, none, none]) (st' := [.int (nI 0)]) (sg := [(.iconst 0, nI 0)]) (lSa_ok dd27) rfl ?_
        exact Y.iret rfl (lIa_ok dd28) h
  · refine Y.blk (pc' := 38) (L' := [some (.ref a0), some (.int a1), some (.int a2), none, none, none]) (st' := [.int (nI 0)]) (sg := [(.iconst 0, nI 0)]) (lSa_ok dd27) rfl ?_
    exact Y.iret rfl (lIa_ok dd28) h
