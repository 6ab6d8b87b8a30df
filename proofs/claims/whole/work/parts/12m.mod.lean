def f_M_next (G : gH) (a0 : Nat) (a1 : Int32) : gR :=
  gOb G a0 6 fun o2 => bI (f_M_isNoCursor G a0 a1) fun v5 G4 => gOb G4 a0 6 fun o7 => bI (f_M_start G4 a0 v5 (nI 1)) fun v10 G9 => if v10 = 0 then (gFA G9 a0 6 3 fun v11 => gLdq G9 v11 105 a1 (none) fun v12 => gFI G9 v12 4 3 fun v13 => if v13 = 0 then (gFI G9 v12 4 1 fun v14 => gFI G9 v12 4 0 fun v15 => gOb G9 a0 6 fun o17 => bI (f_M_length G9 a0 v15) fun v20 G19 => if v14 = v20 then gOb G19 a0 6 fun o22 => bI (f_M_fault G19 a0 (-8)) fun v25 G24 => rI v25 G24
        else gFI G19 v12 4 1 fun v26 => gPut G19 v12 4 2 (.int v26) fun G27 => gFI G27 v12 4 1 fun v28 => gPut G27 v12 4 1 (.int (v28 + (nI 1))) fun G29 => gFI G29 v12 4 0 fun v30 => gFI G29 v12 4 2 fun v31 => gOb G29 a0 6 fun o33 => bA (f_M_at G29 a0 v30 v31) fun v36 G35 => gLd G35 v36 100 (nI 1) fun v37 => rI v37 G35)
      else gOb G9 a0 6 fun o40 => bI (f_M_fault G9 a0 (-9)) fun v43 G42 => rI v43 G42)
  else rI (nI 0) G9
theorem k_M_next {l : Launch} {D : va_G} {B : Nat} {O : State → Heap → Prop} (hV : zG l D B O) (G : gH) (a0 : Nat) (a1 : Int32) : gMet (zVm l D B O) m_M_next 13 [.ref a0, .int a1] G (f_M_next G a0 a1) := by
  have hdd : lSa m_M_next 0 [(.aload_n 0, 0), (.aload_n 0, 0), (.iload_n 1, 0)] = true ∧ lIa m_M_next 3 (.invokevirtual 214) 3 = true ∧ lSa m_M_next 6 [(.iconst 1, nI 1)] = true ∧ lIa m_M_next 7 (.invokevirtual 114) 3 = true ∧ lIa m_M_next 10 (.ifCond .eq 5) 3 = true ∧ lSa m_M_next 15 [(.aload_n 0, 0)] = true ∧ lIa m_M_next 16 (.getfield 24) 3 = true ∧ lSa m_M_next 19 [(.iload_n 1, 0)] = true ∧ lIa m_M_next 20 (.aaload) 1 = true ∧ lSa m_M_next 21 [(.astore_n 2, 0), (.aload_n 2, 0)] = true ∧ lIa m_M_next 23 (.getfield 99) 3 = true ∧ lIa m_M_next 26 (.ifCond .eq 10) 3 = true ∧ lSa m_M_next 36 [(.aload_n 2, 0)] = true ∧ lIa m_M_next 37 (.getfield 208) 3 = true ∧ lSa m_M_next 40 [(.aload_n 0, 0), (.aload_n 2, 0)] = true ∧ lIa m_M_next 42 (.getfield 89) 3 = true ∧ lIa m_M_next 45 (.invokevirtual 74) 3 = true ∧ lIa m_M_next 48 (.if_icmp .ne 10) 3 = true ∧ lSa m_M_next 51 [(.aload_n 0, 0), (.bipush (-8), -8)] = true ∧ lIa m_M_next 54 (.invokevirtual 217) 3 = true ∧ lIa m_M_next 57 (.ireturn) 1 = true ∧ lSa m_M_next 58 [(.aload_n 2, 0), (.aload_n 2, 0)] = true ∧ lIa m_M_next 60 (.getfield 208) 3 = true ∧ lIa m_M_next 63 (.putfield 220) 3 = true ∧ lSa m_M_next 66 [(.aload_n 2, 0), (.dup, 0)] = true ∧ lIa m_M_next 68 (.getfield 208) 3 = true ∧ lSa m_M_next 71 [(.iconst 1, nI 1), (.iadd, 0)] = true ∧ lIa m_M_next 73 (.putfield 208) 3 = true ∧ lSa m_M_next 76 [(.aload_n 0, 0), (.aload_n 2, 0)] = true ∧ lIa m_M_next 78 (.getfield 89) 3 = true ∧ lSa m_M_next 81 [(.aload_n 2, 0)] = true ∧ lIa m_M_next 82 (.getfield 220) 3 = true ∧ lIa m_M_next 85 (.invokevirtual 132) 3 = true ∧ lSa m_M_next 88 [(.iconst 1, nI 1)] = true ∧ lIa m_M_next 89 (.iaload) 1 = true ∧ lIa m_M_next 90 (.ireturn) 1 = true ∧ lSa m_M_next 29 [(.aload_n 0, 0), (.bipush (-9), -9)] = true ∧ lIa m_M_next 32 (.invokevirtual 217) 3 = true ∧ lIa m_M_next 35 (.ireturn) 1 = true ∧ lSa m_M_next 13 [(.iconst 0, nI 0)] = true ∧ lIa m_M_next 14 (.ireturn) 1 = true := by decide +kernel
  refine lA8 hdd (fun dd0 dd1 dd2 dd3 dd4 dd5 dd6 dd7 hdd => ?_)
  refine lA8 hdd (fun dd8 dd9 dd10 dd11 dd12 dd13 dd14 dd15 hdd => ?_)
  refine lA8 hdd (fun dd16 dd17 dd18 dd19 dd20 dd21 dd22 dd23 hdd => ?_)
  refine lA8 hdd (fun dd24 dd25 dd26 dd27 dd28 dd29 dd30 dd31 hdd => ?_)
  refine lA8 hdd (fun dd32 dd33 dd34 dd35 dd36 dd37 dd38 dd39 hdd => ?_)
  have dd40 := hdd
  refine gMet.of (by decide +kernel) (Nat.le_of_ble_eq_true rfl) [some (.ref a0), some (.int a1), none] (fun ls h => zEn_ok (n := 3) h) ?_
  intro o Gf h
  unfold f_M_next at h
  refine Y.blk (pc' := 3) (L' := [some (.ref a0), some (.int a1), none]) (st' := [.int a1, .ref a0, .ref a0]) (sg := [(.aload_n 0, 0), (.aload_n 0, 0), (.iload_n 1, 0)]) (lSa_ok dd0) rfl ?_
  obtain ⟨_, o2, e1, m3, h⟩ := gOb_inv h
  refine Y.callI (yC.Vi (b := a0) (As := [.int a1]) (st := [.ref a0]) (r := ("PartlisterModel", T_M, 9)) hV.1 cb_M_isNoCursor lk_M_214 in_M_isNoCursor rfl se_M_isNoCursor (lIa_ok dd1) rfl rfl (Nat.le_of_ble_eq_true rfl) (by decide) e1 m3) (k_M_isNoCursor hV G a0 a1) h (fun v5 G4 _ h => ?_)
  refine Y.blk (pc' := 7) (L' := [some (.ref a0), some (.int a1), none]) (st' := [.int (nI 1), .int v5, .ref a0]) (sg := [(.iconst 1, nI 1)]) (lSa_ok dd2) rfl ?_
  obtain ⟨_, o7, e6, m8, h⟩ := gOb_inv h
  refine Y.callI (yC.Vi (b := a0) (As := [.int v5, .int (nI 1)]) (st := []) (r := ("PartlisterModel", T_M, 9)) hV.1 cb_M_start lk_M_114 in_M_start rfl se_M_start (lIa_ok dd3) rfl rfl (Nat.le_of_ble_eq_true rfl) (by decide) e6 m8) (k_M_start hV G4 a0 v5 (nI 1)) h (fun v10 G9 _ h => ?_)
  refine Y.if_eq (off := 5) (tgt := 15) (lIa_ok dd4) (by decide) h (fun c45 h => ?_) (fun c45 h => ?_)
  · refine Y.blk (pc' := 16) (L' := [some (.ref a0), some (.int a1), none]) (st' := [.ref a0]) (sg := [(.aload_n 0, 0)]) (lSa_ok dd5) rfl ?_
    refine Y.getA fl_M_24 (lIa_ok dd6) h (fun v11 h => ?_)
    refine Y.blk (pc' := 20) (L' := [some (.ref a0), some (.int a1), none]) (st' := [.int a1, .ref v11]) (sg := [(.iload_n 1, 0)]) (lSa_ok dd7) rfl ?_
    refine Y.aald (t0 := 5) (lIa_ok dd8) rfl h (fun h => ?_) (fun v12 h => ?_)
    · refine Y.blk (pc' := 23) (L' := [some (.ref a0), some (.int a1), some (.null)]) (st' := [.null]) (sg := [(.astore_n 2, 0), (.aload_n 2, 0)]) (lSa_ok dd9) rfl ?_
      cases h
    · refine Y.blk (pc' := 23) (L' := [some (.ref a0), some (.int a1), some (.ref v12)]) (st' := [.ref v12]) (sg := [(.astore_n 2, 0), (.aload_n 2, 0)]) (lSa_ok dd9) rfl ?_
      refine Y.getI fl_M_99 (lIa_ok dd10) h (fun v13 h => ?_)
      refine Y.if_eq (off := 10) (tgt := 36) (lIa_ok dd11) (by decide) h (fun c44 h => ?_) (fun c44 h => ?_)
      · refine Y.blk (pc' := 37) (L' := [some (.ref a0), some (.int a1), some (.ref v12)]) (st' := [.ref v12]) (sg := [(.aload_n 2, 0)]) (lSa_ok dd12) rfl ?_
        refine Y.getI fl_M_208 (lIa_ok dd13) h (fun v14 h => ?_)
        refine Y.blk (pc' := 42) (L' := [some (.ref a0), some (.int a1), some (.ref v12)]) (st' := [.ref v12, .ref a0, .int v14]) (sg := [(.aload_n 0, 0), (.aload_n 2, 0)]) (lSa_ok dd14) rfl ?_
        refine Y.getI fl_M_89 (lIa_ok dd15) h (fun v15 h => ?_)
        obtain ⟨_, o17, e16, m18, h⟩ := gOb_inv h
        refine Y.callI (yC.Vi (b := a0) (As := [.int v15]) (st := [.int v14]) (r := ("PartlisterModel", T_M, 9)) hV.1 cb_M_length lk_M_74 in_M_length rfl se_M_length (lIa_ok dd16) rfl rfl (Nat.le_of_ble_eq_true rfl) (by decide) e16 m18) (k_M_length hV G9 a0 v15) h (fun v20 G19 _ h => ?_)
        refine Y.ic_ne (off := 10) (tgt := 58) (lIa_ok dd17) (by decide) h (fun c38 h => ?_) (fun c38 h => ?_)
        · refine Y.blk (pc' := 54) (L' := [some (.ref a0), some (.int a1), some (.ref v12)]) (st' := [.int (-8), .ref a0]) (sg := [(.aload_n 0, 0), (.bipush (-8), -8)]) (lSa_ok dd18) rfl ?_
          obtain ⟨_, o22, e21, m23, h⟩ := gOb_inv h
          refine Y.callI (yC.Vi (b := a0) (As := [.int (-8)]) (st := []) (r := ("PartlisterModel", T_M, 9)) hV.1 cb_M_fault lk_M_217 in_M_fault rfl se_M_fault (lIa_ok dd19) rfl rfl (Nat.le_of_ble_eq_true rfl) (by decide) e21 m23) (k_M_fault hV G19 a0 (-8)) h (fun v25 G24 _ h => ?_)
          exact Y.iret rfl (lIa_ok dd20) h
        · refine Y.blk (pc' := 60) (L' := [some (.ref a0), some (.int a1), some (.ref v12)]) (st' := [.ref v12, .ref v12]) (sg := [(.aload_n 2, 0), (.aload_n 2, 0)]) (lSa_ok dd21) rfl ?_
          refine Y.getI fl_M_208 (lIa_ok dd22) h (fun v26 h => ?_)
          refine Y.putf fl_M_220 (by decide) rfl rfl (lIa_ok dd23) h (fun G27 _ _ h => ?_)
          refine Y.blk (pc' := 68) (L' := [some (.ref a0), some (.int a1), some (.ref v12)]) (st' := [.ref v12, .ref v12]) (sg := [(.aload_n 2, 0), (.dup, 0)]) (lSa_ok dd24) rfl ?_
          refine Y.getI fl_M_208 (lIa_ok dd25) h (fun v28 h => ?_)
          refine Y.blk (pc' := 73) (L' := [some (.ref a0), some (.int a1), some (.ref v12)]) (st' := [.int (v28 + (nI 1)), .ref v12]) (sg := [(.iconst 1, nI 1), (.iadd, 0)]) (lSa_ok dd26) rfl ?_
          refine Y.putf fl_M_208 (by decide) rfl rfl (lIa_ok dd27) h (fun G29 _ _ h => ?_)
          refine Y.blk (pc' := 78) (L' := [some (.ref a0), some (.int a1), some (.ref v12)]) (st' := [.ref v12, .ref a0]) (sg := [(.aload_n 0, 0), (.aload_n 2, 0)]) (lSa_ok dd28) rfl ?_
          refine Y.getI fl_M_89 (lIa_ok dd29) h (fun v30 h => ?_)
          refine Y.blk (pc' := 82) (L' := [some (.ref a0), some (.int a1), some (.ref v12)]) (st' := [.ref v12, .int v30, .ref a0]) (sg := [(.aload_n 2, 0)]) (lSa_ok dd30) rfl ?_
          refine Y.getI fl_M_220 (lIa_ok dd31) h (fun v31 h => ?_)
          obtain ⟨_, o33, e32, m34, h⟩ := gOb_inv h
          refine Y.callA (yC.Vi (b := a0) (As := [.int v30, .int v31]) (st := []) (r := ("PartlisterModel", T_M, 9)) hV.1 cb_M_at lk_M_132 in_M_at rfl se_M_at (lIa_ok dd32) rfl rfl (Nat.le_of_ble_eq_true rfl) (by decide) e32 m34) (k_M_at hV G29 a0 v30 v31) h (fun v36 G35 _ h => ?_)
          refine Y.blk (pc' := 89) (L' := [some (.ref a0), some (.int a1), some (.ref v12)]) (st' := [.int (nI 1), .ref v36]) (sg := [(.iconst 1, nI 1)]) (lSa_ok dd33) rfl ?_
          refine Y.iald (t0 := 0) (lIa_ok dd34) rfl h (fun v37 h => ?_)
          exact Y.iret rfl (lIa_ok dd35) h
      · refine Y.blk (pc' := 32) (L' := [some (.ref a0), some (.int a1), some (.ref v12)]) (st' := [.int (-9), .ref a0]) (sg := [(.aload_n 0, 0), (.bipush (-9), -9)]) (lSa_ok dd36) rfl ?_
        obtain ⟨_, o40, e39, m41, h⟩ := gOb_inv h
        refine Y.callI (yC.Vi (b := a0) (As := [.int (-9)]) (st := []) (r := ("PartlisterModel", T_M, 9)) hV.1 cb_M_fault lk_M_217 in_M_fault rfl se_M_fault (lIa_ok dd37) rfl rfl (Nat.le_of_ble_eq_true rfl) (by decide) e39 m41) (k_M_fault hV G9 a0 (-9)) h (fun v43 G42 _ h => ?_)
        exact Y.iret rfl (lIa_ok dd38) h
  · refine Y.blk (pc' := 14) (L' := [some (.ref a0), some (.int a1), none]) (st' := [.int (nI 0)]) (sg := [(.iconst 0, nI 0)]) (lSa_ok dd39) rfl ?_
    exact Y.iret rfl (lIa_ok dd40) h

def f_M_ofCursor (G : gH) (a0 : Nat) (a1 : Int32) (a2 : Int32) : gR :=
  bI (f_M_isIn G a1 (nI 0) (nI 2)) fun v3 G2 => if v3 = 0 then (gOb G2 a0 6 fun o5 => bI (f_M_start G2 a0 (nI 1) (nI 1)) fun v8 G7 => if v8 = 0 then (bI (f_M_isIn G7 a2 (nI 0) (nI 6)) fun v11 G10 => if v11 = 0 then (gOb G10 a0 6 fun o13 => bI (f_M_refuse G10 a0 (nI 1) (nI 2)) fun v16 G15 => if v16 = 0 then gOb G15 a0 6 fun o18 => bI (f_M_cursorTold G15 a0 a1 a2) fun v21 G20 => rI v21 G20
        else rI (nI 0) G15)
      else gOb G10 a0 6 fun o24 => bI (f_M_refuse G10 a0 (nI 0) (nI 2)) fun v27 G26 => if v27 = 0 then gOb G26 a0 6 fun o29 => bI (f_M_cursorTold G26 a0 a1 a2) fun v32 G31 => rI v32 G31
        else rI (nI 0) G26)
    else rI (nI 0) G7)
  else gOb G2 a0 6 fun o37 => bI (f_M_start G2 a0 (nI 0) (nI 1)) fun v40 G39 => if v40 = 0 then (bI (f_M_isIn G39 a2 (nI 0) (nI 6)) fun v43 G42 => if v43 = 0 then (gOb G42 a0 6 fun o45 => bI (f_M_refuse G42 a0 (nI 1) (nI 2)) fun v48 G47 => if v48 = 0 then gOb G47 a0 6 fun o50 => bI (f_M_cursorTold G47 a0 a1 a2) fun v53 G52 => rI v53 G52
        else rI (nI 0) G47)
      else gOb G42 a0 6 fun o56 => bI (f_M_refuse G42 a0 (nI 0) (nI 2)) fun v59 G58 => if v59 = 0 then gOb G58 a0 6 fun o61 => bI (f_M_cursorTold G58 a0 a1 a2) fun v64 G63 => rI v64 G63
        else rI (nI 0) G58)
    else rI (nI 0) G39
theorem k_M_ofCursor {l : Launch} {D : va_G} {B : Nat} {O : State → Heap → Prop} (hV : zG l D B O) (G : gH) (a0 : Nat) (a1 : Int32) (a2 : Int32) : gMet (zVm l D B O) m_M_ofCursor 7 [.ref a0, .int a1, .int a2] G (f_M_ofCursor G a0 a1 a2) := by
  have hdd : lSa m_M_ofCursor 0 [(.aload_n 0, 0), (.iload_n 1, 0), (.iconst 0, nI 0), (.iconst 2, nI 2)] = true ∧ lIa m_M_ofCursor 4 (.invokestatic 40) 3 = true ∧ lIa m_M_ofCursor 7 (.ifCond .ne 7) 3 = true ∧ lSa m_M_ofCursor 10 [(.iconst 1, nI 1)] = true ∧ lIa m_M_ofCursor 11 (.goto 4) 3 = true ∧ lSa m_M_ofCursor 15 [(.iconst 1, nI 1)] = true ∧ lIa m_M_ofCursor 16 (.invokevirtual 114) 3 = true ∧ lIa m_M_ofCursor 19 (.ifCond .ne 26) 3 = true ∧ lSa m_M_ofCursor 22 [(.aload_n 0, 0), (.iload_n 2, 0), (.iconst 0, nI 0), (.bipush 6, nI 6)] = true ∧ lIa m_M_ofCursor 27 (.invokestatic 40) 3 = true ∧ lIa m_M_ofCursor 30 (.ifCond .ne 7) 3 = true ∧ lSa m_M_ofCursor 33 [(.iconst 1, nI 1)] = true ∧ lIa m_M_ofCursor 34 (.goto 4) 3 = true ∧ lSa m_M_ofCursor 38 [(.iconst 2, nI 2)] = true ∧ lIa m_M_ofCursor 39 (.invokevirtual 36) 3 = true ∧ lIa m_M_ofCursor 42 (.ifCond .eq 7) 3 = true ∧ lSa m_M_ofCursor 49 [(.aload_n 0, 0), (.iload_n 1, 0), (.iload_n 2, 0)] = true ∧ lIa m_M_ofCursor 52 (.invokevirtual 290) 3 = true ∧ lIa m_M_ofCursor 55 (.ireturn) 1 = true ∧ lSa m_M_ofCursor 45 [(.iconst 0, nI 0)] = true ∧ lIa m_M_ofCursor 46 (.goto 9) 3 = true ∧ lSa m_M_ofCursor 37 [(.iconst 0, nI 0), (.iconst 2, nI 2)] = true ∧ lSa m_M_ofCursor 14 [(.iconst 0, nI 0), (.iconst 1, nI 1)] = true := by decide +kernel
  refine lA8 hdd (fun dd0 dd1 dd2 dd3 dd4 dd5 dd6 dd7 hdd => ?_)
  refine lA8 hdd (fun dd8 dd9 dd10 dd11 dd12 dd13 dd14 dd15 hdd => ?_)
  obtain ⟨dd16, dd17, dd18, dd19, dd20, dd21, dd22⟩ := hdd
  refine gMet.of (by decide +kernel) (Nat.le_of_ble_eq_true rfl) [some (.ref a0), some (.int a1), some (.int a2)] (fun ls h => zEn_ok (n := 3) h) ?_
  intro o Gf h
  unfold f_M_ofCursor at h
  refine Y.blk (pc' := 4) (L' := [some (.ref a0), some (.int a1), some (.int a2)]) (st' := [.int (nI 2), .int (nI 0), .int a1, .ref a0]) (sg := [(.aload_n 0, 0), (.iload_n 1, 0), (.iconst 0, nI 0), (.iconst 2, nI 2)]) (lSa_ok dd0) rfl ?_
  refine Y.callI (yC.S (As := [.int a1, .int (nI 0), .int (nI 2)]) (st := [.ref a0]) hV.1 cb_M_isIn lk_M_40 st_M_isIn (lIa_ok dd1) rfl rfl (Nat.le_of_ble_eq_true rfl) (by decide)) (k_M_isIn hV G a1 (nI 0) (nI 2)) h (fun v3 G2 _ h => ?_)
  refine Y.if_ne (off := 7) (tgt := 14) (lIa_ok dd2) (by decide) h (fun c68 h => ?_) (fun c68 h => ?_)
  · refine Y.blk (pc' := 11) (L' := [some (.ref a0), some (.int a1), some (.int a2)]) (st' := [.int (nI 1), .ref a0]) (sg := [(.iconst 1, nI 1)]) (lSa_ok dd3) rfl ?_
    refine Y.goto (off := 4) (tgt := 15) (lIa_ok dd4) (by decide) ?_
    refine Y.blk (pc' := 16) (L' := [some (.ref a0), some (.int a1), some (.int a2)]) (st' := [.int (nI 1), .int (nI 1), .ref a0]) (sg := [(.iconst 1, nI 1)]) (lSa_ok dd5) rfl ?_
    obtain ⟨_, o5, e4, m6, h⟩ := gOb_inv h
    refine Y.callI (yC.Vi (b := a0) (As := [.int (nI 1), .int (nI 1)]) (st := []) (r := ("PartlisterModel", T_M, 9)) hV.1 cb_M_start lk_M_114 in_M_start rfl se_M_start (lIa_ok dd6) rfl rfl (Nat.le_of_ble_eq_true rfl) (by decide) e4 m6) (k_M_start hV G2 a0 (nI 1) (nI 1)) h (fun v8 G7 _ h => ?_)
    refine Y.if_ne (off := 26) (tgt := 45) (lIa_ok dd7) (by decide) h (fun c35 h => ?_) (fun c35 h => ?_)
    · refine Y.blk (pc' := 27) (L' := [some (.ref a0), some (.int a1), some (.int a2)]) (st' := [.int (nI 6), .int (nI 0), .int a2, .ref a0]) (sg := [(.aload_n 0, 0), (.iload_n 2, 0), (.iconst 0, nI 0), (.bipush 6, nI 6)]) (lSa_ok dd8) rfl ?_
      refine Y.callI (yC.S (As := [.int a2, .int (nI 0), .int (nI 6)]) (st := [.ref a0]) hV.1 cb_M_isIn lk_M_40 st_M_isIn (lIa_ok dd9) rfl rfl (Nat.le_of_ble_eq_true rfl) (by decide)) (k_M_isIn hV G7 a2 (nI 0) (nI 6)) h (fun v11 G10 _ h => ?_)
      refine Y.if_ne (off := 7) (tgt := 37) (lIa_ok dd10) (by decide) h (fun c34 h => ?_) (fun c34 h => ?_)
      · refine Y.blk (pc' := 34) (L' := [some (.ref a0), some (.int a1), some (.int a2)]) (st' := [.int (nI 1), .ref a0]) (sg := [(.iconst 1, nI 1)]) (lSa_ok dd11) rfl ?_
        refine Y.goto (off := 4) (tgt := 38) (lIa_ok dd12) (by decide) ?_
        refine Y.blk (pc' := 39) (L' := [some (.ref a0), some (.int a1), some (.int a2)]) (st' := [.int (nI 2), .int (nI 1), .ref a0]) (sg := [(.iconst 2, nI 2)]) (lSa_ok dd13) rfl ?_
        obtain ⟨_, o13, e12, m14, h⟩ := gOb_inv h
        refine Y.callI (yC.Vi (b := a0) (As := [.int (nI 1), .int (nI 2)]) (st := []) (r := ("PartlisterModel", T_M, 9)) hV.1 cb_M_refuse lk_M_36 in_M_refuse rfl se_M_refuse (lIa_ok dd14) rfl rfl (Nat.le_of_ble_eq_true rfl) (by decide) e12 m14) (k_M_refuse hV G10 a0 (nI 1) (nI 2)) h (fun v16 G15 _ h => ?_)
        refine Y.if_eq (off := 7) (tgt := 49) (lIa_ok dd15) (by decide) h (fun c22 h => ?_) (fun c22 h => ?_)
        · refine Y.blk (pc' := 52) (L' := [some (.ref a0), some (.int a1), some (.int a2)]) (st' := [.int a2, .int a1, .ref a0]) (sg := [(.aload_n 0, 0), (.iload_n 1, 0), (.iload_n 2, 0)]) (lSa_ok dd16) rfl ?_
          obtain ⟨_, o18, e17, m19, h⟩ := gOb_inv h
          refine Y.callI (yC.Vi (b := a0) (As := [.int a1, .int a2]) (st := []) (r := ("PartlisterModel", T_M, 9)) hV.1 cb_M_cursorTold lk_M_290 in_M_cursorTold rfl se_M_cursorTold (lIa_ok dd17) rfl rfl (Nat.le_of_ble_eq_true rfl) (by decide) e17 m19) (k_M_cursorTold hV G15 a0 a1 a2) h (fun v21 G20 _ h => ?_)
          exact Y.iret rfl (lIa_ok dd18) h
        · refine Y.blk (pc' := 46) (L' := [some (.ref a0), some (.int a1), some (.int a2)]) (st' := [.int (nI 0)]) (sg := [(.iconst 0, nI 0)]) (lSa_ok dd19) rfl ?_
          refine Y.goto (off := 9) (tgt := 55) (lIa_ok dd20) (by decide) ?_
          exact Y.iret rfl (lIa_ok dd18) h
      · refine Y.blk (pc' := 39) (L' := [some (.ref a0), some (.int a1), some (.int a2)]) (st' := [.int (nI 2), .int (nI 0), .ref a0]) (sg := [(.iconst 0, nI 0), (.iconst 2, nI 2)]) (lSa_ok dd21) rfl ?_
        obtain ⟨_, o24, e23, m25, h⟩ := gOb_inv h
        refine Y.callI (yC.Vi (b := a0) (As := [.int (nI 0), .int (nI 2)]) (st := []) (r := ("PartlisterModel", T_M, 9)) hV.1 cb_M_refuse lk_M_36 in_M_refuse rfl se_M_refuse (lIa_ok dd14) rfl rfl (Nat.le_of_ble_eq_true rfl) (by decide) e23 m25) (k_M_refuse hV G10 a0 (nI 0) (nI 2)) h (fun v27 G26 _ h => ?_)
        refine Y.if_eq (off := 7) (tgt := 49) (lIa_ok dd15) (by decide) h (fun c33 h => ?_) (fun c33 h => ?_)
        · refine Y.blk (pc' := 52) (L' := [some (.ref a0), some (.int a1), some (.int a2)]) (st' := [.int a2, .int a1, .ref a0]) (sg := [(.aload_n 0, 0), (.iload_n 1, 0), (.iload_n 2, 0)]) (lSa_ok dd16) rfl ?_
          obtain ⟨_, o29, e28, m30, h⟩ := gOb_inv h
          refine Y.callI (yC.Vi (b := a0) (As := [.int a1, .int a2]) (st := []) (r := ("PartlisterModel", T_M, 9)) hV.1 cb_M_cursorTold lk_M_290 in_M_cursorTold rfl se_M_cursorTold (lIa_ok dd17) rfl rfl (Nat.le_of_ble_eq_true rfl) (by decide) e28 m30) (k_M_cursorTold hV G26 a0 a1 a2) h (fun v32 G31 _ h => ?_)
          exact Y.iret rfl (lIa_ok dd18) h
        · refine Y.blk (pc' := 46) (L' := [some (.ref a0), some (.int a1), some (.int a2)]) (st' := [.int (nI 0)]) (sg := [(.iconst 0, nI 0)]) (lSa_ok dd19) rfl ?_
          refine Y.goto (off := 9) (tgt := 55) (lIa_ok dd20) (by decide) ?_
          exact Y.iret rfl (lIa_ok dd18) h
    · refine Y.blk (pc' := 46) (L' := [some (.ref a0), some (.int a1), some (.int a2)]) (st' := [.int (nI 0)]) (sg := [(.iconst 0, nI 0)]) (lSa_ok dd19) rfl ?_
      refine Y.goto (off := 9) (tgt := 55) (lIa_ok dd20) (by decide) ?_
      exact Y.iret rfl (lIa_ok dd18) h
  · refine Y.blk (pc' := 16) (L' := [some (.ref a0), some (.int a1), some (.int a2)]) (st' := [.int (nI 1), .int (nI 0), .ref a0]) (sg := [(.iconst 0, nI 0), (.iconst 1, nI 1)]) (lSa_ok dd22) rfl ?_
    obtain ⟨_, o37, e36, m38, h⟩ := gOb_inv h
    refine Y.callI (yC.Vi (b := a0) (As := [.int (nI 0), .int (nI 1)]) (st := []) (r := ("PartlisterModel", T_M, 9)) hV.1 cb_M_start lk_M_114 in_M_start rfl se_M_start (lIa_ok dd6) rfl rfl (Nat.le_of_ble_eq_true rfl) (by decide) e36 m38) (k_M_start hV G2 a0 (nI 0) (nI 1)) h (fun v40 G39 _ h => ?_)
    refine Y.if_ne (off := 26) (tgt := 45) (lIa_ok dd7) (by decide) h (fun c67 h => ?_) (fun c67 h => ?_)
    · refine Y.blk (pc' := 27) (L' := [some (.ref a0), some (.int a1), some (.int a2)]) (st' := [.int (nI 6), .int (nI 0), .int a2, .ref a0]) (sg := [(.aload_n 0, 0), (.iload_n 2, 0), (.iconst 0, nI 0), (.bipush 6, nI 6)]) (lSa_ok dd8) rfl ?_
      refine Y.callI (yC.S (As := [.int a2, .int (nI 0), .int (nI 6)]) (st := [.ref a0]) hV.1 cb_M_isIn lk_M_40 st_M_isIn (lIa_ok dd9) rfl rfl (Nat.le_of_ble_eq_true rfl) (by decide)) (k_M_isIn hV G39 a2 (nI 0) (nI 6)) h (fun v43 G42 _ h => ?_)
      refine Y.if_ne (off := 7) (tgt := 37) (lIa_ok dd10) (by decide) h (fun c66 h => ?_) (fun c66 h => ?_)
      · refine Y.blk (pc' := 34) (L' := [some (.ref a0), some (.int a1), some (.int a2)]) (st' := [.int (nI 1), .ref a0]) (sg := [(.iconst 1, nI 1)]) (lSa_ok dd11) rfl ?_
        refine Y.goto (off := 4) (tgt := 38) (lIa_ok dd12) (by decide) ?_
        refine Y.blk (pc' := 39) (L' := [some (.ref a0), some (.int a1), some (.int a2)]) (st' := [.int (nI 2), .int (nI 1), .ref a0]) (sg := [(.iconst 2, nI 2)]) (lSa_ok dd13) rfl ?_
        obtain ⟨_, o45, e44, m46, h⟩ := gOb_inv h
        refine Y.callI (yC.Vi (b := a0) (As := [.int (nI 1), .int (nI 2)]) (st := []) (r := ("PartlisterModel", T_M, 9)) hV.1 cb_M_refuse lk_M_36 in_M_refuse rfl se_M_refuse (lIa_ok dd14) rfl rfl (Nat.le_of_ble_eq_true rfl) (by decide) e44 m46) (k_M_refuse hV G42 a0 (nI 1) (nI 2)) h (fun v48 G47 _ h => ?_)
        refine Y.if_eq (off := 7) (tgt := 49) (lIa_ok dd15) (by decide) h (fun c54 h => ?_) (fun c54 h => ?_)
        · refine Y.blk (pc' := 52) (L' := [some (.ref a0), some (.int a1), some (.int a2)]) (st' := [.int a2, .int a1, .ref a0]) (sg := [(.aload_n 0, 0), (.iload_n 1, 0), (.iload_n 2, 0)]) (lSa_ok dd16) rfl ?_
          obtain ⟨_, o50, e49, m51, h⟩ := gOb_inv h
          refine Y.callI (yC.Vi (b := a0) (As := [.int a1, .int a2]) (st := []) (r := ("PartlisterModel", T_M, 9)) hV.1 cb_M_cursorTold lk_M_290 in_M_cursorTold rfl se_M_cursorTold (lIa_ok dd17) rfl rfl (Nat.le_of_ble_eq_true rfl) (by decide) e49 m51) (k_M_cursorTold hV G47 a0 a1 a2) h (fun v53 G52 _ h => ?_)
          exact Y.iret rfl (lIa_ok dd18) h
        · refine Y.blk (pc' := 46) (L' := [some (.ref a0), some (.int a1), some (.int a2)]) (st' := [.int (nI 0)]) (sg := [(.iconst 0, nI 0)]) (lSa_ok dd19) rfl ?_
          refine Y.goto (off := 9) (tgt := 55) (lIa_ok dd20) (by decide) ?_
          exact Y.iret rfl (lIa_ok dd18) h
      · refine Y.blk (pc' := 39) (L' := [some (.ref a0), some (.int a1), some (.int a2)]) (st' := [.int (nI 2), .int (nI 0), .ref a0]) (sg := [(.iconst 0, nI 0), (.iconst 2, nI 2)]) (lSa_ok dd21) rfl ?_
        obtain ⟨_, o56, e55, m57, h⟩ := gOb_inv h
        refine Y.callI (yC.Vi (b := a0) (As := [.int (nI 0), .int (nI 2)]) (st := []) (r := ("PartlisterModel", T_M, 9)) hV.1 cb_M_refuse lk_M_36 in_M_refuse rfl se_M_refuse (lIa_ok dd14) rfl rfl (Nat.le_of_ble_eq_true rfl) (by decide) e55 m57) (k_M_refuse hV G42 a0 (nI 0) (nI 2)) h (fun v59 G58 _ h => ?_)
        refine Y.if_eq (off := 7) (tgt := 49) (lIa_ok dd15) (by decide) h (fun c65 h => ?_) (fun c65 h => ?_)
        · refine Y.blk (pc' := 52) (L' := [some (.ref a0), some (.int a1), some (.int a2)]) (st' := [.int a2, .int a1, .ref a0]) (sg := [(.aload_n 0, 0), (.iload_n 1, 0), (.iload_n 2, 0)]) (lSa_ok dd16) rfl ?_
          obtain ⟨_, o61, e60, m62, h⟩ := gOb_inv h
          refine Y.callI (yC.Vi (b := a0) (As := [.int a1, .int a2]) (st := []) (r := ("PartlisterModel", T_M, 9)) hV.1 cb_M_cursorTold lk_M_290 in_M_cursorTold rfl se_M_cursorTold (lIa_ok dd17) rfl rfl (Nat.le_of_ble_eq_true rfl) (by decide) e60 m62) (k_M_cursorTold hV G58 a0 a1 a2) h (fun v64 G63 _ h => ?_)
          exact Y.iret rfl (lIa_ok dd18) h
        · refine Y.blk (pc' := 46) (L' := [some (.ref a0), some (.int a1), some (.int a2)]) (st' := [.int (nI 0)]) (sg := [(.iconst 0, nI 0)]) (lSa_ok dd19) rfl ?_
          refine Y.goto (off := 9) (tgt := 55) (lIa_ok dd20) (by decide) ?_
          exact Y.iret rfl (lIa_ok dd18) h
    · refine Y.blk (pc' := 46) (L' := [some (.ref a0), some (.int a1), some (.int a2)]) (st' := [.int (nI 0)]) (sg := [(.iconst 0, nI 0)]) (lSa_ok dd19) rfl ?_
      refine Y.goto (off := 9) (tgt := 55) (lIa_ok dd20) (by decide) ?_
      exact Y.iret rfl (lIa_ok dd18) h

def f_M_ofPart (G : gH) (a0 : Nat) (a1 : Int32) (a2 : Int32) : gR :=
  gOb G a0 6 fun o2 => bI (f_M_isNoPart G a0 a1) fun v5 G4 => gOb G4 a0 6 fun o7 => bI (f_M_start G4 a0 v5 (nI 1)) fun v10 G9 => if v10 = 0 then (bI (f_M_isIn G9 a2 (nI 0) (nI 3)) fun v13 G12 => if v13 = 0 then (gOb G12 a0 6 fun o15 => bI (f_M_refuse G12 a0 (nI 1) (nI 2)) fun v18 G17 => if v18 = 0 then gOb G17 a0 6 fun o20 => bI (f_M_partTold G17 a0 a1 a2) fun v23 G22 => rI v23 G22
      else rI (nI 0) G17)
    else gOb G12 a0 6 fun o26 => bI (f_M_refuse G12 a0 (nI 0) (nI 2)) fun v29 G28 => if v29 = 0 then gOb G28 a0 6 fun o31 => bI (f_M_partTold G28 a0 a1 a2) fun v34 G33 => rI v34 G33
      else rI (nI 0) G28)
  else rI (nI 0) G9
theorem k_M_ofPart {l : Launch} {D : va_G} {B : Nat} {O : State → Heap → Prop} (hV : zG l D B O) (G : gH) (a0 : Nat) (a1 : Int32) (a2 : Int32) : gMet (zVm l D B O) m_M_ofPart 12 [.ref a0, .int a1, .int a2] G (f_M_ofPart G a0 a1 a2) := by
  have hdd : lSa m_M_ofPart 0 [(.aload_n 0, 0), (.aload_n 0, 0), (.iload_n 1, 0)] = true ∧ lIa m_M_ofPart 3 (.invokevirtual 201) 3 = true ∧ lSa m_M_ofPart 6 [(.iconst 1, nI 1)] = true ∧ lIa m_M_ofPart 7 (.invokevirtual 114) 3 = true ∧ lIa m_M_ofPart 10 (.ifCond .ne 25) 3 = true ∧ lSa m_M_ofPart 13 [(.aload_n 0, 0), (.iload_n 2, 0), (.iconst 0, nI 0), (.iconst 3, nI 3)] = true ∧ lIa m_M_ofPart 17 (.invokestatic 40) 3 = true ∧ lIa m_M_ofPart 20 (.ifCond .ne 7) 3 = true ∧ lSa m_M_ofPart 23 [(.iconst 1, nI 1)] = true ∧ lIa m_M_ofPart 24 (.goto 4) 3 = true ∧ lSa m_M_ofPart 28 [(.iconst 2, nI 2)] = true ∧ lIa m_M_ofPart 29 (.invokevirtual 36) 3 = true ∧ lIa m_M_ofPart 32 (.ifCond .eq 7) 3 = true ∧ lSa m_M_ofPart 39 [(.aload_n 0, 0), (.iload_n 1, 0), (.iload_n 2, 0)] = true ∧ lIa m_M_ofPart 42 (.invokevirtual 287) 3 = true ∧ lIa m_M_ofPart 45 (.ireturn) 1 = true ∧ lSa m_M_ofPart 35 [(.iconst 0, nI 0)] = true ∧ lIa m_M_ofPart 36 (.goto 9) 3 = true ∧ lSa m_M_ofPart 27 [(.iconst 0, nI 0), (.iconst 2, nI 2)] = true := by decide +kernel
  refine lA8 hdd (fun dd0 dd1 dd2 dd3 dd4 dd5 dd6 dd7 hdd => ?_)
  refine lA8 hdd (fun dd8 dd9 dd10 dd11 dd12 dd13 dd14 dd15 hdd => ?_)
  obtain ⟨dd16, dd17, dd18⟩ := hdd
  refine gMet.of (by decide +kernel) (Nat.le_of_ble_eq_true rfl) [some (.ref a0), some (.int a1), some (.int a2)] (fun ls h => zEn_ok (n := 3) h) ?_
  intro o Gf h
  unfold f_M_ofPart at h
  refine Y.blk (pc' := 3) (L' := [some (.ref a0), some (.int a1), some (.int a2)]) (st' := [.int a1, .ref a0, .ref a0]) (sg := [(.aload_n 0, 0), (.aload_n 0, 0), (.iload_n 1, 0)]) (lSa_ok dd0) rfl ?_
  obtain ⟨_, o2, e1, m3, h⟩ := gOb_inv h
  refine Y.callI (yC.Vi (b := a0) (As := [.int a1]) (st := [.ref a0]) (r := ("PartlisterModel", T_M, 9)) hV.1 cb_M_isNoPart lk_M_201 in_M_isNoPart rfl se_M_isNoPart (lIa_ok dd1) rfl rfl (Nat.le_of_ble_eq_true rfl) (by decide) e1 m3) (k_M_isNoPart hV G a0 a1) h (fun v5 G4 _ h => ?_)
  refine Y.blk (pc' := 7) (L' := [some (.ref a0), some (.int a1), some (.int a2)]) (st' := [.int (nI 1), .int v5, .ref a0]) (sg := [(.iconst 1, nI 1)]) (lSa_ok dd2) rfl ?_
  obtain ⟨_, o7, e6, m8, h⟩ := gOb_inv h
  refine Y.callI (yC.Vi (b := a0) (As := [.int v5, .int (nI 1)]) (st := []) (r := ("PartlisterModel", T_M, 9)) hV.1 cb_M_start lk_M_114 in_M_start rfl se_M_start (lIa_ok dd3) rfl rfl (Nat.le_of_ble_eq_true rfl) (by decide) e6 m8) (k_M_start hV G4 a0 v5 (nI 1)) h (fun v10 G9 _ h => ?_)
  refine Y.if_ne (off := 25) (tgt := 35) (lIa_ok dd4) (by decide) h (fun c37 h => ?_) (fun c37 h => ?_)
  · refine Y.blk (pc' := 17) (L' := [some (.ref a0), some (.int a1), some (.int a2)]) (st' := [.int (nI 3), .int (nI 0), .int a2, .ref a0]) (sg := [(.aload_n 0, 0), (.iload_n 2, 0), (.iconst 0, nI 0), (.iconst 3, nI 3)]) (lSa_ok dd5) rfl ?_
    refine Y.callI (yC.S (As := [.int a2, .int (nI 0), .int (nI 3)]) (st := [.ref a0]) hV.1 cb_M_isIn lk_M_40 st_M_isIn (lIa_ok dd6) rfl rfl (Nat.le_of_ble_eq_true rfl) (by decide)) (k_M_isIn hV G9 a2 (nI 0) (nI 3)) h (fun v13 G12 _ h => ?_)
    refine Y.if_ne (off := 7) (tgt := 27) (lIa_ok dd7) (by decide) h (fun c36 h => ?_) (fun c36 h => ?_)
    · refine Y.blk (pc' := 24) (L' := [some (.ref a0), some (.int a1), some (.int a2)]) (st' := [.int (nI 1), .ref a0]) (sg := [(.iconst 1, nI 1)]) (lSa_ok dd8) rfl ?_
      refine Y.goto (off := 4) (tgt := 28) (lIa_ok dd9) (by decide) ?_
      refine Y.blk (pc' := 29) (L' := [some (.ref a0), some (.int a1), some (.int a2)]) (st' := [.int (nI 2), .int (nI 1), .ref a0]) (sg := [(.iconst 2, nI 2)]) (lSa_ok dd10) rfl ?_
      obtain ⟨_, o15, e14, m16, h⟩ := gOb_inv h
      refine Y.callI (yC.Vi (b := a0) (As := [.int (nI 1), .int (nI 2)]) (st := []) (r := ("PartlisterModel", T_M, 9)) hV.1 cb_M_refuse lk_M_36 in_M_refuse rfl se_M_refuse (lIa_ok dd11) rfl rfl (Nat.le_of_ble_eq_true rfl) (by decide) e14 m16) (k_M_refuse hV G12 a0 (nI 1) (nI 2)) h (fun v18 G17 _ h => ?_)
      refine Y.if_eq (off := 7) (tgt := 39) (lIa_ok dd12) (by decide) h (fun c24 h => ?_) (fun c24 h => ?_)
      · refine Y.blk (pc' := 42) (L' := [some (.ref a0), some (.int a1), some (.int a2)]) (st' := [.int a2, .int a1, .ref a0]) (sg := [(.aload_n 0, 0), (.iload_n 1, 0), (.iload_n 2, 0)]) (lSa_ok dd13) rfl ?_
        obtain ⟨_, o20, e19, m21, h⟩ := gOb_inv h
        refine Y.callI (yC.Vi (b := a0) (As := [.int a1, .int a2]) (st := []) (r := ("PartlisterModel", T_M, 9)) hV.1 cb_M_partTold lk_M_287 in_M_partTold rfl se_M_partTold (lIa_ok dd14) rfl rfl (Nat.le_of_ble_eq_true rfl) (by decide) e19 m21) (k_M_partTold hV G17 a0 a1 a2) h (fun v23 G22 _ h => ?_)
        exact Y.iret rfl (lIa_ok dd15) h
      · refine Y.blk (pc' := 36) (L' := [some (.ref a0), some (.int a1), some (.int a2)]) (st' := [.int (nI 0)]) (sg := [(.iconst 0, nI 0)]) (lSa_ok dd16) rfl ?_
        refine Y.goto (off := 9) (tgt := 45) (lIa_ok dd17) (by decide) ?_
        exact Y.iret rfl (lIa_ok dd15) h
    · refine Y.blk (pc' := 29) (L' := [some (.ref a0), some (.int a1), some (.int a2)]) (st' := [.int (nI 2), .int (nI 0), .ref a0]) (sg := [(.iconst 0, nI 0), (.iconst 2, nI 2)]) (lSa_ok dd18) rfl ?_
      obtain ⟨_, o26, e25, m27, h⟩ := gOb_inv h
      refine Y.callI (yC.Vi (b := a0) (As := [.int (nI 0), .int (nI 2)]) (st := []) (r := ("PartlisterModel", T_M, 9)) hV.1 cb_M_refuse lk_M_36 in_M_refuse rfl se_M_refuse (lIa_ok dd11) rfl rfl (Nat.le_of_ble_eq_true rfl) (by decide) e25 m27) (k_M_refuse hV G12 a0 (nI 0) (nI 2)) h (fun v29 G28 _ h => ?_)
      refine Y.if_eq (off := 7) (tgt := 39) (lIa_ok dd12) (by decide) h (fun c35 h => ?_) (fun c35 h => ?_)
      · refine Y.blk (pc' := 42) (L' := [some (.ref a0), some (.int a1), some (.int a2)]) (st' := [.int a2, .int a1, .ref a0]) (sg := [(.aload_n 0, 0), (.iload_n 1, 0), (.iload_n 2, 0)]) (lSa_ok dd13) rfl ?_
        obtain ⟨_, o31, e30, m32, h⟩ := gOb_inv h
        refine Y.callI (yC.Vi (b := a0) (As := [.int a1, .int a2]) (st := []) (r := ("PartlisterModel", T_M, 9)) hV.1 cb_M_partTold lk_M_287 in_M_partTold rfl se_M_partTold (lIa_ok dd14) rfl rfl (Nat.le_of_ble_eq_true rfl) (by decide) e30 m32) (k_M_partTold hV G28 a0 a1 a2) h (fun v34 G33 _ h => ?_)
        exact Y.iret rfl (lIa_ok dd15) h
      · refine Y.blk (pc' := 36) (L' := [some (.ref a0), some (.int a1), some (.int a2)]) (st' := [.int (nI 0)]) (sg := [(.iconst 0, nI 0)]) (lSa_ok dd16) rfl ?_
        refine Y.goto (off := 9) (tgt := 45) (lIa_ok dd17) (by decide) ?_
        exact Y.iret rfl (lIa_ok dd15) h
  · refine Y.blk (pc' := 36) (L' := [some (.ref a0), some (.int a1), some (.int a2)]) (st' := [.int (nI 0)]) (sg := [(.iconst 0, nI 0)]) (lSa_ok dd16) rfl ?_
    refine Y.goto (off := 9) (tgt := 45) (lIa_ok dd17) (by decide) ?_
    exact Y.iret rfl (lIa_ok dd15) h

def f_M_pack (G : gH) (a0 : Nat) (a1 : Int32) (a2 : Int32) : gR :=
  bI (f_M_isIn G a1 (nI 0) (nI 1)) fun v3 G2 => if v3 = 0 then (gOb G2 a0 6 fun o5 => bI (f_M_start G2 a0 (nI 1) (nI 1)) fun v8 G7 => if v8 = 0 then gOb G7 a0 6 fun o10 => bI (f_M_endParts G7 a0 a1 a1) fun v13 G12 => gOb G12 a0 6 fun o15 => bV (f_M_endCursors G12 a0 a1) fun G17 => rI v13 G17
    else rI (nI 0) G7)
  else gOb G2 a0 6 fun o20 => bI (f_M_start G2 a0 (nI 0) (nI 1)) fun v23 G22 => if v23 = 0 then gOb G22 a0 6 fun o25 => bI (f_M_endParts G22 a0 a1 a1) fun v28 G27 => gOb G27 a0 6 fun o30 => bV (f_M_endCursors G27 a0 a1) fun G32 => rI v28 G32
    else rI (nI 0) G22
theorem k_M_pack {l : Launch} {D : va_G} {B : Nat} {O : State → Heap → Prop} (hV : zG l D B O) (G : gH) (a0 : Nat) (a1 : Int32) (a2 : Int32) : gMet (zVm l D B O) m_M_pack 13 [.ref a0, .int a1, .int a2] G (f_M_pack G a0 a1 a2) := by
  have hdd : lSa m_M_pack 0 [(.aload_n 0, 0), (.iload_n 1, 0), (.iconst 0, nI 0), (.iconst 1, nI 1)] = true ∧ lIa m_M_pack 4 (.invokestatic 40) 3 = true ∧ lIa m_M_pack 7 (.ifCond .ne 7) 3 = true ∧ lSa m_M_pack 10 [(.iconst 1, nI 1)] = true ∧ lIa m_M_pack 11 (.goto 4) 3 = true ∧ lSa m_M_pack 15 [(.iconst 1, nI 1)] = true ∧ lIa m_M_pack 16 (.invokevirtual 114) 3 = true ∧ lIa m_M_pack 19 (.ifCond .eq 5) 3 = true ∧ lSa m_M_pack 24 [(.aload_n 0, 0), (.iload_n 1, 0), (.iload_n 1, 0)] = true ∧ lIa m_M_pack 27 (.invokevirtual 103) 3 = true ∧ lSa m_M_pack 30 [(.istore_n 3, 0), (.aload_n 0, 0), (.iload_n 1, 0)] = true ∧ lIa m_M_pack 33 (.invokevirtual 177) 3 = true ∧ lSa m_M_pack 36 [(.iload_n 3, 0)] = true ∧ lIa m_M_pack 37 (.ireturn) 1 = true ∧ lSa m_M_pack 22 [(.iconst 0, nI 0)] = true ∧ lIa m_M_pack 23 (.ireturn) 1 = true ∧ lSa m_M_pack 14 [(.iconst 0, nI 0), (.iconst 1, nI 1)] = true := by decide +kernel
  refine lA8 hdd (fun dd0 dd1 dd2 dd3 dd4 dd5 dd6 dd7 hdd => ?_)
  refine lA8 hdd (fun dd8 dd9 dd10 dd11 dd12 dd13 dd14 dd15 hdd => ?_)
  have dd16 := hdd
  refine gMet.of (by decide +kernel) (Nat.le_of_ble_eq_true rfl) [some (.ref a0), some (.int a1), some (.int a2), none] (fun ls h => zEn_ok (n := 4) h) ?_
  intro o Gf h
  unfold f_M_pack at h
  refine Y.blk (pc' := 4) (L' := [some (.ref a0), some (.int a1), some (.int a2), none]) (st' := [.int (nI 1), .int (nI 0), .int a1, .ref a0]) (sg := [(.aload_n 0, 0), (.iload_n 1, 0), (.iconst 0, nI 0), (.iconst 1, nI 1)]) (lSa_ok dd0) rfl ?_
  refine Y.callI (yC.S (As := [.int a1, .int (nI 0), .int (nI 1)]) (st := [.ref a0]) hV.1 cb_M_isIn lk_M_40 st_M_isIn (lIa_ok dd1) rfl rfl (Nat.le_of_ble_eq_true rfl) (by decide)) (k_M_isIn hV G a1 (nI 0) (nI 1)) h (fun v3 G2 _ h => ?_)
  refine Y.if_ne (off := 7) (tgt := 14) (lIa_ok dd2) (by decide) h (fun c34 h => ?_) (fun c34 h => ?_)
  · refine Y.blk (pc' := 11) (L' := [some (.ref a0), some (.int a1), some (.int a2), none]) (st' := [.int (nI 1), .ref a0]) (sg := [(.iconst 1, nI 1)]) (lSa_ok dd3) rfl ?_
    refine Y.goto (off := 4) (tgt := 15) (lIa_ok dd4) (by decide) ?_
    refine Y.blk (pc' := 16) (L' := [some (.ref a0), some (.int a1), some (.int a2), none]) (st' := [.int (nI 1), .int (nI 1), .ref a0]) (sg := [(.iconst 1, nI 1)]) (lSa_ok dd5) rfl ?_
    obtain ⟨_, o5, e4, m6, h⟩ := gOb_inv h
    refine Y.callI (yC.Vi (b := a0) (As := [.int (nI 1), .int (nI 1)]) (st := []) (r := ("PartlisterModel", T_M, 9)) hV.1 cb_M_start lk_M_114 in_M_start rfl se_M_start (lIa_ok dd6) rfl rfl (Nat.le_of_ble_eq_true rfl) (by decide) e4 m6) (k_M_start hV G2 a0 (nI 1) (nI 1)) h (fun v8 G7 _ h => ?_)
    refine Y.if_eq (off := 5) (tgt := 24) (lIa_ok dd7) (by decide) h (fun c18 h => ?_) (fun c18 h => ?_)
    · refine Y.blk (pc' := 27) (L' := [some (.ref a0), some (.int a1), some (.int a2), none]) (st' := [.int a1, .int a1, .ref a0]) (sg := [(.aload_n 0, 0), (.iload_n 1, 0), (.iload_n 1, 0)]) (lSa_ok dd8) rfl ?_
      obtain ⟨_, o10, e9, m11, h⟩ := gOb_inv h
      refine Y.callI (yC.Vi (b := a0) (As := [.int a1, .int a1]) (st := []) (r := ("PartlisterModel", T_M, 9)) hV.1 cb_M_endParts lk_M_103 in_M_endParts rfl se_M_endParts (lIa_ok dd9) rfl rfl (Nat.le_of_ble_eq_true rfl) (by decide) e9 m11) (k_M_endParts hV G7 a0 a1 a1) h (fun v13 G12 _ h => ?_)
      refine Y.blk (pc' := 33) (L' := [some (.ref a0), some (.int a1), some (.int a2), some (.int v13)]) (st' := [.int a1, .ref a0]) (sg := [(.istore_n 3, 0), (.aload_n 0, 0), (.iload_n 1, 0)]) (lSa_ok dd10) rfl ?_
      obtain ⟨_, o15, e14, m16, h⟩ := gOb_inv h
      refine Y.callN (yC.Vi (b := a0) (As := [.int a1]) (st := []) (r := ("PartlisterModel", T_M, 9)) hV.1 cb_M_endCursors lk_M_177 in_M_endCursors rfl se_M_endCursors (lIa_ok dd11) rfl rfl (Nat.le_of_ble_eq_true rfl) (by decide) e14 m16) (k_M_endCursors hV G12 a0 a1) h (fun G17 _ h => ?_)
      refine Y.blk (pc' := 37) (L' := [some (.ref a0), some (.int a1), some (.int a2), some (.int v13)]) (st' := [.int v13]) (sg := [(.iload_n 3, 0)]) (lSa_ok dd12) rfl ?_
      exact Y.iret rfl (lIa_ok dd13) h
    · refine Y.blk (pc' := 23) (L' := [some (.ref a0), some (.int a1), some (.int a2), none]) (st' := [.int (nI 0)]) (sg := [(.iconst 0, nI 0)]) (lSa_ok dd14) rfl ?_
      exact Y.iret rfl (lIa_ok dd15) h
  · refine Y.blk (pc' := 16) (L' := [some (.ref a0), some (.int a1), some (.int a2), none]) (st' := [.int (nI 1), .int (nI 0), .ref a0]) (sg := [(.iconst 0, nI 0), (.iconst 1, nI 1)]) (lSa_ok dd16) rfl ?_
    obtain ⟨_, o20, e19, m21, h⟩ := gOb_inv h
    refine Y.callI (yC.Vi (b := a0) (As := [.int (nI 0), .int (nI 1)]) (st := []) (r := ("PartlisterModel", T_M, 9)) hV.1 cb_M_start lk_M_114 in_M_start rfl se_M_start (lIa_ok dd6) rfl rfl (Nat.le_of_ble_eq_true rfl) (by decide) e19 m21) (k_M_start hV G2 a0 (nI 0) (nI 1)) h (fun v23 G22 _ h => ?_)
    refine Y.if_eq (off := 5) (tgt := 24) (lIa_ok dd7) (by decide) h (fun c33 h => ?_) (fun c33 h => ?_)
    · refine Y.blk (pc' := 27) (L' := [some (.ref a0), some (.int a1), some (.int a2), none]) (st' := [.int a1, .int a1, .ref a0]) (sg := [(.aload_n 0, 0), (.iload_n 1, 0), (.iload_n 1, 0)]) (lSa_ok dd8) rfl ?_
      obtain ⟨_, o25, e24, m26, h⟩ := gOb_inv h
      refine Y.callI (yC.Vi (b := a0) (As := [.int a1, .int a1]) (st := []) (r := ("PartlisterModel", T_M, 9)) hV.1 cb_M_endParts lk_M_103 in_M_endParts rfl se_M_endParts (lIa_ok dd9) rfl rfl (Nat.le_of_ble_eq_true rfl) (by decide) e24 m26) (k_M_endParts hV G22 a0 a1 a1) h (fun v28 G27 _ h => ?_)
      refine Y.blk (pc' := 33) (L' := [some (.ref a0), some (.int a1), some (.int a2), some (.int v28)]) (st' := [.int a1, .ref a0]) (sg := [(.istore_n 3, 0), (.aload_n 0, 0), (.iload_n 1, 0)]) (lSa_ok dd10) rfl ?_
      obtain ⟨_, o30, e29, m31, h⟩ := gOb_inv h
      refine Y.callN (yC.Vi (b := a0) (As := [.int a1]) (st := []) (r := ("PartlisterModel", T_M, 9)) hV.1 cb_M_endCursors lk_M_177 in_M_endCursors rfl se_M_endCursors (lIa_ok dd11) rfl rfl (Nat.le_of_ble_eq_true rfl) (by decide) e29 m31) (k_M_endCursors hV G27 a0 a1) h (fun G32 _ h => ?_)
      refine Y.blk (pc' := 37) (L' := [some (.ref a0), some (.int a1), some (.int a2), some (.int v28)]) (st' := [.int v28]) (sg := [(.iload_n 3, 0)]) (lSa_ok dd12) rfl ?_
      exact Y.iret rfl (lIa_ok dd13) h
    · refine Y.blk (pc' := 23) (L' := [some (.ref a0), some (.int a1), some (.int a2), none]) (st' := [.int (nI 0)]) (sg := [(.iconst 0, nI 0)]) (lSa_ok dd14) rfl ?_
      exact Y.iret rfl (lIa_ok dd15) h

def f_MP_init (G : gH) (a0 : Nat) : gR :=
  rV G
theorem k_MP_init {l : Launch} {D : va_G} {B : Nat} {O : State → Heap → Prop} (hV : zG l D B O) (G : gH) (a0 : Nat) : gMet (zVm l D B O) m_MP_init 2 [.ref a0] G (f_MP_init G a0) := by
  have hdd : lSa m_MP_init 0 [(.aload_n 0, 0)] = true ∧ lIa m_MP_init 1 (.invokespecial 1) 3 = true ∧ lIa m_MP_init 4 (.return_) 1 = true := by decide +kernel
  obtain ⟨dd0, dd1, dd2⟩ := hdd
  refine gMet.of (by decide +kernel) (Nat.le_of_ble_eq_true rfl) [some (.ref a0)] (fun ls h => zEn_ok (n := 1) h) ?_
  intro o Gf h
  unfold f_MP_init at h
  refine Y.blk (pc' := 1) (L' := [some (.ref a0)]) (st' := [.ref a0]) (sg := [(.aload_n 0, 0)]) (lSa_ok dd0) rfl ?_
  refine Y.objInit lk_MP_1 in_OJ_init cw_OJ_init (by decide) rfl (Nat.le_of_ble_eq_true rfl) (lIa_ok dd1) ?_
  exact Y.vret rfl (lIa_ok dd2) h

def f_M_part (G : gH) (a0 : Nat) (a1 : Int32) (a2 : Int32) (a3 : Int32) : gR :=
  gOb G a0 6 fun o2 => bI (f_M_isNoList G a0 a1) fun v5 G4 => gOb G4 a0 6 fun o7 => bI (f_M_start G4 a0 v5 (nI 1)) fun v10 G9 => if v10 = 0 then (gOb G9 a0 6 fun o12 => bI (f_M_length G9 a0 a1) fun v15 G14 => bI (f_M_isIn G14 a2 (nI 0) v15) fun v18 G17 => if v18 = 0 then (gOb G17 a0 6 fun o20 => bI (f_M_refuse G17 a0 (nI 1) (nI 1)) fun v23 G22 => if v23 = 0 then (gOb G22 a0 6 fun o25 => bI (f_M_freePart G22 a0) fun v28 G27 => if v28 = (-1) then (gOb G27 a0 6 fun o30 => bI (f_M_refuse G27 a0 (nI 1) (nI 2)) fun v33 G32 => if v33 = 0 then gOb G32 a0 6 fun o35 => bI (f_M_freePart G32 a0) fun v38 G37 => gFA G37 a0 6 2 fun v39 => gNewO G37 5 3 [.int 0, .int 0, .int 0] fun q40 G41 => bV (f_MP_init G41 q40) fun G43 => gStq G43 v39 104 5 v38 q40 fun G44 => gFA G44 a0 6 2 fun v45 => gLdq G44 v45 104 v38 (none) fun v46 => gPut G44 v46 5 0 (.int a1) fun G47 => gFA G47 a0 6 2 fun v48 => gLdq G47 v48 104 v38 (none) fun v49 => gPut G47 v49 5 1 (.int a2) fun G50 => gFA G50 a0 6 2 fun v51 => gLdq G50 v51 104 v38 (none) fun v52 => gPut G50 v52 5 2 (.int (a3 - a2)) fun G53 => rI v38 G53
          else rI (nI 0) G32)
        else gOb G27 a0 6 fun o56 => bI (f_M_refuse G27 a0 (nI 0) (nI 2)) fun v59 G58 => if v59 = 0 then gOb G58 a0 6 fun o61 => bI (f_M_freePart G58 a0) fun v64 G63 => gFA G63 a0 6 2 fun v65 => gNewO G63 5 3 [.int 0, .int 0, .int 0] fun q66 G67 => bV (f_MP_init G67 q66) fun G69 => gStq G69 v65 104 5 v64 q66 fun G70 => gFA G70 a0 6 2 fun v71 => gLdq G70 v71 104 v64 (none) fun v72 => gPut G70 v72 5 0 (.int a1) fun G73 => gFA G73 a0 6 2 fun v74 => gLdq G73 v74 104 v64 (none) fun v75 => gPut G73 v75 5 1 (.int a2) fun G76 => gFA G76 a0 6 2 fun v77 => gLdq G76 v77 104 v64 (none) fun v78 => gPut G76 v78 5 2 (.int (a3 - a2)) fun G79 => rI v64 G79
          else rI (nI 0) G58)
      else rI (nI 0) G22)
    else gOb G17 a0 6 fun o84 => bI (f_M_length G17 a0 a1) fun v87 G86 => bI (f_M_isIn G86 a3 a2 v87) fun v90 G89 => if v90 = 0 then (gOb G89 a0 6 fun o92 => bI (f_M_refuse G89 a0 (nI 1) (nI 1)) fun v95 G94 => if v95 = 0 then (gOb G94 a0 6 fun o97 => bI (f_M_freePart G94 a0) fun v100 G99 => if v100 = (-1) then (gOb G99 a0 6 fun o102 => bI (f_M_refuse G99 a0 (nI 1) (nI 2)) fun v105 G104 => if v105 = 0 then gOb G104 a0 6 fun o107 => bI (f_M_freePart G104 a0) fun v110 G109 => gFA G109 a0 6 2 fun v111 => gNewO G109 5 3 [.int 0, .int 0, .int 0] fun q112 G113 => bV (f_MP_init G113 q112) fun G115 => gStq G115 v111 104 5 v110 q112 fun G116 => gFA G116 a0 6 2 fun v117 => gLdq G116 v117 104 v110 (none) fun v118 => gPut G116 v118 5 0 (.int a1) fun G119 => gFA G119 a0 6 2 fun v120 => gLdq G119 v120 104 v110 (none) fun v121 => gPut G119 v121 5 1 (.int a2) fun G122 => gFA G122 a0 6 2 fun v123 => gLdq G122 v123 104 v110 (none) fun v124 => gPut G122 v124 5 2 (.int (a3 - a2)) fun G125 => rI v110 G125
            else rI (nI 0) G104)
          else gOb G99 a0 6 fun o128 => bI (f_M_refuse G99 a0 (nI 0) (nI 2)) fun v131 G130 => if v131 = 0 then gOb G130 a0 6 fun o133 => bI (f_M_freePart G130 a0) fun v136 G135 => gFA G135 a0 6 2 fun v137 => gNewO G135 5 3 [.int 0, .int 0, .int 0] fun q138 G139 => bV (f_MP_init G139 q138) fun G141 => gStq G141 v137 104 5 v136 q138 fun G142 => gFA G142 a0 6 2 fun v143 => gLdq G142 v143 104 v136 (none) fun v144 => gPut G142 v144 5 0 (.int a1) fun G145 => gFA G145 a0 6 2 fun v146 => gLdq G145 v146 104 v136 (none) fun v147 => gPut G145 v147 5 1 (.int a2) fun G148 => gFA G148 a0 6 2 fun v149 => gLdq G148 v149 104 v136 (none) fun v150 => gPut G148 v150 5 2 (.int (a3 - a2)) fun G151 => rI v136 G151
            else rI (nI 0) G130)
        else rI (nI 0) G94)
      else gOb G89 a0 6 fun o156 => bI (f_M_refuse G89 a0 (nI 0) (nI 1)) fun v159 G158 => if v159 = 0 then (gOb G158 a0 6 fun o161 => bI (f_M_freePart G158 a0) fun v164 G163 => if v164 = (-1) then (gOb G163 a0 6 fun o166 => bI (f_M_refuse G163 a0 (nI 1) (nI 2)) fun v169 G168 => if v169 = 0 then gOb G168 a0 6 fun o171 => bI (f_M_freePart G168 a0) fun v174 G173 => gFA G173 a0 6 2 fun v175 => gNewO G173 5 3 [.int 0, .int 0, .int 0] fun q176 G177 => bV (f_MP_init G177 q176) fun G179 => gStq G179 v175 104 5 v174 q176 fun G180 => gFA G180 a0 6 2 fun v181 => gLdq G180 v181 104 v174 (none) fun v182 => gPut G180 v182 5 0 (.int a1) fun G183 => gFA G183 a0 6 2 fun v184 => gLdq G183 v184 104 v174 (none) fun v185 => gPut G183 v185 5 1 (.int a2) fun G186 => gFA G186 a0 6 2 fun v187 => gLdq G186 v187 104 v174 (none) fun v188 => gPut G186 v188 5 2 (.int (a3 - a2)) fun G189 => rI v174 G189
            else rI (nI 0) G168)
          else gOb G163 a0 6 fun o192 => bI (f_M_refuse G163 a0 (nI 0) (nI 2)) fun v195 G194 => if v195 = 0 then gOb G194 a0 6 fun o197 => bI (f_M_freePart G194 a0) fun v200 G199 => gFA G199 a0 6 2 fun v201 => gNewO G199 5 3 [.int 0, .int 0, .int 0] fun q202 G203 => bV (f_MP_init G203 q202) fun G205 => gStq G205 v201 104 5 v200 q202 fun G206 => gFA G206 a0 6 2 fun v207 => gLdq G206 v207 104 v200 (none) fun v208 => gPut G206 v208 5 0 (.int a1) fun G209 => gFA G209 a0 6 2 fun v210 => gLdq G209 v210 104 v200 (none) fun v211 => gPut G209 v211 5 1 (.int a2) fun G212 => gFA G212 a0 6 2 fun v213 => gLdq G212 v213 104 v200 (none) fun v214 => gPut G212 v214 5 2 (.int (a3 - a2)) fun G215 => rI v200 G215
            else rI (nI 0) G194)
        else rI (nI 0) G158)
  else rI (nI 0) G9
theorem k_M_part {l : Launch} {D : va_G} {B : Nat} {O : State → Heap → Prop} (hV : zG l D B O) (G : gH) (a0 : Nat) (a1 : Int32) (a2 : Int32) (a3 : Int32) : gMet (zVm l D B O) m_M_part 6 [.ref a0, .int a1, .int a2, .int a3] G (f_M_part G a0 a1 a2 a3) := by
  have hdd : lSa m_M_part 0 [(.aload_n 0, 0), (.aload_n 0, 0), (.iload_n 1, 0)] = true ∧ lIa m_M_part 3 (.invokevirtual 110) 3 = true ∧ lSa m_M_part 6 [(.iconst 1, nI 1)] = true ∧ lIa m_M_part 7 (.invokevirtual 114) 3 = true ∧ lIa m_M_part 10 (.ifCond .ne 63) 3 = true ∧ lSa m_M_part 13 [(.aload_n 0, 0), (.iload_n 2, 0), (.iconst 0, nI 0), (.aload_n 0, 0), (.iload_n 1, 0)] = true ∧ lIa m_M_part 18 (.invokevirtual 74) 3 = true ∧ lIa m_M_part 21 (.invokestatic 40) 3 = true ∧ lIa m_M_part 24 (.ifCond .eq 16) 3 = true ∧ lSa m_M_part 40 [(.iconst 1, nI 1)] = true ∧ lIa m_M_part 41 (.goto 4) 3 = true ∧ lSa m_M_part 45 [(.iconst 1, nI 1)] = true ∧ lIa m_M_part 46 (.invokevirtual 36) 3 = true ∧ lIa m_M_part 49 (.ifCond .ne 24) 3 = true ∧ lSa m_M_part 52 [(.aload_n 0, 0), (.aload_n 0, 0)] = true ∧ lIa m_M_part 54 (.invokevirtual 197) 3 = true ∧ lSa m_M_part 57 [(.iconst (-1), -1)] = true ∧ lIa m_M_part 58 (.if_icmp .ne 7) 3 = true ∧ lSa m_M_part 61 [(.iconst 1, nI 1)] = true ∧ lIa m_M_part 62 (.goto 4) 3 = true ∧ lSa m_M_part 66 [(.iconst 2, nI 2)] = true ∧ lIa m_M_part 67 (.invokevirtual 36) 3 = true ∧ lIa m_M_part 70 (.ifCond .eq 5) 3 = true ∧ lSa m_M_part 75 [(.aload_n 0, 0)] = true ∧ lIa m_M_part 76 (.invokevirtual 197) 3 = true ∧ lSa m_M_part 79 [(.istore 4, 0), (.aload_n 0, 0)] = true ∧ lIa m_M_part 82 (.getfield 18) 3 = true ∧ lSa m_M_part 85 [(.iload 4, 0)] = true ∧ lIa m_M_part 87 (.new 16) 3 = true ∧ lSa m_M_part 90 [(.dup, 0)] = true ∧ lIa m_M_part 91 (.invokespecial 200) 3 = true ∧ lIa m_M_part 94 (.aastore) 1 = true ∧ lSa m_M_part 95 [(.aload_n 0, 0)] = true ∧ lIa m_M_part 96 (.getfield 18) 3 = true ∧ lSa m_M_part 99 [(.iload 4, 0)] = true ∧ lIa m_M_part 101 (.aaload) 1 = true ∧ lSa m_M_part 102 [(.iload_n 1, 0)] = true ∧ lIa m_M_part 103 (.putfield 44) 3 = true ∧ lSa m_M_part 106 [(.aload_n 0, 0)] = true ∧ lIa m_M_part 107 (.getfield 18) 3 = true ∧ lSa m_M_part 110 [(.iload 4, 0)] = true ∧ lIa m_M_part 112 (.aaload) 1 = true ∧ lSa m_M_part 113 [(.iload_n 2, 0)] = true ∧ lIa m_M_part 114 (.putfield 51) 3 = true ∧ lSa m_M_part 117 [(.aload_n 0, 0)] = true ∧ lIa m_M_part 118 (.getfield 18) 3 = true ∧ lSa m_M_part 121 [(.iload 4, 0)] = true ∧ lIa m_M_part 123 (.aaload) 1 = true ∧ lSa m_M_part 124 [(.iload_n 3, 0), (.iload_n 2, 0), (.isub, 0)] = true ∧ lIa m_M_part 127 (.putfield 65) 3 = true ∧ lSa m_M_part 130 [(.iload 4, 0)] = true ∧ lIa m_M_part 132 (.ireturn) 1 = true ∧ lSa m_M_part 73 [(.iconst 0, nI 0)] = true ∧ lIa m_M_part 74 (.ireturn) 1 = true ∧ lSa m_M_part 65 [(.iconst 0, nI 0), (.iconst 2, nI 2)] = true ∧ lSa m_M_part 27 [(.iload_n 3, 0), (.iload_n 2, 0), (.aload_n 0, 0), (.iload_n 1, 0)] = true ∧ lIa m_M_part 31 (.invokevirtual 74) 3 = true ∧ lIa m_M_part 34 (.invokestatic 40) 3 = true ∧ lIa m_M_part 37 (.ifCond .ne 7) 3 = true ∧ lSa m_M_part 44 [(.iconst 0, nI 0), (.iconst 1, nI 1)] = true := by decide +kernel
  refine lA8 hdd (fun dd0 dd1 dd2 dd3 dd4 dd5 dd6 dd7 hdd => ?_)
  refine lA8 hdd (fun dd8 dd9 dd10 dd11 dd12 dd13 dd14 dd15 hdd => ?_)
  refine lA8 hdd (fun dd16 dd17 dd18 dd19 dd20 dd21 dd22 dd23 hdd => ?_)
  refine lA8 hdd (fun dd24 dd25 dd26 dd27 dd28 dd29 dd30 dd31 hdd => ?_)
  refine lA8 hdd (fun dd32 dd33 dd34 dd35 dd36 dd37 dd38 dd39 hdd => ?_)
  refine lA8 hdd (fun dd40 dd41 dd42 dd43 dd44 dd45 dd46 dd47 hdd => ?_)
  refine lA8 hdd (fun dd48 dd49 dd50 dd51 dd52 dd53 dd54 dd55 hdd => ?_)
  obtain ⟨dd56, dd57, dd58, dd59⟩ := hdd
  refine gMet.of (by decide +kernel) (Nat.le_of_ble_eq_true rfl) [some (.ref a0), some (.int a1), some (.int a2), some (.int a3), none] (fun ls h => zEn_ok (n := 5) h) ?_
  intro o Gf h
  unfold f_M_part at h
  refine Y.blk (pc' := 3) (L' := [some (.ref a0), some (.int a1), some (.int a2), some (.int a3), none]) (st' := [.int a1, .ref a0, .ref a0]) (sg := [(.aload_n 0, 0), (.aload_n 0, 0), (.iload_n 1, 0)]) (lSa_ok dd0) rfl ?_
  obtain ⟨_, o2, e1, m3, h⟩ := gOb_inv h
  refine Y.callI (yC.Vi (b := a0) (As := [.int a1]) (st := [.ref a0]) (r := ("PartlisterModel", T_M, 9)) hV.1 cb_M_isNoList lk_M_110 in_M_isNoList rfl se_M_isNoList (lIa_ok dd1) rfl rfl (Nat.le_of_ble_eq_true rfl) (by decide) e1 m3) (k_M_isNoList hV G a0 a1) h (fun v5 G4 _ h => ?_)
  refine Y.blk (pc' := 7) (L' := [some (.ref a0), some (.int a1), some (.int a2), some (.int a3), none]) (st' := [.int (nI 1), .int v5, .ref a0]) (sg := [(.iconst 1, nI 1)]) (lSa_ok dd2) rfl ?_
  obtain ⟨_, o7, e6, m8, h⟩ := gOb_inv h
  refine Y.callI (yC.Vi (b := a0) (As := [.int v5, .int (nI 1)]) (st := []) (r := ("PartlisterModel", T_M, 9)) hV.1 cb_M_start lk_M_114 in_M_start rfl se_M_start (lIa_ok dd3) rfl rfl (Nat.le_of_ble_eq_true rfl) (by decide) e6 m8) (k_M_start hV G4 a0 v5 (nI 1)) h (fun v10 G9 _ h => ?_)
  refine Y.if_ne (off := 63) (tgt := 73) (lIa_ok dd4) (by decide) h (fun c221 h => ?_) (fun c221 h => ?_)
  · refine Y.blk (pc' := 18) (L' := [some (.ref a0), some (.int a1), some (.int a2), some (.int a3), none]) (st' := [.int a1, .ref a0, .int (nI 0), .int a2, .ref a0]) (sg := [(.aload_n 0, 0), (.iload_n 2, 0), (.iconst 0, nI 0), (.aload_n 0, 0), (.iload_n 1, 0)]) (lSa_ok dd5) rfl ?_
    obtain ⟨_, o12, e11, m13, h⟩ := gOb_inv h
    refine Y.callI (yC.Vi (b := a0) (As := [.int a1]) (st := [.int (nI 0), .int a2, .ref a0]) (r := ("PartlisterModel", T_M, 9)) hV.1 cb_M_length lk_M_74 in_M_length rfl se_M_length (lIa_ok dd6) rfl rfl (Nat.le_of_ble_eq_true rfl) (by decide) e11 m13) (k_M_length hV G9 a0 a1) h (fun v15 G14 _ h => ?_)
    refine Y.callI (yC.S (As := [.int a2, .int (nI 0), .int v15]) (st := [.ref a0]) hV.1 cb_M_isIn lk_M_40 st_M_isIn (lIa_ok dd7) rfl rfl (Nat.le_of_ble_eq_true rfl) (by decide)) (k_M_isIn hV G14 a2 (nI 0) v15) h (fun v18 G17 _ h => ?_)
    refine Y.if_eq (off := 16) (tgt := 40) (lIa_ok dd8) (by decide) h (fun c220 h => ?_) (fun c220 h => ?_)
    · refine Y.blk (pc' := 41) (L' := [some (.ref a0), some (.int a1), some (.int a2), some (.int a3), none]) (st' := [.int (nI 1), .ref a0]) (sg := [(.iconst 1, nI 1)]) (lSa_ok dd9) rfl ?_
      refine Y.goto (off := 4) (tgt := 45) (lIa_ok dd10) (by decide) ?_
      refine Y.blk (pc' := 46) (L' := [some (.ref a0), some (.int a1), some (.int a2), some (.int a3), none]) (st' := [.int (nI 1), .int (nI 1), .ref a0]) (sg := [(.iconst 1, nI 1)]) (lSa_ok dd11) rfl ?_
      obtain ⟨_, o20, e19, m21, h⟩ := gOb_inv h
      refine Y.callI (yC.Vi (b := a0) (As := [.int (nI 1), .int (nI 1)]) (st := []) (r := ("PartlisterModel", T_M, 9)) hV.1 cb_M_refuse lk_M_36 in_M_refuse rfl se_M_refuse (lIa_ok dd12) rfl rfl (Nat.le_of_ble_eq_true rfl) (by decide) e19 m21) (k_M_refuse hV G17 a0 (nI 1) (nI 1)) h (fun v23 G22 _ h => ?_)
      refine Y.if_ne (off := 24) (tgt := 73) (lIa_ok dd13) (by decide) h (fun c82 h => ?_) (fun c82 h => ?_)
      · refine Y.blk (pc' := 54) (L' := [some (.ref a0), some (.int a1), some (.int a2), some (.int a3), none]) (st' := [.ref a0, .ref a0]) (sg := [(.aload_n 0, 0), (.aload_n 0, 0)]) (lSa_ok dd14) rfl ?_
        obtain ⟨_, o25, e24, m26, h⟩ := gOb_inv h
        refine Y.callI (yC.Vi (b := a0) (As := []) (st := [.ref a0]) (r := ("PartlisterModel", T_M, 9)) hV.1 cb_M_freePart lk_M_197 in_M_freePart rfl se_M_freePart (lIa_ok dd15) rfl rfl (Nat.le_of_ble_eq_true rfl) (by decide) e24 m26) (k_M_freePart hV G22 a0) h (fun v28 G27 _ h => ?_)
        refine Y.blk (pc' := 58) (L' := [some (.ref a0), some (.int a1), some (.int a2), some (.int a3), none]) (st' := [.int (-1), .int v28, .ref a0]) (sg := [(.iconst (-1), -1)]) (lSa_ok dd16) rfl ?_
        refine Y.ic_ne (off := 7) (tgt := 65) (lIa_ok dd17) (by decide) h (fun c81 h => ?_) (fun c81 h => ?_)
        · refine Y.blk (pc' := 62) (L' := [some (.ref a0), some (.int a1), some (.int a2), some (.int a3), none]) (st' := [.int (nI 1), .ref a0]) (sg := [(.iconst 1, nI 1)]) (lSa_ok dd18) rfl ?_
          refine Y.goto (off := 4) (tgt := 66) (lIa_ok dd19) (by decide) ?_
          refine Y.blk (pc' := 67) (L' := [some (.ref a0), some (.int a1), some (.int a2), some (.int a3), none]) (st' := [.int (nI 2), .int (nI 1), .ref a0]) (sg := [(.iconst 2, nI 2)]) (lSa_ok dd20) rfl ?_
          obtain ⟨_, o30, e29, m31, h⟩ := gOb_inv h
          refine Y.callI (yC.Vi (b := a0) (As := [.int (nI 1), .int (nI 2)]) (st := []) (r := ("PartlisterModel", T_M, 9)) hV.1 cb_M_refuse lk_M_36 in_M_refuse rfl se_M_refuse (lIa_ok dd21) rfl rfl (Nat.le_of_ble_eq_true rfl) (by decide) e29 m31) (k_M_refuse hV G27 a0 (nI 1) (nI 2)) h (fun v33 G32 _ h => ?_)
          refine Y.if_eq (off := 5) (tgt := 75) (lIa_ok dd22) (by decide) h (fun c54 h => ?_) (fun c54 h => ?_)
          · refine Y.blk (pc' := 76) (L' := [some (.ref a0), some (.int a1), some (.int a2), some (.int a3), none]) (st' := [.ref a0]) (sg := [(.aload_n 0, 0)]) (lSa_ok dd23) rfl ?_
            obtain ⟨_, o35, e34, m36, h⟩ := gOb_inv h
            refine Y.callI (yC.Vi (b := a0) (As := []) (st := []) (r := ("PartlisterModel", T_M, 9)) hV.1 cb_M_freePart lk_M_197 in_M_freePart rfl se_M_freePart (lIa_ok dd24) rfl rfl (Nat.le_of_ble_eq_true rfl) (by decide) e34 m36) (k_M_freePart hV G32 a0) h (fun v38 G37 _ h => ?_)
            refine Y.blk (pc' := 82) (L' := [some (.ref a0), some (.int a1), some (.int a2), some (.int a3), some (.int v38)]) (st' := [.ref a0]) (sg := [(.istore 4, 0), (.aload_n 0, 0)]) (lSa_ok dd25) rfl ?_
            refine Y.getA fl_M_18 (lIa_ok dd26) h (fun v39 h => ?_)
            refine Y.blk (pc' := 87) (L' := [some (.ref a0), some (.int a1), some (.int a2), some (.int a3), some (.int v38)]) (st' := [.int v38, .ref v39]) (sg := [(.iload 4, 0)]) (lSa_ok dd27) rfl ?_
            refine Y.new nc_M_16 (by decide) bk_MP (lIa_ok dd28) h (fun q40 G41 h => ?_)
            refine Y.blk (pc' := 91) (L' := [some (.ref a0), some (.int a1), some (.int a2), some (.int a3), some (.int v38)]) (st' := [.ref q40, .ref q40, .int v38, .ref v39]) (sg := [(.dup, 0)]) (lSa_ok dd29) rfl ?_
            refine Y.callN (yC.IN (b := q40) (As := []) (st := [.ref q40, .int v38, .ref v39]) hV.1 cb_MP_init lk_M_200 in_MP_init rfl rfl (lIa_ok dd30) rfl rfl (Nat.le_of_ble_eq_true rfl) (by decide)) (k_MP_init hV G41 q40) h (fun G43 _ h => ?_)
            refine Y.aast (t0 := 4) (r := ("PartlisterModel$Part", T_MP, 3)) (lIa_ok dd31) rfl rfl (by decide) h (fun G44 _ _ h => ?_)
            refine Y.blk (pc' := 96) (L' := [some (.ref a0), some (.int a1), some (.int a2), some (.int a3), some (.int v38)]) (st' := [.ref a0]) (sg := [(.aload_n 0, 0)]) (lSa_ok dd32) rfl ?_
            refine Y.getA fl_M_18 (lIa_ok dd33) h (fun v45 h => ?_)
            refine Y.blk (pc' := 101) (L' := [some (.ref a0), some (.int a1), some (.int a2), some (.int a3), some (.int v38)]) (st' := [.int v38, .ref v45]) (sg := [(.iload 4, 0)]) (lSa_ok dd34) rfl ?_
            refine Y.aald (t0 := 4) (lIa_ok dd35) rfl h (fun h => ?_) (fun v46 h => ?_)
            · refine Y.blk (pc' := 103) (L' := [some (.ref a0), some (.int a1), some (.int a2), some (.int a3), some (.int v38)]) (st' := [.int a1, .null]) (sg := [(.iload_n 1, 0)]) (lSa_ok dd36) rfl ?_
              cases h
            · refine Y.blk (pc' := 103) (L' := [some (.ref a0), some (.int a1), some (.int a2), some (.int a3), some (.int v38)]) (st' := [.int a1, .ref v46]) (sg := [(.iload_n 1, 0)]) (lSa_ok dd36) rfl ?_
              refine Y.putf fl_M_44 (by decide) rfl rfl (lIa_ok dd37) h (fun G47 _ _ h => ?_)
              refine Y.blk (pc' := 107) (L' := [some (.ref a0), some (.int a1), some (.int a2), some (.int a3), some (.int v38)]) (st' := [.ref a0]) (sg := [(.aload_n 0, 0)]) (lSa_ok dd38) rfl ?_
              refine Y.getA fl_M_18 (lIa_ok dd39) h (fun v48 h => ?_)
              refine Y.blk (pc' := 112) (L' := [some (.ref a0), some (.int a1), some (.int a2), some (.int a3), some (.int v38)]) (st' := [.int v38, .ref v48]) (sg := [(.iload 4, 0)]) (lSa_ok dd40) rfl ?_
              refine Y.aald (t0 := 4) (lIa_ok dd41) rfl h (fun h => ?_) (fun v49 h => ?_)
              · refine Y.blk (pc' := 114) (L' := [some (.ref a0), some (.int a1), some (.int a2), some (.int a3), some (.int v38)]) (st' := [.int a2, .null]) (sg := [(.iload_n 2, 0)]) (lSa_ok dd42) rfl ?_
                cases h
              · refine Y.blk (pc' := 114) (L' := [some (.ref a0), some (.int a1), some (.int a2), some (.int a3), some (.int v38)]) (st' := [.int a2, .ref v49]) (sg := [(.iload_n 2, 0)]) (lSa_ok dd42) rfl ?_
                refine Y.putf fl_M_51 (by decide) rfl rfl (lIa_ok dd43) h (fun G50 _ _ h => ?_)
                refine Y.blk (pc' := 118) (L' := [some (.ref a0), some (.int a1), some (.int a2), some (.int a3), some (.int v38)]) (st' := [.ref a0]) (sg := [(.aload_n 0, 0)]) (lSa_ok dd44) rfl ?_
                refine Y.getA fl_M_18 (lIa_ok dd45) h (fun v51 h => ?_)
                refine Y.blk (pc' := 123) (L' := [some (.ref a0), some (.int a1), some (.int a2), some (.int a3), some (.int v38)]) (st' := [.int v38, .ref v51]) (sg := [(.iload 4, 0)]) (lSa_ok dd46) rfl ?_
                refine Y.aald (t0 := 4) (lIa_ok dd47) rfl h (fun h => ?_) (fun v52 h => ?_)
                · refine Y.blk (pc' := 127) (L' := [some (.ref a0), some (.int a1), some (.int a2), some (.int a3), some (.int v38)]) (st' := [.int (a3 - a2), .null]) (sg := [(.iload_n 3, 0), (.iload_n 2, 0), (.isub, 0)]) (lSa_ok dd48) rfl ?_
                  cases h
                · refine Y.blk (pc' := 127) (L' := [some (.ref a0), some (.int a1), some (.int a2), some (.int a3), some (.int v38)]) (st' := [.int (a3 - a2), .ref v52]) (sg := [(.iload_n 3, 0), (.iload_n 2, 0), (.isub, 0)]) (lSa_ok dd48) rfl ?_
                  refine Y.putf fl_M_65 (by decide) rfl rfl (lIa_ok dd49) h (fun G53 _ _ h => ?_)
                  refine Y.blk (pc' := 132) (L' := [some (.ref a0), some (.int a1), some (.int a2), some (.int a3), some (.int v38)]) (st' := [.int v38]) (sg := [(.iload 4, 0)]) (lSa_ok dd50) rfl ?_
                  exact Y.iret rfl (lIa_ok dd51) h
          · refine Y.blk (pc' := 74) (L' := [some (.ref a0), some (.int a1), some (.int a2), some (.int a3), none]) (st' := [.int (nI 0)]) (sg := [(.iconst 0, nI 0)]) (lSa_ok dd52) rfl ?_
            exact Y.iret rfl (lIa_ok dd53) h
        · refine Y.blk (pc' := 67) (L' := [some (.ref a0), some (.int a1), some (.int a2), some (.int a3), none]) (st' := [.int (nI 2), .int (nI 0), .ref a0]) (sg := [(.iconst 0, nI 0), (.iconst 2, nI 2)]) (lSa_ok dd54) rfl ?_
          obtain ⟨_, o56, e55, m57, h⟩ := gOb_inv h
          refine Y.callI (yC.Vi (b := a0) (As := [.int (nI 0), .int (nI 2)]) (st := []) (r := ("PartlisterModel", T_M, 9)) hV.1 cb_M_refuse lk_M_36 in_M_refuse rfl se_M_refuse (lIa_ok dd21) rfl rfl (Nat.le_of_ble_eq_true rfl) (by decide) e55 m57) (k_M_refuse hV G27 a0 (nI 0) (nI 2)) h (fun v59 G58 _ h => ?_)
          refine Y.if_eq (off := 5) (tgt := 75) (lIa_ok dd22) (by decide) h (fun c80 h => ?_) (fun c80 h => ?_)
          · refine Y.blk (pc' := 76) (L' := [some (.ref a0), some (.int a1), some (.int a2), some (.int a3), none]) (st' := [.ref a0]) (sg := [(.aload_n 0, 0)]) (lSa_ok dd23) rfl ?_
            obtain ⟨_, o61, e60, m62, h⟩ := gOb_inv h
            refine Y.callI (yC.Vi (b := a0) (As := []) (st := []) (r := ("PartlisterModel", T_M, 9)) hV.1 cb_M_freePart lk_M_197 in_M_freePart rfl se_M_freePart (lIa_ok dd24) rfl rfl (Nat.le_of_ble_eq_true rfl) (by decide) e60 m62) (k_M_freePart hV G58 a0) h (fun v64 G63 _ h => ?_)
            refine Y.blk (pc' := 82) (L' := [some (.ref a0), some (.int a1), some (.int a2), some (.int a3), some (.int v64)]) (st' := [.ref a0]) (sg := [(.istore 4, 0), (.aload_n 0, 0)]) (lSa_ok dd25) rfl ?_
            refine Y.getA fl_M_18 (lIa_ok dd26) h (fun v65 h => ?_)
            refine Y.blk (pc' := 87) (L' := [some (.ref a0), some (.int a1), some (.int a2), some (.int a3), some (.int v64)]) (st' := [.int v64, .ref v65]) (sg := [(.iload 4, 0)]) (lSa_ok dd27) rfl ?_
            refine Y.new nc_M_16 (by decide) bk_MP (lIa_ok dd28) h (fun q66 G67 h => ?_)
            refine Y.blk (pc' := 91) (L' := [some (.ref a0), some (.int a1), some (.int a2), some (.int a3), some (.int v64)]) (st' := [.ref q66, .ref q66, .int v64, .ref v65]) (sg := [(.dup, 0)]) (lSa_ok dd29) rfl ?_
            refine Y.callN (yC.IN (b := q66) (As := []) (st := [.ref q66, .int v64, .ref v65]) hV.1 cb_MP_init lk_M_200 in_MP_init rfl rfl (lIa_ok dd30) rfl rfl (Nat.le_of_ble_eq_true rfl) (by decide)) (k_MP_init hV G67 q66) h (fun G69 _ h => ?_)
            refine Y.aast (t0 := 4) (r := ("PartlisterModel$Part", T_MP, 3)) (lIa_ok dd31) rfl rfl (by decide) h (fun G70 _ _ h => ?_)
            refine Y.blk (pc' := 96) (L' := [some (.ref a0), some (.int a1), some (.int a2), some (.int a3), some (.int v64)]) (st' := [.ref a0]) (sg := [(.aload_n 0, 0)]) (lSa_ok dd32) rfl ?_
            refine Y.getA fl_M_18 (lIa_ok dd33) h (fun v71 h => ?_)
            refine Y.blk (pc' := 101) (L' := [some (.ref a0), some (.int a1), some (.int a2), some (.int a3), some (.int v64)]) (st' := [.int v64, .ref v71]) (sg := [(.iload 4, 0)]) (lSa_ok dd34) rfl ?_
            refine Y.aald (t0 := 4) (lIa_ok dd35) rfl h (fun h => ?_) (fun v72 h => ?_)
            · refine Y.blk (pc' := 103) (L' := [some (.ref a0), some (.int a1), some (.int a2), some (.int a3), some (.int v64)]) (st' := [.int a1, .null]) (sg := [(.iload_n 1, 0)]) (lSa_ok dd36) rfl ?_
              cases h
            · refine Y.blk (pc' := 103) (L' := [some (.ref a0), some (.int a1), some (.int a2), some (.int a3), some (.int v64)]) (st' := [.int a1, .ref v72]) (sg := [(.iload_n 1, 0)]) (lSa_ok dd36) rfl ?_
              refine Y.putf fl_M_44 (by decide) rfl rfl (lIa_ok dd37) h (fun G73 _ _ h => ?_)
              refine Y.blk (pc' := 107) (L' := [some (.ref a0), some (.int a1), some (.int a2), some (.int a3), some (.int v64)]) (st' := [.ref a0]) (sg := [(.aload_n 0, 0)]) (lSa_ok dd38) rfl ?_
              refine Y.getA fl_M_18 (lIa_ok dd39) h (fun v74 h => ?_)
              refine Y.blk (pc' := 112) (L' := [some (.ref a0), some (.int a1), some (.int a2), some (.int a3), some (.int v64)]) (st' := [.int v64, .ref v74]) (sg := [(.iload 4, 0)]) (lSa_ok dd40) rfl ?_
              refine Y.aald (t0 := 4) (lIa_ok dd41) rfl h (fun h => ?_) (fun v75 h => ?_)
              · refine Y.blk (pc' := 114) (L' := [some (.ref a0), some (.int a1), some (.int a2), some (.int a3), some (.int v64)]) (st' := [.int a2, .null]) (sg := [(.iload_n 2, 0)]) (lSa_ok dd42) rfl ?_
                cases h
              · refine Y.blk (pc' := 114) (L' := [some (.ref a0), some (.int a1), some (.int a2), some (.int a3), some (.int v64)]) (st' := [.int a2, .ref v75]) (sg := [(.iload_n 2, 0)]) (lSa_ok dd42) rfl ?_
                refine Y.putf fl_M_51 (by decide) rfl rfl (lIa_ok dd43) h (fun G76 _ _ h => ?_)
                refine Y.blk (pc' := 118) (L' := [some (.ref a0), some (.int a1), some (.int a2), some (.int a3), some (.int v64)]) (st' := [.ref a0]) (sg := [(.aload_n 0, 0)]) (lSa_ok dd44) rfl ?_
                refine Y.getA fl_M_18 (lIa_ok dd45) h (fun v77 h => ?_)
                refine Y.blk (pc' := 123) (L' := [some (.ref a0), some (.int a1), some (.int a2), some (.int a3), some (.int v64)]) (st' := [.int v64, .ref v77]) (sg := [(.iload 4, 0)]) (lSa_ok dd46) rfl ?_
                refine Y.aald (t0 := 4) (lIa_ok dd47) rfl h (fun h => ?_) (fun v78 h => ?_)
                · refine Y.blk (pc' := 127) (L' := [some (.ref a0), some (.int a1), some (.int a2), some (.int a3), some (.int v64)]) (st' := [.int (a3 - a2), .null]) (sg := [(.iload_n 3, 0), (.iload_n 2, 0), (.isub, 0)]) (lSa_ok dd48) rfl ?_
                  cases h
                · refine Y.blk (pc' := 127) (L' := [some (.ref a0), some (.int a1), some (.int a2), some (.int a3), some (.int v64)]) (st' := [.int (a3 - a2), .ref v78]) (sg := [(.iload_n 3, 0), (.iload_n 2, 0), (.isub, 0)]) (lSa_ok dd48) rfl ?_
                  refine Y.putf fl_M_65 (by decide) rfl rfl (lIa_ok dd49) h (fun G79 _ _ h => ?_)
                  refine Y.blk (pc' := 132) (L' := [some (.ref a0), some (.int a1), some (.int a2), some (.int a3), some (.int v64)]) (st' := [.int v64]) (sg := [(.iload 4, 0)]) (lSa_ok dd50) rfl ?_
                  exact Y.iret rfl (lIa_ok dd51) h
          · refine Y.blk (pc' := 74) (L' := [some (.ref a0), some (.int a1), some (.int a2), some (.int a3), none]) (st' := [.int (nI 0)]) (sg := [(.iconst 0, nI 0)]) (lSa_ok dd52) rfl ?_
            exact Y.iret rfl (lIa_ok dd53) h
      · refine Y.blk (pc' := 74) (L' := [some (.ref a0), some (.int a1), some (.int a2), some (.int a3), none]) (st' := [.int (nI 0)]) (sg := [(.iconst 0, nI 0)]) (lSa_ok dd52) rfl ?_
        exact Y.iret rfl (lIa_ok dd53) h
    · refine Y.blk (pc' := 31) (L' := [some (.ref a0), some (.int a1), some (.int a2), some (.int a3), none]) (st' := [.int a1, .ref a0, .int a2, .int a3, .ref a0]) (sg := [(.iload_n 3, 0), (.iload_n 2, 0), (.aload_n 0, 0), (.iload_n 1, 0)]) (lSa_ok dd55) rfl ?_
      obtain ⟨_, o84, e83, m85, h⟩ := gOb_inv h
      refine Y.callI (yC.Vi (b := a0) (As := [.int a1]) (st := [.int a2, .int a3, .ref a0]) (r := ("PartlisterModel", T_M, 9)) hV.1 cb_M_length lk_M_74 in_M_length rfl se_M_length (lIa_ok dd56) rfl rfl (Nat.le_of_ble_eq_true rfl) (by decide) e83 m85) (k_M_length hV G17 a0 a1) h (fun v87 G86 _ h => ?_)
      refine Y.callI (yC.S (As := [.int a3, .int a2, .int v87]) (st := [.ref a0]) hV.1 cb_M_isIn lk_M_40 st_M_isIn (lIa_ok dd57) rfl rfl (Nat.le_of_ble_eq_true rfl) (by decide)) (k_M_isIn hV G86 a3 a2 v87) h (fun v90 G89 _ h => ?_)
      refine Y.if_ne (off := 7) (tgt := 44) (lIa_ok dd58) (by decide) h (fun c219 h => ?_) (fun c219 h => ?_)
      · refine Y.blk (pc' := 41) (L' := [some (.ref a0), some (.int a1), some (.int a2), some (.int a3), none]) (st' := [.int (nI 1), .ref a0]) (sg := [(.iconst 1, nI 1)]) (lSa_ok dd9) rfl ?_
        refine Y.goto (off := 4) (tgt := 45) (lIa_ok dd10) (by decide) ?_
        refine Y.blk (pc' := 46) (L' := [some (.ref a0), some (.int a1), some (.int a2), some (.int a3), none]) (st' := [.int (nI 1), .int (nI 1), .ref a0]) (sg := [(.iconst 1, nI 1)]) (lSa_ok dd11) rfl ?_
        obtain ⟨_, o92, e91, m93, h⟩ := gOb_inv h
        refine Y.callI (yC.Vi (b := a0) (As := [.int (nI 1), .int (nI 1)]) (st := []) (r := ("PartlisterModel", T_M, 9)) hV.1 cb_M_refuse lk_M_36 in_M_refuse rfl se_M_refuse (lIa_ok dd12) rfl rfl (Nat.le_of_ble_eq_true rfl) (by decide) e91 m93) (k_M_refuse hV G89 a0 (nI 1) (nI 1)) h (fun v95 G94 _ h => ?_)
        refine Y.if_ne (off := 24) (tgt := 73) (lIa_ok dd13) (by decide) h (fun c154 h => ?_) (fun c154 h => ?_)
        · refine Y.blk (pc' := 54) (L' := [some (.ref a0), some (.int a1), some (.int a2), some (.int a3), none]) (st' := [.ref a0, .ref a0]) (sg := [(.aload_n 0, 0), (.aload_n 0, 0)]) (lSa_ok dd14) rfl ?_
          obtain ⟨_, o97, e96, m98, h⟩ := gOb_inv h
          refine Y.callI (yC.Vi (b := a0) (As := []) (st := [.ref a0]) (r := ("PartlisterModel", T_M, 9)) hV.1 cb_M_freePart lk_M_197 in_M_freePart rfl se_M_freePart (lIa_ok dd15) rfl rfl (Nat.le_of_ble_eq_true rfl) (by decide) e96 m98) (k_M_freePart hV G94 a0) h (fun v100 G99 _ h => ?_)
          refine Y.blk (pc' := 58) (L' := [some (.ref a0), some (.int a1), some (.int a2), some (.int a3), none]) (st' := [.int (-1), .int v100, .ref a0]) (sg := [(.iconst (-1), -1)]) (lSa_ok dd16) rfl ?_
          refine Y.ic_ne (off := 7) (tgt := 65) (lIa_ok dd17) (by decide) h (fun c153 h => ?_) (fun c153 h => ?_)
          · refine Y.blk (pc' := 62) (L' := [some (.ref a0), some (.int a1), some (.int a2), some (.int a3), none]) (st' := [.int (nI 1), .ref a0]) (sg := [(.iconst 1, nI 1)]) (lSa_ok dd18) rfl ?_
            refine Y.goto (off := 4) (tgt := 66) (lIa_ok dd19) (by decide) ?_
            refine Y.blk (pc' := 67) (L' := [some (.ref a0), some (.int a1), some (.int a2), some (.int a3), none]) (st' := [.int (nI 2), .int (nI 1), .ref a0]) (sg := [(.iconst 2, nI 2)]) (lSa_ok dd20) rfl ?_
            obtain ⟨_, o102, e101, m103, h⟩ := gOb_inv h
            refine Y.callI (yC.Vi (b := a0) (As := [.int (nI 1), .int (nI 2)]) (st := []) (r := ("PartlisterModel", T_M, 9)) hV.1 cb_M_refuse lk_M_36 in_M_refuse rfl se_M_refuse (lIa_ok dd21) rfl rfl (Nat.le_of_ble_eq_true rfl) (by decide) e101 m103) (k_M_refuse hV G99 a0 (nI 1) (nI 2)) h (fun v105 G104 _ h => ?_)
            refine Y.if_eq (off := 5) (tgt := 75) (lIa_ok dd22) (by decide) h (fun c126 h => ?_) (fun c126 h => ?_)
            · refine Y.blk (pc' := 76) (L' := [some (.ref a0), some (.int a1), some (.int a2), some (.int a3), none]) (st' := [.ref a0]) (sg := [(.aload_n 0, 0)]) (lSa_ok dd23) rfl ?_
              obtain ⟨_, o107, e106, m108, h⟩ := gOb_inv h
              refine Y.callI (yC.Vi (b := a0) (As := []) (st := []) (r := ("PartlisterModel", T_M, 9)) hV.1 cb_M_freePart lk_M_197 in_M_freePart rfl se_M_freePart (lIa_ok dd24) rfl rfl (Nat.le_of_ble_eq_true rfl) (by decide) e106 m108) (k_M_freePart hV G104 a0) h (fun v110 G109 _ h => ?_)
              refine Y.blk (pc' := 82) (L' := [some (.ref a0), some (.int a1), some (.int a2), some (.int a3), some (.int v110)]) (st' := [.ref a0]) (sg := [(.istore 4, 0), (.aload_n 0, 0)]) (lSa_ok dd25) rfl ?_
              refine Y.getA fl_M_18 (lIa_ok dd26) h (fun v111 h => ?_)
              refine Y.blk (pc' := 87) (L' := [some (.ref a0), some (.int a1), some (.int a2), some (.int a3), some (.int v110)]) (st' := [.int v110, .ref v111]) (sg := [(.iload 4, 0)]) (lSa_ok dd27) rfl ?_
              refine Y.new nc_M_16 (by decide) bk_MP (lIa_ok dd28) h (fun q112 G113 h => ?_)
              refine Y.blk (pc' := 91) (L' := [some (.ref a0), some (.int a1), some (.int a2), some (.int a3), some (.int v110)]) (st' := [.ref q112, .ref q112, .int v110, .ref v111]) (sg := [(.dup, 0)]) (lSa_ok dd29) rfl ?_
              refine Y.callN (yC.IN (b := q112) (As := []) (st := [.ref q112, .int v110, .ref v111]) hV.1 cb_MP_init lk_M_200 in_MP_init rfl rfl (lIa_ok dd30) rfl rfl (Nat.le_of_ble_eq_true rfl) (by decide)) (k_MP_init hV G113 q112) h (fun G115 _ h => ?_)
              refine Y.aast (t0 := 4) (r := ("PartlisterModel$Part", T_MP, 3)) (lIa_ok dd31) rfl rfl (by decide) h (fun G116 _ _ h => ?_)
              refine Y.blk (pc' := 96) (L' := [some (.ref a0), some (.int a1), some (.int a2), some (.int a3), some (.int v110)]) (st' := [.ref a0]) (sg := [(.aload_n 0, 0)]) (lSa_ok dd32) rfl ?_
              refine Y.getA fl_M_18 (lIa_ok dd33) h (fun v117 h => ?_)
              refine Y.blk (pc' := 101) (L' := [some (.ref a0), some (.int a1), some (.int a2), some (.int a3), some (.int v110)]) (st' := [.int v110, .ref v117]) (sg := [(.iload 4, 0)]) (lSa_ok dd34) rfl ?_
              refine Y.aald (t0 := 4) (lIa_ok dd35) rfl h (fun h => ?_) (fun v118 h => ?_)
              · refine Y.blk (pc' := 103) (L' := [some (.ref a0), some (.int a1), some (.int a2), some (.int a3), some (.int v110)]) (st' := [.int a1, .null]) (sg := [(.iload_n 1, 0)]) (lSa_ok dd36) rfl ?_
                cases h
              · refine Y.blk (pc' := 103) (L' := [some (.ref a0), some (.int a1), some (.int a2), some (.int a3), some (.int v110)]) (st' := [.int a1, .ref v118]) (sg := [(.iload_n 1, 0)]) (lSa_ok dd36) rfl ?_
                refine Y.putf fl_M_44 (by decide) rfl rfl (lIa_ok dd37) h (fun G119 _ _ h => ?_)
                refine Y.blk (pc' := 107) (L' := [some (.ref a0), some (.int a1), some (.int a2), some (.int a3), some (.int v110)]) (st' := [.ref a0]) (sg := [(.aload_n 0, 0)]) (lSa_ok dd38) rfl ?_
                refine Y.getA fl_M_18 (lIa_ok dd39) h (fun v120 h => ?_)
                refine Y.blk (pc' := 112) (L' := [some (.ref a0), some (.int a1), some (.int a2), some (.int a3), some (.int v110)]) (st' := [.int v110, .ref v120]) (sg := [(.iload 4, 0)]) (lSa_ok dd40) rfl ?_
                refine Y.aald (t0 := 4) (lIa_ok dd41) rfl h (fun h => ?_) (fun v121 h => ?_)
                · refine Y.blk (pc' := 114) (L' := [some (.ref a0), some (.int a1), some (.int a2), some (.int a3), some (.int v110)]) (st' := [.int a2, .null]) (sg := [(.iload_n 2, 0)]) (lSa_ok dd42) rfl ?_
                  cases h
                · refine Y.blk (pc' := 114) (L' := [some (.ref a0), some (.int a1), some (.int a2), some (.int a3), some (.int v110)]) (st' := [.int a2, .ref v121]) (sg := [(.iload_n 2, 0)]) (lSa_ok dd42) rfl ?_
                  refine Y.putf fl_M_51 (by decide) rfl rfl (lIa_ok dd43) h (fun G122 _ _ h => ?_)
                  refine Y.blk (pc' := 118) (L' := [some (.ref a0), some (.int a1), some (.int a2), some (.int a3), some (.int v110)]) (st' := [.ref a0]) (sg := [(.aload_n 0, 0)]) (lSa_ok dd44) rfl ?_
                  refine Y.getA fl_M_18 (lIa_ok dd45) h (fun v123 h => ?_)
                  refine Y.blk (pc' := 123) (L' := [some (.ref a0), some (.int a1), some (.int a2), some (.int a3), some (.int v110)]) (st' := [.int v110, .ref v123]) (sg := [(.iload 4, 0)]) (lSa_ok dd46) rfl ?_
                  refine Y.aald (t0 := 4) (lIa_ok dd47) rfl h (fun h => ?_) (fun v124 h => ?_)
                  · refine Y.blk (pc' := 127) (L' := [some (.ref a0), some (.int a1), some (.int a2), some (.int a3), some (.int v110)]) (st' := [.int (a3 - a2), .null]) (sg := [(.iload_n 3, 0), (.iload_n 2, 0), (.isub, 0)]) (lSa_ok dd48) rfl ?_
                    cases h
                  · refine Y.blk (pc' := 127) (L' := [some (.ref a0), some (.int a1), some (.int a2), some (.int a3), some (.int v110)]) (st' := [.int (a3 - a2), .ref v124]) (sg := [(.iload_n 3, 0), (.iload_n 2, 0), (.isub, 0)]) (lSa_ok dd48) rfl ?_
                    refine Y.putf fl_M_65 (by decide) rfl rfl (lIa_ok dd49) h (fun G125 _ _ h => ?_)
                    refine Y.blk (pc' := 132) (L' := [some (.ref a0), some (.int a1), some (.int a2), some (.int a3), some (.int v110)]) (st' := [.int v110]) (sg := [(.iload 4, 0)]) (lSa_ok dd50) rfl ?_
                    exact Y.iret rfl (lIa_ok dd51) h
            · refine Y.blk (pc' := 74) (L' := [some (.ref a0), some (.int a1), some (.int a2), some (.int a3), none]) (st' := [.int (nI 0)]) (sg := [(.iconst 0, nI 0)]) (lSa_ok dd52) rfl ?_
              exact Y.iret rfl (lIa_ok dd53) h
          · refine Y.blk (pc' := 67) (L' := [some (.ref a0), some (.int a1), some (.int a2), some (.int a3), none]) (st' := [.int (nI 2), .int (nI 0), .ref a0]) (sg := [(.iconst 0, nI 0), (.iconst 2, nI 2)]) (lSa_ok dd54) rfl ?_
            obtain ⟨_, o128, e127, m129, h⟩ := gOb_inv h
            refine Y.callI (yC.Vi (b := a0) (As := [.int (nI 0), .int (nI 2)]) (st := []) (r := ("PartlisterModel", T_M, 9)) hV.1 cb_M_refuse lk_M_36 in_M_refuse rfl se_M_refuse (lIa_ok dd21) rfl rfl (Nat.le_of_ble_eq_true rfl) (by decide) e127 m129) (k_M_refuse hV G99 a0 (nI 0) (nI 2)) h (fun v131 G130 _ h => ?_)
            refine Y.if_eq (off := 5) (tgt := 75) (lIa_ok dd22) (by decide) h (fun c152 h => ?_) (fun c152 h => ?_)
            · refine Y.blk (pc' := 76) (L' := [some (.ref a0), some (.int a1), some (.int a2), some (.int a3), none]) (st' := [.ref a0]) (sg := [(.aload_n 0, 0)]) (lSa_ok dd23) rfl ?_
              obtain ⟨_, o133, e132, m134, h⟩ := gOb_inv h
              refine Y.callI (yC.Vi (b := a0) (As := []) (st := []) (r := ("PartlisterModel", T_M, 9)) hV.1 cb_M_freePart lk_M_197 in_M_freePart rfl se_M_freePart (lIa_ok dd24) rfl rfl (Nat.le_of_ble_eq_true rfl) (by decide) e132 m134) (k_M_freePart hV G130 a0) h (fun v136 G135 _ h => ?_)
              refine Y.blk (pc' := 82) (L' := [some (.ref a0), some (.int a1), some (.int a2), some (.int a3), some (.int v136)]) (st' := [.ref a0]) (sg := [(.istore 4, 0), (.aload_n 0, 0)]) (lSa_ok dd25) rfl ?_
              refine Y.getA fl_M_18 (lIa_ok dd26) h (fun v137 h => ?_)
              refine Y.blk (pc' := 87) (L' := [some (.ref a0), some (.int a1), some (.int a2), some (.int a3), some (.int v136)]) (st' := [.int v136, .ref v137]) (sg := [(.iload 4, 0)]) (lSa_ok dd27) rfl ?_
              refine Y.new nc_M_16 (by decide) bk_MP (lIa_ok dd28) h (fun q138 G139 h => ?_)
              refine Y.blk (pc' := 91) (L' := [some (.ref a0), some (.int a1), some (.int a2), some (.int a3), some (.int v136)]) (st' := [.ref q138, .ref q138, .int v136, .ref v137]) (sg := [(.dup, 0)]) (lSa_ok dd29) rfl ?_
              refine Y.callN (yC.IN (b := q138) (As := []) (st := [.ref q138, .int v136, .ref v137]) hV.1 cb_MP_init lk_M_200 in_MP_init rfl rfl (lIa_ok dd30) rfl rfl (Nat.le_of_ble_eq_true rfl) (by decide)) (k_MP_init hV G139 q138) h (fun G141 _ h => ?_)
              refine Y.aast (t0 := 4) (r := ("PartlisterModel$Part", T_MP, 3)) (lIa_ok dd31) rfl rfl (by decide) h (fun G142 _ _ h => ?_)
              refine Y.blk (pc' := 96) (L' := [some (.ref a0), some (.int a1), some (.int a2), some (.int a3), some (.int v136)]) (st' := [.ref a0]) (sg := [(.aload_n 0, 0)]) (lSa_ok dd32) rfl ?_
              refine Y.getA fl_M_18 (lIa_ok dd33) h (fun v143 h => ?_)
              refine Y.blk (pc' := 101) (L' := [some (.ref a0), some (.int a1), some (.int a2), some (.int a3), some (.int v136)]) (st' := [.int v136, .ref v143]) (sg := [(.iload 4, 0)]) (lSa_ok dd34) rfl ?_
              refine Y.aald (t0 := 4) (lIa_ok dd35) rfl h (fun h => ?_) (fun v144 h => ?_)
              · refine Y.blk (pc' := 103) (L' := [some (.ref a0), some (.int a1), some (.int a2), some (.int a3), some (.int v136)]) (st' := [.int a1, .null]) (sg := [(.iload_n 1, 0)]) (lSa_ok dd36) rfl ?_
                cases h
              · refine Y.blk (pc' := 103) (L' := [some (.ref a0), some (.int a1), some (.int a2), some (.int a3), some (.int v136)]) (st' := [.int a1, .ref v144]) (sg := [(.iload_n 1, 0)]) (lSa_ok dd36) rfl ?_
                refine Y.putf fl_M_44 (by decide) rfl rfl (lIa_ok dd37) h (fun G145 _ _ h => ?_)
                refine Y.blk (pc' := 107) (L' := [some (.ref a0), some (.int a1), some (.int a2), some (.int a3), some (.int v136)]) (st' := [.ref a0]) (sg := [(.aload_n 0, 0)]) (lSa_ok dd38) rfl ?_
                refine Y.getA fl_M_18 (lIa_ok dd39) h (fun v146 h => ?_)
                refine Y.blk (pc' := 112) (L' := [some (.ref a0), some (.int a1), some (.int a2), some (.int a3), some (.int v136)]) (st' := [.int v136, .ref v146]) (sg := [(.iload 4, 0)]) (lSa_ok dd40) rfl ?_
                refine Y.aald (t0 := 4) (lIa_ok dd41) rfl h (fun h => ?_) (fun v147 h => ?_)
                · refine Y.blk (pc' := 114) (L' := [some (.ref a0), some (.int a1), some (.int a2), some (.int a3), some (.int v136)]) (st' := [.int a2, .null]) (sg := [(.iload_n 2, 0)]) (lSa_ok dd42) rfl ?_
                  cases h
                · refine Y.blk (pc' := 114) (L' := [some (.ref a0), some (.int a1), some (.int a2), some (.int a3), some (.int v136)]) (st' := [.int a2, .ref v147]) (sg := [(.iload_n 2, 0)]) (lSa_ok dd42) rfl ?_
                  refine Y.putf fl_M_51 (by decide) rfl rfl (lIa_ok dd43) h (fun G148 _ _ h => ?_)
                  refine Y.blk (pc' := 118) (L' := [some (.ref a0), some (.int a1), some (.int a2), some (.int a3), some (.int v136)]) (st' := [.ref a0]) (sg := [(.aload_n 0, 0)]) (lSa_ok dd44) rfl ?_
                  refine Y.getA fl_M_18 (lIa_ok dd45) h (fun v149 h => ?_)
                  refine Y.blk (pc' := 123) (L' := [some (.ref a0), some (.int a1), some (.int a2), some (.int a3), some (.int v136)]) (st' := [.int v136, .ref v149]) (sg := [(.iload 4, 0)]) (lSa_ok dd46) rfl ?_
                  refine Y.aald (t0 := 4) (lIa_ok dd47) rfl h (fun h => ?_) (fun v150 h => ?_)
                  · refine Y.blk (pc' := 127) (L' := [some (.ref a0), some (.int a1), some (.int a2), some (.int a3), some (.int v136)]) (st' := [.int (a3 - a2), .null]) (sg := [(.iload_n 3, 0), (.iload_n 2, 0), (.isub, 0)]) (lSa_ok dd48) rfl ?_
                    cases h
                  · refine Y.blk (pc' := 127) (L' := [some (.ref a0), some (.int a1), some (.int a2), some (.int a3), some (.int v136)]) (st' := [.int (a3 - a2), .ref v150]) (sg := [(.iload_n 3, 0), (.iload_n 2, 0), (.isub, 0)]) (lSa_ok dd48) rfl ?_
                    refine Y.putf fl_M_65 (by decide) rfl rfl (lIa_ok dd49) h (fun G151 _ _ h => ?_)
                    refine Y.blk (pc' := 132) (L' := [some (.ref a0), some (.int a1), some (.int a2), some (.int a3), some (.int v136)]) (st' := [.int v136]) (sg := [(.iload 4, 0)]) (lSa_ok dd50) rfl ?_
                    exact Y.iret rfl (lIa_ok dd51) h
            · refine Y.blk (pc' := 74) (L' := [some (.ref a0), some (.int a1), some (.int a2), some (.int a3), none]) (st' := [.int (nI 0)]) (sg := [(.iconst 0, nI 0)]) (lSa_ok dd52) rfl ?_
              exact Y.iret rfl (lIa_ok dd53) h
        · refine Y.blk (pc' := 74) (L' := [some (.ref a0), some (.int a1), some (.int a2), some (.int a3), none]) (st' := [.int (nI 0)]) (sg := [(.iconst 0, nI 0)]) (lSa_ok dd52) rfl ?_
          exact Y.iret rfl (lIa_ok dd53) h
      · refine Y.blk (pc' := 46) (L' := [some (.ref a0), some (.int a1), some (.int a2), some (.int a3), none]) (st' := [.int (nI 1), .int (nI 0), .ref a0]) (sg := [(.iconst 0, nI 0), (.iconst 1, nI 1)]) (lSa_ok dd59) rfl ?_
        obtain ⟨_, o156, e155, m157, h⟩ := gOb_inv h
        refine Y.callI (yC.Vi (b := a0) (As := [.int (nI 0), .int (nI 1)]) (st := []) (r := ("PartlisterModel", T_M, 9)) hV.1 cb_M_refuse lk_M_36 in_M_refuse rfl se_M_refuse (lIa_ok dd12) rfl rfl (Nat.le_of_ble_eq_true rfl) (by decide) e155 m157) (k_M_refuse hV G89 a0 (nI 0) (nI 1)) h (fun v159 G158 _ h => ?_)
        refine Y.if_ne (off := 24) (tgt := 73) (lIa_ok dd13) (by decide) h (fun c218 h => ?_) (fun c218 h => ?_)
        · refine Y.blk (pc' := 54) (L' := [some (.ref a0), some (.int a1), some (.int a2), some (.int a3), none]) (st' := [.ref a0, .ref a0]) (sg := [(.aload_n 0, 0), (.aload_n 0, 0)]) (lSa_ok dd14) rfl ?_
          obtain ⟨_, o161, e160, m162, h⟩ := gOb_inv h
          refine Y.callI (yC.Vi (b := a0) (As := []) (st := [.ref a0]) (r := ("PartlisterModel", T_M, 9)) hV.1 cb_M_freePart lk_M_197 in_M_freePart rfl se_M_freePart (lIa_ok dd15) rfl rfl (Nat.le_of_ble_eq_true rfl) (by decide) e160 m162) (k_M_freePart hV G158 a0) h (fun v164 G163 _ h => ?_)
          refine Y.blk (pc' := 58) (L' := [some (.ref a0), some (.int a1), some (.int a2), some (.int a3), none]) (st' := [.int (-1), .int v164, .ref a0]) (sg := [(.iconst (-1), -1)]) (lSa_ok dd16) rfl ?_
          refine Y.ic_ne (off := 7) (tgt := 65) (lIa_ok dd17) (by decide) h (fun c217 h => ?_) (fun c217 h => ?_)
          · refine Y.blk (pc' := 62) (L' := [some (.ref a0), some (.int a1), some (.int a2), some (.int a3), none]) (st' := [.int (nI 1), .ref a0]) (sg := [(.iconst 1, nI 1)]) (lSa_ok dd18) rfl ?_
            refine Y.goto (off := 4) (tgt := 66) (lIa_ok dd19) (by decide) ?_
            refine Y.blk (pc' := 67) (L' := [some (.ref a0), some (.int a1), some (.int a2), some (.int a3), none]) (st' := [.int (nI 2), .int (nI 1), .ref a0]) (sg := [(.iconst 2, nI 2)]) (lSa_ok dd20) rfl ?_
            obtain ⟨_, o166, e165, m167, h⟩ := gOb_inv h
            refine Y.callI (yC.Vi (b := a0) (As := [.int (nI 1), .int (nI 2)]) (st := []) (r := ("PartlisterModel", T_M, 9)) hV.1 cb_M_refuse lk_M_36 in_M_refuse rfl se_M_refuse (lIa_ok dd21) rfl rfl (Nat.le_of_ble_eq_true rfl) (by decide) e165 m167) (k_M_refuse hV G163 a0 (nI 1) (nI 2)) h (fun v169 G168 _ h => ?_)
            refine Y.if_eq (off := 5) (tgt := 75) (lIa_ok dd22) (by decide) h (fun c190 h => ?_) (fun c190 h => ?_)
            · refine Y.blk (pc' := 76) (L' := [some (.ref a0), some (.int a1), some (.int a2), some (.int a3), none]) (st' := [.ref a0]) (sg := [(.aload_n 0, 0)]) (lSa_ok dd23) rfl ?_
              obtain ⟨_, o171, e170, m172, h⟩ := gOb_inv h
              refine Y.callI (yC.Vi (b := a0) (As := []) (st := []) (r := ("PartlisterModel", T_M, 9)) hV.1 cb_M_freePart lk_M_197 in_M_freePart rfl se_M_freePart (lIa_ok dd24) rfl rfl (Nat.le_of_ble_eq_true rfl) (by decide) e170 m172) (k_M_freePart hV G168 a0) h (fun v174 G173 _ h => ?_)
              refine Y.blk (pc' := 82) (L' := [some (.ref a0), some (.int a1), some (.int a2), some (.int a3), some (.int v174)]) (st' := [.ref a0]) (sg := [(.istore 4, 0), (.aload_n 0, 0)]) (lSa_ok dd25) rfl ?_
              refine Y.getA fl_M_18 (lIa_ok dd26) h (fun v175 h => ?_)
              refine Y.blk (pc' := 87) (L' := [some (.ref a0), some (.int a1), some (.int a2), some (.int a3), some (.int v174)]) (st' := [.int v174, .ref v175]) (sg := [(.iload 4, 0)]) (lSa_ok dd27) rfl ?_
              refine Y.new nc_M_16 (by decide) bk_MP (lIa_ok dd28) h (fun q176 G177 h => ?_)
              refine Y.blk (pc' := 91) (L' := [some (.ref a0), some (.int a1), some (.int a2), some (.int a3), some (.int v174)]) (st' := [.ref q176, .ref q176, .int v174, .ref v175]) (sg := [(.dup, 0)]) (lSa_ok dd29) rfl ?_
              refine Y.callN (yC.IN (b := q176) (As := []) (st := [.ref q176, .int v174, .ref v175]) hV.1 cb_MP_init lk_M_200 in_MP_init rfl rfl (lIa_ok dd30) rfl rfl (Nat.le_of_ble_eq_true rfl) (by decide)) (k_MP_init hV G177 q176) h (fun G179 _ h => ?_)
              refine Y.aast (t0 := 4) (r := ("PartlisterModel$Part", T_MP, 3)) (lIa_ok dd31) rfl rfl (by decide) h (fun G180 _ _ h => ?_)
              refine Y.blk (pc' := 96) (L' := [some (.ref a0), some (.int a1), some (.int a2), some (.int a3), some (.int v174)]) (st' := [.ref a0]) (sg := [(.aload_n 0, 0)]) (lSa_ok dd32) rfl ?_
              refine Y.getA fl_M_18 (lIa_ok dd33) h (fun v181 h => ?_)
              refine Y.blk (pc' := 101) (L' := [some (.ref a0), some (.int a1), some (.int a2), some (.int a3), some (.int v174)]) (st' := [.int v174, .ref v181]) (sg := [(.iload 4, 0)]) (lSa_ok dd34) rfl ?_
              refine Y.aald (t0 := 4) (lIa_ok dd35) rfl h (fun h => ?_) (fun v182 h => ?_)
              · refine Y.blk (pc' := 103) (L' := [some (.ref a0), some (.int a1), some (.int a2), some (.int a3), some (.int v174)]) (st' := [.int a1, .null]) (sg := [(.iload_n 1, 0)]) (lSa_ok dd36) rfl ?_
                cases h
              · refine Y.blk (pc' := 103) (L' := [some (.ref a0), some (.int a1), some (.int a2), some (.int a3), some (.int v174)]) (st' := [.int a1, .ref v182]) (sg := [(.iload_n 1, 0)]) (lSa_ok dd36) rfl ?_
                refine Y.putf fl_M_44 (by decide) rfl rfl (lIa_ok dd37) h (fun G183 _ _ h => ?_)
                refine Y.blk (pc' := 107) (L' := [some (.ref a0), some (.int a1), some (.int a2), some (.int a3), some (.int v174)]) (st' := [.ref a0]) (sg := [(.aload_n 0, 0)]) (lSa_ok dd38) rfl ?_
                refine Y.getA fl_M_18 (lIa_ok dd39) h (fun v184 h => ?_)
                refine Y.blk (pc' := 112) (L' := [some (.ref a0), some (.int a1), some (.int a2), some (.int a3), some (.int v174)]) (st' := [.int v174, .ref v184]) (sg := [(.iload 4, 0)]) (lSa_ok dd40) rfl ?_
                refine Y.aald (t0 := 4) (lIa_ok dd41) rfl h (fun h => ?_) (fun v185 h => ?_)
                · refine Y.blk (pc' := 114) (L' := [some (.ref a0), some (.int a1), some (.int a2), some (.int a3), some (.int v174)]) (st' := [.int a2, .null]) (sg := [(.iload_n 2, 0)]) (lSa_ok dd42) rfl ?_
                  cases h
                · refine Y.blk (pc' := 114) (L' := [some (.ref a0), some (.int a1), some (.int a2), some (.int a3), some (.int v174)]) (st' := [.int a2, .ref v185]) (sg := [(.iload_n 2, 0)]) (lSa_ok dd42) rfl ?_
                  refine Y.putf fl_M_51 (by decide) rfl rfl (lIa_ok dd43) h (fun G186 _ _ h => ?_)
                  refine Y.blk (pc' := 118) (L' := [some (.ref a0), some (.int a1), some (.int a2), some (.int a3), some (.int v174)]) (st' := [.ref a0]) (sg := [(.aload_n 0, 0)]) (lSa_ok dd44) rfl ?_
                  refine Y.getA fl_M_18 (lIa_ok dd45) h (fun v187 h => ?_)
                  refine Y.blk (pc' := 123) (L' := [some (.ref a0), some (.int a1), some (.int a2), some (.int a3), some (.int v174)]) (st' := [.int v174, .ref v187]) (sg := [(.iload 4, 0)]) (lSa_ok dd46) rfl ?_
                  refine Y.aald (t0 := 4) (lIa_ok dd47) rfl h (fun h => ?_) (fun v188 h => ?_)
                  · refine Y.blk (pc' := 127) (L' := [some (.ref a0), some (.int a1), some (.int a2), some (.int a3), some (.int v174)]) (st' := [.int (a3 - a2), .null]) (sg := [(.iload_n 3, 0), (.iload_n 2, 0), (.isub, 0)]) (lSa_ok dd48) rfl ?_
                    cases h
                  · refine Y.blk (pc' := 127) (L' := [some (.ref a0), some (.int a1), some (.int a2), some (.int a3), some (.int v174)]) (st' := [.int (a3 - a2), .ref v188]) (sg := [(.iload_n 3, 0), (.iload_n 2, 0), (.isub, 0)]) (lSa_ok dd48) rfl ?_
                    refine Y.putf fl_M_65 (by decide) rfl rfl (lIa_ok dd49) h (fun G189 _ _ h => ?_)
                    refine Y.blk (pc' := 132) (L' := [some (.ref a0), some (.int a1), some (.int a2), some (.int a3), some (.int v174)]) (st' := [.int v174]) (sg := [(.iload 4, 0)]) (lSa_ok dd50) rfl ?_
                    exact Y.iret rfl (lIa_ok dd51) h
            · refine Y.blk (pc' := 74) (L' := [some (.ref a0), some (.int a1), some (.int a2), some (.int a3), none]) (st' := [.int (nI 0)]) (sg := [(.iconst 0, nI 0)]) (lSa_ok dd52) rfl ?_
              exact Y.iret rfl (lIa_ok dd53) h
          · refine Y.blk (pc' := 67) (L' := [some (.ref a0), some (.int a1), some (.int a2), some (.int a3), none]) (st' := [.int (nI 2), .int (nI 0), .ref a0]) (sg := [(.iconst 0, nI 0), (.iconst 2, nI 2)]) (lSa_ok dd54) rfl ?_
            obtain ⟨_, o192, e191, m193, h⟩ := gOb_inv h
            refine Y.callI (yC.Vi (b := a0) (As := [.int (nI 0), .int (nI 2)]) (st := []) (r := ("PartlisterModel", T_M, 9)) hV.1 cb_M_refuse lk_M_36 in_M_refuse rfl se_M_refuse (lIa_ok dd21) rfl rfl (Nat.le_of_ble_eq_true rfl) (by decide) e191 m193) (k_M_refuse hV G163 a0 (nI 0) (nI 2)) h (fun v195 G194 _ h => ?_)
            refine Y.if_eq (off := 5) (tgt := 75) (lIa_ok dd22) (by decide) h (fun c216 h => ?_) (fun c216 h => ?_)
            · refine Y.blk (pc' := 76) (L' := [some (.ref a0), some (.int a1), some (.int a2), some (.int a3), none]) (st' := [.ref a0]) (sg := [(.aload_n 0, 0)]) (lSa_ok dd23) rfl ?_
              obtain ⟨_, o197, e196, m198, h⟩ := gOb_inv h
              refine Y.callI (yC.Vi (b := a0) (As := []) (st := []) (r := ("PartlisterModel", T_M, 9)) hV.1 cb_M_freePart lk_M_197 in_M_freePart rfl se_M_freePart (lIa_ok dd24) rfl rfl (Nat.le_of_ble_eq_true rfl) (by decide) e196 m198) (k_M_freePart hV G194 a0) h (fun v200 G199 _ h => ?_)
              refine Y.blk (pc' := 82) (L' := [some (.ref a0), some (.int a1), some (.int a2), some (.int a3), some (.int v200)]) (st' := [.ref a0]) (sg := [(.istore 4, 0), (.aload_n 0, 0)]) (lSa_ok dd25) rfl ?_
              refine Y.getA fl_M_18 (lIa_ok dd26) h (fun v201 h => ?_)
              refine Y.blk (pc' := 87) (L' := [some (.ref a0), some (.int a1), some (.int a2), some (.int a3), some (.int v200)]) (st' := [.int v200, .ref v201]) (sg := [(.iload 4, 0)]) (lSa_ok dd27) rfl ?_
              refine Y.new nc_M_16 (by decide) bk_MP (lIa_ok dd28) h (fun q202 G203 h => ?_)
              refine Y.blk (pc' := 91) (L' := [some (.ref a0), some (.int a1), some (.int a2), some (.int a3), some (.int v200)]) (st' := [.ref q202, .ref q202, .int v200, .ref v201]) (sg := [(.dup, 0)]) (lSa_ok dd29) rfl ?_
              refine Y.callN (yC.IN (b := q202) (As := []) (st := [.ref q202, .int v200, .ref v201]) hV.1 cb_MP_init lk_M_200 in_MP_init rfl rfl (lIa_ok dd30) rfl rfl (Nat.le_of_ble_eq_true rfl) (by decide)) (k_MP_init hV G203 q202) h (fun G205 _ h => ?_)
              refine Y.aast (t0 := 4) (r := ("PartlisterModel$Part", T_MP, 3)) (lIa_ok dd31) rfl rfl (by decide) h (fun G206 _ _ h => ?_)
              refine Y.blk (pc' := 96) (L' := [some (.ref a0), some (.int a1), some (.int a2), some (.int a3), some (.int v200)]) (st' := [.ref a0]) (sg := [(.aload_n 0, 0)]) (lSa_ok dd32) rfl ?_
              refine Y.getA fl_M_18 (lIa_ok dd33) h (fun v207 h => ?_)
              refine Y.blk (pc' := 101) (L' := [some (.ref a0), some (.int a1), some (.int a2), some (.int a3), some (.int v200)]) (st' := [.int v200, .ref v207]) (sg := [(.iload 4, 0)]) (lSa_ok dd34) rfl ?_
              refine Y.aald (t0 := 4) (lIa_ok dd35) rfl h (fun h => ?_) (fun v208 h => ?_)
              · refine Y.blk (pc' := 103) (L' := [some (.ref a0), some (.int a1), some (.int a2), some (.int a3), some (.int v200)]) (st' := [.int a1, .null]) (sg := [(.iload_n 1, 0)]) (lSa_ok dd36) rfl ?_
                cases h
              · refine Y.blk (pc' := 103) (L' := [some (.ref a0), some (.int a1), some (.int a2), some (.int a3), some (.int v200)]) (st' := [.int a1, .ref v208]) (sg := [(.iload_n 1, 0)]) (lSa_ok dd36) rfl ?_
                refine Y.putf fl_M_44 (by decide) rfl rfl (lIa_ok dd37) h (fun G209 _ _ h => ?_)
                refine Y.blk (pc' := 107) (L' := [some (.ref a0), some (.int a1), some (.int a2), some (.int a3), some (.int v200)]) (st' := [.ref a0]) (sg := [(.aload_n 0, 0)]) (lSa_ok dd38) rfl ?_
                refine Y.getA fl_M_18 (lIa_ok dd39) h (fun v210 h => ?_)
                refine Y.blk (pc' := 112) (L' := [some (.ref a0), some (.int a1), some (.int a2), some (.int a3), some (.int v200)]) (st' := [.int v200, .ref v210]) (sg := [(.iload 4, 0)]) (lSa_ok dd40) rfl ?_
                refine Y.aald (t0 := 4) (lIa_ok dd41) rfl h (fun h => ?_) (fun v211 h => ?_)
                · refine Y.blk (pc' := 114) (L' := [some (.ref a0), some (.int a1), some (.int a2), some (.int a3), some (.int v200)]) (st' := [.int a2, .null]) (sg := [(.iload_n 2, 0)]) (lSa_ok dd42) rfl ?_
                  cases h
                · refine Y.blk (pc' := 114) (L' := [some (.ref a0), some (.int a1), some (.int a2), some (.int a3), some (.int v200)]) (st' := [.int a2, .ref v211]) (sg := [(.iload_n 2, 0)]) (lSa_ok dd42) rfl ?_
                  refine Y.putf fl_M_51 (by decide) rfl rfl (lIa_ok dd43) h (fun G212 _ _ h => ?_)
                  refine Y.blk (pc' := 118) (L' := [some (.ref a0), some (.int a1), some (.int a2), some (.int a3), some (.int v200)]) (st' := [.ref a0]) (sg := [(.aload_n 0, 0)]) (lSa_ok dd44) rfl ?_
                  refine Y.getA fl_M_18 (lIa_ok dd45) h (fun v213 h => ?_)
                  refine Y.blk (pc' := 123) (L' := [some (.ref a0), some (.int a1), some (.int a2), some (.int a3), some (.int v200)]) (st' := [.int v200, .ref v213]) (sg := [(.iload 4, 0)]) (lSa_ok dd46) rfl ?_
                  refine Y.aald (t0 := 4) (lIa_ok dd47) rfl h (fun h => ?_) (fun v214 h => ?_)
                  · refine Y.blk (pc' := 127) (L' := [some (.ref a0), some (.int a1), some (.int a2), some (.int a3), some (.int v200)]) (st' := [.int (a3 - a2), .null]) (sg := [(.iload_n 3, 0), (.iload_n 2, 0), (.isub, 0)]) (lSa_ok dd48) rfl ?_
                    cases h
                  · refine Y.blk (pc' := 127) (L' := [some (.ref a0), some (.int a1), some (.int a2), some (.int a3), some (.int v200)]) (st' := [.int (a3 - a2), .ref v214]) (sg := [(.iload_n 3, 0), (.iload_n 2, 0), (.isub, 0)]) (lSa_ok dd48) rfl ?_
                    refine Y.putf fl_M_65 (by decide) rfl rfl (lIa_ok dd49) h (fun G215 _ _ h => ?_)
                    refine Y.blk (pc' := 132) (L' := [some (.ref a0), some (.int a1), some (.int a2), some (.int a3), some (.int v200)]) (st' := [.int v200]) (sg := [(.iload 4, 0)]) (lSa_ok dd50) rfl ?_
                    exact Y.iret rfl (lIa_ok dd51) h
            · refine Y.blk (pc' := 74) (L' := [some (.ref a0), some (.int a1), some (.int a2), some (.int a3), none]) (st' := [.int (nI 0)]) (sg := [(.iconst 0, nI 0)]) (lSa_ok dd52) rfl ?_
              exact Y.iret rfl (lIa_ok dd53) h
        · refine Y.blk (pc' := 74) (L' := [some (.ref a0), some (.int a1), some (.int a2), some (.int a3), none]) (st' := [.int (nI 0)]) (sg := [(.iconst 0, nI 0)]) (lSa_ok dd52) rfl ?_
          exact Y.iret rfl (lIa_ok dd53) h
  · refine Y.blk (pc' := 74) (L' := [some (.ref a0), some (.int a1), some (.int a2), some (.int a3), none]) (st' := [.int (nI 0)]) (sg := [(.iconst 0, nI 0)]) (lSa_ok dd52) rfl ?_
    exact Y.iret rfl (lIa_ok dd53) h
