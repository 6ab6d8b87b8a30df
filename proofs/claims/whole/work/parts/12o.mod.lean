def f_M_retainAll (G : gH) (a0 : Nat) (a1 : Int32) (a2 : Int32) : gR :=
  gOb G a0 6 fun o2 => bI (f_M_areOne G a0 a1 a2) fun v5 G4 => if v5 = 0 then gOb G4 a0 6 fun o7 => bA (f_M_keys G4 a0 a2 (nI 0)) fun v10 G9 => gOb G9 a0 6 fun o12 => bI (f_M_takeAll G9 a0 a1 v10) fun v15 G14 => rI v15 G14
  else rI (nI 0) G4
theorem k_M_retainAll {l : Launch} {D : va_G} {B : Nat} {O : State → Heap → Prop} (hV : zG l D B O) (G : gH) (a0 : Nat) (a1 : Int32) (a2 : Int32) : gMet (zVm l D B O) m_M_retainAll 15 [.ref a0, .int a1, .int a2] G (f_M_retainAll G a0 a1 a2) := by
  have hdd : lSa m_M_retainAll 0 [(.aload_n 0, 0), (.iload_n 1, 0), (.iload_n 2, 0)] = true ∧ lIa m_M_retainAll 3 (.invokevirtual 166) 3 = true ∧ lIa m_M_retainAll 6 (.ifCond .eq 7) 3 = true ∧ lSa m_M_retainAll 13 [(.aload_n 0, 0), (.iload_n 1, 0), (.aload_n 0, 0), (.iload_n 2, 0), (.iconst 0, nI 0)] = true ∧ lIa m_M_retainAll 18 (.invokevirtual 169) 3 = true ∧ lIa m_M_retainAll 21 (.invokevirtual 173) 3 = true ∧ lIa m_M_retainAll 24 (.ireturn) 1 = true ∧ lSa m_M_retainAll 9 [(.iconst 0, nI 0)] = true ∧ lIa m_M_retainAll 10 (.goto 14) 3 = true := by decide +kernel
  refine lA8 hdd (fun dd0 dd1 dd2 dd3 dd4 dd5 dd6 dd7 hdd => ?_)
  have dd8 := hdd
  refine gMet.of (by decide +kernel) (Nat.le_of_ble_eq_true rfl) [some (.ref a0), some (.int a1), some (.int a2)] (fun ls h => zEn_ok (n := 3) h) ?_
  intro o Gf h
  unfold f_M_retainAll at h
  refine Y.blk (pc' := 3) (L' := [some (.ref a0), some (.int a1), some (.int a2)]) (st' := [.int a2, .int a1, .ref a0]) (sg := [(.aload_n 0, 0), (.iload_n 1, 0), (.iload_n 2, 0)]) (lSa_ok dd0) rfl ?_
  obtain ⟨_, o2, e1, m3, h⟩ := gOb_inv h
  refine Y.callI (yC.Vi (b := a0) (As := [.int a1, .int a2]) (st := []) (r := ("PartlisterModel", T_M, 9)) hV.1 cb_M_areOne lk_M_166 in_M_areOne rfl se_M_areOne (lIa_ok dd1) rfl rfl (Nat.le_of_ble_eq_true rfl) (by decide) e1 m3) (k_M_areOne hV G a0 a1 a2) h (fun v5 G4 _ h => ?_)
  refine Y.if_eq (off := 7) (tgt := 13) (lIa_ok dd2) (by decide) h (fun c16 h => ?_) (fun c16 h => ?_)
  · refine Y.blk (pc' := 18) (L' := [some (.ref a0), some (.int a1), some (.int a2)]) (st' := [.int (nI 0), .int a2, .ref a0, .int a1, .ref a0]) (sg := [(.aload_n 0, 0), (.iload_n 1, 0), (.aload_n 0, 0), (.iload_n 2, 0), (.iconst 0, nI 0)]) (lSa_ok dd3) rfl ?_
    obtain ⟨_, o7, e6, m8, h⟩ := gOb_inv h
    refine Y.callA (yC.Vi (b := a0) (As := [.int a2, .int (nI 0)]) (st := [.int a1, .ref a0]) (r := ("PartlisterModel", T_M, 9)) hV.1 cb_M_keys lk_M_169 in_M_keys rfl se_M_keys (lIa_ok dd4) rfl rfl (Nat.le_of_ble_eq_true rfl) (by decide) e6 m8) (k_M_keys hV G4 a0 a2 (nI 0)) h (fun v10 G9 _ h => ?_)
    obtain ⟨_, o12, e11, m13, h⟩ := gOb_inv h
    refine Y.callI (yC.Vi (b := a0) (As := [.int a1, .ref v10]) (st := []) (r := ("PartlisterModel", T_M, 9)) hV.1 cb_M_takeAll lk_M_173 in_M_takeAll rfl se_M_takeAll (lIa_ok dd5) rfl rfl (Nat.le_of_ble_eq_true rfl) (by decide) e11 m13) (k_M_takeAll hV G9 a0 a1 v10) h (fun v15 G14 _ h => ?_)
    exact Y.iret rfl (lIa_ok dd6) h
  · refine Y.blk (pc' := 10) (L' := [some (.ref a0), some (.int a1), some (.int a2)]) (st' := [.int (nI 0)]) (sg := [(.iconst 0, nI 0)]) (lSa_ok dd7) rfl ?_
    refine Y.goto (off := 14) (tgt := 24) (lIa_ok dd8) (by decide) ?_
    exact Y.iret rfl (lIa_ok dd6) h

def f_M_run (G : gH) (a0 : Nat) (a1 : Int32) (a2 : Int32) : gR :=
  gOb G a0 6 fun o2 => bI (f_M_isNoCursor G a0 a1) fun v5 G4 => gOb G4 a0 6 fun o7 => bI (f_M_start G4 a0 v5 (nI 1)) fun v10 G9 => if v10 = 0 then (gFA G9 a0 6 3 fun v11 => gLdq G9 v11 105 a1 (none) fun v12 => gFI G9 v12 4 3 fun v13 => if v13 = 0 then (if a2 = 0 then (gFI G9 v12 4 0 fun v14 => gOb G9 a0 6 fun o16 => bI (f_M_length G9 a0 v14) fun v19 G18 => gFI G18 v12 4 1 fun v20 => if (v19 - v20) ≤ 0 then (if a2 = 0 then gFI G18 v12 4 0 fun v21 => gOb G18 a0 6 fun o23 => bI (f_M_length G18 a0 v21) fun v26 G25 => gPut G25 v12 4 1 (.int v26) fun G27 => rI (v19 - v20) G27
            else gPut G18 v12 4 1 (.int (nI 0)) fun G28 => rI (v19 - v20) G28)
          else if a2 = 0 then (gFI G18 v12 4 0 fun v30 => gOb G18 a0 6 fun o32 => bI (f_M_length G18 a0 v30) fun v35 G34 => gPut G34 v12 4 2 (.int (v35 - (nI 1))) fun G36 => if a2 = 0 then gFI G36 v12 4 0 fun v37 => gOb G36 a0 6 fun o39 => bI (f_M_length G36 a0 v37) fun v42 G41 => gPut G41 v12 4 1 (.int v42) fun G43 => rI (v19 - v20) G43
              else gPut G36 v12 4 1 (.int (nI 0)) fun G44 => rI (v19 - v20) G44)
            else gPut G18 v12 4 2 (.int (nI 0)) fun G46 => if a2 = 0 then gFI G46 v12 4 0 fun v47 => gOb G46 a0 6 fun o49 => bI (f_M_length G46 a0 v47) fun v52 G51 => gPut G51 v12 4 1 (.int v52) fun G53 => rI (v19 - v20) G53
              else gPut G46 v12 4 1 (.int (nI 0)) fun G54 => rI (v19 - v20) G54)
        else gFI G9 v12 4 1 fun v58 => if v58 ≤ 0 then (if a2 = 0 then gFI G9 v12 4 0 fun v59 => gOb G9 a0 6 fun o61 => bI (f_M_length G9 a0 v59) fun v64 G63 => gPut G63 v12 4 1 (.int v64) fun G65 => rI v58 G65
            else gPut G9 v12 4 1 (.int (nI 0)) fun G66 => rI v58 G66)
          else if a2 = 0 then (gFI G9 v12 4 0 fun v68 => gOb G9 a0 6 fun o70 => bI (f_M_length G9 a0 v68) fun v73 G72 => gPut G72 v12 4 2 (.int (v73 - (nI 1))) fun G74 => if a2 = 0 then gFI G74 v12 4 0 fun v75 => gOb G74 a0 6 fun o77 => bI (f_M_length G74 a0 v75) fun v80 G79 => gPut G79 v12 4 1 (.int v80) fun G81 => rI v58 G81
              else gPut G74 v12 4 1 (.int (nI 0)) fun G82 => rI v58 G82)
            else gPut G9 v12 4 2 (.int (nI 0)) fun G84 => if a2 = 0 then gFI G84 v12 4 0 fun v85 => gOb G84 a0 6 fun o87 => bI (f_M_length G84 a0 v85) fun v90 G89 => gPut G89 v12 4 1 (.int v90) fun G91 => rI v58 G91
              else gPut G84 v12 4 1 (.int (nI 0)) fun G92 => rI v58 G92)
      else gOb G9 a0 6 fun o98 => bI (f_M_fault G9 a0 (-9)) fun v101 G100 => rI v101 G100)
  else rI (nI 0) G9
theorem k_M_run {l : Launch} {D : va_G} {B : Nat} {O : State → Heap → Prop} (hV : zG l D B O) (G : gH) (a0 : Nat) (a1 : Int32) (a2 : Int32) : gMet (zVm l D B O) m_M_run 6 [.ref a0, .int a1, .int a2] G (f_M_run G a0 a1 a2) := by
  have hdd : lSa m_M_run 0 [(.aload_n 0, 0), (.aload_n 0, 0), (.iload_n 1, 0)] = true ∧ lIa m_M_run 3 (.invokevirtual 214) 3 = true ∧ lSa m_M_run 6 [(.iconst 1, nI 1)] = true ∧ lIa m_M_run 7 (.invokevirtual 114) 3 = true ∧ lIa m_M_run 10 (.ifCond .eq 5) 3 = true ∧ lSa m_M_run 15 [(.aload_n 0, 0)] = true ∧ lIa m_M_run 16 (.getfield 24) 3 = true ∧ lSa m_M_run 19 [(.iload_n 1, 0)] = true ∧ lIa m_M_run 20 (.aaload) 1 = true ∧ lSa m_M_run 21 [(.astore_n 3, 0), (.aload_n 3, 0)] = true ∧ lIa m_M_run 23 (.getfield 99) 3 = true ∧ lIa m_M_run 26 (.ifCond .eq 10) 3 = true ∧ lSa m_M_run 36 [(.iload_n 2, 0)] = true ∧ lIa m_M_run 37 (.ifCond .eq 10) 3 = true ∧ lSa m_M_run 47 [(.aload_n 0, 0), (.aload_n 3, 0)] = true ∧ lIa m_M_run 49 (.getfield 89) 3 = true ∧ lIa m_M_run 52 (.invokevirtual 74) 3 = true ∧ lSa m_M_run 55 [(.aload_n 3, 0)] = true ∧ lIa m_M_run 56 (.getfield 208) 3 = true ∧ lSa m_M_run 59 [(.isub, 0), (.istore 4, 0), (.iload 4, 0)] = true ∧ lIa m_M_run 64 (.ifCond .le 25) 3 = true ∧ lSa m_M_run 89 [(.aload_n 3, 0), (.iload_n 2, 0)] = true ∧ lIa m_M_run 91 (.ifCond .eq 7) 3 = true ∧ lSa m_M_run 98 [(.aload_n 0, 0), (.aload_n 3, 0)] = true ∧ lIa m_M_run 100 (.getfield 89) 3 = true ∧ lIa m_M_run 103 (.invokevirtual 74) 3 = true ∧ lIa m_M_run 106 (.putfield 208) 3 = true ∧ lSa m_M_run 109 [(.iload 4, 0)] = true ∧ lIa m_M_run 111 (.ireturn) 1 = true ∧ lSa m_M_run 94 [(.iconst 0, nI 0)] = true ∧ lIa m_M_run 95 (.goto 11) 3 = true ∧ lSa m_M_run 67 [(.aload_n 3, 0), (.iload_n 2, 0)] = true ∧ lIa m_M_run 69 (.ifCond .eq 7) 3 = true ∧ lSa m_M_run 76 [(.aload_n 0, 0), (.aload_n 3, 0)] = true ∧ lIa m_M_run 78 (.getfield 89) 3 = true ∧ lIa m_M_run 81 (.invokevirtual 74) 3 = true ∧ lSa m_M_run 84 [(.iconst 1, nI 1), (.isub, 0)] = true ∧ lIa m_M_run 86 (.putfield 220) 3 = true ∧ lSa m_M_run 72 [(.iconst 0, nI 0)] = true ∧ lIa m_M_run 73 (.goto 13) 3 = true ∧ lSa m_M_run 40 [(.aload_n 3, 0)] = true ∧ lIa m_M_run 41 (.getfield 208) 3 = true ∧ lIa m_M_run 44 (.goto 16) 3 = true ∧ lSa m_M_run 60 [(.istore 4, 0), (.iload 4, 0)] = true ∧ lSa m_M_run 29 [(.aload_n 0, 0), (.bipush (-9), -9)] = true ∧ lIa m_M_run 32 (.invokevirtual 217) 3 = true ∧ lIa m_M_run 35 (.ireturn) 1 = true ∧ lSa m_M_run 13 [(.iconst 0, nI 0)] = true ∧ lIa m_M_run 14 (.ireturn) 1 = true := by decide +kernel
  refine lA8 hdd (fun dd0 dd1 dd2 dd3 dd4 dd5 dd6 dd7 hdd => ?_)
  refine lA8 hdd (fun dd8 dd9 dd10 dd11 dd12 dd13 dd14 dd15 hdd => ?_)
  refine lA8 hdd (fun dd16 dd17 dd18 dd19 dd20 dd21 dd22 dd23 hdd => ?_)
  refine lA8 hdd (fun dd24 dd25 dd26 dd27 dd28 dd29 dd30 dd31 hdd => ?_)
  refine lA8 hdd (fun dd32 dd33 dd34 dd35 dd36 dd37 dd38 dd39 hdd => ?_)
  refine lA8 hdd (fun dd40 dd41 dd42 dd43 dd44 dd45 dd46 dd47 hdd => ?_)
  have dd48 := hdd
  refine gMet.of (by decide +kernel) (Nat.le_of_ble_eq_true rfl) [some (.ref a0), some (.int a1), some (.int a2), none, none] (fun ls h => zEn_ok (n := 5) h) ?_
  intro o Gf h
  unfold f_M_run at h
  refine Y.blk (pc' := 3) (L' := [some (.ref a0), some (.int a1), some (.int a2), none, none]) (st' := [.int a1, .ref a0, .ref a0]) (sg := [(.aload_n 0, 0), (.aload_n 0, 0), (.iload_n 1, 0)]) (lSa_ok dd0) rfl ?_
  obtain ⟨_, o2, e1, m3, h⟩ := gOb_inv h
  refine Y.callI (yC.Vi (b := a0) (As := [.int a1]) (st := [.ref a0]) (r := ("PartlisterModel", T_M, 9)) hV.1 cb_M_isNoCursor lk_M_214 in_M_isNoCursor rfl se_M_isNoCursor (lIa_ok dd1) rfl rfl (Nat.le_of_ble_eq_true rfl) (by decide) e1 m3) (k_M_isNoCursor hV G a0 a1) h (fun v5 G4 _ h => ?_)
  refine Y.blk (pc' := 7) (L' := [some (.ref a0), some (.int a1), some (.int a2), none, none]) (st' := [.int (nI 1), .int v5, .ref a0]) (sg := [(.iconst 1, nI 1)]) (lSa_ok dd2) rfl ?_
  obtain ⟨_, o7, e6, m8, h⟩ := gOb_inv h
  refine Y.callI (yC.Vi (b := a0) (As := [.int v5, .int (nI 1)]) (st := []) (r := ("PartlisterModel", T_M, 9)) hV.1 cb_M_start lk_M_114 in_M_start rfl se_M_start (lIa_ok dd3) rfl rfl (Nat.le_of_ble_eq_true rfl) (by decide) e6 m8) (k_M_start hV G4 a0 v5 (nI 1)) h (fun v10 G9 _ h => ?_)
  refine Y.if_eq (off := 5) (tgt := 15) (lIa_ok dd4) (by decide) h (fun c103 h => ?_) (fun c103 h => ?_)
  · refine Y.blk (pc' := 16) (L' := [some (.ref a0), some (.int a1), some (.int a2), none, none]) (st' := [.ref a0]) (sg := [(.aload_n 0, 0)]) (lSa_ok dd5) rfl ?_
    refine Y.getA fl_M_24 (lIa_ok dd6) h (fun v11 h => ?_)
    refine Y.blk (pc' := 20) (L' := [some (.ref a0), some (.int a1), some (.int a2), none, none]) (st' := [.int a1, .ref v11]) (sg := [(.iload_n 1, 0)]) (lSa_ok dd7) rfl ?_
    refine Y.aald (t0 := 5) (lIa_ok dd8) rfl h (fun h => ?_) (fun v12 h => ?_)
    · refine Y.blk (pc' := 23) (L' := [some (.ref a0), some (.int a1), some (.int a2), some (.null), none]) (st' := [.null]) (sg := [(.astore_n 3, 0), (.aload_n 3, 0)]) (lSa_ok dd9) rfl ?_
      cases h
    · refine Y.blk (pc' := 23) (L' := [some (.ref a0), some (.int a1), some (.int a2), some (.ref v12), none]) (st' := [.ref v12]) (sg := [(.astore_n 3, 0), (.aload_n 3, 0)]) (lSa_ok dd9) rfl ?_
      refine Y.getI fl_M_99 (lIa_ok dd10) h (fun v13 h => ?_)
      refine Y.if_eq (off := 10) (tgt := 36) (lIa_ok dd11) (by decide) h (fun c102 h => ?_) (fun c102 h => ?_)
      · refine Y.blk (pc' := 37) (L' := [some (.ref a0), some (.int a1), some (.int a2), some (.ref v12), none]) (st' := [.int a2]) (sg := [(.iload_n 2, 0)]) (lSa_ok dd12) rfl ?_
        refine Y.if_eq (off := 10) (tgt := 47) (lIa_ok dd13) (by decide) h (fun c96 h => ?_) (fun c96 h => ?_)
        · refine Y.blk (pc' := 49) (L' := [some (.ref a0), some (.int a1), some (.int a2), some (.ref v12), none]) (st' := [.ref v12, .ref a0]) (sg := [(.aload_n 0, 0), (.aload_n 3, 0)]) (lSa_ok dd14) rfl ?_
          refine Y.getI fl_M_89 (lIa_ok dd15) h (fun v14 h => ?_)
          obtain ⟨_, o16, e15, m17, h⟩ := gOb_inv h
          refine Y.callI (yC.Vi (b := a0) (As := [.int v14]) (st := []) (r := ("PartlisterModel", T_M, 9)) hV.1 cb_M_length lk_M_74 in_M_length rfl se_M_length (lIa_ok dd16) rfl rfl (Nat.le_of_ble_eq_true rfl) (by decide) e15 m17) (k_M_length hV G9 a0 v14) h (fun v19 G18 _ h => ?_)
          refine Y.blk (pc' := 56) (L' := [some (.ref a0), some (.int a1), some (.int a2), some (.ref v12), none]) (st' := [.ref v12, .int v19]) (sg := [(.aload_n 3, 0)]) (lSa_ok dd17) rfl ?_
          refine Y.getI fl_M_208 (lIa_ok dd18) h (fun v20 h => ?_)
          refine Y.blk (pc' := 64) (L' := [some (.ref a0), some (.int a1), some (.int a2), some (.ref v12), some (.int (v19 - v20))]) (st' := [.int (v19 - v20)]) (sg := [(.isub, 0), (.istore 4, 0), (.iload 4, 0)]) (lSa_ok dd19) rfl ?_
          refine Y.if_le (off := 25) (tgt := 89) (lIa_ok dd20) (by decide) h (fun c57 h => ?_) (fun c57 h => ?_)
          · refine Y.blk (pc' := 91) (L' := [some (.ref a0), some (.int a1), some (.int a2), some (.ref v12), some (.int (v19 - v20))]) (st' := [.int a2, .ref v12]) (sg := [(.aload_n 3, 0), (.iload_n 2, 0)]) (lSa_ok dd21) rfl ?_
            refine Y.if_eq (off := 7) (tgt := 98) (lIa_ok dd22) (by decide) h (fun c29 h => ?_) (fun c29 h => ?_)
            · refine Y.blk (pc' := 100) (L' := [some (.ref a0), some (.int a1), some (.int a2), some (.ref v12), some (.int (v19 - v20))]) (st' := [.ref v12, .ref a0, .ref v12]) (sg := [(.aload_n 0, 0), (.aload_n 3, 0)]) (lSa_ok dd23) rfl ?_
              refine Y.getI fl_M_89 (lIa_ok dd24) h (fun v21 h => ?_)
              obtain ⟨_, o23, e22, m24, h⟩ := gOb_inv h
              refine Y.callI (yC.Vi (b := a0) (As := [.int v21]) (st := [.ref v12]) (r := ("PartlisterModel", T_M, 9)) hV.1 cb_M_length lk_M_74 in_M_length rfl se_M_length (lIa_ok dd25) rfl rfl (Nat.le_of_ble_eq_true rfl) (by decide) e22 m24) (k_M_length hV G18 a0 v21) h (fun v26 G25 _ h => ?_)
              refine Y.putf fl_M_208 (by decide) rfl rfl (lIa_ok dd26) h (fun G27 _ _ h => ?_)
              refine Y.blk (pc' := 111) (L' := [some (.ref a0), some (.int a1), some (.int a2), some (.ref v12), some (.int (v19 - v20))]) (st' := [.int (v19 - v20)]) (sg := [(.iload 4, 0)]) (lSa_ok dd27) rfl ?_
              exact Y.iret rfl (lIa_ok dd28) h
            · refine Y.blk (pc' := 95) (L' := [some (.ref a0), some (.int a1), some (.int a2), some (.ref v12), some (.int (v19 - v20))]) (st' := [.int (nI 0), .ref v12]) (sg := [(.iconst 0, nI 0)]) (lSa_ok dd29) rfl ?_
              refine Y.goto (off := 11) (tgt := 106) (lIa_ok dd30) (by decide) ?_
              refine Y.putf fl_M_208 (by decide) rfl rfl (lIa_ok dd26) h (fun G28 _ _ h => ?_)
              refine Y.blk (pc' := 111) (L' := [some (.ref a0), some (.int a1), some (.int a2), some (.ref v12), some (.int (v19 - v20))]) (st' := [.int (v19 - v20)]) (sg := [(.iload 4, 0)]) (lSa_ok dd27) rfl ?_
              exact Y.iret rfl (lIa_ok dd28) h
          · refine Y.blk (pc' := 69) (L' := [some (.ref a0), some (.int a1), some (.int a2), some (.ref v12), some (.int (v19 - v20))]) (st' := [.int a2, .ref v12]) (sg := [(.aload_n 3, 0), (.iload_n 2, 0)]) (lSa_ok dd31) rfl ?_
            refine Y.if_eq (off := 7) (tgt := 76) (lIa_ok dd32) (by decide) h (fun c56 h => ?_) (fun c56 h => ?_)
            · refine Y.blk (pc' := 78) (L' := [some (.ref a0), some (.int a1), some (.int a2), some (.ref v12), some (.int (v19 - v20))]) (st' := [.ref v12, .ref a0, .ref v12]) (sg := [(.aload_n 0, 0), (.aload_n 3, 0)]) (lSa_ok dd33) rfl ?_
              refine Y.getI fl_M_89 (lIa_ok dd34) h (fun v30 h => ?_)
              obtain ⟨_, o32, e31, m33, h⟩ := gOb_inv h
              refine Y.callI (yC.Vi (b := a0) (As := [.int v30]) (st := [.ref v12]) (r := ("PartlisterModel", T_M, 9)) hV.1 cb_M_length lk_M_74 in_M_length rfl se_M_length (lIa_ok dd35) rfl rfl (Nat.le_of_ble_eq_true rfl) (by decide) e31 m33) (k_M_length hV G18 a0 v30) h (fun v35 G34 _ h => ?_)
              refine Y.blk (pc' := 86) (L' := [some (.ref a0), some (.int a1), some (.int a2), some (.ref v12), some (.int (v19 - v20))]) (st' := [.int (v35 - (nI 1)), .ref v12]) (sg := [(.iconst 1, nI 1), (.isub, 0)]) (lSa_ok dd36) rfl ?_
              refine Y.putf fl_M_220 (by decide) rfl rfl (lIa_ok dd37) h (fun G36 _ _ h => ?_)
              refine Y.blk (pc' := 91) (L' := [some (.ref a0), some (.int a1), some (.int a2), some (.ref v12), some (.int (v19 - v20))]) (st' := [.int a2, .ref v12]) (sg := [(.aload_n 3, 0), (.iload_n 2, 0)]) (lSa_ok dd21) rfl ?_
              refine Y.if_eq (off := 7) (tgt := 98) (lIa_ok dd22) (by decide) h (fun c45 h => ?_) (fun c45 h => ?_)
              · refine Y.blk (pc' := 100) (L' := [some (.ref a0), some (.int a1), some (.int a2), some (.ref v12), some (.int (v19 - v20))]) (st' := [.ref v12, .ref a0, .ref v12]) (sg := [(.aload_n 0, 0), (.aload_n 3, 0)]) (lSa_ok dd23) rfl ?_
                refine Y.getI fl_M_89 (lIa_ok dd24) h (fun v37 h => ?_)
                obtain ⟨_, o39, e38, m40, h⟩ := gOb_inv h
                refine Y.callI (yC.Vi (b := a0) (As := [.int v37]) (st := [.ref v12]) (r := ("PartlisterModel", T_M, 9)) hV.1 cb_M_length lk_M_74 in_M_length rfl se_M_length (lIa_ok dd25) rfl rfl (Nat.le_of_ble_eq_true rfl) (by decide) e38 m40) (k_M_length hV G36 a0 v37) h (fun v42 G41 _ h => ?_)
                refine Y.putf fl_M_208 (by decide) rfl rfl (lIa_ok dd26) h (fun G43 _ _ h => ?_)
                refine Y.blk (pc' := 111) (L' := [some (.ref a0), some (.int a1), some (.int a2), some (.ref v12), some (.int (v19 - v20))]) (st' := [.int (v19 - v20)]) (sg := [(.iload 4, 0)]) (lSa_ok dd27) rfl ?_
                exact Y.iret rfl (lIa_ok dd28) h
              · refine Y.blk (pc' := 95) (L' := [some (.ref a0), some (.int a1), some (.int a2), some (.ref v12), some (.int (v19 - v20))]) (st' := [.int (nI 0), .ref v12]) (sg := [(.iconst 0, nI 0)]) (lSa_ok dd29) rfl ?_
                refine Y.goto (off := 11) (tgt := 106) (lIa_ok dd30) (by decide) ?_
                refine Y.putf fl_M_208 (by decide) rfl rfl (lIa_ok dd26) h (fun G44 _ _ h => ?_)
                refine Y.blk (pc' := 111) (L' := [some (.ref a0), some (.int a1), some (.int a2), some (.ref v12), some (.int (v19 - v20))]) (st' := [.int (v19 - v20)]) (sg := [(.iload 4, 0)]) (lSa_ok dd27) rfl ?_
                exact Y.iret rfl (lIa_ok dd28) h
            · refine Y.blk (pc' := 73) (L' := [some (.ref a0), some (.int a1), some (.int a2), some (.ref v12), some (.int (v19 - v20))]) (st' := [.int (nI 0), .ref v12]) (sg := [(.iconst 0, nI 0)]) (lSa_ok dd38) rfl ?_
              refine Y.goto (off := 13) (tgt := 86) (lIa_ok dd39) (by decide) ?_
              refine Y.putf fl_M_220 (by decide) rfl rfl (lIa_ok dd37) h (fun G46 _ _ h => ?_)
              refine Y.blk (pc' := 91) (L' := [some (.ref a0), some (.int a1), some (.int a2), some (.ref v12), some (.int (v19 - v20))]) (st' := [.int a2, .ref v12]) (sg := [(.aload_n 3, 0), (.iload_n 2, 0)]) (lSa_ok dd21) rfl ?_
              refine Y.if_eq (off := 7) (tgt := 98) (lIa_ok dd22) (by decide) h (fun c55 h => ?_) (fun c55 h => ?_)
              · refine Y.blk (pc' := 100) (L' := [some (.ref a0), some (.int a1), some (.int a2), some (.ref v12), some (.int (v19 - v20))]) (st' := [.ref v12, .ref a0, .ref v12]) (sg := [(.aload_n 0, 0), (.aload_n 3, 0)]) (lSa_ok dd23) rfl ?_
                refine Y.getI fl_M_89 (lIa_ok dd24) h (fun v47 h => ?_)
                obtain ⟨_, o49, e48, m50, h⟩ := gOb_inv h
                refine Y.callI (yC.Vi (b := a0) (As := [.int v47]) (st := [.ref v12]) (r := ("PartlisterModel", T_M, 9)) hV.1 cb_M_length lk_M_74 in_M_length rfl se_M_length (lIa_ok dd25) rfl rfl (Nat.le_of_ble_eq_true rfl) (by decide) e48 m50) (k_M_length hV G46 a0 v47) h (fun v52 G51 _ h => ?_)
                refine Y.putf fl_M_208 (by decide) rfl rfl (lIa_ok dd26) h (fun G53 _ _ h => ?_)
                refine Y.blk (pc' := 111) (L' := [some (.ref a0), some (.int a1), some (.int a2), some (.ref v12), some (.int (v19 - v20))]) (st' := [.int (v19 - v20)]) (sg := [(.iload 4, 0)]) (lSa_ok dd27) rfl ?_
                exact Y.iret rfl (lIa_ok dd28) h
              · refine Y.blk (pc' := 95) (L' := [some (.ref a0), some (.int a1), some (.int a2), some (.ref v12), some (.int (v19 - v20))]) (st' := [.int (nI 0), .ref v12]) (sg := [(.iconst 0, nI 0)]) (lSa_ok dd29) rfl ?_
                refine Y.goto (off := 11) (tgt := 106) (lIa_ok dd30) (by decide) ?_
                refine Y.putf fl_M_208 (by decide) rfl rfl (lIa_ok dd26) h (fun G54 _ _ h => ?_)
                refine Y.blk (pc' := 111) (L' := [some (.ref a0), some (.int a1), some (.int a2), some (.ref v12), some (.int (v19 - v20))]) (st' := [.int (v19 - v20)]) (sg := [(.iload 4, 0)]) (lSa_ok dd27) rfl ?_
                exact Y.iret rfl (lIa_ok dd28) h
        · refine Y.blk (pc' := 41) (L' := [some (.ref a0), some (.int a1), some (.int a2), some (.ref v12), none]) (st' := [.ref v12]) (sg := [(.aload_n 3, 0)]) (lSa_ok dd40) rfl ?_
          refine Y.getI fl_M_208 (lIa_ok dd41) h (fun v58 h => ?_)
          refine Y.goto (off := 16) (tgt := 60) (lIa_ok dd42) (by decide) ?_
          refine Y.blk (pc' := 64) (L' := [some (.ref a0), some (.int a1), some (.int a2), some (.ref v12), some (.int v58)]) (st' := [.int v58]) (sg := [(.istore 4, 0), (.iload 4, 0)]) (lSa_ok dd43) rfl ?_
          refine Y.if_le (off := 25) (tgt := 89) (lIa_ok dd20) (by decide) h (fun c95 h => ?_) (fun c95 h => ?_)
          · refine Y.blk (pc' := 91) (L' := [some (.ref a0), some (.int a1), some (.int a2), some (.ref v12), some (.int v58)]) (st' := [.int a2, .ref v12]) (sg := [(.aload_n 3, 0), (.iload_n 2, 0)]) (lSa_ok dd21) rfl ?_
            refine Y.if_eq (off := 7) (tgt := 98) (lIa_ok dd22) (by decide) h (fun c67 h => ?_) (fun c67 h => ?_)
            · refine Y.blk (pc' := 100) (L' := [some (.ref a0), some (.int a1), some (.int a2), some (.ref v12), some (.int v58)]) (st' := [.ref v12, .ref a0, .ref v12]) (sg := [(.aload_n 0, 0), (.aload_n 3, 0)]) (lSa_ok dd23) rfl ?_
              refine Y.getI fl_M_89 (lIa_ok dd24) h (fun v59 h => ?_)
              obtain ⟨_, o61, e60, m62, h⟩ := gOb_inv h
              refine Y.callI (yC.Vi (b := a0) (As := [.int v59]) (st := [.ref v12]) (r := ("PartlisterModel", T_M, 9)) hV.1 cb_M_length lk_M_74 in_M_length rfl se_M_length (lIa_ok dd25) rfl rfl (Nat.le_of_ble_eq_true rfl) (by decide) e60 m62) (k_M_length hV G9 a0 v59) h (fun v64 G63 _ h => ?_)
              refine Y.putf fl_M_208 (by decide) rfl rfl (lIa_ok dd26) h (fun G65 _ _ h => ?_)
              refine Y.blk (pc' := 111) (L' := [some (.ref a0), some (.int a1), some (.int a2), some (.ref v12), some (.int v58)]) (st' := [.int v58]) (sg := [(.iload 4, 0)]) (lSa_ok dd27) rfl ?_
              exact Y.iret rfl (lIa_ok dd28) h
            · refine Y.blk (pc' := 95) (L' := [some (.ref a0), some (.int a1), some (.int a2), some (.ref v12), some (.int v58)]) (st' := [.int (nI 0), .ref v12]) (sg := [(.iconst 0, nI 0)]) (lSa_ok dd29) rfl ?_
              refine Y.goto (off := 11) (tgt := 106) (lIa_ok dd30) (by decide) ?_
              refine Y.putf fl_M_208 (by decide) rfl rfl (lIa_ok dd26) h (fun G66 _ _ h => ?_)
              refine Y.blk (pc' := 111) (L' := [some (.ref a0), some (.int a1), some (.int a2), some (.ref v12), some (.int v58)]) (st' := [.int v58]) (sg := [(.iload 4, 0)]) (lSa_ok dd27) rfl ?_
              exact Y.iret rfl (lIa_ok dd28) h
          · refine Y.blk (pc' := 69) (L' := [some (.ref a0), some (.int a1), some (.int a2), some (.ref v12), some (.int v58)]) (st' := [.int a2, .ref v12]) (sg := [(.aload_n 3, 0), (.iload_n 2, 0)]) (lSa_ok dd31) rfl ?_
            refine Y.if_eq (off := 7) (tgt := 76) (lIa_ok dd32) (by decide) h (fun c94 h => ?_) (fun c94 h => ?_)
            · refine Y.blk (pc' := 78) (L' := [some (.ref a0), some (.int a1), some (.int a2), some (.ref v12), some (.int v58)]) (st' := [.ref v12, .ref a0, .ref v12]) (sg := [(.aload_n 0, 0), (.aload_n 3, 0)]) (lSa_ok dd33) rfl ?_
              refine Y.getI fl_M_89 (lIa_ok dd34) h (fun v68 h => ?_)
              obtain ⟨_, o70, e69, m71, h⟩ := gOb_inv h
              refine Y.callI (yC.Vi (b := a0) (As := [.int v68]) (st := [.ref v12]) (r := ("PartlisterModel", T_M, 9)) hV.1 cb_M_length lk_M_74 in_M_length rfl se_M_length (lIa_ok dd35) rfl rfl (Nat.le_of_ble_eq_true rfl) (by decide) e69 m71) (k_M_length hV G9 a0 v68) h (fun v73 G72 _ h => ?_)
              refine Y.blk (pc' := 86) (L' := [some (.ref a0), some (.int a1), some (.int a2), some (.ref v12), some (.int v58)]) (st' := [.int (v73 - (nI 1)), .ref v12]) (sg := [(.iconst 1, nI 1), (.isub, 0)]) (lSa_ok dd36) rfl ?_
              refine Y.putf fl_M_220 (by decide) rfl rfl (lIa_ok dd37) h (fun G74 _ _ h => ?_)
              refine Y.blk (pc' := 91) (L' := [some (.ref a0), some (.int a1), some (.int a2), some (.ref v12), some (.int v58)]) (st' := [.int a2, .ref v12]) (sg := [(.aload_n 3, 0), (.iload_n 2, 0)]) (lSa_ok dd21) rfl ?_
              refine Y.if_eq (off := 7) (tgt := 98) (lIa_ok dd22) (by decide) h (fun c83 h => ?_) (fun c83 h => ?_)
              · refine Y.blk (pc' := 100) (L' := [some (.ref a0), some (.int a1), some (.int a2), some (.ref v12), some (.int v58)]) (st' := [.ref v12, .ref a0, .ref v12]) (sg := [(.aload_n 0, 0), (.aload_n 3, 0)]) (lSa_ok dd23) rfl ?_
                refine Y.getI fl_M_89 (lIa_ok dd24) h (fun v75 h => ?_)
                obtain ⟨_, o77, e76, m78, h⟩ := gOb_inv h
                refine Y.callI (yC.Vi (b := a0) (As := [.int v75]) (st := [.ref v12]) (r := ("PartlisterModel", T_M, 9)) hV.1 cb_M_length lk_M_74 in_M_length rfl se_M_length (lIa_ok dd25) rfl rfl (Nat.le_of_ble_eq_true rfl) (by decide) e76 m78) (k_M_length hV G74 a0 v75) h (fun v80 G79 _ h => ?_)
                refine Y.putf fl_M_208 (by decide) rfl rfl (lIa_ok dd26) h (fun G81 _ _ h => ?_)
                refine Y.blk (pc' := 111) (L' := [some (.ref a0), some (.int a1), some (.int a2), some (.ref v12), some (.int v58)]) (st' := [.int v58]) (sg := [(.iload 4, 0)]) (lSa_ok dd27) rfl ?_
                exact Y.iret rfl (lIa_ok dd28) h
              · refine Y.blk (pc' := 95) (L' := [some (.ref a0), some (.int a1), some (.int a2), some (.ref v12), some (.int v58)]) (st' := [.int (nI 0), .ref v12]) (sg := [(.iconst 0, nI 0)]) (lSa_ok dd29) rfl ?_
                refine Y.goto (off := 11) (tgt := 106) (lIa_ok dd30) (by decide) ?_
                refine Y.putf fl_M_208 (by decide) rfl rfl (lIa_ok dd26) h (fun G82 _ _ h => ?_)
                refine Y.blk (pc' := 111) (L' := [some (.ref a0), some (.int a1), some (.int a2), some (.ref v12), some (.int v58)]) (st' := [.int v58]) (sg := [(.iload 4, 0)]) (lSa_ok dd27) rfl ?_
                exact Y.iret rfl (lIa_ok dd28) h
            · refine Y.blk (pc' := 73) (L' := [some (.ref a0), some (.int a1), some (.int a2), some (.ref v12), some (.int v58)]) (st' := [.int (nI 0), .ref v12]) (sg := [(.iconst 0, nI 0)]) (lSa_ok dd38) rfl ?_
              refine Y.goto (off := 13) (tgt := 86) (lIa_ok dd39) (by decide) ?_
              refine Y.putf fl_M_220 (by decide) rfl rfl (lIa_ok dd37) h (fun G84 _ _ h => ?_)
              refine Y.blk (pc' := 91) (L' := [some (.ref a0), some (.int a1), some (.int a2), some (.ref v12), some (.int v58)]) (st' := [.int a2, .ref v12]) (sg := [(.aload_n 3, 0), (.iload_n 2, 0)]) (lSa_ok dd21) rfl ?_
              refine Y.if_eq (off := 7) (tgt := 98) (lIa_ok dd22) (by decide) h (fun c93 h => ?_) (fun c93 h => ?_)
              · refine Y.blk (pc' := 100) (L' := [some (.ref a0), some (.int a1), some (.int a2), some (.ref v12), some (.int v58)]) (st' := [.ref v12, .ref a0, .ref v12]) (sg := [(.aload_n 0, 0), (.aload_n 3, 0)]) (lSa_ok dd23) rfl ?_
                refine Y.getI fl_M_89 (lIa_ok dd24) h (fun v85 h => ?_)
                obtain ⟨_, o87, e86, m88, h⟩ := gOb_inv h
                refine Y.callI (yC.Vi (b := a0) (As := [.int v85]) (st := [.ref v12]) (r := ("PartlisterModel", T_M, 9)) hV.1 cb_M_length lk_M_74 in_M_length rfl se_M_length (lIa_ok dd25) rfl rfl (Nat.le_of_ble_eq_true rfl) (by decide) e86 m88) (k_M_length hV G84 a0 v85) h (fun v90 G89 _ h => ?_)
                refine Y.putf fl_M_208 (by decide) rfl rfl (lIa_ok dd26) h (fun G91 _ _ h => ?_)
                refine Y.blk (pc' := 111) (L' := [some (.ref a0), some (.int a1), some (.int a2), some (.ref v12), some (.int v58)]) (st' := [.int v58]) (sg := [(.iload 4, 0)]) (lSa_ok dd27) rfl ?_
                exact Y.iret rfl (lIa_ok dd28) h
              · refine Y.blk (pc' := 95) (L' := [some (.ref a0), some (.int a1), some (.int a2), some (.ref v12), some (.int v58)]) (st' := [.int (nI 0), .ref v12]) (sg := [(.iconst 0, nI 0)]) (lSa_ok dd29) rfl ?_
                refine Y.goto (off := 11) (tgt := 106) (lIa_ok dd30) (by decide) ?_
                refine Y.putf fl_M_208 (by decide) rfl rfl (lIa_ok dd26) h (fun G92 _ _ h => ?_)
                refine Y.blk (pc' := 111) (L' := [some (.ref a0), some (.int a1), some (.int a2), some (.ref v12), some (.int v58)]) (st' := [.int v58]) (sg := [(.iload 4, 0)]) (lSa_ok dd27) rfl ?_
                exact Y.iret rfl (lIa_ok dd28) h
      · refine Y.blk (pc' := 32) (L' := [some (.ref a0), some (.int a1), some (.int a2), some (.ref v12), none]) (st' := [.int (-9), .ref a0]) (sg := [(.aload_n 0, 0), (.bipush (-9), -9)]) (lSa_ok dd44) rfl ?_
        obtain ⟨_, o98, e97, m99, h⟩ := gOb_inv h
        refine Y.callI (yC.Vi (b := a0) (As := [.int (-9)]) (st := []) (r := ("PartlisterModel", T_M, 9)) hV.1 cb_M_fault lk_M_217 in_M_fault rfl se_M_fault (lIa_ok dd45) rfl rfl (Nat.le_of_ble_eq_true rfl) (by decide) e97 m99) (k_M_fault hV G9 a0 (-9)) h (fun v101 G100 _ h => ?_)
        exact Y.iret rfl (lIa_ok dd46) h
  · refine Y.blk (pc' := 14) (L' := [some (.ref a0), some (.int a1), some (.int a2), none, none]) (st' := [.int (nI 0)]) (sg := [(.iconst 0, nI 0)]) (lSa_ok dd47) rfl ?_
    exact Y.iret rfl (lIa_ok dd48) h

def f_M_set (G : gH) (a0 : Nat) (a1 : Int32) (a2 : Int32) (a3 : Int32) : gR :=
  gOb G a0 6 fun o2 => bI (f_M_isNoList G a0 a1) fun v5 G4 => if v5 = 0 then (gOb G4 a0 6 fun o7 => bI (f_M_isNoPlace G4 a0 a1 a2) fun v10 G9 => if v10 = 0 then (gOb G9 a0 6 fun o12 => bI (f_M_start G9 a0 (nI 0) (nI 1)) fun v15 G14 => if v15 = 0 then (bI (f_M_isIn G14 a3 (nI 0) (nI 30)) fun v18 G17 => if v18 = 0 then (gOb G17 a0 6 fun o20 => bI (f_M_refuse G17 a0 (nI 1) (nI 2)) fun v23 G22 => if v23 = 0 then gOb G22 a0 6 fun o25 => bA (f_M_make G22 a0 a3) fun v28 G27 => gOb G27 a0 6 fun o30 => bA (f_M_write G27 a0 a1 a2 v28) fun v33 G32 => gLd G32 v33 100 (nI 0) fun v34 => rI v34 G32
          else rI (nI 0) G22)
        else gOb G17 a0 6 fun o37 => bI (f_M_refuse G17 a0 (nI 0) (nI 2)) fun v40 G39 => if v40 = 0 then gOb G39 a0 6 fun o42 => bA (f_M_make G39 a0 a3) fun v45 G44 => gOb G44 a0 6 fun o47 => bA (f_M_write G44 a0 a1 a2 v45) fun v50 G49 => gLd G49 v50 100 (nI 0) fun v51 => rI v51 G49
          else rI (nI 0) G39)
      else rI (nI 0) G14)
    else gOb G9 a0 6 fun o56 => bI (f_M_start G9 a0 (nI 1) (nI 1)) fun v59 G58 => if v59 = 0 then (bI (f_M_isIn G58 a3 (nI 0) (nI 30)) fun v62 G61 => if v62 = 0 then (gOb G61 a0 6 fun o64 => bI (f_M_refuse G61 a0 (nI 1) (nI 2)) fun v67 G66 => if v67 = 0 then gOb G66 a0 6 fun o69 => bA (f_M_make G66 a0 a3) fun v72 G71 => gOb G71 a0 6 fun o74 => bA (f_M_write G71 a0 a1 a2 v72) fun v77 G76 => gLd G76 v77 100 (nI 0) fun v78 => rI v78 G76
          else rI (nI 0) G66)
        else gOb G61 a0 6 fun o81 => bI (f_M_refuse G61 a0 (nI 0) (nI 2)) fun v84 G83 => if v84 = 0 then gOb G83 a0 6 fun o86 => bA (f_M_make G83 a0 a3) fun v89 G88 => gOb G88 a0 6 fun o91 => bA (f_M_write G88 a0 a1 a2 v89) fun v94 G93 => gLd G93 v94 100 (nI 0) fun v95 => rI v95 G93
          else rI (nI 0) G83)
      else rI (nI 0) G58)
  else gOb G4 a0 6 fun o101 => bI (f_M_start G4 a0 (nI 1) (nI 1)) fun v104 G103 => if v104 = 0 then (bI (f_M_isIn G103 a3 (nI 0) (nI 30)) fun v107 G106 => if v107 = 0 then (gOb G106 a0 6 fun o109 => bI (f_M_refuse G106 a0 (nI 1) (nI 2)) fun v112 G111 => if v112 = 0 then gOb G111 a0 6 fun o114 => bA (f_M_make G111 a0 a3) fun v117 G116 => gOb G116 a0 6 fun o119 => bA (f_M_write G116 a0 a1 a2 v117) fun v122 G121 => gLd G121 v122 100 (nI 0) fun v123 => rI v123 G121
        else rI (nI 0) G111)
      else gOb G106 a0 6 fun o126 => bI (f_M_refuse G106 a0 (nI 0) (nI 2)) fun v129 G128 => if v129 = 0 then gOb G128 a0 6 fun o131 => bA (f_M_make G128 a0 a3) fun v134 G133 => gOb G133 a0 6 fun o136 => bA (f_M_write G133 a0 a1 a2 v134) fun v139 G138 => gLd G138 v139 100 (nI 0) fun v140 => rI v140 G138
        else rI (nI 0) G128)
    else rI (nI 0) G103
theorem k_M_set {l : Launch} {D : va_G} {B : Nat} {O : State → Heap → Prop} (hV : zG l D B O) (G : gH) (a0 : Nat) (a1 : Int32) (a2 : Int32) (a3 : Int32) : gMet (zVm l D B O) m_M_set 13 [.ref a0, .int a1, .int a2, .int a3] G (f_M_set G a0 a1 a2 a3) := by
  have hdd : lSa m_M_set 0 [(.aload_n 0, 0), (.aload_n 0, 0), (.iload_n 1, 0)] = true ∧ lIa m_M_set 3 (.invokevirtual 110) 3 = true ∧ lIa m_M_set 6 (.ifCond .ne 12) 3 = true ∧ lSa m_M_set 9 [(.aload_n 0, 0), (.iload_n 1, 0), (.iload_n 2, 0)] = true ∧ lIa m_M_set 12 (.invokevirtual 147) 3 = true ∧ lIa m_M_set 15 (.ifCond .eq 7) 3 = true ∧ lSa m_M_set 22 [(.iconst 0, nI 0), (.iconst 1, nI 1)] = true ∧ lIa m_M_set 24 (.invokevirtual 114) 3 = true ∧ lIa m_M_set 27 (.ifCond .ne 26) 3 = true ∧ lSa m_M_set 30 [(.aload_n 0, 0), (.iload_n 3, 0), (.iconst 0, nI 0), (.bipush 30, nI 30)] = true ∧ lIa m_M_set 35 (.invokestatic 40) 3 = true ∧ lIa m_M_set 38 (.ifCond .ne 7) 3 = true ∧ lSa m_M_set 41 [(.iconst 1, nI 1)] = true ∧ lIa m_M_set 42 (.goto 4) 3 = true ∧ lSa m_M_set 46 [(.iconst 2, nI 2)] = true ∧ lIa m_M_set 47 (.invokevirtual 36) 3 = true ∧ lIa m_M_set 50 (.ifCond .eq 5) 3 = true ∧ lSa m_M_set 55 [(.aload_n 0, 0), (.iload_n 1, 0), (.iload_n 2, 0), (.aload_n 0, 0), (.iload_n 3, 0)] = true ∧ lIa m_M_set 60 (.invokevirtual 120) 3 = true ∧ lIa m_M_set 63 (.invokevirtual 150) 3 = true ∧ lSa m_M_set 66 [(.iconst 0, nI 0)] = true ∧ lIa m_M_set 67 (.iaload) 1 = true ∧ lIa m_M_set 68 (.ireturn) 1 = true ∧ lSa m_M_set 53 [(.iconst 0, nI 0)] = true ∧ lIa m_M_set 54 (.ireturn) 1 = true ∧ lSa m_M_set 45 [(.iconst 0, nI 0), (.iconst 2, nI 2)] = true ∧ lSa m_M_set 18 [(.iconst 1, nI 1)] = true ∧ lIa m_M_set 19 (.goto 4) 3 = true ∧ lSa m_M_set 23 [(.iconst 1, nI 1)] = true := by decide +kernel
  refine lA8 hdd (fun dd0 dd1 dd2 dd3 dd4 dd5 dd6 dd7 hdd => ?_)
  refine lA8 hdd (fun dd8 dd9 dd10 dd11 dd12 dd13 dd14 dd15 hdd => ?_)
  refine lA8 hdd (fun dd16 dd17 dd18 dd19 dd20 dd21 dd22 dd23 hdd => ?_)
  obtain ⟨dd24, dd25, dd26, dd27, dd28⟩ := hdd
  refine gMet.of (by decide +kernel) (Nat.le_of_ble_eq_true rfl) [some (.ref a0), some (.int a1), some (.int a2), some (.int a3)] (fun ls h => zEn_ok (n := 4) h) ?_
  intro o Gf h
  unfold f_M_set at h
  refine Y.blk (pc' := 3) (L' := [some (.ref a0), some (.int a1), some (.int a2), some (.int a3)]) (st' := [.int a1, .ref a0, .ref a0]) (sg := [(.aload_n 0, 0), (.aload_n 0, 0), (.iload_n 1, 0)]) (lSa_ok dd0) rfl ?_
  obtain ⟨_, o2, e1, m3, h⟩ := gOb_inv h
  refine Y.callI (yC.Vi (b := a0) (As := [.int a1]) (st := [.ref a0]) (r := ("PartlisterModel", T_M, 9)) hV.1 cb_M_isNoList lk_M_110 in_M_isNoList rfl se_M_isNoList (lIa_ok dd1) rfl rfl (Nat.le_of_ble_eq_true rfl) (by decide) e1 m3) (k_M_isNoList hV G a0 a1) h (fun v5 G4 _ h => ?_)
  refine Y.if_ne (off := 12) (tgt := 18) (lIa_ok dd2) (by decide) h (fun c144 h => ?_) (fun c144 h => ?_)
  · refine Y.blk (pc' := 12) (L' := [some (.ref a0), some (.int a1), some (.int a2), some (.int a3)]) (st' := [.int a2, .int a1, .ref a0, .ref a0]) (sg := [(.aload_n 0, 0), (.iload_n 1, 0), (.iload_n 2, 0)]) (lSa_ok dd3) rfl ?_
    obtain ⟨_, o7, e6, m8, h⟩ := gOb_inv h
    refine Y.callI (yC.Vi (b := a0) (As := [.int a1, .int a2]) (st := [.ref a0]) (r := ("PartlisterModel", T_M, 9)) hV.1 cb_M_isNoPlace lk_M_147 in_M_isNoPlace rfl se_M_isNoPlace (lIa_ok dd4) rfl rfl (Nat.le_of_ble_eq_true rfl) (by decide) e6 m8) (k_M_isNoPlace hV G4 a0 a1 a2) h (fun v10 G9 _ h => ?_)
    refine Y.if_eq (off := 7) (tgt := 22) (lIa_ok dd5) (by decide) h (fun c99 h => ?_) (fun c99 h => ?_)
    · refine Y.blk (pc' := 24) (L' := [some (.ref a0), some (.int a1), some (.int a2), some (.int a3)]) (st' := [.int (nI 1), .int (nI 0), .ref a0]) (sg := [(.iconst 0, nI 0), (.iconst 1, nI 1)]) (lSa_ok dd6) rfl ?_
      obtain ⟨_, o12, e11, m13, h⟩ := gOb_inv h
      refine Y.callI (yC.Vi (b := a0) (As := [.int (nI 0), .int (nI 1)]) (st := []) (r := ("PartlisterModel", T_M, 9)) hV.1 cb_M_start lk_M_114 in_M_start rfl se_M_start (lIa_ok dd7) rfl rfl (Nat.le_of_ble_eq_true rfl) (by decide) e11 m13) (k_M_start hV G9 a0 (nI 0) (nI 1)) h (fun v15 G14 _ h => ?_)
      refine Y.if_ne (off := 26) (tgt := 53) (lIa_ok dd8) (by decide) h (fun c54 h => ?_) (fun c54 h => ?_)
      · refine Y.blk (pc' := 35) (L' := [some (.ref a0), some (.int a1), some (.int a2), some (.int a3)]) (st' := [.int (nI 30), .int (nI 0), .int a3, .ref a0]) (sg := [(.aload_n 0, 0), (.iload_n 3, 0), (.iconst 0, nI 0), (.bipush 30, nI 30)]) (lSa_ok dd9) rfl ?_
        refine Y.callI (yC.S (As := [.int a3, .int (nI 0), .int (nI 30)]) (st := [.ref a0]) hV.1 cb_M_isIn lk_M_40 st_M_isIn (lIa_ok dd10) rfl rfl (Nat.le_of_ble_eq_true rfl) (by decide)) (k_M_isIn hV G14 a3 (nI 0) (nI 30)) h (fun v18 G17 _ h => ?_)
        refine Y.if_ne (off := 7) (tgt := 45) (lIa_ok dd11) (by decide) h (fun c53 h => ?_) (fun c53 h => ?_)
        · refine Y.blk (pc' := 42) (L' := [some (.ref a0), some (.int a1), some (.int a2), some (.int a3)]) (st' := [.int (nI 1), .ref a0]) (sg := [(.iconst 1, nI 1)]) (lSa_ok dd12) rfl ?_
          refine Y.goto (off := 4) (tgt := 46) (lIa_ok dd13) (by decide) ?_
          refine Y.blk (pc' := 47) (L' := [some (.ref a0), some (.int a1), some (.int a2), some (.int a3)]) (st' := [.int (nI 2), .int (nI 1), .ref a0]) (sg := [(.iconst 2, nI 2)]) (lSa_ok dd14) rfl ?_
          obtain ⟨_, o20, e19, m21, h⟩ := gOb_inv h
          refine Y.callI (yC.Vi (b := a0) (As := [.int (nI 1), .int (nI 2)]) (st := []) (r := ("PartlisterModel", T_M, 9)) hV.1 cb_M_refuse lk_M_36 in_M_refuse rfl se_M_refuse (lIa_ok dd15) rfl rfl (Nat.le_of_ble_eq_true rfl) (by decide) e19 m21) (k_M_refuse hV G17 a0 (nI 1) (nI 2)) h (fun v23 G22 _ h => ?_)
          refine Y.if_eq (off := 5) (tgt := 55) (lIa_ok dd16) (by decide) h (fun c35 h => ?_) (fun c35 h => ?_)
          · refine Y.blk (pc' := 60) (L' := [some (.ref a0), some (.int a1), some (.int a2), some (.int a3)]) (st' := [.int a3, .ref a0, .int a2, .int a1, .ref a0]) (sg := [(.aload_n 0, 0), (.iload_n 1, 0), (.iload_n 2, 0), (.aload_n 0, 0), (.iload_n 3, 0)]) (lSa_ok dd17) rfl ?_
            obtain ⟨_, o25, e24, m26, h⟩ := gOb_inv h
            refine Y.callA (yC.Vi (b := a0) (As := [.int a3]) (st := [.int a2, .int a1, .ref a0]) (r := ("PartlisterModel", T_M, 9)) hV.1 cb_M_make lk_M_120 in_M_make rfl se_M_make (lIa_ok dd18) rfl rfl (Nat.le_of_ble_eq_true rfl) (by decide) e24 m26) (k_M_make hV G22 a0 a3) h (fun v28 G27 _ h => ?_)
            obtain ⟨_, o30, e29, m31, h⟩ := gOb_inv h
            refine Y.callA (yC.Vi (b := a0) (As := [.int a1, .int a2, .ref v28]) (st := []) (r := ("PartlisterModel", T_M, 9)) hV.1 cb_M_write lk_M_150 in_M_write rfl se_M_write (lIa_ok dd19) rfl rfl (Nat.le_of_ble_eq_true rfl) (by decide) e29 m31) (k_M_write hV G27 a0 a1 a2 v28) h (fun v33 G32 _ h => ?_)
            refine Y.blk (pc' := 67) (L' := [some (.ref a0), some (.int a1), some (.int a2), some (.int a3)]) (st' := [.int (nI 0), .ref v33]) (sg := [(.iconst 0, nI 0)]) (lSa_ok dd20) rfl ?_
            refine Y.iald (t0 := 0) (lIa_ok dd21) rfl h (fun v34 h => ?_)
            exact Y.iret rfl (lIa_ok dd22) h
          · refine Y.blk (pc' := 54) (L' := [some (.ref a0), some (.int a1), some (.int a2), some (.int a3)]) (st' := [.int (nI 0)]) (sg := [(.iconst 0, nI 0)]) (lSa_ok dd23) rfl ?_
            exact Y.iret rfl (lIa_ok dd24) h
        · refine Y.blk (pc' := 47) (L' := [some (.ref a0), some (.int a1), some (.int a2), some (.int a3)]) (st' := [.int (nI 2), .int (nI 0), .ref a0]) (sg := [(.iconst 0, nI 0), (.iconst 2, nI 2)]) (lSa_ok dd25) rfl ?_
          obtain ⟨_, o37, e36, m38, h⟩ := gOb_inv h
          refine Y.callI (yC.Vi (b := a0) (As := [.int (nI 0), .int (nI 2)]) (st := []) (r := ("PartlisterModel", T_M, 9)) hV.1 cb_M_refuse lk_M_36 in_M_refuse rfl se_M_refuse (lIa_ok dd15) rfl rfl (Nat.le_of_ble_eq_true rfl) (by decide) e36 m38) (k_M_refuse hV G17 a0 (nI 0) (nI 2)) h (fun v40 G39 _ h => ?_)
          refine Y.if_eq (off := 5) (tgt := 55) (lIa_ok dd16) (by decide) h (fun c52 h => ?_) (fun c52 h => ?_)
          · refine Y.blk (pc' := 60) (L' := [some (.ref a0), some (.int a1), some (.int a2), some (.int a3)]) (st' := [.int a3, .ref a0, .int a2, .int a1, .ref a0]) (sg := [(.aload_n 0, 0), (.iload_n 1, 0), (.iload_n 2, 0), (.aload_n 0, 0), (.iload_n 3, 0)]) (lSa_ok dd17) rfl ?_
            obtain ⟨_, o42, e41, m43, h⟩ := gOb_inv h
            refine Y.callA (yC.Vi (b := a0) (As := [.int a3]) (st := [.int a2, .int a1, .ref a0]) (r := ("PartlisterModel", T_M, 9)) hV.1 cb_M_make lk_M_120 in_M_make rfl se_M_make (lIa_ok dd18) rfl rfl (Nat.le_of_ble_eq_true rfl) (by decide) e41 m43) (k_M_make hV G39 a0 a3) h (fun v45 G44 _ h => ?_)
            obtain ⟨_, o47, e46, m48, h⟩ := gOb_inv h
            refine Y.callA (yC.Vi (b := a0) (As := [.int a1, .int a2, .ref v45]) (st := []) (r := ("PartlisterModel", T_M, 9)) hV.1 cb_M_write lk_M_150 in_M_write rfl se_M_write (lIa_ok dd19) rfl rfl (Nat.le_of_ble_eq_true rfl) (by decide) e46 m48) (k_M_write hV G44 a0 a1 a2 v45) h (fun v50 G49 _ h => ?_)
            refine Y.blk (pc' := 67) (L' := [some (.ref a0), some (.int a1), some (.int a2), some (.int a3)]) (st' := [.int (nI 0), .ref v50]) (sg := [(.iconst 0, nI 0)]) (lSa_ok dd20) rfl ?_
            refine Y.iald (t0 := 0) (lIa_ok dd21) rfl h (fun v51 h => ?_)
            exact Y.iret rfl (lIa_ok dd22) h
          · refine Y.blk (pc' := 54) (L' := [some (.ref a0), some (.int a1), some (.int a2), some (.int a3)]) (st' := [.int (nI 0)]) (sg := [(.iconst 0, nI 0)]) (lSa_ok dd23) rfl ?_
            exact Y.iret rfl (lIa_ok dd24) h
      · refine Y.blk (pc' := 54) (L' := [some (.ref a0), some (.int a1), some (.int a2), some (.int a3)]) (st' := [.int (nI 0)]) (sg := [(.iconst 0, nI 0)]) (lSa_ok dd23) rfl ?_
        exact Y.iret rfl (lIa_ok dd24) h
    · refine Y.blk (pc' := 19) (L' := [some (.ref a0), some (.int a1), some (.int a2), some (.int a3)]) (st' := [.int (nI 1), .ref a0]) (sg := [(.iconst 1, nI 1)]) (lSa_ok dd26) rfl ?_
      refine Y.goto (off := 4) (tgt := 23) (lIa_ok dd27) (by decide) ?_
      refine Y.blk (pc' := 24) (L' := [some (.ref a0), some (.int a1), some (.int a2), some (.int a3)]) (st' := [.int (nI 1), .int (nI 1), .ref a0]) (sg := [(.iconst 1, nI 1)]) (lSa_ok dd28) rfl ?_
      obtain ⟨_, o56, e55, m57, h⟩ := gOb_inv h
      refine Y.callI (yC.Vi (b := a0) (As := [.int (nI 1), .int (nI 1)]) (st := []) (r := ("PartlisterModel", T_M, 9)) hV.1 cb_M_start lk_M_114 in_M_start rfl se_M_start (lIa_ok dd7) rfl rfl (Nat.le_of_ble_eq_true rfl) (by decide) e55 m57) (k_M_start hV G9 a0 (nI 1) (nI 1)) h (fun v59 G58 _ h => ?_)
      refine Y.if_ne (off := 26) (tgt := 53) (lIa_ok dd8) (by decide) h (fun c98 h => ?_) (fun c98 h => ?_)
      · refine Y.blk (pc' := 35) (L' := [some (.ref a0), some (.int a1), some (.int a2), some (.int a3)]) (st' := [.int (nI 30), .int (nI 0), .int a3, .ref a0]) (sg := [(.aload_n 0, 0), (.iload_n 3, 0), (.iconst 0, nI 0), (.bipush 30, nI 30)]) (lSa_ok dd9) rfl ?_
        refine Y.callI (yC.S (As := [.int a3, .int (nI 0), .int (nI 30)]) (st := [.ref a0]) hV.1 cb_M_isIn lk_M_40 st_M_isIn (lIa_ok dd10) rfl rfl (Nat.le_of_ble_eq_true rfl) (by decide)) (k_M_isIn hV G58 a3 (nI 0) (nI 30)) h (fun v62 G61 _ h => ?_)
        refine Y.if_ne (off := 7) (tgt := 45) (lIa_ok dd11) (by decide) h (fun c97 h => ?_) (fun c97 h => ?_)
        · refine Y.blk (pc' := 42) (L' := [some (.ref a0), some (.int a1), some (.int a2), some (.int a3)]) (st' := [.int (nI 1), .ref a0]) (sg := [(.iconst 1, nI 1)]) (lSa_ok dd12) rfl ?_
          refine Y.goto (off := 4) (tgt := 46) (lIa_ok dd13) (by decide) ?_
          refine Y.blk (pc' := 47) (L' := [some (.ref a0), some (.int a1), some (.int a2), some (.int a3)]) (st' := [.int (nI 2), .int (nI 1), .ref a0]) (sg := [(.iconst 2, nI 2)]) (lSa_ok dd14) rfl ?_
          obtain ⟨_, o64, e63, m65, h⟩ := gOb_inv h
          refine Y.callI (yC.Vi (b := a0) (As := [.int (nI 1), .int (nI 2)]) (st := []) (r := ("PartlisterModel", T_M, 9)) hV.1 cb_M_refuse lk_M_36 in_M_refuse rfl se_M_refuse (lIa_ok dd15) rfl rfl (Nat.le_of_ble_eq_true rfl) (by decide) e63 m65) (k_M_refuse hV G61 a0 (nI 1) (nI 2)) h (fun v67 G66 _ h => ?_)
          refine Y.if_eq (off := 5) (tgt := 55) (lIa_ok dd16) (by decide) h (fun c79 h => ?_) (fun c79 h => ?_)
          · refine Y.blk (pc' := 60) (L' := [some (.ref a0), some (.int a1), some (.int a2), some (.int a3)]) (st' := [.int a3, .ref a0, .int a2, .int a1, .ref a0]) (sg := [(.aload_n 0, 0), (.iload_n 1, 0), (.iload_n 2, 0), (.aload_n 0, 0), (.iload_n 3, 0)]) (lSa_ok dd17) rfl ?_
            obtain ⟨_, o69, e68, m70, h⟩ := gOb_inv h
            refine Y.callA (yC.Vi (b := a0) (As := [.int a3]) (st := [.int a2, .int a1, .ref a0]) (r := ("PartlisterModel", T_M, 9)) hV.1 cb_M_make lk_M_120 in_M_make rfl se_M_make (lIa_ok dd18) rfl rfl (Nat.le_of_ble_eq_true rfl) (by decide) e68 m70) (k_M_make hV G66 a0 a3) h (fun v72 G71 _ h => ?_)
            obtain ⟨_, o74, e73, m75, h⟩ := gOb_inv h
            refine Y.callA (yC.Vi (b := a0) (As := [.int a1, .int a2, .ref v72]) (st := []) (r := ("PartlisterModel", T_M, 9)) hV.1 cb_M_write lk_M_150 in_M_write rfl se_M_write (lIa_ok dd19) rfl rfl (Nat.le_of_ble_eq_true rfl) (by decide) e73 m75) (k_M_write hV G71 a0 a1 a2 v72) h (fun v77 G76 _ h => ?_)
            refine Y.blk (pc' := 67) (L' := [some (.ref a0), some (.int a1), some (.int a2), some (.int a3)]) (st' := [.int (nI 0), .ref v77]) (sg := [(.iconst 0, nI 0)]) (lSa_ok dd20) rfl ?_
            refine Y.iald (t0 := 0) (lIa_ok dd21) rfl h (fun v78 h => ?_)
            exact Y.iret rfl (lIa_ok dd22) h
          · refine Y.blk (pc' := 54) (L' := [some (.ref a0), some (.int a1), some (.int a2), some (.int a3)]) (st' := [.int (nI 0)]) (sg := [(.iconst 0, nI 0)]) (lSa_ok dd23) rfl ?_
            exact Y.iret rfl (lIa_ok dd24) h
        · refine Y.blk (pc' := 47) (L' := [some (.ref a0), some (.int a1), some (.int a2), some (.int a3)]) (st' := [.int (nI 2), .int (nI 0), .ref a0]) (sg := [(.iconst 0, nI 0), (.iconst 2, nI 2)]) (lSa_ok dd25) rfl ?_
          obtain ⟨_, o81, e80, m82, h⟩ := gOb_inv h
          refine Y.callI (yC.Vi (b := a0) (As := [.int (nI 0), .int (nI 2)]) (st := []) (r := ("PartlisterModel", T_M, 9)) hV.1 cb_M_refuse lk_M_36 in_M_refuse rfl se_M_refuse (lIa_ok dd15) rfl rfl (Nat.le_of_ble_eq_true rfl) (by decide) e80 m82) (k_M_refuse hV G61 a0 (nI 0) (nI 2)) h (fun v84 G83 _ h => ?_)
          refine Y.if_eq (off := 5) (tgt := 55) (lIa_ok dd16) (by decide) h (fun c96 h => ?_) (fun c96 h => ?_)
          · refine Y.blk (pc' := 60) (L' := [some (.ref a0), some (.int a1), some (.int a2), some (.int a3)]) (st' := [.int a3, .ref a0, .int a2, .int a1, .ref a0]) (sg := [(.aload_n 0, 0), (.iload_n 1, 0), (.iload_n 2, 0), (.aload_n 0, 0), (.iload_n 3, 0)]) (lSa_ok dd17) rfl ?_
            obtain ⟨_, o86, e85, m87, h⟩ := gOb_inv h
            refine Y.callA (yC.Vi (b := a0) (As := [.int a3]) (st := [.int a2, .int a1, .ref a0]) (r := ("PartlisterModel", T_M, 9)) hV.1 cb_M_make lk_M_120 in_M_make rfl se_M_make (lIa_ok dd18) rfl rfl (Nat.le_of_ble_eq_true rfl) (by decide) e85 m87) (k_M_make hV G83 a0 a3) h (fun v89 G88 _ h => ?_)
            obtain ⟨_, o91, e90, m92, h⟩ := gOb_inv h
            refine Y.callA (yC.Vi (b := a0) (As := [.int a1, .int a2, .ref v89]) (st := []) (r := ("PartlisterModel", T_M, 9)) hV.1 cb_M_write lk_M_150 in_M_write rfl se_M_write (lIa_ok dd19) rfl rfl (Nat.le_of_ble_eq_true rfl) (by decide) e90 m92) (k_M_write hV G88 a0 a1 a2 v89) h (fun v94 G93 _ h => ?_)
            refine Y.blk (pc' := 67) (L' := [some (.ref a0), some (.int a1), some (.int a2), some (.int a3)]) (st' := [.int (nI 0), .ref v94]) (sg := [(.iconst 0, nI 0)]) (lSa_ok dd20) rfl ?_
            refine Y.iald (t0 := 0) (lIa_ok dd21) rfl h (fun v95 h => ?_)
            exact Y.iret rfl (lIa_ok dd22) h
          · refine Y.blk (pc' := 54) (L' := [some (.ref a0), some (.int a1), some (.int a2), some (.int a3)]) (st' := [.int (nI 0)]) (sg := [(.iconst 0, nI 0)]) (lSa_ok dd23) rfl ?_
            exact Y.iret rfl (lIa_ok dd24) h
      · refine Y.blk (pc' := 54) (L' := [some (.ref a0), some (.int a1), some (.int a2), some (.int a3)]) (st' := [.int (nI 0)]) (sg := [(.iconst 0, nI 0)]) (lSa_ok dd23) rfl ?_
        exact Y.iret rfl (lIa_ok dd24) h
  · refine Y.blk (pc' := 19) (L' := [some (.ref a0), some (.int a1), some (.int a2), some (.int a3)]) (st' := [.int (nI 1), .ref a0]) (sg := [(.iconst 1, nI 1)]) (lSa_ok dd26) rfl ?_
    refine Y.goto (off := 4) (tgt := 23) (lIa_ok dd27) (by decide) ?_
    refine Y.blk (pc' := 24) (L' := [some (.ref a0), some (.int a1), some (.int a2), some (.int a3)]) (st' := [.int (nI 1), .int (nI 1), .ref a0]) (sg := [(.iconst 1, nI 1)]) (lSa_ok dd28) rfl ?_
    obtain ⟨_, o101, e100, m102, h⟩ := gOb_inv h
    refine Y.callI (yC.Vi (b := a0) (As := [.int (nI 1), .int (nI 1)]) (st := []) (r := ("PartlisterModel", T_M, 9)) hV.1 cb_M_start lk_M_114 in_M_start rfl se_M_start (lIa_ok dd7) rfl rfl (Nat.le_of_ble_eq_true rfl) (by decide) e100 m102) (k_M_start hV G4 a0 (nI 1) (nI 1)) h (fun v104 G103 _ h => ?_)
    refine Y.if_ne (off := 26) (tgt := 53) (lIa_ok dd8) (by decide) h (fun c143 h => ?_) (fun c143 h => ?_)
    · refine Y.blk (pc' := 35) (L' := [some (.ref a0), some (.int a1), some (.int a2), some (.int a3)]) (st' := [.int (nI 30), .int (nI 0), .int a3, .ref a0]) (sg := [(.aload_n 0, 0), (.iload_n 3, 0), (.iconst 0, nI 0), (.bipush 30, nI 30)]) (lSa_ok dd9) rfl ?_
      refine Y.callI (yC.S (As := [.int a3, .int (nI 0), .int (nI 30)]) (st := [.ref a0]) hV.1 cb_M_isIn lk_M_40 st_M_isIn (lIa_ok dd10) rfl rfl (Nat.le_of_ble_eq_true rfl) (by decide)) (k_M_isIn hV G103 a3 (nI 0) (nI 30)) h (fun v107 G106 _ h => ?_)
      refine Y.if_ne (off := 7) (tgt := 45) (lIa_ok dd11) (by decide) h (fun c142 h => ?_) (fun c142 h => ?_)
      · refine Y.blk (pc' := 42) (L' := [some (.ref a0), some (.int a1), some (.int a2), some (.int a3)]) (st' := [.int (nI 1), .ref a0]) (sg := [(.iconst 1, nI 1)]) (lSa_ok dd12) rfl ?_
        refine Y.goto (off := 4) (tgt := 46) (lIa_ok dd13) (by decide) ?_
        refine Y.blk (pc' := 47) (L' := [some (.ref a0), some (.int a1), some (.int a2), some (.int a3)]) (st' := [.int (nI 2), .int (nI 1), .ref a0]) (sg := [(.iconst 2, nI 2)]) (lSa_ok dd14) rfl ?_
        obtain ⟨_, o109, e108, m110, h⟩ := gOb_inv h
        refine Y.callI (yC.Vi (b := a0) (As := [.int (nI 1), .int (nI 2)]) (st := []) (r := ("PartlisterModel", T_M, 9)) hV.1 cb_M_refuse lk_M_36 in_M_refuse rfl se_M_refuse (lIa_ok dd15) rfl rfl (Nat.le_of_ble_eq_true rfl) (by decide) e108 m110) (k_M_refuse hV G106 a0 (nI 1) (nI 2)) h (fun v112 G111 _ h => ?_)
        refine Y.if_eq (off := 5) (tgt := 55) (lIa_ok dd16) (by decide) h (fun c124 h => ?_) (fun c124 h => ?_)
        · refine Y.blk (pc' := 60) (L' := [some (.ref a0), some (.int a1), some (.int a2), some (.int a3)]) (st' := [.int a3, .ref a0, .int a2, .int a1, .ref a0]) (sg := [(.aload_n 0, 0), (.iload_n 1, 0), (.iload_n 2, 0), (.aload_n 0, 0), (.iload_n 3, 0)]) (lSa_ok dd17) rfl ?_
          obtain ⟨_, o114, e113, m115, h⟩ := gOb_inv h
          refine Y.callA (yC.Vi (b := a0) (As := [.int a3]) (st := [.int a2, .int a1, .ref a0]) (r := ("PartlisterModel", T_M, 9)) hV.1 cb_M_make lk_M_120 in_M_make rfl se_M_make (lIa_ok dd18) rfl rfl (Nat.le_of_ble_eq_true rfl) (by decide) e113 m115) (k_M_make hV G111 a0 a3) h (fun v117 G116 _ h => ?_)
          obtain ⟨_, o119, e118, m120, h⟩ := gOb_inv h
          refine Y.callA (yC.Vi (b := a0) (As := [.int a1, .int a2, .ref v117]) (st := []) (r := ("PartlisterModel", T_M, 9)) hV.1 cb_M_write lk_M_150 in_M_write rfl se_M_write (lIa_ok dd19) rfl rfl (Nat.le_of_ble_eq_true rfl) (by decide) e118 m120) (k_M_write hV G116 a0 a1 a2 v117) h (fun v122 G121 _ h => ?_)
          refine Y.blk (pc' := 67) (L' := [some (.ref a0), some (.int a1), some (.int a2), some (.int a3)]) (st' := [.int (nI 0), .ref v122]) (sg := [(.iconst 0, nI 0)]) (lSa_ok dd20) rfl ?_
          refine Y.iald (t0 := 0) (lIa_ok dd21) rfl h (fun v123 h => ?_)
          exact Y.iret rfl (lIa_ok dd22) h
        · refine Y.blk (pc' := 54) (L' := [some (.ref a0), some (.int a1), some (.int a2), some (.int a3)]) (st' := [.int (nI 0)]) (sg := [(.iconst 0, nI 0)]) (lSa_ok dd23) rfl ?_
          exact Y.iret rfl (lIa_ok dd24) h
      · refine Y.blk (pc' := 47) (L' := [some (.ref a0), some (.int a1), some (.int a2), some (.int a3)]) (st' := [.int (nI 2), .int (nI 0), .ref a0]) (sg := [(.iconst 0, nI 0), (.iconst 2, nI 2)]) (lSa_ok dd25) rfl ?_
        obtain ⟨_, o126, e125, m127, h⟩ := gOb_inv h
        refine Y.callI (yC.Vi (b := a0) (As := [.int (nI 0), .int (nI 2)]) (st := []) (r := ("PartlisterModel", T_M, 9)) hV.1 cb_M_refuse lk_M_36 in_M_refuse rfl se_M_refuse (lIa_ok dd15) rfl rfl (Nat.le_of_ble_eq_true rfl) (by decide) e125 m127) (k_M_refuse hV G106 a0 (nI 0) (nI 2)) h (fun v129 G128 _ h => ?_)
        refine Y.if_eq (off := 5) (tgt := 55) (lIa_ok dd16) (by decide) h (fun c141 h => ?_) (fun c141 h => ?_)
        · refine Y.blk (pc' := 60) (L' := [some (.ref a0), some (.int a1), some (.int a2), some (.int a3)]) (st' := [.int a3, .ref a0, .int a2, .int a1, .ref a0]) (sg := [(.aload_n 0, 0), (.iload_n 1, 0), (.iload_n 2, 0), (.aload_n 0, 0), (.iload_n 3, 0)]) (lSa_ok dd17) rfl ?_
          obtain ⟨_, o131, e130, m132, h⟩ := gOb_inv h
          refine Y.callA (yC.Vi (b := a0) (As := [.int a3]) (st := [.int a2, .int a1, .ref a0]) (r := ("PartlisterModel", T_M, 9)) hV.1 cb_M_make lk_M_120 in_M_make rfl se_M_make (lIa_ok dd18) rfl rfl (Nat.le_of_ble_eq_true rfl) (by decide) e130 m132) (k_M_make hV G128 a0 a3) h (fun v134 G133 _ h => ?_)
          obtain ⟨_, o136, e135, m137, h⟩ := gOb_inv h
          refine Y.callA (yC.Vi (b := a0) (As := [.int a1, .int a2, .ref v134]) (st := []) (r := ("PartlisterModel", T_M, 9)) hV.1 cb_M_write lk_M_150 in_M_write rfl se_M_write (lIa_ok dd19) rfl rfl (Nat.le_of_ble_eq_true rfl) (by decide) e135 m137) (k_M_write hV G133 a0 a1 a2 v134) h (fun v139 G138 _ h => ?_)
          refine Y.blk (pc' := 67) (L' := [some (.ref a0), some (.int a1), some (.int a2), some (.int a3)]) (st' := [.int (nI 0), .ref v139]) (sg := [(.iconst 0, nI 0)]) (lSa_ok dd20) rfl ?_
          refine Y.iald (t0 := 0) (lIa_ok dd21) rfl h (fun v140 h => ?_)
          exact Y.iret rfl (lIa_ok dd22) h
        · refine Y.blk (pc' := 54) (L' := [some (.ref a0), some (.int a1), some (.int a2), some (.int a3)]) (st' := [.int (nI 0)]) (sg := [(.iconst 0, nI 0)]) (lSa_ok dd23) rfl ?_
          exact Y.iret rfl (lIa_ok dd24) h
    · refine Y.blk (pc' := 54) (L' := [some (.ref a0), some (.int a1), some (.int a2), some (.int a3)]) (st' := [.int (nI 0)]) (sg := [(.iconst 0, nI 0)]) (lSa_ok dd23) rfl ?_
      exact Y.iret rfl (lIa_ok dd24) h

def f_M_size (G : gH) (a0 : Nat) (a1 : Int32) : gR :=
  bI (f_M_isIn G a1 (nI 0) (nI 5)) fun v3 G2 => if v3 = 0 then (gOb G2 a0 6 fun o5 => bI (f_M_start G2 a0 (nI 1) (nI 1)) fun v8 G7 => if v8 = 0 then gOb G7 a0 6 fun o10 => bI (f_M_sizeOf G7 a0 a1) fun v13 G12 => rI v13 G12
    else rI (nI 0) G7)
  else gOb G2 a0 6 fun o16 => bI (f_M_start G2 a0 (nI 0) (nI 1)) fun v19 G18 => if v19 = 0 then gOb G18 a0 6 fun o21 => bI (f_M_sizeOf G18 a0 a1) fun v24 G23 => rI v24 G23
    else rI (nI 0) G18
theorem k_M_size {l : Launch} {D : va_G} {B : Nat} {O : State → Heap → Prop} (hV : zG l D B O) (G : gH) (a0 : Nat) (a1 : Int32) : gMet (zVm l D B O) m_M_size 7 [.ref a0, .int a1] G (f_M_size G a0 a1) := by
  have hdd : lSa m_M_size 0 [(.aload_n 0, 0), (.iload_n 1, 0), (.iconst 0, nI 0), (.iconst 5, nI 5)] = true ∧ lIa m_M_size 4 (.invokestatic 40) 3 = true ∧ lIa m_M_size 7 (.ifCond .ne 7) 3 = true ∧ lSa m_M_size 10 [(.iconst 1, nI 1)] = true ∧ lIa m_M_size 11 (.goto 4) 3 = true ∧ lSa m_M_size 15 [(.iconst 1, nI 1)] = true ∧ lIa m_M_size 16 (.invokevirtual 114) 3 = true ∧ lIa m_M_size 19 (.ifCond .eq 7) 3 = true ∧ lSa m_M_size 26 [(.aload_n 0, 0), (.iload_n 1, 0)] = true ∧ lIa m_M_size 28 (.invokevirtual 223) 3 = true ∧ lIa m_M_size 31 (.ireturn) 1 = true ∧ lSa m_M_size 22 [(.iconst 0, nI 0)] = true ∧ lIa m_M_size 23 (.goto 8) 3 = true ∧ lSa m_M_size 14 [(.iconst 0, nI 0), (.iconst 1, nI 1)] = true := by decide +kernel
  refine lA8 hdd (fun dd0 dd1 dd2 dd3 dd4 dd5 dd6 dd7 hdd => ?_)
  obtain ⟨dd8, dd9, dd10, dd11, dd12, dd13⟩ := hdd
  refine gMet.of (by decide +kernel) (Nat.le_of_ble_eq_true rfl) [some (.ref a0), some (.int a1)] (fun ls h => zEn_ok (n := 2) h) ?_
  intro o Gf h
  unfold f_M_size at h
  refine Y.blk (pc' := 4) (L' := [some (.ref a0), some (.int a1)]) (st' := [.int (nI 5), .int (nI 0), .int a1, .ref a0]) (sg := [(.aload_n 0, 0), (.iload_n 1, 0), (.iconst 0, nI 0), (.iconst 5, nI 5)]) (lSa_ok dd0) rfl ?_
  refine Y.callI (yC.S (As := [.int a1, .int (nI 0), .int (nI 5)]) (st := [.ref a0]) hV.1 cb_M_isIn lk_M_40 st_M_isIn (lIa_ok dd1) rfl rfl (Nat.le_of_ble_eq_true rfl) (by decide)) (k_M_isIn hV G a1 (nI 0) (nI 5)) h (fun v3 G2 _ h => ?_)
  refine Y.if_ne (off := 7) (tgt := 14) (lIa_ok dd2) (by decide) h (fun c26 h => ?_) (fun c26 h => ?_)
  · refine Y.blk (pc' := 11) (L' := [some (.ref a0), some (.int a1)]) (st' := [.int (nI 1), .ref a0]) (sg := [(.iconst 1, nI 1)]) (lSa_ok dd3) rfl ?_
    refine Y.goto (off := 4) (tgt := 15) (lIa_ok dd4) (by decide) ?_
    refine Y.blk (pc' := 16) (L' := [some (.ref a0), some (.int a1)]) (st' := [.int (nI 1), .int (nI 1), .ref a0]) (sg := [(.iconst 1, nI 1)]) (lSa_ok dd5) rfl ?_
    obtain ⟨_, o5, e4, m6, h⟩ := gOb_inv h
    refine Y.callI (yC.Vi (b := a0) (As := [.int (nI 1), .int (nI 1)]) (st := []) (r := ("PartlisterModel", T_M, 9)) hV.1 cb_M_start lk_M_114 in_M_start rfl se_M_start (lIa_ok dd6) rfl rfl (Nat.le_of_ble_eq_true rfl) (by decide) e4 m6) (k_M_start hV G2 a0 (nI 1) (nI 1)) h (fun v8 G7 _ h => ?_)
    refine Y.if_eq (off := 7) (tgt := 26) (lIa_ok dd7) (by decide) h (fun c14 h => ?_) (fun c14 h => ?_)
    · refine Y.blk (pc' := 28) (L' := [some (.ref a0), some (.int a1)]) (st' := [.int a1, .ref a0]) (sg := [(.aload_n 0, 0), (.iload_n 1, 0)]) (lSa_ok dd8) rfl ?_
      obtain ⟨_, o10, e9, m11, h⟩ := gOb_inv h
      refine Y.callI (yC.Vi (b := a0) (As := [.int a1]) (st := []) (r := ("PartlisterModel", T_M, 9)) hV.1 cb_M_sizeOf lk_M_223 in_M_sizeOf rfl se_M_sizeOf (lIa_ok dd9) rfl rfl (Nat.le_of_ble_eq_true rfl) (by decide) e9 m11) (k_M_sizeOf hV G7 a0 a1) h (fun v13 G12 _ h => ?_)
      exact Y.iret rfl (lIa_ok dd10) h
    · refine Y.blk (pc' := 23) (L' := [some (.ref a0), some (.int a1)]) (st' := [.int (nI 0)]) (sg := [(.iconst 0, nI 0)]) (lSa_ok dd11) rfl ?_
      refine Y.goto (off := 8) (tgt := 31) (lIa_ok dd12) (by decide) ?_
      exact Y.iret rfl (lIa_ok dd10) h
  · refine Y.blk (pc' := 16) (L' := [some (.ref a0), some (.int a1)]) (st' := [.int (nI 1), .int (nI 0), .ref a0]) (sg := [(.iconst 0, nI 0), (.iconst 1, nI 1)]) (lSa_ok dd13) rfl ?_
    obtain ⟨_, o16, e15, m17, h⟩ := gOb_inv h
    refine Y.callI (yC.Vi (b := a0) (As := [.int (nI 0), .int (nI 1)]) (st := []) (r := ("PartlisterModel", T_M, 9)) hV.1 cb_M_start lk_M_114 in_M_start rfl se_M_start (lIa_ok dd6) rfl rfl (Nat.le_of_ble_eq_true rfl) (by decide) e15 m17) (k_M_start hV G2 a0 (nI 0) (nI 1)) h (fun v19 G18 _ h => ?_)
    refine Y.if_eq (off := 7) (tgt := 26) (lIa_ok dd7) (by decide) h (fun c25 h => ?_) (fun c25 h => ?_)
    · refine Y.blk (pc' := 28) (L' := [some (.ref a0), some (.int a1)]) (st' := [.int a1, .ref a0]) (sg := [(.aload_n 0, 0), (.iload_n 1, 0)]) (lSa_ok dd8) rfl ?_
      obtain ⟨_, o21, e20, m22, h⟩ := gOb_inv h
      refine Y.callI (yC.Vi (b := a0) (As := [.int a1]) (st := []) (r := ("PartlisterModel", T_M, 9)) hV.1 cb_M_sizeOf lk_M_223 in_M_sizeOf rfl se_M_sizeOf (lIa_ok dd9) rfl rfl (Nat.le_of_ble_eq_true rfl) (by decide) e20 m22) (k_M_sizeOf hV G18 a0 a1) h (fun v24 G23 _ h => ?_)
      exact Y.iret rfl (lIa_ok dd10) h
    · refine Y.blk (pc' := 23) (L' := [some (.ref a0), some (.int a1)]) (st' := [.int (nI 0)]) (sg := [(.iconst 0, nI 0)]) (lSa_ok dd11) rfl ?_
      refine Y.goto (off := 8) (tgt := 31) (lIa_ok dd12) (by decide) ?_
      exact Y.iret rfl (lIa_ok dd10) h

def f_M_sort_L54 (w : Nat → Nat) (K114 : gH → Nat → Int32 → Int32 → gR) : Nat → gH → Nat → Int32 → Nat → Int32 → Int32 → gR
  | 0, _, _, _, _, _, _ => none
  | n + 1, G, x0, x1, x3, x4, x5 =>
    gOb G x3 9 fun o27 => bI (f_AL_size G x3) fun v30 G29 => if v30 ≤ x5 then K114 G29 x0 x1 x4
    else gOb G29 x3 9 fun o32 => bA (f_AL_get G29 x3 x5) fun v35 G34 => gCaA G34 v35 100 (gOb G34 x0 6 fun o37 => bA (f_M_write G34 x0 x1 x5 v35) fun v40 G39 => gLd G39 v40 100 (nI 1) fun v41 => gOb G39 x3 9 fun o43 => bA (f_AL_get G39 x3 x5) fun v46 G45 => gCaA G45 v46 100 (gLd G45 v46 100 (nI 1) fun v47 => if v41 = v47 then bI (f_M_one G45 (nI 0)) fun v50 G49 => f_M_sort_L54 w K114 n G49 x0 x1 x3 (x4 + v50) (x5 + (nI 1))
      else bI (f_M_one G45 (nI 1)) fun v53 G52 => f_M_sort_L54 w K114 n G52 x0 x1 x3 (x4 + v53) (x5 + (nI 1))))
def f_M_sort (w : Nat → Nat) (G : gH) (a0 : Nat) (a1 : Int32) (a2 : Int32) : gR :=
  gOb G a0 6 fun o2 => bI (f_M_isNoList G a0 a1) fun v5 G4 => gOb G4 a0 6 fun o7 => bI (f_M_start G4 a0 v5 (nI 1)) fun v10 G9 => if v10 = 0 then (bI (f_M_isIn G9 a2 (nI 0) (nI 4)) fun v13 G12 => if v13 = 0 then (gOb G12 a0 6 fun o15 => bI (f_M_refuse G12 a0 (nI 1) (nI 2)) fun v18 G17 => if v18 = 0 then gOb G17 a0 6 fun o20 => bA (f_M_copy w G17 a0 a1) fun v23 G22 => bV (f_M_order G22 v23 a2) fun G25 => f_M_sort_L54 w (fun G59 x56 x57 x58 => gOb G59 x56 6 fun o61 => bI (f_M_rowOf zDp G59 x56 x57) fun v64 G63 => gOb G63 x56 6 fun o66 => bI (f_M_endParts G63 x56 v64 x57) fun v69 G68 => gOb G68 x56 6 fun o71 => bI (f_M_rowOf zDp G68 x56 x57) fun v74 G73 => gOb G73 x56 6 fun o76 => bV (f_M_endCursors G73 x56 v74) fun G78 => rI x58 G78) zFu G25 a0 a1 v23 (nI 0) (nI 0)
      else rI (nI 0) G17)
    else gOb G12 a0 6 fun o81 => bI (f_M_refuse G12 a0 (nI 0) (nI 2)) fun v84 G83 => if v84 = 0 then gOb G83 a0 6 fun o86 => bA (f_M_copy w G83 a0 a1) fun v89 G88 => bV (f_M_order G88 v89 a2) fun G91 => f_M_sort_L54 w (fun G95 x92 x93 x94 => gOb G95 x92 6 fun o97 => bI (f_M_rowOf zDp G95 x92 x93) fun v100 G99 => gOb G99 x92 6 fun o102 => bI (f_M_endParts G99 x92 v100 x93) fun v105 G104 => gOb G104 x92 6 fun o107 => bI (f_M_rowOf zDp G104 x92 x93) fun v110 G109 => gOb G109 x92 6 fun o112 => bV (f_M_endCursors G109 x92 v110) fun G114 => rI x94 G114) zFu G91 a0 a1 v89 (nI 0) (nI 0)
      else rI (nI 0) G83)
  else rI (nI 0) G9
theorem k_M_sort_L54 {l : Launch} {D : va_G} {B : Nat} {O : State → Heap → Prop} {w : Nat → Nat} (hV : zGw l D B O w) {o : gO} {Gf : gH} (K114 : gH → Nat → Int32 → Int32 → gR) (hK114 : ∀ (G : gH) (x0 : Nat) (x1 : Int32) (x4 : Int32), K114 G x0 x1 x4 = some (o, Gf) → Y (zVm l D B O) m_M_sort 14 o Gf 114 [some (.ref x0), some (.int x1), none, none, some (.int x4), none] [] G) : ∀ (n : Nat) (G : gH) (x0 : Nat) (x1 : Int32) (x3 : Nat) (x4 : Int32) (x5 : Int32), f_M_sort_L54 w K114 n G x0 x1 x3 x4 x5 = some (o, Gf) → Y (zVm l D B O) m_M_sort 14 o Gf 54 [some (.ref x0), some (.int x1), none, some (.ref x3), some (.int x4), some (.int x5)] [] G := by
  have hdd : lSa m_M_sort 54 [(.iload 5, 0), (.aload_n 3, 0)] = true ∧ lIa m_M_sort 57 (.invokevirtual 61) 3 = true ∧ lIa m_M_sort 60 (.if_icmp .ge 54) 3 = true ∧ lSa m_M_sort 63 [(.iload 4, 0), (.aload_n 0, 0), (.iload_n 1, 0), (.iload 5, 0), (.aload_n 3, 0), (.iload 5, 0)] = true ∧ lIa m_M_sort 72 (.invokevirtual 57) 3 = true ∧ lIa m_M_sort 75 (.checkcast 72) 3 = true ∧ lIa m_M_sort 78 (.invokevirtual 150) 3 = true ∧ lSa m_M_sort 81 [(.iconst 1, nI 1)] = true ∧ lIa m_M_sort 82 (.iaload) 1 = true ∧ lSa m_M_sort 83 [(.aload_n 3, 0), (.iload 5, 0)] = true ∧ lIa m_M_sort 86 (.invokevirtual 57) 3 = true ∧ lIa m_M_sort 89 (.checkcast 72) 3 = true ∧ lSa m_M_sort 92 [(.iconst 1, nI 1)] = true ∧ lIa m_M_sort 93 (.iaload) 1 = true ∧ lIa m_M_sort 94 (.if_icmp .eq 7) 3 = true ∧ lSa m_M_sort 101 [(.iconst 0, nI 0)] = true ∧ lIa m_M_sort 102 (.invokestatic 188) 3 = true ∧ lSa m_M_sort 105 [(.iadd, 0), (.istore 4, 0), (.iinc 5 1, nI 1)] = true ∧ lIa m_M_sort 111 (.goto (-57)) 3 = true ∧ lSa m_M_sort 97 [(.iconst 1, nI 1)] = true ∧ lIa m_M_sort 98 (.goto 4) 3 = true := by decide +kernel
  refine lA8 hdd (fun dd0 dd1 dd2 dd3 dd4 dd5 dd6 dd7 hdd => ?_)
  refine lA8 hdd (fun dd8 dd9 dd10 dd11 dd12 dd13 dd14 dd15 hdd => ?_)
  obtain ⟨dd16, dd17, dd18, dd19, dd20⟩ := hdd
  intro n
  induction n with
  | zero => intro G x0 x1 x3 x4 x5 h; cases h
  | succ n ih =>
    intro G x0 x1 x3 x4 x5 h
    unfold f_M_sort_L54 at h
    refine Y.blk (pc' := 57) (L' := [some (.ref x0), some (.int x1), none, some (.ref x3), some (.int x4), some (.int x5)]) (st' := [.ref x3, .int x5]) (sg := [(.iload 5, 0), (.aload_n 3, 0)]) (lSa_ok dd0) rfl ?_
    obtain ⟨_, o27, e26, m28, h⟩ := gOb_inv h
    refine Y.callI (yC.Vi (b := x3) (As := []) (st := [.int x5]) (r := ("java/util/ArrayList", T_AL, 3)) hV.1.1 cb_AL_size lk_M_61 in_AL_size rfl se_AL_size (lIa_ok dd1) rfl rfl (Nat.le_of_ble_eq_true rfl) (by decide) e26 m28) (k_AL_size hV.1 G x3) h (fun v30 G29 _ h => ?_)
    refine Y.ic_ge (off := 54) (tgt := 114) (lIa_ok dd2) (by decide) h (fun c55 h => ?_) (fun c55 h => ?_)
    · refine Y.less (L' := [some (.ref x0), some (.int x1), none, none, some (.int x4), none]) (zLe_some (zLe_some (zLe_some (zLe_none (zLe_some (zLe_none (zLe_nil))))))) ?_
      exact hK114 G29 x0 x1 x4 h
    · refine Y.blk (pc' := 72) (L' := [some (.ref x0), some (.int x1), none, some (.ref x3), some (.int x4), some (.int x5)]) (st' := [.int x5, .ref x3, .int x5, .int x1, .ref x0, .int x4]) (sg := [(.iload 4, 0), (.aload_n 0, 0), (.iload_n 1, 0), (.iload 5, 0), (.aload_n 3, 0), (.iload 5, 0)]) (lSa_ok dd3) rfl ?_
      obtain ⟨_, o32, e31, m33, h⟩ := gOb_inv h
      refine Y.callA (yC.Vi (b := x3) (As := [.int x5]) (st := [.int x5, .int x1, .ref x0, .int x4]) (r := ("java/util/ArrayList", T_AL, 3)) hV.1.1 cb_AL_get lk_M_57 in_AL_get rfl se_AL_get (lIa_ok dd4) rfl rfl (Nat.le_of_ble_eq_true rfl) (by decide) e31 m33) (k_AL_get hV.1 G29 x3 x5) h (fun v35 G34 _ h => ?_)
      refine Y.castA (t0 := 0) (nm := "[I") (lIa_ok dd5) rfl (by decide) ck_M_72 h (fun h => ?_)
      obtain ⟨_, o37, e36, m38, h⟩ := gOb_inv h
      refine Y.callA (yC.Vi (b := x0) (As := [.int x1, .int x5, .ref v35]) (st := [.int x4]) (r := ("PartlisterModel", T_M, 9)) hV.1.1 cb_M_write lk_M_150 in_M_write rfl se_M_write (lIa_ok dd6) rfl rfl (Nat.le_of_ble_eq_true rfl) (by decide) e36 m38) (k_M_write hV.1 G34 x0 x1 x5 v35) h (fun v40 G39 _ h => ?_)
      refine Y.blk (pc' := 82) (L' := [some (.ref x0), some (.int x1), none, some (.ref x3), some (.int x4), some (.int x5)]) (st' := [.int (nI 1), .ref v40, .int x4]) (sg := [(.iconst 1, nI 1)]) (lSa_ok dd7) rfl ?_
      refine Y.iald (t0 := 0) (lIa_ok dd8) rfl h (fun v41 h => ?_)
      refine Y.blk (pc' := 86) (L' := [some (.ref x0), some (.int x1), none, some (.ref x3), some (.int x4), some (.int x5)]) (st' := [.int x5, .ref x3, .int v41, .int x4]) (sg := [(.aload_n 3, 0), (.iload 5, 0)]) (lSa_ok dd9) rfl ?_
      obtain ⟨_, o43, e42, m44, h⟩ := gOb_inv h
      refine Y.callA (yC.Vi (b := x3) (As := [.int x5]) (st := [.int v41, .int x4]) (r := ("java/util/ArrayList", T_AL, 3)) hV.1.1 cb_AL_get lk_M_57 in_AL_get rfl se_AL_get (lIa_ok dd10) rfl rfl (Nat.le_of_ble_eq_true rfl) (by decide) e42 m44) (k_AL_get hV.1 G39 x3 x5) h (fun v46 G45 _ h => ?_)
      refine Y.castA (t0 := 0) (nm := "[I") (lIa_ok dd11) rfl (by decide) ck_M_72 h (fun h => ?_)
      refine Y.blk (pc' := 93) (L' := [some (.ref x0), some (.int x1), none, some (.ref x3), some (.int x4), some (.int x5)]) (st' := [.int (nI 1), .ref v46, .int v41, .int x4]) (sg := [(.iconst 1, nI 1)]) (lSa_ok dd12) rfl ?_
      refine Y.iald (t0 := 0) (lIa_ok dd13) rfl h (fun v47 h => ?_)
      refine Y.ic_eq (off := 7) (tgt := 101) (lIa_ok dd14) (by decide) h (fun c54 h => ?_) (fun c54 h => ?_)
      · refine Y.blk (pc' := 102) (L' := [some (.ref x0), some (.int x1), none, some (.ref x3), some (.int x4), some (.int x5)]) (st' := [.int (nI 0), .int x4]) (sg := [(.iconst 0, nI 0)]) (lSa_ok dd15) rfl ?_
        refine Y.callI (yC.S (As := [.int (nI 0)]) (st := [.int x4]) hV.1.1 cb_M_one lk_M_188 st_M_one (lIa_ok dd16) rfl rfl (Nat.le_of_ble_eq_true rfl) (by decide)) (k_M_one hV.1 G45 (nI 0)) h (fun v50 G49 _ h => ?_)
        refine Y.blk (pc' := 111) (L' := [some (.ref x0), some (.int x1), none, some (.ref x3), some (.int (x4 + v50)), some (.int (x5 + (nI 1)))]) (st' := []) (sg := [(.iadd, 0), (.istore 4, 0), (.iinc 5 1, nI 1)]) (lSa_ok dd17) rfl ?_
        refine Y.goto (off := -57) (tgt := 54) (lIa_ok dd18) (by decide) ?_
        exact ih G49 x0 x1 x3 (x4 + v50) (x5 + (nI 1)) h
      · refine Y.blk (pc' := 98) (L' := [some (.ref x0), some (.int x1), none, some (.ref x3), some (.int x4), some (.int x5)]) (st' := [.int (nI 1), .int x4]) (sg := [(.iconst 1, nI 1)]) (lSa_ok dd19) rfl ?_
        refine Y.goto (off := 4) (tgt := 102) (lIa_ok dd20) (by decide) ?_
        refine Y.callI (yC.S (As := [.int (nI 1)]) (st := [.int x4]) hV.1.1 cb_M_one lk_M_188 st_M_one (lIa_ok dd16) rfl rfl (Nat.le_of_ble_eq_true rfl) (by decide)) (k_M_one hV.1 G45 (nI 1)) h (fun v53 G52 _ h => ?_)
        refine Y.blk (pc' := 111) (L' := [some (.ref x0), some (.int x1), none, some (.ref x3), some (.int (x4 + v53)), some (.int (x5 + (nI 1)))]) (st' := []) (sg := [(.iadd, 0), (.istore 4, 0), (.iinc 5 1, nI 1)]) (lSa_ok dd17) rfl ?_
        refine Y.goto (off := -57) (tgt := 54) (lIa_ok dd18) (by decide) ?_
        exact ih G52 x0 x1 x3 (x4 + v53) (x5 + (nI 1)) h
theorem k_M_sort {l : Launch} {D : va_G} {B : Nat} {O : State → Heap → Prop} {w : Nat → Nat} (hV : zGw l D B O w) (G : gH) (a0 : Nat) (a1 : Int32) (a2 : Int32) : gMet (zVm l D B O) m_M_sort 14 [.ref a0, .int a1, .int a2] G (f_M_sort w G a0 a1 a2) := by
  have hdd : lSa m_M_sort 0 [(.aload_n 0, 0), (.aload_n 0, 0), (.iload_n 1, 0)] = true ∧ lIa m_M_sort 3 (.invokevirtual 110) 3 = true ∧ lSa m_M_sort 6 [(.iconst 1, nI 1)] = true ∧ lIa m_M_sort 7 (.invokevirtual 114) 3 = true ∧ lIa m_M_sort 10 (.ifCond .ne 25) 3 = true ∧ lSa m_M_sort 13 [(.aload_n 0, 0), (.iload_n 2, 0), (.iconst 0, nI 0), (.iconst 4, nI 4)] = true ∧ lIa m_M_sort 17 (.invokestatic 40) 3 = true ∧ lIa m_M_sort 20 (.ifCond .ne 7) 3 = true ∧ lSa m_M_sort 23 [(.iconst 1, nI 1)] = true ∧ lIa m_M_sort 24 (.goto 4) 3 = true ∧ lSa m_M_sort 28 [(.iconst 2, nI 2)] = true ∧ lIa m_M_sort 29 (.invokevirtual 36) 3 = true ∧ lIa m_M_sort 32 (.ifCond .eq 5) 3 = true ∧ lSa m_M_sort 37 [(.aload_n 0, 0), (.iload_n 1, 0)] = true ∧ lIa m_M_sort 39 (.invokevirtual 136) 3 = true ∧ lSa m_M_sort 42 [(.astore_n 3, 0), (.aload_n 3, 0), (.iload_n 2, 0)] = true ∧ lIa m_M_sort 45 (.invokestatic 184) 3 = true ∧ lSa m_M_sort 48 [(.iconst 0, nI 0), (.istore 4, 0), (.iconst 0, nI 0), (.istore 5, 0)] = true ∧ lSa m_M_sort 114 [(.aload_n 0, 0), (.aload_n 0, 0), (.iload_n 1, 0)] = true ∧ lIa m_M_sort 117 (.invokevirtual 47) 3 = true ∧ lSa m_M_sort 120 [(.iload_n 1, 0)] = true ∧ lIa m_M_sort 121 (.invokevirtual 103) 3 = true ∧ lSa m_M_sort 124 [(.pop, 0), (.aload_n 0, 0), (.aload_n 0, 0), (.iload_n 1, 0)] = true ∧ lIa m_M_sort 128 (.invokevirtual 47) 3 = true ∧ lIa m_M_sort 131 (.invokevirtual 177) 3 = true ∧ lSa m_M_sort 134 [(.iload 4, 0)] = true ∧ lIa m_M_sort 136 (.ireturn) 1 = true ∧ lSa m_M_sort 35 [(.iconst 0, nI 0)] = true ∧ lIa m_M_sort 36 (.ireturn) 1 = true ∧ lSa m_M_sort 27 [(.iconst 0, nI 0), (.iconst 2, nI 2)] = true := by decide +kernel
  refine lA8 hdd (fun dd0 dd1 dd2 dd3 dd4 dd5 dd6 dd7 hdd => ?_)
  refine lA8 hdd (fun dd8 dd9 dd10 dd11 dd12 dd13 dd14 dd15 hdd => ?_)
  refine lA8 hdd (fun dd16 dd17 dd18 dd19 dd20 dd21 dd22 dd23 hdd => ?_)
  obtain ⟨dd24, dd25, dd26, dd27, dd28, dd29⟩ := hdd
  refine gMet.of (by decide +kernel) (Nat.le_of_ble_eq_true rfl) [some (.ref a0), some (.int a1), some (.int a2), none, none, none] (fun ls h => zEn_ok (n := 6) h) ?_
  intro o Gf h
  unfold f_M_sort at h
  refine Y.blk (pc' := 3) (L' := [some (.ref a0), some (.int a1), some (.int a2), none, none, none]) (st' := [.int a1, .ref a0, .ref a0]) (sg := [(.aload_n 0, 0), (.aload_n 0, 0), (.iload_n 1, 0)]) (lSa_ok dd0) rfl ?_
  obtain ⟨_, o2, e1, m3, h⟩ := gOb_inv h
  refine Y.callI (yC.Vi (b := a0) (As := [.int a1]) (st := [.ref a0]) (r := ("PartlisterModel", T_M, 9)) hV.1.1 cb_M_isNoList lk_M_110 in_M_isNoList rfl se_M_isNoList (lIa_ok dd1) rfl rfl (Nat.le_of_ble_eq_true rfl) (by decide) e1 m3) (k_M_isNoList hV.1 G a0 a1) h (fun v5 G4 _ h => ?_)
  refine Y.blk (pc' := 7) (L' := [some (.ref a0), some (.int a1), some (.int a2), none, none, none]) (st' := [.int (nI 1), .int v5, .ref a0]) (sg := [(.iconst 1, nI 1)]) (lSa_ok dd2) rfl ?_
  obtain ⟨_, o7, e6, m8, h⟩ := gOb_inv h
  refine Y.callI (yC.Vi (b := a0) (As := [.int v5, .int (nI 1)]) (st := []) (r := ("PartlisterModel", T_M, 9)) hV.1.1 cb_M_start lk_M_114 in_M_start rfl se_M_start (lIa_ok dd3) rfl rfl (Nat.le_of_ble_eq_true rfl) (by decide) e6 m8) (k_M_start hV.1 G4 a0 v5 (nI 1)) h (fun v10 G9 _ h => ?_)
  refine Y.if_ne (off := 25) (tgt := 35) (lIa_ok dd4) (by decide) h (fun c117 h => ?_) (fun c117 h => ?_)
  · refine Y.blk (pc' := 17) (L' := [some (.ref a0), some (.int a1), some (.int a2), none, none, none]) (st' := [.int (nI 4), .int (nI 0), .int a2, .ref a0]) (sg := [(.aload_n 0, 0), (.iload_n 2, 0), (.iconst 0, nI 0), (.iconst 4, nI 4)]) (lSa_ok dd5) rfl ?_
    refine Y.callI (yC.S (As := [.int a2, .int (nI 0), .int (nI 4)]) (st := [.ref a0]) hV.1.1 cb_M_isIn lk_M_40 st_M_isIn (lIa_ok dd6) rfl rfl (Nat.le_of_ble_eq_true rfl) (by decide)) (k_M_isIn hV.1 G9 a2 (nI 0) (nI 4)) h (fun v13 G12 _ h => ?_)
    refine Y.if_ne (off := 7) (tgt := 27) (lIa_ok dd7) (by decide) h (fun c116 h => ?_) (fun c116 h => ?_)
    · refine Y.blk (pc' := 24) (L' := [some (.ref a0), some (.int a1), some (.int a2), none, none, none]) (st' := [.int (nI 1), .ref a0]) (sg := [(.iconst 1, nI 1)]) (lSa_ok dd8) rfl ?_
      refine Y.goto (off := 4) (tgt := 28) (lIa_ok dd9) (by decide) ?_
      refine Y.blk (pc' := 29) (L' := [some (.ref a0), some (.int a1), some (.int a2), none, none, none]) (st' := [.int (nI 2), .int (nI 1), .ref a0]) (sg := [(.iconst 2, nI 2)]) (lSa_ok dd10) rfl ?_
      obtain ⟨_, o15, e14, m16, h⟩ := gOb_inv h
      refine Y.callI (yC.Vi (b := a0) (As := [.int (nI 1), .int (nI 2)]) (st := []) (r := ("PartlisterModel", T_M, 9)) hV.1.1 cb_M_refuse lk_M_36 in_M_refuse rfl se_M_refuse (lIa_ok dd11) rfl rfl (Nat.le_of_ble_eq_true rfl) (by decide) e14 m16) (k_M_refuse hV.1 G12 a0 (nI 1) (nI 2)) h (fun v18 G17 _ h => ?_)
      refine Y.if_eq (off := 5) (tgt := 37) (lIa_ok dd12) (by decide) h (fun c79 h => ?_) (fun c79 h => ?_)
      · refine Y.blk (pc' := 39) (L' := [some (.ref a0), some (.int a1), some (.int a2), none, none, none]) (st' := [.int a1, .ref a0]) (sg := [(.aload_n 0, 0), (.iload_n 1, 0)]) (lSa_ok dd13) rfl ?_
        obtain ⟨_, o20, e19, m21, h⟩ := gOb_inv h
        refine Y.callA (yC.Vi (b := a0) (As := [.int a1]) (st := []) (r := ("PartlisterModel", T_M, 9)) hV.1.1 cb_M_copy lk_M_136 in_M_copy rfl se_M_copy (lIa_ok dd14) rfl rfl (Nat.le_of_ble_eq_true rfl) (by decide) e19 m21) (k_M_copy hV G17 a0 a1) h (fun v23 G22 _ h => ?_)
        refine Y.blk (pc' := 45) (L' := [some (.ref a0), some (.int a1), some (.int a2), some (.ref v23), none, none]) (st' := [.int a2, .ref v23]) (sg := [(.astore_n 3, 0), (.aload_n 3, 0), (.iload_n 2, 0)]) (lSa_ok dd15) rfl ?_
        refine Y.callN (yC.S (As := [.ref v23, .int a2]) (st := []) hV.1.1 cb_M_order lk_M_184 st_M_order (lIa_ok dd16) rfl rfl (Nat.le_of_ble_eq_true rfl) (by decide)) (k_M_order hV.1 G22 v23 a2) h (fun G25 _ h => ?_)
        refine Y.blk (pc' := 54) (L' := [some (.ref a0), some (.int a1), some (.int a2), some (.ref v23), some (.int (nI 0)), some (.int (nI 0))]) (st' := []) (sg := [(.iconst 0, nI 0), (.istore 4, 0), (.iconst 0, nI 0), (.istore 5, 0)]) (lSa_ok dd17) rfl ?_
        refine Y.less (L' := [some (.ref a0), some (.int a1), none, some (.ref v23), some (.int (nI 0)), some (.int (nI 0))]) (zLe_some (zLe_some (zLe_none (zLe_some (zLe_some (zLe_some (zLe_nil))))))) ?_
        refine k_M_sort_L54 hV _ ?_  zFu G25 a0 a1 v23 (nI 0) (nI 0) h
        · intro G59 x56 x57 x58 h
          refine Y.blk (pc' := 117) (L' := [some (.ref x56), some (.int x57), none, none, some (.int x58), none]) (st' := [.int x57, .ref x56, .ref x56]) (sg := [(.aload_n 0, 0), (.aload_n 0, 0), (.iload_n 1, 0)]) (lSa_ok dd18) rfl ?_
          obtain ⟨_, o61, e60, m62, h⟩ := gOb_inv h
          refine Y.callI (yC.Vi (b := x56) (As := [.int x57]) (st := [.ref x56]) (r := ("PartlisterModel", T_M, 9)) hV.1.1 cb_M_rowOf lk_M_47 in_M_rowOf rfl se_M_rowOf (lIa_ok dd19) rfl rfl (Nat.le_of_ble_eq_true rfl) (by decide) e60 m62) (k_M_rowOf zDp hV.1 G59 x56 x57) h (fun v64 G63 _ h => ?_)
          refine Y.blk (pc' := 121) (L' := [some (.ref x56), some (.int x57), none, none, some (.int x58), none]) (st' := [.int x57, .int v64, .ref x56]) (sg := [(.iload_n 1, 0)]) (lSa_ok dd20) rfl ?_
          obtain ⟨_, o66, e65, m67, h⟩ := gOb_inv h
          refine Y.callI (yC.Vi (b := x56) (As := [.int v64, .int x57]) (st := []) (r := ("PartlisterModel", T_M, 9)) hV.1.1 cb_M_endParts lk_M_103 in_M_endParts rfl se_M_endParts (lIa_ok dd21) rfl rfl (Nat.le_of_ble_eq_true rfl) (by decide) e65 m67) (k_M_endParts hV.1 G63 x56 v64 x57) h (fun v69 G68 _ h => ?_)
          refine Y.blk (pc' := 128) (L' := [some (.ref x56), some (.int x57), none, none, some (.int x58), none]) (st' := [.int x57, .ref x56, .ref x56]) (sg := [(.pop, 0), (.aload_n 0, 0), (.aload_n 0, 0), (.iload_n 1, 0)]) (lSa_ok dd22) rfl ?_
          obtain ⟨_, o71, e70, m72, h⟩ := gOb_inv h
          refine Y.callI (yC.Vi (b := x56) (As := [.int x57]) (st := [.ref x56]) (r := ("PartlisterModel", T_M, 9)) hV.1.1 cb_M_rowOf lk_M_47 in_M_rowOf rfl se_M_rowOf (lIa_ok dd23) rfl rfl (Nat.le_of_ble_eq_true rfl) (by decide) e70 m72) (k_M_rowOf zDp hV.1 G68 x56 x57) h (fun v74 G73 _ h => ?_)
          obtain ⟨_, o76, e75, m77, h⟩ := gOb_inv h
          refine Y.callN (yC.Vi (b := x56) (As := [.int v74]) (st := []) (r := ("PartlisterModel", T_M, 9)) hV.1.1 cb_M_endCursors lk_M_177 in_M_endCursors rfl se_M_endCursors (lIa_ok dd24) rfl rfl (Nat.le_of_ble_eq_true rfl) (by decide) e75 m77) (k_M_endCursors hV.1 G73 x56 v74) h (fun G78 _ h => ?_)
          refine Y.blk (pc' := 136) (L' := [some (.ref x56), some (.int x57), none, none, some (.int x58), none]) (st' := [.int x58]) (sg := [(.iload 4, 0)]) (lSa_ok dd25) rfl ?_
          exact Y.iret rfl (lIa_ok dd26) h
      · refine Y.blk (pc' := 36) (L' := [some (.ref a0), some (.int a1), some (.int a2), none, none, none]) (st' := [.int (nI 0)]) (sg := [(.iconst 0, nI 0)]) (lSa_ok dd27) rfl ?_
        exact Y.iret rfl (lIa_ok dd28) h
    · refine Y.blk (pc' := 29) (L' := [some (.ref a0), some (.int a1), some (.int a2), none, none, none]) (st' := [.int (nI 2), .int (nI 0), .ref a0]) (sg := [(.iconst 0, nI 0), (.iconst 2, nI 2)]) (lSa_ok dd29) rfl ?_
      obtain ⟨_, o81, e80, m82, h⟩ := gOb_inv h
      refine Y.callI (yC.Vi (b := a0) (As := [.int (nI 0), .int (nI 2)]) (st := []) (r := ("PartlisterModel", T_M, 9)) hV.1.1 cb_M_refuse lk_M_36 in_M_refuse rfl se_M_refuse (lIa_ok dd11) rfl rfl (Nat.le_of_ble_eq_true rfl) (by decide) e80 m82) (k_M_refuse hV.1 G12 a0 (nI 0) (nI 2)) h (fun v84 G83 _ h => ?_)
      refine Y.if_eq (off := 5) (tgt := 37) (lIa_ok dd12) (by decide) h (fun c115 h => ?_) (fun c115 h => ?_)
      · refine Y.blk (pc' := 39) (L' := [some (.ref a0), some (.int a1), some (.int a2), none, none, none]) (st' := [.int a1, .ref a0]) (sg := [(.aload_n 0, 0), (.iload_n 1, 0)]) (lSa_ok dd13) rfl ?_
        obtain ⟨_, o86, e85, m87, h⟩ := gOb_inv h
        refine Y.callA (yC.Vi (b := a0) (As := [.int a1]) (st := []) (r := ("PartlisterModel", T_M, 9)) hV.1.1 cb_M_copy lk_M_136 in_M_copy rfl se_M_copy (lIa_ok dd14) rfl rfl (Nat.le_of_ble_eq_true rfl) (by decide) e85 m87) (k_M_copy hV G83 a0 a1) h (fun v89 G88 _ h => ?_)
        refine Y.blk (pc' := 45) (L' := [some (.ref a0), some (.int a1), some (.int a2), some (.ref v89), none, none]) (st' := [.int a2, .ref v89]) (sg := [(.astore_n 3, 0), (.aload_n 3, 0), (.iload_n 2, 0)]) (lSa_ok dd15) rfl ?_
        refine Y.callN (yC.S (As := [.ref v89, .int a2]) (st := []) hV.1.1 cb_M_order lk_M_184 st_M_order (lIa_ok dd16) rfl rfl (Nat.le_of_ble_eq_true rfl) (by decide)) (k_M_order hV.1 G88 v89 a2) h (fun G91 _ h => ?_)
        refine Y.blk (pc' := 54) (L' := [some (.ref a0), some (.int a1), some (.int a2), some (.ref v89), some (.int (nI 0)), some (.int (nI 0))]) (st' := []) (sg := [(.iconst 0, nI 0), (.istore 4, 0), (.iconst 0, nI 0), (.istore 5, 0)]) (lSa_ok dd17) rfl ?_
        refine Y.less (L' := [some (.ref a0), some (.int a1), none, some (.ref v89), some (.int (nI 0)), some (.int (nI 0))]) (zLe_some (zLe_some (zLe_none (zLe_some (zLe_some (zLe_some (zLe_nil))))))) ?_
        refine k_M_sort_L54 hV _ ?_  zFu G91 a0 a1 v89 (nI 0) (nI 0) h
        · intro G95 x92 x93 x94 h
          refine Y.blk (pc' := 117) (L' := [some (.ref x92), some (.int x93), none, none, some (.int x94), none]) (st' := [.int x93, .ref x92, .ref x92]) (sg := [(.aload_n 0, 0), (.aload_n 0, 0), (.iload_n 1, 0)]) (lSa_ok dd18) rfl ?_
          obtain ⟨_, o97, e96, m98, h⟩ := gOb_inv h
          refine Y.callI (yC.Vi (b := x92) (As := [.int x93]) (st := [.ref x92]) (r := ("PartlisterModel", T_M, 9)) hV.1.1 cb_M_rowOf lk_M_47 in_M_rowOf rfl se_M_rowOf (lIa_ok dd19) rfl rfl (Nat.le_of_ble_eq_true rfl) (by decide) e96 m98) (k_M_rowOf zDp hV.1 G95 x92 x93) h (fun v100 G99 _ h => ?_)
          refine Y.blk (pc' := 121) (L' := [some (.ref x92), some (.int x93), none, none, some (.int x94), none]) (st' := [.int x93, .int v100, .ref x92]) (sg := [(.iload_n 1, 0)]) (lSa_ok dd20) rfl ?_
          obtain ⟨_, o102, e101, m103, h⟩ := gOb_inv h
          refine Y.callI (yC.Vi (b := x92) (As := [.int v100, .int x93]) (st := []) (r := ("PartlisterModel", T_M, 9)) hV.1.1 cb_M_endParts lk_M_103 in_M_endParts rfl se_M_endParts (lIa_ok dd21) rfl rfl (Nat.le_of_ble_eq_true rfl) (by decide) e101 m103) (k_M_endParts hV.1 G99 x92 v100 x93) h (fun v105 G104 _ h => ?_)
          refine Y.blk (pc' := 128) (L' := [some (.ref x92), some (.int x93), none, none, some (.int x94), none]) (st' := [.int x93, .ref x92, .ref x92]) (sg := [(.pop, 0), (.aload_n 0, 0), (.aload_n 0, 0), (.iload_n 1, 0)]) (lSa_ok dd22) rfl ?_
          obtain ⟨_, o107, e106, m108, h⟩ := gOb_inv h
          refine Y.callI (yC.Vi (b := x92) (As := [.int x93]) (st := [.ref x92]) (r := ("PartlisterModel", T_M, 9)) hV.1.1 cb_M_rowOf lk_M_47 in_M_rowOf rfl se_M_rowOf (lIa_ok dd23) rfl rfl (Nat.le_of_ble_eq_true rfl) (by decide) e106 m108) (k_M_rowOf zDp hV.1 G104 x92 x93) h (fun v110 G109 _ h => ?_)
          obtain ⟨_, o112, e111, m113, h⟩ := gOb_inv h
          refine Y.callN (yC.Vi (b := x92) (As := [.int v110]) (st := []) (r := ("PartlisterModel", T_M, 9)) hV.1.1 cb_M_endCursors lk_M_177 in_M_endCursors rfl se_M_endCursors (lIa_ok dd24) rfl rfl (Nat.le_of_ble_eq_true rfl) (by decide) e111 m113) (k_M_endCursors hV.1 G109 x92 v110) h (fun G114 _ h => ?_)
          refine Y.blk (pc' := 136) (L' := [some (.ref x92), some (.int x93), none, none, some (.int x94), none]) (st' := [.int x94]) (sg := [(.iload 4, 0)]) (lSa_ok dd25) rfl ?_
          exact Y.iret rfl (lIa_ok dd26) h
      · refine Y.blk (pc' := 36) (L' := [some (.ref a0), some (.int a1), some (.int a2), none, none, none]) (st' := [.int (nI 0)]) (sg := [(.iconst 0, nI 0)]) (lSa_ok dd27) rfl ?_
        exact Y.iret rfl (lIa_ok dd28) h
  · refine Y.blk (pc' := 36) (L' := [some (.ref a0), some (.int a1), some (.int a2), none, none, none]) (st' := [.int (nI 0)]) (sg := [(.iconst 0, nI 0)]) (lSa_ok dd27) rfl ?_
    exact Y.iret rfl (lIa_ok dd28) h
