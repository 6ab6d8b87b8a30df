def f_M_fault (G : gH) (a0 : Nat) (a1 : Int32) : gR :=
  gFI G a0 6 7 fun v1 => gPut G a0 6 7 (.int (v1 + (nI 1))) fun G2 => rI a1 G2
theorem k_M_fault {l : Launch} {D : va_G} {B : Nat} {O : State → Heap → Prop} (hV : zG l D B O) (G : gH) (a0 : Nat) (a1 : Int32) : gMet (zVm l D B O) m_M_fault 2 [.ref a0, .int a1] G (f_M_fault G a0 a1) := by
  have hdd : lSa m_M_fault 0 [(.aload_n 0, 0), (.dup, 0)] = true ∧ lIa m_M_fault 2 (.getfield 211) 3 = true ∧ lSa m_M_fault 5 [(.iconst 1, nI 1), (.iadd, 0)] = true ∧ lIa m_M_fault 7 (.putfield 211) 3 = true ∧ lSa m_M_fault 10 [(.iload_n 1, 0)] = true ∧ lIa m_M_fault 11 (.ireturn) 1 = true := by decide +kernel
  obtain ⟨dd0, dd1, dd2, dd3, dd4, dd5⟩ := hdd
  refine gMet.of (by decide +kernel) (Nat.le_of_ble_eq_true rfl) [some (.ref a0), some (.int a1)] (fun ls h => zEn_ok (n := 2) h) ?_
  intro o Gf h
  unfold f_M_fault at h
  refine Y.blk (pc' := 2) (L' := [some (.ref a0), some (.int a1)]) (st' := [.ref a0, .ref a0]) (sg := [(.aload_n 0, 0), (.dup, 0)]) (lSa_ok dd0) rfl ?_
  refine Y.getI fl_M_211 (lIa_ok dd1) h (fun v1 h => ?_)
  refine Y.blk (pc' := 7) (L' := [some (.ref a0), some (.int a1)]) (st' := [.int (v1 + (nI 1)), .ref a0]) (sg := [(.iconst 1, nI 1), (.iadd, 0)]) (lSa_ok dd2) rfl ?_
  refine Y.putf fl_M_211 (by decide) rfl rfl (lIa_ok dd3) h (fun G2 _ _ h => ?_)
  refine Y.blk (pc' := 11) (L' := [some (.ref a0), some (.int a1)]) (st' := [.int a1]) (sg := [(.iload_n 1, 0)]) (lSa_ok dd4) rfl ?_
  exact Y.iret rfl (lIa_ok dd5) h

def f_M_isNoCursor (G : gH) (a0 : Nat) (a1 : Int32) : gR :=
  bI (f_M_isIn G a1 (nI 0) (nI 2)) fun v3 G2 => if v3 = 0 then rZ (nI 1) G2
  else gFA G2 a0 6 3 fun v4 => gLdq G2 v4 105 a1 (rZ (nI 1) G2) fun v5 => rZ (nI 0) G2
theorem k_M_isNoCursor {l : Launch} {D : va_G} {B : Nat} {O : State → Heap → Prop} (hV : zG l D B O) (G : gH) (a0 : Nat) (a1 : Int32) : gMet (zVm l D B O) m_M_isNoCursor 3 [.ref a0, .int a1] G (f_M_isNoCursor G a0 a1) := by
  have hdd : lSa m_M_isNoCursor 0 [(.iload_n 1, 0), (.iconst 0, nI 0), (.iconst 2, nI 2)] = true ∧ lIa m_M_isNoCursor 3 (.invokestatic 40) 3 = true ∧ lIa m_M_isNoCursor 6 (.ifCond .eq 12) 3 = true ∧ lSa m_M_isNoCursor 18 [(.iconst 1, nI 1)] = true ∧ lIa m_M_isNoCursor 19 (.goto 4) 3 = true ∧ lIa m_M_isNoCursor 23 (.ireturn) 1 = true ∧ lSa m_M_isNoCursor 9 [(.aload_n 0, 0)] = true ∧ lIa m_M_isNoCursor 10 (.getfield 24) 3 = true ∧ lSa m_M_isNoCursor 13 [(.iload_n 1, 0)] = true ∧ lIa m_M_isNoCursor 14 (.aaload) 1 = true ∧ lIa m_M_isNoCursor 15 (.ifnonnull 7) 3 = true ∧ lSa m_M_isNoCursor 22 [(.iconst 0, nI 0)] = true := by decide +kernel
  refine lA8 hdd (fun dd0 dd1 dd2 dd3 dd4 dd5 dd6 dd7 hdd => ?_)
  obtain ⟨dd8, dd9, dd10, dd11⟩ := hdd
  refine gMet.of (by decide +kernel) (Nat.le_of_ble_eq_true rfl) [some (.ref a0), some (.int a1)] (fun ls h => zEn_ok (n := 2) h) ?_
  intro o Gf h
  unfold f_M_isNoCursor at h
  refine Y.blk (pc' := 3) (L' := [some (.ref a0), some (.int a1)]) (st' := [.int (nI 2), .int (nI 0), .int a1]) (sg := [(.iload_n 1, 0), (.iconst 0, nI 0), (.iconst 2, nI 2)]) (lSa_ok dd0) rfl ?_
  refine Y.callI (yC.S (As := [.int a1, .int (nI 0), .int (nI 2)]) (st := []) hV.1 cb_M_isIn lk_M_40 st_M_isIn (lIa_ok dd1) rfl rfl (Nat.le_of_ble_eq_true rfl) (by decide)) (k_M_isIn hV G a1 (nI 0) (nI 2)) h (fun v3 G2 _ h => ?_)
  refine Y.if_eq (off := 12) (tgt := 18) (lIa_ok dd2) (by decide) h (fun c6 h => ?_) (fun c6 h => ?_)
  · refine Y.blk (pc' := 19) (L' := [some (.ref a0), some (.int a1)]) (st' := [.int (nI 1)]) (sg := [(.iconst 1, nI 1)]) (lSa_ok dd3) rfl ?_
    refine Y.goto (off := 4) (tgt := 23) (lIa_ok dd4) (by decide) ?_
    exact Y.zret rfl (lIa_ok dd5) h
  · refine Y.blk (pc' := 10) (L' := [some (.ref a0), some (.int a1)]) (st' := [.ref a0]) (sg := [(.aload_n 0, 0)]) (lSa_ok dd6) rfl ?_
    refine Y.getA fl_M_24 (lIa_ok dd7) h (fun v4 h => ?_)
    refine Y.blk (pc' := 14) (L' := [some (.ref a0), some (.int a1)]) (st' := [.int a1, .ref v4]) (sg := [(.iload_n 1, 0)]) (lSa_ok dd8) rfl ?_
    refine Y.aald (t0 := 5) (lIa_ok dd9) rfl h (fun h => ?_) (fun v5 h => ?_)
    · refine Y.ifnonnull_n (off := 7) (lIa_ok dd10) ?_
      refine Y.blk (pc' := 19) (L' := [some (.ref a0), some (.int a1)]) (st' := [.int (nI 1)]) (sg := [(.iconst 1, nI 1)]) (lSa_ok dd3) rfl ?_
      refine Y.goto (off := 4) (tgt := 23) (lIa_ok dd4) (by decide) ?_
      exact Y.zret rfl (lIa_ok dd5) h
    · refine Y.ifnonnull_r (off := 7) (tgt := 22) (lIa_ok dd10) (by decide) ?_
      refine Y.blk (pc' := 23) (L' := [some (.ref a0), some (.int a1)]) (st' := [.int (nI 0)]) (sg := [(.iconst 0, nI 0)]) (lSa_ok dd11) rfl ?_
      exact Y.zret rfl (lIa_ok dd5) h

def f_M_drop (G : gH) (a0 : Nat) (a1 : Int32) : gR :=
  gOb G a0 6 fun o2 => bI (f_M_isNoCursor G a0 a1) fun v5 G4 => gOb G4 a0 6 fun o7 => bI (f_M_start G4 a0 v5 (nI 1)) fun v10 G9 => if v10 = 0 then (gFA G9 a0 6 3 fun v11 => gLdq G9 v11 105 a1 (none) fun v12 => gFI G9 v12 4 3 fun v13 => if v13 = 0 then (gFI G9 v12 4 2 fun v14 => if v14 = (-1) then gOb G9 a0 6 fun o16 => bI (f_M_fault G9 a0 (-7)) fun v19 G18 => rI v19 G18
        else gFI G9 v12 4 0 fun v20 => gFI G9 v12 4 2 fun v21 => gOb G9 a0 6 fun o23 => bA (f_M_take G9 a0 v20 v21) fun v26 G25 => gFI G25 v12 4 2 fun v27 => gPut G25 v12 4 1 (.int v27) fun G28 => gPut G28 v12 4 2 (.int (-1)) fun G29 => gFI G29 v12 4 0 fun v30 => gOb G29 a0 6 fun o32 => bV (f_M_change G29 a0 v30 (-1) a1) fun G34 => gFI G34 v12 4 0 fun v35 => gOb G34 a0 6 fun o37 => bI (f_M_length G34 a0 v35) fun v40 G39 => rI v40 G39)
      else gOb G9 a0 6 fun o43 => bI (f_M_fault G9 a0 (-9)) fun v46 G45 => rI v46 G45)
  else rI (nI 0) G9
theorem k_M_drop {l : Launch} {D : va_G} {B : Nat} {O : State → Heap → Prop} (hV : zG l D B O) (G : gH) (a0 : Nat) (a1 : Int32) : gMet (zVm l D B O) m_M_drop 14 [.ref a0, .int a1] G (f_M_drop G a0 a1) := by
  have hdd : lSa m_M_drop 0 [(.aload_n 0, 0), (.aload_n 0, 0), (.iload_n 1, 0)] = true ∧ lIa m_M_drop 3 (.invokevirtual 214) 3 = true ∧ lSa m_M_drop 6 [(.iconst 1, nI 1)] = true ∧ lIa m_M_drop 7 (.invokevirtual 114) 3 = true ∧ lIa m_M_drop 10 (.ifCond .eq 5) 3 = true ∧ lSa m_M_drop 15 [(.aload_n 0, 0)] = true ∧ lIa m_M_drop 16 (.getfield 24) 3 = true ∧ lSa m_M_drop 19 [(.iload_n 1, 0)] = true ∧ lIa m_M_drop 20 (.aaload) 1 = true ∧ lSa m_M_drop 21 [(.astore_n 2, 0), (.aload_n 2, 0)] = true ∧ lIa m_M_drop 23 (.getfield 99) 3 = true ∧ lIa m_M_drop 26 (.ifCond .eq 10) 3 = true ∧ lSa m_M_drop 36 [(.aload_n 2, 0)] = true ∧ lIa m_M_drop 37 (.getfield 220) 3 = true ∧ lSa m_M_drop 40 [(.iconst (-1), -1)] = true ∧ lIa m_M_drop 41 (.if_icmp .ne 10) 3 = true ∧ lSa m_M_drop 44 [(.aload_n 0, 0), (.bipush (-7), -7)] = true ∧ lIa m_M_drop 47 (.invokevirtual 217) 3 = true ∧ lIa m_M_drop 50 (.ireturn) 1 = true ∧ lSa m_M_drop 51 [(.aload_n 0, 0), (.aload_n 2, 0)] = true ∧ lIa m_M_drop 53 (.getfield 89) 3 = true ∧ lSa m_M_drop 56 [(.aload_n 2, 0)] = true ∧ lIa m_M_drop 57 (.getfield 220) 3 = true ∧ lIa m_M_drop 60 (.invokevirtual 157) 3 = true ∧ lSa m_M_drop 63 [(.pop, 0), (.aload_n 2, 0), (.aload_n 2, 0)] = true ∧ lIa m_M_drop 66 (.getfield 220) 3 = true ∧ lIa m_M_drop 69 (.putfield 208) 3 = true ∧ lSa m_M_drop 72 [(.aload_n 2, 0), (.iconst (-1), -1)] = true ∧ lIa m_M_drop 74 (.putfield 220) 3 = true ∧ lSa m_M_drop 77 [(.aload_n 0, 0), (.aload_n 2, 0)] = true ∧ lIa m_M_drop 79 (.getfield 89) 3 = true ∧ lSa m_M_drop 82 [(.iconst (-1), -1), (.iload_n 1, 0)] = true ∧ lIa m_M_drop 84 (.invokevirtual 128) 3 = true ∧ lSa m_M_drop 87 [(.aload_n 0, 0), (.aload_n 2, 0)] = true ∧ lIa m_M_drop 89 (.getfield 89) 3 = true ∧ lIa m_M_drop 92 (.invokevirtual 74) 3 = true ∧ lIa m_M_drop 95 (.ireturn) 1 = true ∧ lSa m_M_drop 29 [(.aload_n 0, 0), (.bipush (-9), -9)] = true ∧ lIa m_M_drop 32 (.invokevirtual 217) 3 = true ∧ lIa m_M_drop 35 (.ireturn) 1 = true ∧ lSa m_M_drop 13 [(.iconst 0, nI 0)] = true ∧ lIa m_M_drop 14 (.ireturn) 1 = true := by decide +kernel
  refine lA8 hdd (fun dd0 dd1 dd2 dd3 dd4 dd5 dd6 dd7 hdd => ?_)
  refine lA8 hdd (fun dd8 dd9 dd10 dd11 dd12 dd13 dd14 dd15 hdd => ?_)
  refine lA8 hdd (fun dd16 dd17 dd18 dd19 dd20 dd21 dd22 dd23 hdd => ?_)
  refine lA8 hdd (fun dd24 dd25 dd26 dd27 dd28 dd29 dd30 dd31 hdd => ?_)
  refine lA8 hdd (fun dd32 dd33 dd34 dd35 dd36 dd37 dd38 dd39 hdd => ?_)
  obtain ⟨dd40, dd41⟩ := hdd
  refine gMet.of (by decide +kernel) (Nat.le_of_ble_eq_true rfl) [some (.ref a0), some (.int a1), none] (fun ls h => zEn_ok (n := 3) h) ?_
  intro o Gf h
  unfold f_M_drop at h
  refine Y.blk (pc' := 3) (L' := [some (.ref a0), some (.int a1), none]) (st' := [.int a1, .ref a0, .ref a0]) (sg := [(.aload_n 0, 0), (.aload_n 0, 0), (.iload_n 1, 0)]) (lSa_ok dd0) rfl ?_
  obtain ⟨_, o2, e1, m3, h⟩ := gOb_inv h
  refine Y.callI (yC.Vi (b := a0) (As := [.int a1]) (st := [.ref a0]) (r := ("PartlisterModel", T_M, 9)) hV.1 cb_M_isNoCursor lk_M_214 in_M_isNoCursor rfl se_M_isNoCursor (lIa_ok dd1) rfl rfl (Nat.le_of_ble_eq_true rfl) (by decide) e1 m3) (k_M_isNoCursor hV G a0 a1) h (fun v5 G4 _ h => ?_)
  refine Y.blk (pc' := 7) (L' := [some (.ref a0), some (.int a1), none]) (st' := [.int (nI 1), .int v5, .ref a0]) (sg := [(.iconst 1, nI 1)]) (lSa_ok dd2) rfl ?_
  obtain ⟨_, o7, e6, m8, h⟩ := gOb_inv h
  refine Y.callI (yC.Vi (b := a0) (As := [.int v5, .int (nI 1)]) (st := []) (r := ("PartlisterModel", T_M, 9)) hV.1 cb_M_start lk_M_114 in_M_start rfl se_M_start (lIa_ok dd3) rfl rfl (Nat.le_of_ble_eq_true rfl) (by decide) e6 m8) (k_M_start hV G4 a0 v5 (nI 1)) h (fun v10 G9 _ h => ?_)
  refine Y.if_eq (off := 5) (tgt := 15) (lIa_ok dd4) (by decide) h (fun c48 h => ?_) (fun c48 h => ?_)
  · refine Y.blk (pc' := 16) (L' := [some (.ref a0), some (.int a1), none]) (st' := [.ref a0]) (sg := [(.aload_n 0, 0)]) (lSa_ok dd5) rfl ?_
    refine Y.getA fl_M_24 (lIa_ok dd6) h (fun v11 h => ?_)
    refine Y.blk (pc' := 20) (L' := [some (.ref a0), some (.int a1), none]) (st' := [.int a1, .ref v11]) (sg := [(.iload_n 1, 0)]) (lSa_ok dd7) rfl ?_
    refine Y.aald (t0 := 5) (lIa_ok dd8) rfl h (fun h => ?_) (fun v12 h => ?_)
    · refine Y.blk (pc' := 23) (L' := [some (.ref a0), some (.int a1), some (.null)]) (st' := [.null]) (sg := [(.astore_n 2, 0), (.aload_n 2, 0)]) (lSa_ok dd9) rfl ?_
      cases h
    · refine Y.blk (pc' := 23) (L' := [some (.ref a0), some (.int a1), some (.ref v12)]) (st' := [.ref v12]) (sg := [(.astore_n 2, 0), (.aload_n 2, 0)]) (lSa_ok dd9) rfl ?_
      refine Y.getI fl_M_99 (lIa_ok dd10) h (fun v13 h => ?_)
      refine Y.if_eq (off := 10) (tgt := 36) (lIa_ok dd11) (by decide) h (fun c47 h => ?_) (fun c47 h => ?_)
      · refine Y.blk (pc' := 37) (L' := [some (.ref a0), some (.int a1), some (.ref v12)]) (st' := [.ref v12]) (sg := [(.aload_n 2, 0)]) (lSa_ok dd12) rfl ?_
        refine Y.getI fl_M_220 (lIa_ok dd13) h (fun v14 h => ?_)
        refine Y.blk (pc' := 41) (L' := [some (.ref a0), some (.int a1), some (.ref v12)]) (st' := [.int (-1), .int v14]) (sg := [(.iconst (-1), -1)]) (lSa_ok dd14) rfl ?_
        refine Y.ic_ne (off := 10) (tgt := 51) (lIa_ok dd15) (by decide) h (fun c41 h => ?_) (fun c41 h => ?_)
        · refine Y.blk (pc' := 47) (L' := [some (.ref a0), some (.int a1), some (.ref v12)]) (st' := [.int (-7), .ref a0]) (sg := [(.aload_n 0, 0), (.bipush (-7), -7)]) (lSa_ok dd16) rfl ?_
          obtain ⟨_, o16, e15, m17, h⟩ := gOb_inv h
          refine Y.callI (yC.Vi (b := a0) (As := [.int (-7)]) (st := []) (r := ("PartlisterModel", T_M, 9)) hV.1 cb_M_fault lk_M_217 in_M_fault rfl se_M_fault (lIa_ok dd17) rfl rfl (Nat.le_of_ble_eq_true rfl) (by decide) e15 m17) (k_M_fault hV G9 a0 (-7)) h (fun v19 G18 _ h => ?_)
          exact Y.iret rfl (lIa_ok dd18) h
        · refine Y.blk (pc' := 53) (L' := [some (.ref a0), some (.int a1), some (.ref v12)]) (st' := [.ref v12, .ref a0]) (sg := [(.aload_n 0, 0), (.aload_n 2, 0)]) (lSa_ok dd19) rfl ?_
          refine Y.getI fl_M_89 (lIa_ok dd20) h (fun v20 h => ?_)
          refine Y.blk (pc' := 57) (L' := [some (.ref a0), some (.int a1), some (.ref v12)]) (st' := [.ref v12, .int v20, .ref a0]) (sg := [(.aload_n 2, 0)]) (lSa_ok dd21) rfl ?_
          refine Y.getI fl_M_220 (lIa_ok dd22) h (fun v21 h => ?_)
          obtain ⟨_, o23, e22, m24, h⟩ := gOb_inv h
          refine Y.callA (yC.Vi (b := a0) (As := [.int v20, .int v21]) (st := []) (r := ("PartlisterModel", T_M, 9)) hV.1 cb_M_take lk_M_157 in_M_take rfl se_M_take (lIa_ok dd23) rfl rfl (Nat.le_of_ble_eq_true rfl) (by decide) e22 m24) (k_M_take hV G9 a0 v20 v21) h (fun v26 G25 _ h => ?_)
          refine Y.blk (pc' := 66) (L' := [some (.ref a0), some (.int a1), some (.ref v12)]) (st' := [.ref v12, .ref v12]) (sg := [(.pop, 0), (.aload_n 2, 0), (.aload_n 2, 0)]) (lSa_ok dd24) rfl ?_
          refine Y.getI fl_M_220 (lIa_ok dd25) h (fun v27 h => ?_)
          refine Y.putf fl_M_208 (by decide) rfl rfl (lIa_ok dd26) h (fun G28 _ _ h => ?_)
          refine Y.blk (pc' := 74) (L' := [some (.ref a0), some (.int a1), some (.ref v12)]) (st' := [.int (-1), .ref v12]) (sg := [(.aload_n 2, 0), (.iconst (-1), -1)]) (lSa_ok dd27) rfl ?_
          refine Y.putf fl_M_220 (by decide) rfl rfl (lIa_ok dd28) h (fun G29 _ _ h => ?_)
          refine Y.blk (pc' := 79) (L' := [some (.ref a0), some (.int a1), some (.ref v12)]) (st' := [.ref v12, .ref a0]) (sg := [(.aload_n 0, 0), (.aload_n 2, 0)]) (lSa_ok dd29) rfl ?_
          refine Y.getI fl_M_89 (lIa_ok dd30) h (fun v30 h => ?_)
          refine Y.blk (pc' := 84) (L' := [some (.ref a0), some (.int a1), some (.ref v12)]) (st' := [.int a1, .int (-1), .int v30, .ref a0]) (sg := [(.iconst (-1), -1), (.iload_n 1, 0)]) (lSa_ok dd31) rfl ?_
          obtain ⟨_, o32, e31, m33, h⟩ := gOb_inv h
          refine Y.callN (yC.Vi (b := a0) (As := [.int v30, .int (-1), .int a1]) (st := []) (r := ("PartlisterModel", T_M, 9)) hV.1 cb_M_change lk_M_128 in_M_change rfl se_M_change (lIa_ok dd32) rfl rfl (Nat.le_of_ble_eq_true rfl) (by decide) e31 m33) (k_M_change hV G29 a0 v30 (-1) a1) h (fun G34 _ h => ?_)
          refine Y.blk (pc' := 89) (L' := [some (.ref a0), some (.int a1), some (.ref v12)]) (st' := [.ref v12, .ref a0]) (sg := [(.aload_n 0, 0), (.aload_n 2, 0)]) (lSa_ok dd33) rfl ?_
          refine Y.getI fl_M_89 (lIa_ok dd34) h (fun v35 h => ?_)
          obtain ⟨_, o37, e36, m38, h⟩ := gOb_inv h
          refine Y.callI (yC.Vi (b := a0) (As := [.int v35]) (st := []) (r := ("PartlisterModel", T_M, 9)) hV.1 cb_M_length lk_M_74 in_M_length rfl se_M_length (lIa_ok dd35) rfl rfl (Nat.le_of_ble_eq_true rfl) (by decide) e36 m38) (k_M_length hV G34 a0 v35) h (fun v40 G39 _ h => ?_)
          exact Y.iret rfl (lIa_ok dd36) h
      · refine Y.blk (pc' := 32) (L' := [some (.ref a0), some (.int a1), some (.ref v12)]) (st' := [.int (-9), .ref a0]) (sg := [(.aload_n 0, 0), (.bipush (-9), -9)]) (lSa_ok dd37) rfl ?_
        obtain ⟨_, o43, e42, m44, h⟩ := gOb_inv h
        refine Y.callI (yC.Vi (b := a0) (As := [.int (-9)]) (st := []) (r := ("PartlisterModel", T_M, 9)) hV.1 cb_M_fault lk_M_217 in_M_fault rfl se_M_fault (lIa_ok dd38) rfl rfl (Nat.le_of_ble_eq_true rfl) (by decide) e42 m44) (k_M_fault hV G9 a0 (-9)) h (fun v46 G45 _ h => ?_)
        exact Y.iret rfl (lIa_ok dd39) h
  · refine Y.blk (pc' := 14) (L' := [some (.ref a0), some (.int a1), none]) (st' := [.int (nI 0)]) (sg := [(.iconst 0, nI 0)]) (lSa_ok dd40) rfl ?_
    exact Y.iret rfl (lIa_ok dd41) h

def f_M_end (G : gH) (a0 : Nat) (a1 : Int32) : gR :=
  gOb G a0 6 fun o2 => bI (f_M_isNoCursor G a0 a1) fun v5 G4 => gOb G4 a0 6 fun o7 => bI (f_M_start G4 a0 v5 (nI 1)) fun v10 G9 => if v10 = 0 then gFA G9 a0 6 3 fun v11 => gLdq G9 v11 105 a1 (none) fun v12 => gFI G9 v12 4 3 fun v13 => gOb G9 a0 6 fun o15 => bV (f_M_endCursor G9 a0 a1) fun G17 => rZ v13 G17
  else rZ (nI 0) G9
theorem k_M_end {l : Launch} {D : va_G} {B : Nat} {O : State → Heap → Prop} (hV : zG l D B O) (G : gH) (a0 : Nat) (a1 : Int32) : gMet (zVm l D B O) m_M_end 4 [.ref a0, .int a1] G (f_M_end G a0 a1) := by
  have hdd : lSa m_M_end 0 [(.aload_n 0, 0), (.aload_n 0, 0), (.iload_n 1, 0)] = true ∧ lIa m_M_end 3 (.invokevirtual 214) 3 = true ∧ lSa m_M_end 6 [(.iconst 1, nI 1)] = true ∧ lIa m_M_end 7 (.invokevirtual 114) 3 = true ∧ lIa m_M_end 10 (.ifCond .eq 5) 3 = true ∧ lSa m_M_end 15 [(.aload_n 0, 0)] = true ∧ lIa m_M_end 16 (.getfield 24) 3 = true ∧ lSa m_M_end 19 [(.iload_n 1, 0)] = true ∧ lIa m_M_end 20 (.aaload) 1 = true ∧ lIa m_M_end 21 (.getfield 99) 3 = true ∧ lSa m_M_end 24 [(.istore_n 2, 0), (.aload_n 0, 0), (.iload_n 1, 0)] = true ∧ lIa m_M_end 27 (.invokevirtual 92) 3 = true ∧ lSa m_M_end 30 [(.iload_n 2, 0)] = true ∧ lIa m_M_end 31 (.ireturn) 1 = true ∧ lSa m_M_end 13 [(.iconst 0, nI 0)] = true ∧ lIa m_M_end 14 (.ireturn) 1 = true := by decide +kernel
  refine lA8 hdd (fun dd0 dd1 dd2 dd3 dd4 dd5 dd6 dd7 hdd => ?_)
  obtain ⟨dd8, dd9, dd10, dd11, dd12, dd13, dd14, dd15⟩ := hdd
  refine gMet.of (by decide +kernel) (Nat.le_of_ble_eq_true rfl) [some (.ref a0), some (.int a1), none] (fun ls h => zEn_ok (n := 3) h) ?_
  intro o Gf h
  unfold f_M_end at h
  refine Y.blk (pc' := 3) (L' := [some (.ref a0), some (.int a1), none]) (st' := [.int a1, .ref a0, .ref a0]) (sg := [(.aload_n 0, 0), (.aload_n 0, 0), (.iload_n 1, 0)]) (lSa_ok dd0) rfl ?_
  obtain ⟨_, o2, e1, m3, h⟩ := gOb_inv h
  refine Y.callI (yC.Vi (b := a0) (As := [.int a1]) (st := [.ref a0]) (r := ("PartlisterModel", T_M, 9)) hV.1 cb_M_isNoCursor lk_M_214 in_M_isNoCursor rfl se_M_isNoCursor (lIa_ok dd1) rfl rfl (Nat.le_of_ble_eq_true rfl) (by decide) e1 m3) (k_M_isNoCursor hV G a0 a1) h (fun v5 G4 _ h => ?_)
  refine Y.blk (pc' := 7) (L' := [some (.ref a0), some (.int a1), none]) (st' := [.int (nI 1), .int v5, .ref a0]) (sg := [(.iconst 1, nI 1)]) (lSa_ok dd2) rfl ?_
  obtain ⟨_, o7, e6, m8, h⟩ := gOb_inv h
  refine Y.callI (yC.Vi (b := a0) (As := [.int v5, .int (nI 1)]) (st := []) (r := ("PartlisterModel", T_M, 9)) hV.1 cb_M_start lk_M_114 in_M_start rfl se_M_start (lIa_ok dd3) rfl rfl (Nat.le_of_ble_eq_true rfl) (by decide) e6 m8) (k_M_start hV G4 a0 v5 (nI 1)) h (fun v10 G9 _ h => ?_)
  refine Y.if_eq (off := 5) (tgt := 15) (lIa_ok dd4) (by decide) h (fun c18 h => ?_) (fun c18 h => ?_)
  · refine Y.blk (pc' := 16) (L' := [some (.ref a0), some (.int a1), none]) (st' := [.ref a0]) (sg := [(.aload_n 0, 0)]) (lSa_ok dd5) rfl ?_
    refine Y.getA fl_M_24 (lIa_ok dd6) h (fun v11 h => ?_)
    refine Y.blk (pc' := 20) (L' := [some (.ref a0), some (.int a1), none]) (st' := [.int a1, .ref v11]) (sg := [(.iload_n 1, 0)]) (lSa_ok dd7) rfl ?_
    refine Y.aald (t0 := 5) (lIa_ok dd8) rfl h (fun h => ?_) (fun v12 h => ?_)
    · cases h
    · refine Y.getI fl_M_99 (lIa_ok dd9) h (fun v13 h => ?_)
      refine Y.blk (pc' := 27) (L' := [some (.ref a0), some (.int a1), some (.int v13)]) (st' := [.int a1, .ref a0]) (sg := [(.istore_n 2, 0), (.aload_n 0, 0), (.iload_n 1, 0)]) (lSa_ok dd10) rfl ?_
      obtain ⟨_, o15, e14, m16, h⟩ := gOb_inv h
      refine Y.callN (yC.Vi (b := a0) (As := [.int a1]) (st := []) (r := ("PartlisterModel", T_M, 9)) hV.1 cb_M_endCursor lk_M_92 in_M_endCursor rfl se_M_endCursor (lIa_ok dd11) rfl rfl (Nat.le_of_ble_eq_true rfl) (by decide) e14 m16) (k_M_endCursor hV G9 a0 a1) h (fun G17 _ h => ?_)
      refine Y.blk (pc' := 31) (L' := [some (.ref a0), some (.int a1), some (.int v13)]) (st' := [.int v13]) (sg := [(.iload_n 2, 0)]) (lSa_ok dd12) rfl ?_
      exact Y.zret rfl (lIa_ok dd13) h
  · refine Y.blk (pc' := 14) (L' := [some (.ref a0), some (.int a1), none]) (st' := [.int (nI 0)]) (sg := [(.iconst 0, nI 0)]) (lSa_ok dd14) rfl ?_
    exact Y.zret rfl (lIa_ok dd15) h

def f_M_isNoPlace (G : gH) (a0 : Nat) (a1 : Int32) (a2 : Int32) : gR :=
  gOb G a0 6 fun o2 => bI (f_M_length G a0 a1) fun v5 G4 => bI (f_M_isIn G4 a2 (nI 0) (v5 - (nI 1))) fun v8 G7 => if v8 = 0 then rZ (nI 1) G7
  else rZ (nI 0) G7
theorem k_M_isNoPlace {l : Launch} {D : va_G} {B : Nat} {O : State → Heap → Prop} (hV : zG l D B O) (G : gH) (a0 : Nat) (a1 : Int32) (a2 : Int32) : gMet (zVm l D B O) m_M_isNoPlace 6 [.ref a0, .int a1, .int a2] G (f_M_isNoPlace G a0 a1 a2) := by
  have hdd : lSa m_M_isNoPlace 0 [(.iload_n 2, 0), (.iconst 0, nI 0), (.aload_n 0, 0), (.iload_n 1, 0)] = true ∧ lIa m_M_isNoPlace 4 (.invokevirtual 74) 3 = true ∧ lSa m_M_isNoPlace 7 [(.iconst 1, nI 1), (.isub, 0)] = true ∧ lIa m_M_isNoPlace 9 (.invokestatic 40) 3 = true ∧ lIa m_M_isNoPlace 12 (.ifCond .ne 7) 3 = true ∧ lSa m_M_isNoPlace 15 [(.iconst 1, nI 1)] = true ∧ lIa m_M_isNoPlace 16 (.goto 4) 3 = true ∧ lIa m_M_isNoPlace 20 (.ireturn) 1 = true ∧ lSa m_M_isNoPlace 19 [(.iconst 0, nI 0)] = true := by decide +kernel
  refine lA8 hdd (fun dd0 dd1 dd2 dd3 dd4 dd5 dd6 dd7 hdd => ?_)
  have dd8 := hdd
  refine gMet.of (by decide +kernel) (Nat.le_of_ble_eq_true rfl) [some (.ref a0), some (.int a1), some (.int a2)] (fun ls h => zEn_ok (n := 3) h) ?_
  intro o Gf h
  unfold f_M_isNoPlace at h
  refine Y.blk (pc' := 4) (L' := [some (.ref a0), some (.int a1), some (.int a2)]) (st' := [.int a1, .ref a0, .int (nI 0), .int a2]) (sg := [(.iload_n 2, 0), (.iconst 0, nI 0), (.aload_n 0, 0), (.iload_n 1, 0)]) (lSa_ok dd0) rfl ?_
  obtain ⟨_, o2, e1, m3, h⟩ := gOb_inv h
  refine Y.callI (yC.Vi (b := a0) (As := [.int a1]) (st := [.int (nI 0), .int a2]) (r := ("PartlisterModel", T_M, 9)) hV.1 cb_M_length lk_M_74 in_M_length rfl se_M_length (lIa_ok dd1) rfl rfl (Nat.le_of_ble_eq_true rfl) (by decide) e1 m3) (k_M_length hV G a0 a1) h (fun v5 G4 _ h => ?_)
  refine Y.blk (pc' := 9) (L' := [some (.ref a0), some (.int a1), some (.int a2)]) (st' := [.int (v5 - (nI 1)), .int (nI 0), .int a2]) (sg := [(.iconst 1, nI 1), (.isub, 0)]) (lSa_ok dd2) rfl ?_
  refine Y.callI (yC.S (As := [.int a2, .int (nI 0), .int (v5 - (nI 1))]) (st := []) hV.1 cb_M_isIn lk_M_40 st_M_isIn (lIa_ok dd3) rfl rfl (Nat.le_of_ble_eq_true rfl) (by decide)) (k_M_isIn hV G4 a2 (nI 0) (v5 - (nI 1))) h (fun v8 G7 _ h => ?_)
  refine Y.if_ne (off := 7) (tgt := 19) (lIa_ok dd4) (by decide) h (fun c9 h => ?_) (fun c9 h => ?_)
  · refine Y.blk (pc' := 16) (L' := [some (.ref a0), some (.int a1), some (.int a2)]) (st' := [.int (nI 1)]) (sg := [(.iconst 1, nI 1)]) (lSa_ok dd5) rfl ?_
    refine Y.goto (off := 4) (tgt := 20) (lIa_ok dd6) (by decide) ?_
    exact Y.zret rfl (lIa_ok dd7) h
  · refine Y.blk (pc' := 20) (L' := [some (.ref a0), some (.int a1), some (.int a2)]) (st' := [.int (nI 0)]) (sg := [(.iconst 0, nI 0)]) (lSa_ok dd8) rfl ?_
    exact Y.zret rfl (lIa_ok dd7) h

def f_M_write (G : gH) (a0 : Nat) (a1 : Int32) (a2 : Int32) (a3 : Nat) : gR :=
  gOb G a0 6 fun o2 => bA (f_M_row G a0 a1) fun v5 G4 => gOb G4 a0 6 fun o7 => bI (f_M_base zDp G4 a0 a1) fun v10 G9 => gOb G9 v5 9 fun o12 => bA (f_AL_set G9 v5 (v10 + a2) a3) fun v15 G14 => gCaA G14 v15 100 (rA v15 G14)
theorem k_M_write {l : Launch} {D : va_G} {B : Nat} {O : State → Heap → Prop} (hV : zG l D B O) (G : gH) (a0 : Nat) (a1 : Int32) (a2 : Int32) (a3 : Nat) : gMet (zVm l D B O) m_M_write 12 [.ref a0, .int a1, .int a2, .ref a3] G (f_M_write G a0 a1 a2 a3) := by
  have hdd : lSa m_M_write 0 [(.aload_n 0, 0), (.iload_n 1, 0)] = true ∧ lIa m_M_write 2 (.invokevirtual 68) 3 = true ∧ lSa m_M_write 5 [(.aload_n 0, 0), (.iload_n 1, 0)] = true ∧ lIa m_M_write 7 (.invokevirtual 54) 3 = true ∧ lSa m_M_write 10 [(.iload_n 2, 0), (.iadd, 0), (.aload_n 3, 0)] = true ∧ lIa m_M_write 13 (.invokevirtual 143) 3 = true ∧ lIa m_M_write 16 (.checkcast 72) 3 = true ∧ lIa m_M_write 19 (.areturn) 1 = true := by decide +kernel
  obtain ⟨dd0, dd1, dd2, dd3, dd4, dd5, dd6, dd7⟩ := hdd
  refine gMet.of (by decide +kernel) (Nat.le_of_ble_eq_true rfl) [some (.ref a0), some (.int a1), some (.int a2), some (.ref a3)] (fun ls h => zEn_ok (n := 4) h) ?_
  intro o Gf h
  unfold f_M_write at h
  refine Y.blk (pc' := 2) (L' := [some (.ref a0), some (.int a1), some (.int a2), some (.ref a3)]) (st' := [.int a1, .ref a0]) (sg := [(.aload_n 0, 0), (.iload_n 1, 0)]) (lSa_ok dd0) rfl ?_
  obtain ⟨_, o2, e1, m3, h⟩ := gOb_inv h
  refine Y.callA (yC.Vi (b := a0) (As := [.int a1]) (st := []) (r := ("PartlisterModel", T_M, 9)) hV.1 cb_M_row lk_M_68 in_M_row rfl se_M_row (lIa_ok dd1) rfl rfl (Nat.le_of_ble_eq_true rfl) (by decide) e1 m3) (k_M_row hV G a0 a1) h (fun v5 G4 _ h => ?_)
  refine Y.blk (pc' := 7) (L' := [some (.ref a0), some (.int a1), some (.int a2), some (.ref a3)]) (st' := [.int a1, .ref a0, .ref v5]) (sg := [(.aload_n 0, 0), (.iload_n 1, 0)]) (lSa_ok dd2) rfl ?_
  obtain ⟨_, o7, e6, m8, h⟩ := gOb_inv h
  refine Y.callI (yC.Vi (b := a0) (As := [.int a1]) (st := [.ref v5]) (r := ("PartlisterModel", T_M, 9)) hV.1 cb_M_base lk_M_54 in_M_base rfl se_M_base (lIa_ok dd3) rfl rfl (Nat.le_of_ble_eq_true rfl) (by decide) e6 m8) (k_M_base zDp hV G4 a0 a1) h (fun v10 G9 _ h => ?_)
  refine Y.blk (pc' := 13) (L' := [some (.ref a0), some (.int a1), some (.int a2), some (.ref a3)]) (st' := [.ref a3, .int (v10 + a2), .ref v5]) (sg := [(.iload_n 2, 0), (.iadd, 0), (.aload_n 3, 0)]) (lSa_ok dd4) rfl ?_
  obtain ⟨_, o12, e11, m13, h⟩ := gOb_inv h
  refine Y.callA (yC.Vi (b := v5) (As := [.int (v10 + a2), .ref a3]) (st := []) (r := ("java/util/ArrayList", T_AL, 3)) hV.1 cb_AL_set lk_M_143 in_AL_set rfl se_AL_set (lIa_ok dd5) rfl rfl (Nat.le_of_ble_eq_true rfl) (by decide) e11 m13) (k_AL_set hV G9 v5 (v10 + a2) a3) h (fun v15 G14 _ h => ?_)
  refine Y.castA (t0 := 0) (nm := "[I") (lIa_ok dd6) rfl (by decide) ck_M_72 h (fun h => ?_)
  exact Y.aret rfl (by first | exact Or.inl ⟨_, rfl⟩ | exact Or.inr ⟨_, rfl⟩) (lIa_ok dd7) h

def f_M_exchange (G : gH) (a0 : Nat) (a1 : Int32) (a2 : Int32) (a3 : Int32) : gR :=
  gOb G a0 6 fun o2 => bI (f_M_isNoList G a0 a1) fun v5 G4 => gOb G4 a0 6 fun o7 => bI (f_M_start G4 a0 v5 (nI 1)) fun v10 G9 => if v10 = 0 then (gOb G9 a0 6 fun o12 => bI (f_M_isNoPlace G9 a0 a1 a2) fun v15 G14 => if v15 = 0 then (gOb G14 a0 6 fun o17 => bI (f_M_isNoPlace G14 a0 a1 a3) fun v20 G19 => if v20 = 0 then (gOb G19 a0 6 fun o22 => bI (f_M_refuse G19 a0 (nI 0) (nI 1)) fun v25 G24 => if v25 = 0 then (gOb G24 a0 6 fun o27 => bA (f_M_at G24 a0 a1 a3) fun v30 G29 => gOb G29 a0 6 fun o32 => bA (f_M_write G29 a0 a1 a2 v30) fun v35 G34 => gOb G34 a0 6 fun o37 => bA (f_M_write G34 a0 a1 a3 v35) fun v40 G39 => gOb G39 a0 6 fun o42 => bA (f_M_at G39 a0 a1 a2) fun v45 G44 => gLd G44 v45 100 (nI 0) fun v46 => gOb G44 a0 6 fun o48 => bA (f_M_at G44 a0 a1 a3) fun v51 G50 => gLd G50 v51 100 (nI 0) fun v52 => if v46 = v52 then rZ (nI 1) G50
          else rZ (nI 0) G50)
        else rZ (nI 0) G24)
      else gOb G19 a0 6 fun o56 => bI (f_M_refuse G19 a0 (nI 1) (nI 1)) fun v59 G58 => if v59 = 0 then (gOb G58 a0 6 fun o61 => bA (f_M_at G58 a0 a1 a3) fun v64 G63 => gOb G63 a0 6 fun o66 => bA (f_M_write G63 a0 a1 a2 v64) fun v69 G68 => gOb G68 a0 6 fun o71 => bA (f_M_write G68 a0 a1 a3 v69) fun v74 G73 => gOb G73 a0 6 fun o76 => bA (f_M_at G73 a0 a1 a2) fun v79 G78 => gLd G78 v79 100 (nI 0) fun v80 => gOb G78 a0 6 fun o82 => bA (f_M_at G78 a0 a1 a3) fun v85 G84 => gLd G84 v85 100 (nI 0) fun v86 => if v80 = v86 then rZ (nI 1) G84
          else rZ (nI 0) G84)
        else rZ (nI 0) G58)
    else gOb G14 a0 6 fun o91 => bI (f_M_refuse G14 a0 (nI 1) (nI 1)) fun v94 G93 => if v94 = 0 then (gOb G93 a0 6 fun o96 => bA (f_M_at G93 a0 a1 a3) fun v99 G98 => gOb G98 a0 6 fun o101 => bA (f_M_write G98 a0 a1 a2 v99) fun v104 G103 => gOb G103 a0 6 fun o106 => bA (f_M_write G103 a0 a1 a3 v104) fun v109 G108 => gOb G108 a0 6 fun o111 => bA (f_M_at G108 a0 a1 a2) fun v114 G113 => gLd G113 v114 100 (nI 0) fun v115 => gOb G113 a0 6 fun o117 => bA (f_M_at G113 a0 a1 a3) fun v120 G119 => gLd G119 v120 100 (nI 0) fun v121 => if v115 = v121 then rZ (nI 1) G119
        else rZ (nI 0) G119)
      else rZ (nI 0) G93)
  else rZ (nI 0) G9
theorem k_M_exchange {l : Launch} {D : va_G} {B : Nat} {O : State → Heap → Prop} (hV : zG l D B O) (G : gH) (a0 : Nat) (a1 : Int32) (a2 : Int32) (a3 : Int32) : gMet (zVm l D B O) m_M_exchange 13 [.ref a0, .int a1, .int a2, .int a3] G (f_M_exchange G a0 a1 a2 a3) := by
  have hdd : lSa m_M_exchange 0 [(.aload_n 0, 0), (.aload_n 0, 0), (.iload_n 1, 0)] = true ∧ lIa m_M_exchange 3 (.invokevirtual 110) 3 = true ∧ lSa m_M_exchange 6 [(.iconst 1, nI 1)] = true ∧ lIa m_M_exchange 7 (.invokevirtual 114) 3 = true ∧ lIa m_M_exchange 10 (.ifCond .ne 34) 3 = true ∧ lSa m_M_exchange 13 [(.aload_n 0, 0), (.aload_n 0, 0), (.iload_n 1, 0), (.iload_n 2, 0)] = true ∧ lIa m_M_exchange 17 (.invokevirtual 147) 3 = true ∧ lIa m_M_exchange 20 (.ifCond .ne 12) 3 = true ∧ lSa m_M_exchange 23 [(.aload_n 0, 0), (.iload_n 1, 0), (.iload_n 3, 0)] = true ∧ lIa m_M_exchange 26 (.invokevirtual 147) 3 = true ∧ lIa m_M_exchange 29 (.ifCond .eq 7) 3 = true ∧ lSa m_M_exchange 36 [(.iconst 0, nI 0), (.iconst 1, nI 1)] = true ∧ lIa m_M_exchange 38 (.invokevirtual 36) 3 = true ∧ lIa m_M_exchange 41 (.ifCond .eq 5) 3 = true ∧ lSa m_M_exchange 46 [(.aload_n 0, 0), (.iload_n 1, 0), (.iload_n 2, 0), (.aload_n 0, 0), (.iload_n 1, 0), (.iload_n 3, 0)] = true ∧ lIa m_M_exchange 52 (.invokevirtual 132) 3 = true ∧ lIa m_M_exchange 55 (.invokevirtual 150) 3 = true ∧ lSa m_M_exchange 58 [(.astore 4, 0), (.aload_n 0, 0), (.iload_n 1, 0), (.iload_n 3, 0), (.aload 4, 0)] = true ∧ lIa m_M_exchange 65 (.invokevirtual 150) 3 = true ∧ lSa m_M_exchange 68 [(.pop, 0), (.aload_n 0, 0), (.iload_n 1, 0), (.iload_n 2, 0)] = true ∧ lIa m_M_exchange 72 (.invokevirtual 132) 3 = true ∧ lSa m_M_exchange 75 [(.iconst 0, nI 0)] = true ∧ lIa m_M_exchange 76 (.iaload) 1 = true ∧ lSa m_M_exchange 77 [(.aload_n 0, 0), (.iload_n 1, 0), (.iload_n 3, 0)] = true ∧ lIa m_M_exchange 80 (.invokevirtual 132) 3 = true ∧ lSa m_M_exchange 83 [(.iconst 0, nI 0)] = true ∧ lIa m_M_exchange 84 (.iaload) 1 = true ∧ lIa m_M_exchange 85 (.if_icmp .ne 7) 3 = true ∧ lSa m_M_exchange 88 [(.iconst 1, nI 1)] = true ∧ lIa m_M_exchange 89 (.goto 4) 3 = true ∧ lIa m_M_exchange 93 (.ireturn) 1 = true ∧ lSa m_M_exchange 92 [(.iconst 0, nI 0)] = true ∧ lSa m_M_exchange 44 [(.iconst 0, nI 0)] = true ∧ lIa m_M_exchange 45 (.ireturn) 1 = true ∧ lSa m_M_exchange 32 [(.iconst 1, nI 1)] = true ∧ lIa m_M_exchange 33 (.goto 4) 3 = true ∧ lSa m_M_exchange 37 [(.iconst 1, nI 1)] = true := by decide +kernel
  refine lA8 hdd (fun dd0 dd1 dd2 dd3 dd4 dd5 dd6 dd7 hdd => ?_)
  refine lA8 hdd (fun dd8 dd9 dd10 dd11 dd12 dd13 dd14 dd15 hdd => ?_)
  refine lA8 hdd (fun dd16 dd17 dd18 dd19 dd20 dd21 dd22 dd23 hdd => ?_)
  refine lA8 hdd (fun dd24 dd25 dd26 dd27 dd28 dd29 dd30 dd31 hdd => ?_)
  obtain ⟨dd32, dd33, dd34, dd35, dd36⟩ := hdd
  refine gMet.of (by decide +kernel) (Nat.le_of_ble_eq_true rfl) [some (.ref a0), some (.int a1), some (.int a2), some (.int a3), none] (fun ls h => zEn_ok (n := 5) h) ?_
  intro o Gf h
  unfold f_M_exchange at h
  refine Y.blk (pc' := 3) (L' := [some (.ref a0), some (.int a1), some (.int a2), some (.int a3), none]) (st' := [.int a1, .ref a0, .ref a0]) (sg := [(.aload_n 0, 0), (.aload_n 0, 0), (.iload_n 1, 0)]) (lSa_ok dd0) rfl ?_
  obtain ⟨_, o2, e1, m3, h⟩ := gOb_inv h
  refine Y.callI (yC.Vi (b := a0) (As := [.int a1]) (st := [.ref a0]) (r := ("PartlisterModel", T_M, 9)) hV.1 cb_M_isNoList lk_M_110 in_M_isNoList rfl se_M_isNoList (lIa_ok dd1) rfl rfl (Nat.le_of_ble_eq_true rfl) (by decide) e1 m3) (k_M_isNoList hV G a0 a1) h (fun v5 G4 _ h => ?_)
  refine Y.blk (pc' := 7) (L' := [some (.ref a0), some (.int a1), some (.int a2), some (.int a3), none]) (st' := [.int (nI 1), .int v5, .ref a0]) (sg := [(.iconst 1, nI 1)]) (lSa_ok dd2) rfl ?_
  obtain ⟨_, o7, e6, m8, h⟩ := gOb_inv h
  refine Y.callI (yC.Vi (b := a0) (As := [.int v5, .int (nI 1)]) (st := []) (r := ("PartlisterModel", T_M, 9)) hV.1 cb_M_start lk_M_114 in_M_start rfl se_M_start (lIa_ok dd3) rfl rfl (Nat.le_of_ble_eq_true rfl) (by decide) e6 m8) (k_M_start hV G4 a0 v5 (nI 1)) h (fun v10 G9 _ h => ?_)
  refine Y.if_ne (off := 34) (tgt := 44) (lIa_ok dd4) (by decide) h (fun c125 h => ?_) (fun c125 h => ?_)
  · refine Y.blk (pc' := 17) (L' := [some (.ref a0), some (.int a1), some (.int a2), some (.int a3), none]) (st' := [.int a2, .int a1, .ref a0, .ref a0]) (sg := [(.aload_n 0, 0), (.aload_n 0, 0), (.iload_n 1, 0), (.iload_n 2, 0)]) (lSa_ok dd5) rfl ?_
    obtain ⟨_, o12, e11, m13, h⟩ := gOb_inv h
    refine Y.callI (yC.Vi (b := a0) (As := [.int a1, .int a2]) (st := [.ref a0]) (r := ("PartlisterModel", T_M, 9)) hV.1 cb_M_isNoPlace lk_M_147 in_M_isNoPlace rfl se_M_isNoPlace (lIa_ok dd6) rfl rfl (Nat.le_of_ble_eq_true rfl) (by decide) e11 m13) (k_M_isNoPlace hV G9 a0 a1 a2) h (fun v15 G14 _ h => ?_)
    refine Y.if_ne (off := 12) (tgt := 32) (lIa_ok dd7) (by decide) h (fun c124 h => ?_) (fun c124 h => ?_)
    · refine Y.blk (pc' := 26) (L' := [some (.ref a0), some (.int a1), some (.int a2), some (.int a3), none]) (st' := [.int a3, .int a1, .ref a0, .ref a0]) (sg := [(.aload_n 0, 0), (.iload_n 1, 0), (.iload_n 3, 0)]) (lSa_ok dd8) rfl ?_
      obtain ⟨_, o17, e16, m18, h⟩ := gOb_inv h
      refine Y.callI (yC.Vi (b := a0) (As := [.int a1, .int a3]) (st := [.ref a0]) (r := ("PartlisterModel", T_M, 9)) hV.1 cb_M_isNoPlace lk_M_147 in_M_isNoPlace rfl se_M_isNoPlace (lIa_ok dd9) rfl rfl (Nat.le_of_ble_eq_true rfl) (by decide) e16 m18) (k_M_isNoPlace hV G14 a0 a1 a3) h (fun v20 G19 _ h => ?_)
      refine Y.if_eq (off := 7) (tgt := 36) (lIa_ok dd10) (by decide) h (fun c89 h => ?_) (fun c89 h => ?_)
      · refine Y.blk (pc' := 38) (L' := [some (.ref a0), some (.int a1), some (.int a2), some (.int a3), none]) (st' := [.int (nI 1), .int (nI 0), .ref a0]) (sg := [(.iconst 0, nI 0), (.iconst 1, nI 1)]) (lSa_ok dd11) rfl ?_
        obtain ⟨_, o22, e21, m23, h⟩ := gOb_inv h
        refine Y.callI (yC.Vi (b := a0) (As := [.int (nI 0), .int (nI 1)]) (st := []) (r := ("PartlisterModel", T_M, 9)) hV.1 cb_M_refuse lk_M_36 in_M_refuse rfl se_M_refuse (lIa_ok dd12) rfl rfl (Nat.le_of_ble_eq_true rfl) (by decide) e21 m23) (k_M_refuse hV G19 a0 (nI 0) (nI 1)) h (fun v25 G24 _ h => ?_)
        refine Y.if_eq (off := 5) (tgt := 46) (lIa_ok dd13) (by decide) h (fun c54 h => ?_) (fun c54 h => ?_)
        · refine Y.blk (pc' := 52) (L' := [some (.ref a0), some (.int a1), some (.int a2), some (.int a3), none]) (st' := [.int a3, .int a1, .ref a0, .int a2, .int a1, .ref a0]) (sg := [(.aload_n 0, 0), (.iload_n 1, 0), (.iload_n 2, 0), (.aload_n 0, 0), (.iload_n 1, 0), (.iload_n 3, 0)]) (lSa_ok dd14) rfl ?_
          obtain ⟨_, o27, e26, m28, h⟩ := gOb_inv h
          refine Y.callA (yC.Vi (b := a0) (As := [.int a1, .int a3]) (st := [.int a2, .int a1, .ref a0]) (r := ("PartlisterModel", T_M, 9)) hV.1 cb_M_at lk_M_132 in_M_at rfl se_M_at (lIa_ok dd15) rfl rfl (Nat.le_of_ble_eq_true rfl) (by decide) e26 m28) (k_M_at hV G24 a0 a1 a3) h (fun v30 G29 _ h => ?_)
          obtain ⟨_, o32, e31, m33, h⟩ := gOb_inv h
          refine Y.callA (yC.Vi (b := a0) (As := [.int a1, .int a2, .ref v30]) (st := []) (r := ("PartlisterModel", T_M, 9)) hV.1 cb_M_write lk_M_150 in_M_write rfl se_M_write (lIa_ok dd16) rfl rfl (Nat.le_of_ble_eq_true rfl) (by decide) e31 m33) (k_M_write hV G29 a0 a1 a2 v30) h (fun v35 G34 _ h => ?_)
          refine Y.blk (pc' := 65) (L' := [some (.ref a0), some (.int a1), some (.int a2), some (.int a3), some (.ref v35)]) (st' := [.ref v35, .int a3, .int a1, .ref a0]) (sg := [(.astore 4, 0), (.aload_n 0, 0), (.iload_n 1, 0), (.iload_n 3, 0), (.aload 4, 0)]) (lSa_ok dd17) rfl ?_
          obtain ⟨_, o37, e36, m38, h⟩ := gOb_inv h
          refine Y.callA (yC.Vi (b := a0) (As := [.int a1, .int a3, .ref v35]) (st := []) (r := ("PartlisterModel", T_M, 9)) hV.1 cb_M_write lk_M_150 in_M_write rfl se_M_write (lIa_ok dd18) rfl rfl (Nat.le_of_ble_eq_true rfl) (by decide) e36 m38) (k_M_write hV G34 a0 a1 a3 v35) h (fun v40 G39 _ h => ?_)
          refine Y.blk (pc' := 72) (L' := [some (.ref a0), some (.int a1), some (.int a2), some (.int a3), some (.ref v35)]) (st' := [.int a2, .int a1, .ref a0]) (sg := [(.pop, 0), (.aload_n 0, 0), (.iload_n 1, 0), (.iload_n 2, 0)]) (lSa_ok dd19) rfl ?_
          obtain ⟨_, o42, e41, m43, h⟩ := gOb_inv h
          refine Y.callA (yC.Vi (b := a0) (As := [.int a1, .int a2]) (st := []) (r := ("PartlisterModel", T_M, 9)) hV.1 cb_M_at lk_M_132 in_M_at rfl se_M_at (lIa_ok dd20) rfl rfl (Nat.le_of_ble_eq_true rfl) (by decide) e41 m43) (k_M_at hV G39 a0 a1 a2) h (fun v45 G44 _ h => ?_)
          refine Y.blk (pc' := 76) (L' := [some (.ref a0), some (.int a1), some (.int a2), some (.int a3), some (.ref v35)]) (st' := [.int (nI 0), .ref v45]) (sg := [(.iconst 0, nI 0)]) (lSa_ok dd21) rfl ?_
          refine Y.iald (t0 := 0) (lIa_ok dd22) rfl h (fun v46 h => ?_)
          refine Y.blk (pc' := 80) (L' := [some (.ref a0), some (.int a1), some (.int a2), some (.int a3), some (.ref v35)]) (st' := [.int a3, .int a1, .ref a0, .int v46]) (sg := [(.aload_n 0, 0), (.iload_n 1, 0), (.iload_n 3, 0)]) (lSa_ok dd23) rfl ?_
          obtain ⟨_, o48, e47, m49, h⟩ := gOb_inv h
          refine Y.callA (yC.Vi (b := a0) (As := [.int a1, .int a3]) (st := [.int v46]) (r := ("PartlisterModel", T_M, 9)) hV.1 cb_M_at lk_M_132 in_M_at rfl se_M_at (lIa_ok dd24) rfl rfl (Nat.le_of_ble_eq_true rfl) (by decide) e47 m49) (k_M_at hV G44 a0 a1 a3) h (fun v51 G50 _ h => ?_)
          refine Y.blk (pc' := 84) (L' := [some (.ref a0), some (.int a1), some (.int a2), some (.int a3), some (.ref v35)]) (st' := [.int (nI 0), .ref v51, .int v46]) (sg := [(.iconst 0, nI 0)]) (lSa_ok dd25) rfl ?_
          refine Y.iald (t0 := 0) (lIa_ok dd26) rfl h (fun v52 h => ?_)
          refine Y.ic_ne (off := 7) (tgt := 92) (lIa_ok dd27) (by decide) h (fun c53 h => ?_) (fun c53 h => ?_)
          · refine Y.blk (pc' := 89) (L' := [some (.ref a0), some (.int a1), some (.int a2), some (.int a3), some (.ref v35)]) (st' := [.int (nI 1)]) (sg := [(.iconst 1, nI 1)]) (lSa_ok dd28) rfl ?_
            refine Y.goto (off := 4) (tgt := 93) (lIa_ok dd29) (by decide) ?_
            exact Y.zret rfl (lIa_ok dd30) h
          · refine Y.blk (pc' := 93) (L' := [some (.ref a0), some (.int a1), some (.int a2), some (.int a3), some (.ref v35)]) (st' := [.int (nI 0)]) (sg := [(.iconst 0, nI 0)]) (lSa_ok dd31) rfl ?_
            exact Y.zret rfl (lIa_ok dd30) h
        · refine Y.blk (pc' := 45) (L' := [some (.ref a0), some (.int a1), some (.int a2), some (.int a3), none]) (st' := [.int (nI 0)]) (sg := [(.iconst 0, nI 0)]) (lSa_ok dd32) rfl ?_
          exact Y.zret rfl (lIa_ok dd33) h
      · refine Y.blk (pc' := 33) (L' := [some (.ref a0), some (.int a1), some (.int a2), some (.int a3), none]) (st' := [.int (nI 1), .ref a0]) (sg := [(.iconst 1, nI 1)]) (lSa_ok dd34) rfl ?_
        refine Y.goto (off := 4) (tgt := 37) (lIa_ok dd35) (by decide) ?_
        refine Y.blk (pc' := 38) (L' := [some (.ref a0), some (.int a1), some (.int a2), some (.int a3), none]) (st' := [.int (nI 1), .int (nI 1), .ref a0]) (sg := [(.iconst 1, nI 1)]) (lSa_ok dd36) rfl ?_
        obtain ⟨_, o56, e55, m57, h⟩ := gOb_inv h
        refine Y.callI (yC.Vi (b := a0) (As := [.int (nI 1), .int (nI 1)]) (st := []) (r := ("PartlisterModel", T_M, 9)) hV.1 cb_M_refuse lk_M_36 in_M_refuse rfl se_M_refuse (lIa_ok dd12) rfl rfl (Nat.le_of_ble_eq_true rfl) (by decide) e55 m57) (k_M_refuse hV G19 a0 (nI 1) (nI 1)) h (fun v59 G58 _ h => ?_)
        refine Y.if_eq (off := 5) (tgt := 46) (lIa_ok dd13) (by decide) h (fun c88 h => ?_) (fun c88 h => ?_)
        · refine Y.blk (pc' := 52) (L' := [some (.ref a0), some (.int a1), some (.int a2), some (.int a3), none]) (st' := [.int a3, .int a1, .ref a0, .int a2, .int a1, .ref a0]) (sg := [(.aload_n 0, 0), (.iload_n 1, 0), (.iload_n 2, 0), (.aload_n 0, 0), (.iload_n 1, 0), (.iload_n 3, 0)]) (lSa_ok dd14) rfl ?_
          obtain ⟨_, o61, e60, m62, h⟩ := gOb_inv h
          refine Y.callA (yC.Vi (b := a0) (As := [.int a1, .int a3]) (st := [.int a2, .int a1, .ref a0]) (r := ("PartlisterModel", T_M, 9)) hV.1 cb_M_at lk_M_132 in_M_at rfl se_M_at (lIa_ok dd15) rfl rfl (Nat.le_of_ble_eq_true rfl) (by decide) e60 m62) (k_M_at hV G58 a0 a1 a3) h (fun v64 G63 _ h => ?_)
          obtain ⟨_, o66, e65, m67, h⟩ := gOb_inv h
          refine Y.callA (yC.Vi (b := a0) (As := [.int a1, .int a2, .ref v64]) (st := []) (r := ("PartlisterModel", T_M, 9)) hV.1 cb_M_write lk_M_150 in_M_write rfl se_M_write (lIa_ok dd16) rfl rfl (Nat.le_of_ble_eq_true rfl) (by decide) e65 m67) (k_M_write hV G63 a0 a1 a2 v64) h (fun v69 G68 _ h => ?_)
          refine Y.blk (pc' := 65) (L' := [some (.ref a0), some (.int a1), some (.int a2), some (.int a3), some (.ref v69)]) (st' := [.ref v69, .int a3, .int a1, .ref a0]) (sg := [(.astore 4, 0), (.aload_n 0, 0), (.iload_n 1, 0), (.iload_n 3, 0), (.aload 4, 0)]) (lSa_ok dd17) rfl ?_
          obtain ⟨_, o71, e70, m72, h⟩ := gOb_inv h
          refine Y.callA (yC.Vi (b := a0) (As := [.int a1, .int a3, .ref v69]) (st := []) (r := ("PartlisterModel", T_M, 9)) hV.1 cb_M_write lk_M_150 in_M_write rfl se_M_write (lIa_ok dd18) rfl rfl (Nat.le_of_ble_eq_true rfl) (by decide) e70 m72) (k_M_write hV G68 a0 a1 a3 v69) h (fun v74 G73 _ h => ?_)
          refine Y.blk (pc' := 72) (L' := [some (.ref a0), some (.int a1), some (.int a2), some (.int a3), some (.ref v69)]) (st' := [.int a2, .int a1, .ref a0]) (sg := [(.pop, 0), (.aload_n 0, 0), (.iload_n 1, 0), (.iload_n 2, 0)]) (lSa_ok dd19) rfl ?_
          obtain ⟨_, o76, e75, m77, h⟩ := gOb_inv h
          refine Y.callA (yC.Vi (b := a0) (As := [.int a1, .int a2]) (st := []) (r := ("PartlisterModel", T_M, 9)) hV.1 cb_M_at lk_M_132 in_M_at rfl se_M_at (lIa_ok dd20) rfl rfl (Nat.le_of_ble_eq_true rfl) (by decide) e75 m77) (k_M_at hV G73 a0 a1 a2) h (fun v79 G78 _ h => ?_)
          refine Y.blk (pc' := 76) (L' := [some (.ref a0), some (.int a1), some (.int a2), some (.int a3), some (.ref v69)]) (st' := [.int (nI 0), .ref v79]) (sg := [(.iconst 0, nI 0)]) (lSa_ok dd21) rfl ?_
          refine Y.iald (t0 := 0) (lIa_ok dd22) rfl h (fun v80 h => ?_)
          refine Y.blk (pc' := 80) (L' := [some (.ref a0), some (.int a1), some (.int a2), some (.int a3), some (.ref v69)]) (st' := [.int a3, .int a1, .ref a0, .int v80]) (sg := [(.aload_n 0, 0), (.iload_n 1, 0), (.iload_n 3, 0)]) (lSa_ok dd23) rfl ?_
          obtain ⟨_, o82, e81, m83, h⟩ := gOb_inv h
          refine Y.callA (yC.Vi (b := a0) (As := [.int a1, .int a3]) (st := [.int v80]) (r := ("PartlisterModel", T_M, 9)) hV.1 cb_M_at lk_M_132 in_M_at rfl se_M_at (lIa_ok dd24) rfl rfl (Nat.le_of_ble_eq_true rfl) (by decide) e81 m83) (k_M_at hV G78 a0 a1 a3) h (fun v85 G84 _ h => ?_)
          refine Y.blk (pc' := 84) (L' := [some (.ref a0), some (.int a1), some (.int a2), some (.int a3), some (.ref v69)]) (st' := [.int (nI 0), .ref v85, .int v80]) (sg := [(.iconst 0, nI 0)]) (lSa_ok dd25) rfl ?_
          refine Y.iald (t0 := 0) (lIa_ok dd26) rfl h (fun v86 h => ?_)
          refine Y.ic_ne (off := 7) (tgt := 92) (lIa_ok dd27) (by decide) h (fun c87 h => ?_) (fun c87 h => ?_)
          · refine Y.blk (pc' := 89) (L' := [some (.ref a0), some (.int a1), some (.int a2), some (.int a3), some (.ref v69)]) (st' := [.int (nI 1)]) (sg := [(.iconst 1, nI 1)]) (lSa_ok dd28) rfl ?_
            refine Y.goto (off := 4) (tgt := 93) (lIa_ok dd29) (by decide) ?_
            exact Y.zret rfl (lIa_ok dd30) h
          · refine Y.blk (pc' := 93) (L' := [some (.ref a0), some (.int a1), some (.int a2), some (.int a3), some (.ref v69)]) (st' := [.int (nI 0)]) (sg := [(.iconst 0, nI 0)]) (lSa_ok dd31) rfl ?_
            exact Y.zret rfl (lIa_ok dd30) h
        · refine Y.blk (pc' := 45) (L' := [some (.ref a0), some (.int a1), some (.int a2), some (.int a3), none]) (st' := [.int (nI 0)]) (sg := [(.iconst 0, nI 0)]) (lSa_ok dd32) rfl ?_
          exact Y.zret rfl (lIa_ok dd33) h
    · refine Y.blk (pc' := 33) (L' := [some (.ref a0), some (.int a1), some (.int a2), some (.int a3), none]) (st' := [.int (nI 1), .ref a0]) (sg := [(.iconst 1, nI 1)]) (lSa_ok dd34) rfl ?_
      refine Y.goto (off := 4) (tgt := 37) (lIa_ok dd35) (by decide) ?_
      refine Y.blk (pc' := 38) (L' := [some (.ref a0), some (.int a1), some (.int a2), some (.int a3), none]) (st' := [.int (nI 1), .int (nI 1), .ref a0]) (sg := [(.iconst 1, nI 1)]) (lSa_ok dd36) rfl ?_
      obtain ⟨_, o91, e90, m92, h⟩ := gOb_inv h
      refine Y.callI (yC.Vi (b := a0) (As := [.int (nI 1), .int (nI 1)]) (st := []) (r := ("PartlisterModel", T_M, 9)) hV.1 cb_M_refuse lk_M_36 in_M_refuse rfl se_M_refuse (lIa_ok dd12) rfl rfl (Nat.le_of_ble_eq_true rfl) (by decide) e90 m92) (k_M_refuse hV G14 a0 (nI 1) (nI 1)) h (fun v94 G93 _ h => ?_)
      refine Y.if_eq (off := 5) (tgt := 46) (lIa_ok dd13) (by decide) h (fun c123 h => ?_) (fun c123 h => ?_)
      · refine Y.blk (pc' := 52) (L' := [some (.ref a0), some (.int a1), some (.int a2), some (.int a3), none]) (st' := [.int a3, .int a1, .ref a0, .int a2, .int a1, .ref a0]) (sg := [(.aload_n 0, 0), (.iload_n 1, 0), (.iload_n 2, 0), (.aload_n 0, 0), (.iload_n 1, 0), (.iload_n 3, 0)]) (lSa_ok dd14) rfl ?_
        obtain ⟨_, o96, e95, m97, h⟩ := gOb_inv h
        refine Y.callA (yC.Vi (b := a0) (As := [.int a1, .int a3]) (st := [.int a2, .int a1, .ref a0]) (r := ("PartlisterModel", T_M, 9)) hV.1 cb_M_at lk_M_132 in_M_at rfl se_M_at (lIa_ok dd15) rfl rfl (Nat.le_of_ble_eq_true rfl) (by decide) e95 m97) (k_M_at hV G93 a0 a1 a3) h (fun v99 G98 _ h => ?_)
        obtain ⟨_, o101, e100, m102, h⟩ := gOb_inv h
        refine Y.callA (yC.Vi (b := a0) (As := [.int a1, .int a2, .ref v99]) (st := []) (r := ("PartlisterModel", T_M, 9)) hV.1 cb_M_write lk_M_150 in_M_write rfl se_M_write (lIa_ok dd16) rfl rfl (Nat.le_of_ble_eq_true rfl) (by decide) e100 m102) (k_M_write hV G98 a0 a1 a2 v99) h (fun v104 G103 _ h => ?_)
        refine Y.blk (pc' := 65) (L' := [some (.ref a0), some (.int a1), some (.int a2), some (.int a3), some (.ref v104)]) (st' := [.ref v104, .int a3, .int a1, .ref a0]) (sg := [(.astore 4, 0), (.aload_n 0, 0), (.iload_n 1, 0), (.iload_n 3, 0), (.aload 4, 0)]) (lSa_ok dd17) rfl ?_
        obtain ⟨_, o106, e105, m107, h⟩ := gOb_inv h
        refine Y.callA (yC.Vi (b := a0) (As := [.int a1, .int a3, .ref v104]) (st := []) (r := ("PartlisterModel", T_M, 9)) hV.1 cb_M_write lk_M_150 in_M_write rfl se_M_write (lIa_ok dd18) rfl rfl (Nat.le_of_ble_eq_true rfl) (by decide) e105 m107) (k_M_write hV G103 a0 a1 a3 v104) h (fun v109 G108 _ h => ?_)
        refine Y.blk (pc' := 72) (L' := [some (.ref a0), some (.int a1), some (.int a2), some (.int a3), some (.ref v104)]) (st' := [.int a2, .int a1, .ref a0]) (sg := [(.pop, 0), (.aload_n 0, 0), (.iload_n 1, 0), (.iload_n 2, 0)]) (lSa_ok dd19) rfl ?_
        obtain ⟨_, o111, e110, m112, h⟩ := gOb_inv h
        refine Y.callA (yC.Vi (b := a0) (As := [.int a1, .int a2]) (st := []) (r := ("PartlisterModel", T_M, 9)) hV.1 cb_M_at lk_M_132 in_M_at rfl se_M_at (lIa_ok dd20) rfl rfl (Nat.le_of_ble_eq_true rfl) (by decide) e110 m112) (k_M_at hV G108 a0 a1 a2) h (fun v114 G113 _ h => ?_)
        refine Y.blk (pc' := 76) (L' := [some (.ref a0), some (.int a1), some (.int a2), some (.int a3), some (.ref v104)]) (st' := [.int (nI 0), .ref v114]) (sg := [(.iconst 0, nI 0)]) (lSa_ok dd21) rfl ?_
        refine Y.iald (t0 := 0) (lIa_ok dd22) rfl h (fun v115 h => ?_)
        refine Y.blk (pc' := 80) (L' := [some (.ref a0), some (.int a1), some (.int a2), some (.int a3), some (.ref v104)]) (st' := [.int a3, .int a1, .ref a0, .int v115]) (sg := [(.aload_n 0, 0), (.iload_n 1, 0), (.iload_n 3, 0)]) (lSa_ok dd23) rfl ?_
        obtain ⟨_, o117, e116, m118, h⟩ := gOb_inv h
        refine Y.callA (yC.Vi (b := a0) (As := [.int a1, .int a3]) (st := [.int v115]) (r := ("PartlisterModel", T_M, 9)) hV.1 cb_M_at lk_M_132 in_M_at rfl se_M_at (lIa_ok dd24) rfl rfl (Nat.le_of_ble_eq_true rfl) (by decide) e116 m118) (k_M_at hV G113 a0 a1 a3) h (fun v120 G119 _ h => ?_)
        refine Y.blk (pc' := 84) (L' := [some (.ref a0), some (.int a1), some (.int a2), some (.int a3), some (.ref v104)]) (st' := [.int (nI 0), .ref v120, .int v115]) (sg := [(.iconst 0, nI 0)]) (lSa_ok dd25) rfl ?_
        refine Y.iald (t0 := 0) (lIa_ok dd26) rfl h (fun v121 h => ?_)
        refine Y.ic_ne (off := 7) (tgt := 92) (lIa_ok dd27) (by decide) h (fun c122 h => ?_) (fun c122 h => ?_)
        · refine Y.blk (pc' := 89) (L' := [some (.ref a0), some (.int a1), some (.int a2), some (.int a3), some (.ref v104)]) (st' := [.int (nI 1)]) (sg := [(.iconst 1, nI 1)]) (lSa_ok dd28) rfl ?_
          refine Y.goto (off := 4) (tgt := 93) (lIa_ok dd29) (by decide) ?_
          exact Y.zret rfl (lIa_ok dd30) h
        · refine Y.blk (pc' := 93) (L' := [some (.ref a0), some (.int a1), some (.int a2), some (.int a3), some (.ref v104)]) (st' := [.int (nI 0)]) (sg := [(.iconst 0, nI 0)]) (lSa_ok dd31) rfl ?_
          exact Y.zret rfl (lIa_ok dd30) h
      · refine Y.blk (pc' := 45) (L' := [some (.ref a0), some (.int a1), some (.int a2), some (.int a3), none]) (st' := [.int (nI 0)]) (sg := [(.iconst 0, nI 0)]) (lSa_ok dd32) rfl ?_
        exact Y.zret rfl (lIa_ok dd33) h
  · refine Y.blk (pc' := 45) (L' := [some (.ref a0), some (.int a1), some (.int a2), some (.int a3), none]) (st' := [.int (nI 0)]) (sg := [(.iconst 0, nI 0)]) (lSa_ok dd32) rfl ?_
    exact Y.zret rfl (lIa_ok dd33) h

def f_M_extreme (G : gH) (a0 : Nat) (a1 : Int32) (a2 : Int32) : gR :=
  gOb G a0 6 fun o2 => bI (f_M_isNoList G a0 a1) fun v5 G4 => gOb G4 a0 6 fun o7 => bI (f_M_start G4 a0 v5 (nI 1)) fun v10 G9 => if v10 = 0 then gOb G9 a0 6 fun o12 => bI (f_M_extremeOf G9 a0 a1 a2) fun v15 G14 => rI v15 G14
  else rI (nI 0) G9
theorem k_M_extreme {l : Launch} {D : va_G} {B : Nat} {O : State → Heap → Prop} (hV : zG l D B O) (G : gH) (a0 : Nat) (a1 : Int32) (a2 : Int32) : gMet (zVm l D B O) m_M_extreme 14 [.ref a0, .int a1, .int a2] G (f_M_extreme G a0 a1 a2) := by
  have hdd : lSa m_M_extreme 0 [(.aload_n 0, 0), (.aload_n 0, 0), (.iload_n 1, 0)] = true ∧ lIa m_M_extreme 3 (.invokevirtual 110) 3 = true ∧ lSa m_M_extreme 6 [(.iconst 1, nI 1)] = true ∧ lIa m_M_extreme 7 (.invokevirtual 114) 3 = true ∧ lIa m_M_extreme 10 (.ifCond .eq 7) 3 = true ∧ lSa m_M_extreme 17 [(.aload_n 0, 0), (.iload_n 1, 0), (.iload_n 2, 0)] = true ∧ lIa m_M_extreme 20 (.invokevirtual 253) 3 = true ∧ lIa m_M_extreme 23 (.ireturn) 1 = true ∧ lSa m_M_extreme 13 [(.iconst 0, nI 0)] = true ∧ lIa m_M_extreme 14 (.goto 9) 3 = true := by decide +kernel
  refine lA8 hdd (fun dd0 dd1 dd2 dd3 dd4 dd5 dd6 dd7 hdd => ?_)
  obtain ⟨dd8, dd9⟩ := hdd
  refine gMet.of (by decide +kernel) (Nat.le_of_ble_eq_true rfl) [some (.ref a0), some (.int a1), some (.int a2)] (fun ls h => zEn_ok (n := 3) h) ?_
  intro o Gf h
  unfold f_M_extreme at h
  refine Y.blk (pc' := 3) (L' := [some (.ref a0), some (.int a1), some (.int a2)]) (st' := [.int a1, .ref a0, .ref a0]) (sg := [(.aload_n 0, 0), (.aload_n 0, 0), (.iload_n 1, 0)]) (lSa_ok dd0) rfl ?_
  obtain ⟨_, o2, e1, m3, h⟩ := gOb_inv h
  refine Y.callI (yC.Vi (b := a0) (As := [.int a1]) (st := [.ref a0]) (r := ("PartlisterModel", T_M, 9)) hV.1 cb_M_isNoList lk_M_110 in_M_isNoList rfl se_M_isNoList (lIa_ok dd1) rfl rfl (Nat.le_of_ble_eq_true rfl) (by decide) e1 m3) (k_M_isNoList hV G a0 a1) h (fun v5 G4 _ h => ?_)
  refine Y.blk (pc' := 7) (L' := [some (.ref a0), some (.int a1), some (.int a2)]) (st' := [.int (nI 1), .int v5, .ref a0]) (sg := [(.iconst 1, nI 1)]) (lSa_ok dd2) rfl ?_
  obtain ⟨_, o7, e6, m8, h⟩ := gOb_inv h
  refine Y.callI (yC.Vi (b := a0) (As := [.int v5, .int (nI 1)]) (st := []) (r := ("PartlisterModel", T_M, 9)) hV.1 cb_M_start lk_M_114 in_M_start rfl se_M_start (lIa_ok dd3) rfl rfl (Nat.le_of_ble_eq_true rfl) (by decide) e6 m8) (k_M_start hV G4 a0 v5 (nI 1)) h (fun v10 G9 _ h => ?_)
  refine Y.if_eq (off := 7) (tgt := 17) (lIa_ok dd4) (by decide) h (fun c16 h => ?_) (fun c16 h => ?_)
  · refine Y.blk (pc' := 20) (L' := [some (.ref a0), some (.int a1), some (.int a2)]) (st' := [.int a2, .int a1, .ref a0]) (sg := [(.aload_n 0, 0), (.iload_n 1, 0), (.iload_n 2, 0)]) (lSa_ok dd5) rfl ?_
    obtain ⟨_, o12, e11, m13, h⟩ := gOb_inv h
    refine Y.callI (yC.Vi (b := a0) (As := [.int a1, .int a2]) (st := []) (r := ("PartlisterModel", T_M, 9)) hV.1 cb_M_extremeOf lk_M_253 in_M_extremeOf rfl se_M_extremeOf (lIa_ok dd6) rfl rfl (Nat.le_of_ble_eq_true rfl) (by decide) e11 m13) (k_M_extremeOf hV G9 a0 a1 a2) h (fun v15 G14 _ h => ?_)
    exact Y.iret rfl (lIa_ok dd7) h
  · refine Y.blk (pc' := 14) (L' := [some (.ref a0), some (.int a1), some (.int a2)]) (st' := [.int (nI 0)]) (sg := [(.iconst 0, nI 0)]) (lSa_ok dd8) rfl ?_
    refine Y.goto (off := 9) (tgt := 23) (lIa_ok dd9) (by decide) ?_
    exact Y.iret rfl (lIa_ok dd7) h

def f_M_find (G : gH) (a0 : Nat) (a1 : Int32) (a2 : Int32) : gR :=
  gOb G a0 6 fun o2 => bI (f_M_areNone G a0 a1 a2) fun v5 G4 => if v5 = 0 then gOb G4 a0 6 fun o7 => bI (f_M_found G4 a0 a1 a2) fun v10 G9 => rI v10 G9
  else rI (nI 0) G4
theorem k_M_find {l : Launch} {D : va_G} {B : Nat} {O : State → Heap → Prop} (hV : zG l D B O) (G : gH) (a0 : Nat) (a1 : Int32) (a2 : Int32) : gMet (zVm l D B O) m_M_find 15 [.ref a0, .int a1, .int a2] G (f_M_find G a0 a1 a2) := by
  have hdd : lSa m_M_find 0 [(.aload_n 0, 0), (.iload_n 1, 0), (.iload_n 2, 0)] = true ∧ lIa m_M_find 3 (.invokevirtual 235) 3 = true ∧ lIa m_M_find 6 (.ifCond .eq 7) 3 = true ∧ lSa m_M_find 13 [(.aload_n 0, 0), (.iload_n 1, 0), (.iload_n 2, 0)] = true ∧ lIa m_M_find 16 (.invokevirtual 247) 3 = true ∧ lIa m_M_find 19 (.ireturn) 1 = true ∧ lSa m_M_find 9 [(.iconst 0, nI 0)] = true ∧ lIa m_M_find 10 (.goto 9) 3 = true := by decide +kernel
  obtain ⟨dd0, dd1, dd2, dd3, dd4, dd5, dd6, dd7⟩ := hdd
  refine gMet.of (by decide +kernel) (Nat.le_of_ble_eq_true rfl) [some (.ref a0), some (.int a1), some (.int a2)] (fun ls h => zEn_ok (n := 3) h) ?_
  intro o Gf h
  unfold f_M_find at h
  refine Y.blk (pc' := 3) (L' := [some (.ref a0), some (.int a1), some (.int a2)]) (st' := [.int a2, .int a1, .ref a0]) (sg := [(.aload_n 0, 0), (.iload_n 1, 0), (.iload_n 2, 0)]) (lSa_ok dd0) rfl ?_
  obtain ⟨_, o2, e1, m3, h⟩ := gOb_inv h
  refine Y.callI (yC.Vi (b := a0) (As := [.int a1, .int a2]) (st := []) (r := ("PartlisterModel", T_M, 9)) hV.1 cb_M_areNone lk_M_235 in_M_areNone rfl se_M_areNone (lIa_ok dd1) rfl rfl (Nat.le_of_ble_eq_true rfl) (by decide) e1 m3) (k_M_areNone hV G a0 a1 a2) h (fun v5 G4 _ h => ?_)
  refine Y.if_eq (off := 7) (tgt := 13) (lIa_ok dd2) (by decide) h (fun c11 h => ?_) (fun c11 h => ?_)
  · refine Y.blk (pc' := 16) (L' := [some (.ref a0), some (.int a1), some (.int a2)]) (st' := [.int a2, .int a1, .ref a0]) (sg := [(.aload_n 0, 0), (.iload_n 1, 0), (.iload_n 2, 0)]) (lSa_ok dd3) rfl ?_
    obtain ⟨_, o7, e6, m8, h⟩ := gOb_inv h
    refine Y.callI (yC.Vi (b := a0) (As := [.int a1, .int a2]) (st := []) (r := ("PartlisterModel", T_M, 9)) hV.1 cb_M_found lk_M_247 in_M_found rfl se_M_found (lIa_ok dd4) rfl rfl (Nat.le_of_ble_eq_true rfl) (by decide) e6 m8) (k_M_found hV G4 a0 a1 a2) h (fun v10 G9 _ h => ?_)
    exact Y.iret rfl (lIa_ok dd5) h
  · refine Y.blk (pc' := 10) (L' := [some (.ref a0), some (.int a1), some (.int a2)]) (st' := [.int (nI 0)]) (sg := [(.iconst 0, nI 0)]) (lSa_ok dd6) rfl ?_
    refine Y.goto (off := 9) (tgt := 19) (lIa_ok dd7) (by decide) ?_
    exact Y.iret rfl (lIa_ok dd5) h

def f_M_isNoKey (G : gH) (a0 : Nat) (a1 : Int32) : gR :=
  bI (f_M_isIn G a1 (nI 0) (nI 30)) fun v3 G2 => if v3 = 0 then rZ (nI 1) G2
  else rZ (nI 0) G2
theorem k_M_isNoKey {l : Launch} {D : va_G} {B : Nat} {O : State → Heap → Prop} (hV : zG l D B O) (G : gH) (a0 : Nat) (a1 : Int32) : gMet (zVm l D B O) m_M_isNoKey 3 [.ref a0, .int a1] G (f_M_isNoKey G a0 a1) := by
  have hdd : lSa m_M_isNoKey 0 [(.iload_n 1, 0), (.iconst 0, nI 0), (.bipush 30, nI 30)] = true ∧ lIa m_M_isNoKey 4 (.invokestatic 40) 3 = true ∧ lIa m_M_isNoKey 7 (.ifCond .ne 7) 3 = true ∧ lSa m_M_isNoKey 10 [(.iconst 1, nI 1)] = true ∧ lIa m_M_isNoKey 11 (.goto 4) 3 = true ∧ lIa m_M_isNoKey 15 (.ireturn) 1 = true ∧ lSa m_M_isNoKey 14 [(.iconst 0, nI 0)] = true := by decide +kernel
  obtain ⟨dd0, dd1, dd2, dd3, dd4, dd5, dd6⟩ := hdd
  refine gMet.of (by decide +kernel) (Nat.le_of_ble_eq_true rfl) [some (.ref a0), some (.int a1)] (fun ls h => zEn_ok (n := 2) h) ?_
  intro o Gf h
  unfold f_M_isNoKey at h
  refine Y.blk (pc' := 4) (L' := [some (.ref a0), some (.int a1)]) (st' := [.int (nI 30), .int (nI 0), .int a1]) (sg := [(.iload_n 1, 0), (.iconst 0, nI 0), (.bipush 30, nI 30)]) (lSa_ok dd0) rfl ?_
  refine Y.callI (yC.S (As := [.int a1, .int (nI 0), .int (nI 30)]) (st := []) hV.1 cb_M_isIn lk_M_40 st_M_isIn (lIa_ok dd1) rfl rfl (Nat.le_of_ble_eq_true rfl) (by decide)) (k_M_isIn hV G a1 (nI 0) (nI 30)) h (fun v3 G2 _ h => ?_)
  refine Y.if_ne (off := 7) (tgt := 14) (lIa_ok dd2) (by decide) h (fun c4 h => ?_) (fun c4 h => ?_)
  · refine Y.blk (pc' := 11) (L' := [some (.ref a0), some (.int a1)]) (st' := [.int (nI 1)]) (sg := [(.iconst 1, nI 1)]) (lSa_ok dd3) rfl ?_
    refine Y.goto (off := 4) (tgt := 15) (lIa_ok dd4) (by decide) ?_
    exact Y.zret rfl (lIa_ok dd5) h
  · refine Y.blk (pc' := 15) (L' := [some (.ref a0), some (.int a1)]) (st' := [.int (nI 0)]) (sg := [(.iconst 0, nI 0)]) (lSa_ok dd6) rfl ?_
    exact Y.zret rfl (lIa_ok dd5) h

def f_M_first (G : gH) (a0 : Nat) (a1 : Int32) (a2 : Int32) : gR :=
  gOb G a0 6 fun o2 => bI (f_M_isNoList G a0 a1) fun v5 G4 => gOb G4 a0 6 fun o7 => bI (f_M_start G4 a0 v5 (nI 1)) fun v10 G9 => if v10 = 0 then (gOb G9 a0 6 fun o12 => bI (f_M_isNoKey G9 a0 a2) fun v15 G14 => gOb G14 a0 6 fun o17 => bI (f_M_refuse G14 a0 v15 (nI 2)) fun v20 G19 => if v20 = 0 then gOb G19 a0 6 fun o22 => bI (f_M_firstOf G19 a0 a1 a2) fun v25 G24 => rI v25 G24
    else rI (nI 0) G19)
  else rI (nI 0) G9
theorem k_M_first {l : Launch} {D : va_G} {B : Nat} {O : State → Heap → Prop} (hV : zG l D B O) (G : gH) (a0 : Nat) (a1 : Int32) (a2 : Int32) : gMet (zVm l D B O) m_M_first 14 [.ref a0, .int a1, .int a2] G (f_M_first G a0 a1 a2) := by
  have hdd : lSa m_M_first 0 [(.aload_n 0, 0), (.aload_n 0, 0), (.iload_n 1, 0)] = true ∧ lIa m_M_first 3 (.invokevirtual 110) 3 = true ∧ lSa m_M_first 6 [(.iconst 1, nI 1)] = true ∧ lIa m_M_first 7 (.invokevirtual 114) 3 = true ∧ lIa m_M_first 10 (.ifCond .ne 16) 3 = true ∧ lSa m_M_first 13 [(.aload_n 0, 0), (.aload_n 0, 0), (.iload_n 2, 0)] = true ∧ lIa m_M_first 16 (.invokevirtual 160) 3 = true ∧ lSa m_M_first 19 [(.iconst 2, nI 2)] = true ∧ lIa m_M_first 20 (.invokevirtual 36) 3 = true ∧ lIa m_M_first 23 (.ifCond .eq 7) 3 = true ∧ lSa m_M_first 30 [(.aload_n 0, 0), (.iload_n 1, 0), (.iload_n 2, 0)] = true ∧ lIa m_M_first 33 (.invokevirtual 163) 3 = true ∧ lIa m_M_first 36 (.ireturn) 1 = true ∧ lSa m_M_first 26 [(.iconst 0, nI 0)] = true ∧ lIa m_M_first 27 (.goto 9) 3 = true := by decide +kernel
  refine lA8 hdd (fun dd0 dd1 dd2 dd3 dd4 dd5 dd6 dd7 hdd => ?_)
  obtain ⟨dd8, dd9, dd10, dd11, dd12, dd13, dd14⟩ := hdd
  refine gMet.of (by decide +kernel) (Nat.le_of_ble_eq_true rfl) [some (.ref a0), some (.int a1), some (.int a2)] (fun ls h => zEn_ok (n := 3) h) ?_
  intro o Gf h
  unfold f_M_first at h
  refine Y.blk (pc' := 3) (L' := [some (.ref a0), some (.int a1), some (.int a2)]) (st' := [.int a1, .ref a0, .ref a0]) (sg := [(.aload_n 0, 0), (.aload_n 0, 0), (.iload_n 1, 0)]) (lSa_ok dd0) rfl ?_
  obtain ⟨_, o2, e1, m3, h⟩ := gOb_inv h
  refine Y.callI (yC.Vi (b := a0) (As := [.int a1]) (st := [.ref a0]) (r := ("PartlisterModel", T_M, 9)) hV.1 cb_M_isNoList lk_M_110 in_M_isNoList rfl se_M_isNoList (lIa_ok dd1) rfl rfl (Nat.le_of_ble_eq_true rfl) (by decide) e1 m3) (k_M_isNoList hV G a0 a1) h (fun v5 G4 _ h => ?_)
  refine Y.blk (pc' := 7) (L' := [some (.ref a0), some (.int a1), some (.int a2)]) (st' := [.int (nI 1), .int v5, .ref a0]) (sg := [(.iconst 1, nI 1)]) (lSa_ok dd2) rfl ?_
  obtain ⟨_, o7, e6, m8, h⟩ := gOb_inv h
  refine Y.callI (yC.Vi (b := a0) (As := [.int v5, .int (nI 1)]) (st := []) (r := ("PartlisterModel", T_M, 9)) hV.1 cb_M_start lk_M_114 in_M_start rfl se_M_start (lIa_ok dd3) rfl rfl (Nat.le_of_ble_eq_true rfl) (by decide) e6 m8) (k_M_start hV G4 a0 v5 (nI 1)) h (fun v10 G9 _ h => ?_)
  refine Y.if_ne (off := 16) (tgt := 26) (lIa_ok dd4) (by decide) h (fun c27 h => ?_) (fun c27 h => ?_)
  · refine Y.blk (pc' := 16) (L' := [some (.ref a0), some (.int a1), some (.int a2)]) (st' := [.int a2, .ref a0, .ref a0]) (sg := [(.aload_n 0, 0), (.aload_n 0, 0), (.iload_n 2, 0)]) (lSa_ok dd5) rfl ?_
    obtain ⟨_, o12, e11, m13, h⟩ := gOb_inv h
    refine Y.callI (yC.Vi (b := a0) (As := [.int a2]) (st := [.ref a0]) (r := ("PartlisterModel", T_M, 9)) hV.1 cb_M_isNoKey lk_M_160 in_M_isNoKey rfl se_M_isNoKey (lIa_ok dd6) rfl rfl (Nat.le_of_ble_eq_true rfl) (by decide) e11 m13) (k_M_isNoKey hV G9 a0 a2) h (fun v15 G14 _ h => ?_)
    refine Y.blk (pc' := 20) (L' := [some (.ref a0), some (.int a1), some (.int a2)]) (st' := [.int (nI 2), .int v15, .ref a0]) (sg := [(.iconst 2, nI 2)]) (lSa_ok dd7) rfl ?_
    obtain ⟨_, o17, e16, m18, h⟩ := gOb_inv h
    refine Y.callI (yC.Vi (b := a0) (As := [.int v15, .int (nI 2)]) (st := []) (r := ("PartlisterModel", T_M, 9)) hV.1 cb_M_refuse lk_M_36 in_M_refuse rfl se_M_refuse (lIa_ok dd8) rfl rfl (Nat.le_of_ble_eq_true rfl) (by decide) e16 m18) (k_M_refuse hV G14 a0 v15 (nI 2)) h (fun v20 G19 _ h => ?_)
    refine Y.if_eq (off := 7) (tgt := 30) (lIa_ok dd9) (by decide) h (fun c26 h => ?_) (fun c26 h => ?_)
    · refine Y.blk (pc' := 33) (L' := [some (.ref a0), some (.int a1), some (.int a2)]) (st' := [.int a2, .int a1, .ref a0]) (sg := [(.aload_n 0, 0), (.iload_n 1, 0), (.iload_n 2, 0)]) (lSa_ok dd10) rfl ?_
      obtain ⟨_, o22, e21, m23, h⟩ := gOb_inv h
      refine Y.callI (yC.Vi (b := a0) (As := [.int a1, .int a2]) (st := []) (r := ("PartlisterModel", T_M, 9)) hV.1 cb_M_firstOf lk_M_163 in_M_firstOf rfl se_M_firstOf (lIa_ok dd11) rfl rfl (Nat.le_of_ble_eq_true rfl) (by decide) e21 m23) (k_M_firstOf hV G19 a0 a1 a2) h (fun v25 G24 _ h => ?_)
      exact Y.iret rfl (lIa_ok dd12) h
    · refine Y.blk (pc' := 27) (L' := [some (.ref a0), some (.int a1), some (.int a2)]) (st' := [.int (nI 0)]) (sg := [(.iconst 0, nI 0)]) (lSa_ok dd13) rfl ?_
      refine Y.goto (off := 9) (tgt := 36) (lIa_ok dd14) (by decide) ?_
      exact Y.iret rfl (lIa_ok dd12) h
  · refine Y.blk (pc' := 27) (L' := [some (.ref a0), some (.int a1), some (.int a2)]) (st' := [.int (nI 0)]) (sg := [(.iconst 0, nI 0)]) (lSa_ok dd13) rfl ?_
    refine Y.goto (off := 9) (tgt := 36) (lIa_ok dd14) (by decide) ?_
    exact Y.iret rfl (lIa_ok dd12) h

def f_M_freePart_L2 (K17 : gH → Int32 → gR) (K25 : gH → gR) : Nat → gH → Nat → Int32 → gR
  | 0, _, _, _ => none
  | n + 1, G, x0, x1 =>
    if (nI 6) ≤ x1 then K25 G
    else gFA G x0 6 2 fun v1 => gLdq G v1 104 x1 (K17 G x1) fun v2 => f_M_freePart_L2 K17 K25 n G x0 (x1 + (nI 1))
def f_M_freePart (G : gH) (a0 : Nat) : gR :=
  f_M_freePart_L2 (fun G5 x4 => rI x4 G5) (fun G6 => rI (-1) G6) zFu G a0 (nI 2)
theorem k_M_freePart_L2 {l : Launch} {D : va_G} {B : Nat} {O : State → Heap → Prop} (hV : zG l D B O) {o : gO} {Gf : gH} (K17 : gH → Int32 → gR) (K25 : gH → gR) (hK17 : ∀ (G : gH) (x1 : Int32), K17 G x1 = some (o, Gf) → Y (zVm l D B O) m_M_freePart 2 o Gf 17 [none, some (.int x1)] [] G) (hK25 : ∀ (G : gH), K25 G  = some (o, Gf) → Y (zVm l D B O) m_M_freePart 2 o Gf 25 [none, none] [] G) : ∀ (n : Nat) (G : gH) (x0 : Nat) (x1 : Int32), f_M_freePart_L2 K17 K25 n G x0 x1 = some (o, Gf) → Y (zVm l D B O) m_M_freePart 2 o Gf 2 [some (.ref x0), some (.int x1)] [] G := by
  have hdd : lSa m_M_freePart 2 [(.iload_n 1, 0), (.bipush 6, nI 6)] = true ∧ lIa m_M_freePart 5 (.if_icmp .ge 20) 3 = true ∧ lSa m_M_freePart 8 [(.aload_n 0, 0)] = true ∧ lIa m_M_freePart 9 (.getfield 18) 3 = true ∧ lSa m_M_freePart 12 [(.iload_n 1, 0)] = true ∧ lIa m_M_freePart 13 (.aaload) 1 = true ∧ lIa m_M_freePart 14 (.ifnonnull 5) 3 = true ∧ lSa m_M_freePart 19 [(.iinc 1 1, nI 1)] = true ∧ lIa m_M_freePart 22 (.goto (-20)) 3 = true := by decide +kernel
  refine lA8 hdd (fun dd0 dd1 dd2 dd3 dd4 dd5 dd6 dd7 hdd => ?_)
  have dd8 := hdd
  intro n
  induction n with
  | zero => intro G x0 x1 h; cases h
  | succ n ih =>
    intro G x0 x1 h
    unfold f_M_freePart_L2 at h
    refine Y.blk (pc' := 5) (L' := [some (.ref x0), some (.int x1)]) (st' := [.int (nI 6), .int x1]) (sg := [(.iload_n 1, 0), (.bipush 6, nI 6)]) (lSa_ok dd0) rfl ?_
    refine Y.ic_ge (off := 20) (tgt := 25) (lIa_ok dd1) (by decide) h (fun c3 h => ?_) (fun c3 h => ?_)
    · refine Y.less (L' := [none, none]) (zLe_none (zLe_none (zLe_nil))) ?_
      exact hK25 G  h
    · refine Y.blk (pc' := 9) (L' := [some (.ref x0), some (.int x1)]) (st' := [.ref x0]) (sg := [(.aload_n 0, 0)]) (lSa_ok dd2) rfl ?_
      refine Y.getA fl_M_18 (lIa_ok dd3) h (fun v1 h => ?_)
      refine Y.blk (pc' := 13) (L' := [some (.ref x0), some (.int x1)]) (st' := [.int x1, .ref v1]) (sg := [(.iload_n 1, 0)]) (lSa_ok dd4) rfl ?_
      refine Y.aald (t0 := 4) (lIa_ok dd5) rfl h (fun h => ?_) (fun v2 h => ?_)
      · refine Y.ifnonnull_n (off := 5) (lIa_ok dd6) ?_
        refine Y.less (L' := [none, some (.int x1)]) (zLe_none (zLe_some (zLe_nil))) ?_
        exact hK17 G x1 h
      · refine Y.ifnonnull_r (off := 5) (tgt := 19) (lIa_ok dd6) (by decide) ?_
        refine Y.blk (pc' := 22) (L' := [some (.ref x0), some (.int (x1 + (nI 1)))]) (st' := []) (sg := [(.iinc 1 1, nI 1)]) (lSa_ok dd7) rfl ?_
        refine Y.goto (off := -20) (tgt := 2) (lIa_ok dd8) (by decide) ?_
        exact ih G x0 (x1 + (nI 1)) h
theorem k_M_freePart {l : Launch} {D : va_G} {B : Nat} {O : State → Heap → Prop} (hV : zG l D B O) (G : gH) (a0 : Nat) : gMet (zVm l D B O) m_M_freePart 2 [.ref a0] G (f_M_freePart G a0) := by
  have hdd : lSa m_M_freePart 0 [(.iconst 2, nI 2), (.istore_n 1, 0)] = true ∧ lSa m_M_freePart 17 [(.iload_n 1, 0)] = true ∧ lIa m_M_freePart 18 (.ireturn) 1 = true ∧ lSa m_M_freePart 25 [(.iconst (-1), -1)] = true ∧ lIa m_M_freePart 26 (.ireturn) 1 = true := by decide +kernel
  obtain ⟨dd0, dd1, dd2, dd3, dd4⟩ := hdd
  refine gMet.of (by decide +kernel) (Nat.le_of_ble_eq_true rfl) [some (.ref a0), none] (fun ls h => zEn_ok (n := 2) h) ?_
  intro o Gf h
  unfold f_M_freePart at h
  refine Y.blk (pc' := 2) (L' := [some (.ref a0), some (.int (nI 2))]) (st' := []) (sg := [(.iconst 2, nI 2), (.istore_n 1, 0)]) (lSa_ok dd0) rfl ?_
  refine k_M_freePart_L2 hV _ _ ?_ ?_  zFu G a0 (nI 2) h
  · intro G5 x4 h
    refine Y.blk (pc' := 18) (L' := [none, some (.int x4)]) (st' := [.int x4]) (sg := [(.iload_n 1, 0)]) (lSa_ok dd1) rfl ?_
    exact Y.iret rfl (lIa_ok dd2) h
  · intro G6 h
    refine Y.blk (pc' := 26) (L' := [none, none]) (st' := [.int (-1)]) (sg := [(.iconst (-1), -1)]) (lSa_ok dd3) rfl ?_
    exact Y.iret rfl (lIa_ok dd4) h

def f_M_hasAll (G : gH) (a0 : Nat) (a1 : Int32) (a2 : Int32) : gR :=
  gOb G a0 6 fun o2 => bI (f_M_areNone G a0 a1 a2) fun v5 G4 => if v5 = 0 then (gOb G4 a0 6 fun o7 => bI (f_M_hasEach G4 a0 a1 a2) fun v10 G9 => if v10 = 0 then rZ (nI 0) G9
    else rZ (nI 1) G9)
  else rZ (nI 0) G4
theorem k_M_hasAll {l : Launch} {D : va_G} {B : Nat} {O : State → Heap → Prop} (hV : zG l D B O) (G : gH) (a0 : Nat) (a1 : Int32) (a2 : Int32) : gMet (zVm l D B O) m_M_hasAll 15 [.ref a0, .int a1, .int a2] G (f_M_hasAll G a0 a1 a2) := by
  have hdd : lSa m_M_hasAll 0 [(.aload_n 0, 0), (.iload_n 1, 0), (.iload_n 2, 0)] = true ∧ lIa m_M_hasAll 3 (.invokevirtual 235) 3 = true ∧ lIa m_M_hasAll 6 (.ifCond .ne 16) 3 = true ∧ lSa m_M_hasAll 9 [(.aload_n 0, 0), (.iload_n 1, 0), (.iload_n 2, 0)] = true ∧ lIa m_M_hasAll 12 (.invokevirtual 238) 3 = true ∧ lIa m_M_hasAll 15 (.ifCond .eq 7) 3 = true ∧ lSa m_M_hasAll 22 [(.iconst 0, nI 0)] = true ∧ lIa m_M_hasAll 23 (.ireturn) 1 = true ∧ lSa m_M_hasAll 18 [(.iconst 1, nI 1)] = true ∧ lIa m_M_hasAll 19 (.goto 4) 3 = true := by decide +kernel
  refine lA8 hdd (fun dd0 dd1 dd2 dd3 dd4 dd5 dd6 dd7 hdd => ?_)
  obtain ⟨dd8, dd9⟩ := hdd
  refine gMet.of (by decide +kernel) (Nat.le_of_ble_eq_true rfl) [some (.ref a0), some (.int a1), some (.int a2)] (fun ls h => zEn_ok (n := 3) h) ?_
  intro o Gf h
  unfold f_M_hasAll at h
  refine Y.blk (pc' := 3) (L' := [some (.ref a0), some (.int a1), some (.int a2)]) (st' := [.int a2, .int a1, .ref a0]) (sg := [(.aload_n 0, 0), (.iload_n 1, 0), (.iload_n 2, 0)]) (lSa_ok dd0) rfl ?_
  obtain ⟨_, o2, e1, m3, h⟩ := gOb_inv h
  refine Y.callI (yC.Vi (b := a0) (As := [.int a1, .int a2]) (st := []) (r := ("PartlisterModel", T_M, 9)) hV.1 cb_M_areNone lk_M_235 in_M_areNone rfl se_M_areNone (lIa_ok dd1) rfl rfl (Nat.le_of_ble_eq_true rfl) (by decide) e1 m3) (k_M_areNone hV G a0 a1 a2) h (fun v5 G4 _ h => ?_)
  refine Y.if_ne (off := 16) (tgt := 22) (lIa_ok dd2) (by decide) h (fun c12 h => ?_) (fun c12 h => ?_)
  · refine Y.blk (pc' := 12) (L' := [some (.ref a0), some (.int a1), some (.int a2)]) (st' := [.int a2, .int a1, .ref a0]) (sg := [(.aload_n 0, 0), (.iload_n 1, 0), (.iload_n 2, 0)]) (lSa_ok dd3) rfl ?_
    obtain ⟨_, o7, e6, m8, h⟩ := gOb_inv h
    refine Y.callI (yC.Vi (b := a0) (As := [.int a1, .int a2]) (st := []) (r := ("PartlisterModel", T_M, 9)) hV.1 cb_M_hasEach lk_M_238 in_M_hasEach rfl se_M_hasEach (lIa_ok dd4) rfl rfl (Nat.le_of_ble_eq_true rfl) (by decide) e6 m8) (k_M_hasEach hV G4 a0 a1 a2) h (fun v10 G9 _ h => ?_)
    refine Y.if_eq (off := 7) (tgt := 22) (lIa_ok dd5) (by decide) h (fun c11 h => ?_) (fun c11 h => ?_)
    · refine Y.blk (pc' := 23) (L' := [some (.ref a0), some (.int a1), some (.int a2)]) (st' := [.int (nI 0)]) (sg := [(.iconst 0, nI 0)]) (lSa_ok dd6) rfl ?_
      exact Y.zret rfl (lIa_ok dd7) h
    · refine Y.blk (pc' := 19) (L' := [some (.ref a0), some (.int a1), some (.int a2)]) (st' := [.int (nI 1)]) (sg := [(.iconst 1, nI 1)]) (lSa_ok dd8) rfl ?_
      refine Y.goto (off := 4) (tgt := 23) (lIa_ok dd9) (by decide) ?_
      exact Y.zret rfl (lIa_ok dd7) h
  · refine Y.blk (pc' := 23) (L' := [some (.ref a0), some (.int a1), some (.int a2)]) (st' := [.int (nI 0)]) (sg := [(.iconst 0, nI 0)]) (lSa_ok dd6) rfl ?_
    exact Y.zret rfl (lIa_ok dd7) h

def f_M_hash (G : gH) (a0 : Nat) (a1 : Int32) : gR :=
  gOb G a0 6 fun o2 => bI (f_M_isNoList G a0 a1) fun v5 G4 => gOb G4 a0 6 fun o7 => bI (f_M_start G4 a0 v5 (nI 1)) fun v10 G9 => if v10 = 0 then gOb G9 a0 6 fun o12 => bI (f_M_hashOf G9 a0 a1) fun v15 G14 => rI v15 G14
  else rI (nI 0) G9
theorem k_M_hash {l : Launch} {D : va_G} {B : Nat} {O : State → Heap → Prop} (hV : zG l D B O) (G : gH) (a0 : Nat) (a1 : Int32) : gMet (zVm l D B O) m_M_hash 14 [.ref a0, .int a1] G (f_M_hash G a0 a1) := by
  have hdd : lSa m_M_hash 0 [(.aload_n 0, 0), (.aload_n 0, 0), (.iload_n 1, 0)] = true ∧ lIa m_M_hash 3 (.invokevirtual 110) 3 = true ∧ lSa m_M_hash 6 [(.iconst 1, nI 1)] = true ∧ lIa m_M_hash 7 (.invokevirtual 114) 3 = true ∧ lIa m_M_hash 10 (.ifCond .eq 7) 3 = true ∧ lSa m_M_hash 17 [(.aload_n 0, 0), (.iload_n 1, 0)] = true ∧ lIa m_M_hash 19 (.invokevirtual 257) 3 = true ∧ lIa m_M_hash 22 (.ireturn) 1 = true ∧ lSa m_M_hash 13 [(.iconst 0, nI 0)] = true ∧ lIa m_M_hash 14 (.goto 8) 3 = true := by decide +kernel
  refine lA8 hdd (fun dd0 dd1 dd2 dd3 dd4 dd5 dd6 dd7 hdd => ?_)
  obtain ⟨dd8, dd9⟩ := hdd
  refine gMet.of (by decide +kernel) (Nat.le_of_ble_eq_true rfl) [some (.ref a0), some (.int a1)] (fun ls h => zEn_ok (n := 2) h) ?_
  intro o Gf h
  unfold f_M_hash at h
  refine Y.blk (pc' := 3) (L' := [some (.ref a0), some (.int a1)]) (st' := [.int a1, .ref a0, .ref a0]) (sg := [(.aload_n 0, 0), (.aload_n 0, 0), (.iload_n 1, 0)]) (lSa_ok dd0) rfl ?_
  obtain ⟨_, o2, e1, m3, h⟩ := gOb_inv h
  refine Y.callI (yC.Vi (b := a0) (As := [.int a1]) (st := [.ref a0]) (r := ("PartlisterModel", T_M, 9)) hV.1 cb_M_isNoList lk_M_110 in_M_isNoList rfl se_M_isNoList (lIa_ok dd1) rfl rfl (Nat.le_of_ble_eq_true rfl) (by decide) e1 m3) (k_M_isNoList hV G a0 a1) h (fun v5 G4 _ h => ?_)
  refine Y.blk (pc' := 7) (L' := [some (.ref a0), some (.int a1)]) (st' := [.int (nI 1), .int v5, .ref a0]) (sg := [(.iconst 1, nI 1)]) (lSa_ok dd2) rfl ?_
  obtain ⟨_, o7, e6, m8, h⟩ := gOb_inv h
  refine Y.callI (yC.Vi (b := a0) (As := [.int v5, .int (nI 1)]) (st := []) (r := ("PartlisterModel", T_M, 9)) hV.1 cb_M_start lk_M_114 in_M_start rfl se_M_start (lIa_ok dd3) rfl rfl (Nat.le_of_ble_eq_true rfl) (by decide) e6 m8) (k_M_start hV G4 a0 v5 (nI 1)) h (fun v10 G9 _ h => ?_)
  refine Y.if_eq (off := 7) (tgt := 17) (lIa_ok dd4) (by decide) h (fun c16 h => ?_) (fun c16 h => ?_)
  · refine Y.blk (pc' := 19) (L' := [some (.ref a0), some (.int a1)]) (st' := [.int a1, .ref a0]) (sg := [(.aload_n 0, 0), (.iload_n 1, 0)]) (lSa_ok dd5) rfl ?_
    obtain ⟨_, o12, e11, m13, h⟩ := gOb_inv h
    refine Y.callI (yC.Vi (b := a0) (As := [.int a1]) (st := []) (r := ("PartlisterModel", T_M, 9)) hV.1 cb_M_hashOf lk_M_257 in_M_hashOf rfl se_M_hashOf (lIa_ok dd6) rfl rfl (Nat.le_of_ble_eq_true rfl) (by decide) e11 m13) (k_M_hashOf hV G9 a0 a1) h (fun v15 G14 _ h => ?_)
    exact Y.iret rfl (lIa_ok dd7) h
  · refine Y.blk (pc' := 14) (L' := [some (.ref a0), some (.int a1)]) (st' := [.int (nI 0)]) (sg := [(.iconst 0, nI 0)]) (lSa_ok dd8) rfl ?_
    refine Y.goto (off := 8) (tgt := 22) (lIa_ok dd9) (by decide) ?_
    exact Y.iret rfl (lIa_ok dd7) h
