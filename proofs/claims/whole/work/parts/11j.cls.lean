def f_X_isSame (G : gH) (a0 : Nat) (a1 : Int32) (a2 : Int32) : gR :=
  gOb G a0 3 fun o2 => bV (f_X_needList G a0 a1) fun G4 => gOb G4 a0 3 fun o6 => bV (f_X_needList G4 a0 a2) fun G8 => gFA G8 a0 3 0 fun v9 => gOb G8 v9 1 fun o11 => bI (f_I_matchWholly G8 v9 a1 a2) fun v14 G13 => rZ v14 G13
theorem k_X_isSame {l : Launch} {D : va_G} {B : Nat} {O : State → Heap → Prop} (hV : zG l D B O) (G : gH) (a0 : Nat) (a1 : Int32) (a2 : Int32) : gMet (zVm l D B O) m_X_isSame 7 [.ref a0, .int a1, .int a2] G (f_X_isSame G a0 a1 a2) := by
  have hdd : lSa m_X_isSame 0 [(.aload_n 0, 0), (.iload_n 1, 0)] = true ∧ lIa m_X_isSame 2 (.invokevirtual 23) 3 = true ∧ lSa m_X_isSame 5 [(.aload_n 0, 0), (.iload_n 2, 0)] = true ∧ lIa m_X_isSame 7 (.invokevirtual 23) 3 = true ∧ lSa m_X_isSame 10 [(.aload_n 0, 0)] = true ∧ lIa m_X_isSame 11 (.getfield 10) 3 = true ∧ lSa m_X_isSame 14 [(.iload_n 1, 0), (.iload_n 2, 0)] = true ∧ lIa m_X_isSame 16 (.invokevirtual 199) 3 = true ∧ lIa m_X_isSame 19 (.ireturn) 1 = true := by decide +kernel
  refine lA8 hdd (fun dd0 dd1 dd2 dd3 dd4 dd5 dd6 dd7 hdd => ?_)
  have dd8 := hdd
  refine gMet.of (by decide +kernel) (Nat.le_of_ble_eq_true rfl) [some (.ref a0), some (.int a1), some (.int a2)] (fun ls h => zEn_ok (n := 3) h) ?_
  intro o Gf h
  unfold f_X_isSame at h
  refine Y.blk (pc' := 2) (L' := [some (.ref a0), some (.int a1), some (.int a2)]) (st' := [.int a1, .ref a0]) (sg := [(.aload_n 0, 0), (.iload_n 1, 0)]) (lSa_ok dd0) rfl ?_
  obtain ⟨_, o2, e1, m3, h⟩ := gOb_inv h
  refine Y.callN (yC.Vi (b := a0) (As := [.int a1]) (st := []) (r := ("Partlister", T_X, 5)) hV.1 cb_X_needList lk_X_23 in_X_needList rfl se_X_needList (lIa_ok dd1) rfl rfl (Nat.le_of_ble_eq_true rfl) (by decide) e1 m3) (k_X_needList hV G a0 a1) h (fun G4 _ h => ?_)
  refine Y.blk (pc' := 7) (L' := [some (.ref a0), some (.int a1), some (.int a2)]) (st' := [.int a2, .ref a0]) (sg := [(.aload_n 0, 0), (.iload_n 2, 0)]) (lSa_ok dd2) rfl ?_
  obtain ⟨_, o6, e5, m7, h⟩ := gOb_inv h
  refine Y.callN (yC.Vi (b := a0) (As := [.int a2]) (st := []) (r := ("Partlister", T_X, 5)) hV.1 cb_X_needList lk_X_23 in_X_needList rfl se_X_needList (lIa_ok dd3) rfl rfl (Nat.le_of_ble_eq_true rfl) (by decide) e5 m7) (k_X_needList hV G4 a0 a2) h (fun G8 _ h => ?_)
  refine Y.blk (pc' := 11) (L' := [some (.ref a0), some (.int a1), some (.int a2)]) (st' := [.ref a0]) (sg := [(.aload_n 0, 0)]) (lSa_ok dd4) rfl ?_
  refine Y.getA fl_X_10 (lIa_ok dd5) h (fun v9 h => ?_)
  refine Y.blk (pc' := 16) (L' := [some (.ref a0), some (.int a1), some (.int a2)]) (st' := [.int a2, .int a1, .ref v9]) (sg := [(.iload_n 1, 0), (.iload_n 2, 0)]) (lSa_ok dd6) rfl ?_
  obtain ⟨_, o11, e10, m12, h⟩ := gOb_inv h
  refine Y.callI (yC.Vi (b := v9) (As := [.int a1, .int a2]) (st := []) (r := ("Partlister$Lists", T_I, 7)) hV.1 cb_I_matchWholly lk_X_199 in_I_matchWholly rfl se_I_matchWholly (lIa_ok dd7) rfl rfl (Nat.le_of_ble_eq_true rfl) (by decide) e10 m12) (k_I_matchWholly hV G8 v9 a1 a2) h (fun v14 G13 _ h => ?_)
  exact Y.zret rfl (lIa_ok dd8) h

def f_X_isSound (G : gH) (a0 : Nat) : gR :=
  gFA G a0 3 0 fun v1 => gOb G v1 1 fun o3 => bI (f_I_areSound G v1) fun v6 G5 => rZ v6 G5
theorem k_X_isSound {l : Launch} {D : va_G} {B : Nat} {O : State → Heap → Prop} (hV : zG l D B O) (G : gH) (a0 : Nat) : gMet (zVm l D B O) m_X_isSound 7 [.ref a0] G (f_X_isSound G a0) := by
  have hdd : lSa m_X_isSound 0 [(.aload_n 0, 0)] = true ∧ lIa m_X_isSound 1 (.getfield 10) 3 = true ∧ lIa m_X_isSound 4 (.invokevirtual 253) 3 = true ∧ lIa m_X_isSound 7 (.ireturn) 1 = true := by decide +kernel
  obtain ⟨dd0, dd1, dd2, dd3⟩ := hdd
  refine gMet.of (by decide +kernel) (Nat.le_of_ble_eq_true rfl) [some (.ref a0)] (fun ls h => zEn_ok (n := 1) h) ?_
  intro o Gf h
  unfold f_X_isSound at h
  refine Y.blk (pc' := 1) (L' := [some (.ref a0)]) (st' := [.ref a0]) (sg := [(.aload_n 0, 0)]) (lSa_ok dd0) rfl ?_
  refine Y.getA fl_X_10 (lIa_ok dd1) h (fun v1 h => ?_)
  obtain ⟨_, o3, e2, m4, h⟩ := gOb_inv h
  refine Y.callI (yC.Vi (b := v1) (As := []) (st := []) (r := ("Partlister$Lists", T_I, 7)) hV.1 cb_I_areSound lk_X_253 in_I_areSound rfl se_I_areSound (lIa_ok dd2) rfl rfl (Nat.le_of_ble_eq_true rfl) (by decide) e2 m4) (k_I_areSound hV G v1) h (fun v6 G5 _ h => ?_)
  exact Y.zret rfl (lIa_ok dd3) h

def f_X_key (G : gH) (a0 : Nat) (a1 : Int32) (a2 : Int32) : gR :=
  gOb G a0 3 fun o2 => bV (f_X_needList G a0 a1) fun G4 => gOb G4 a0 3 fun o6 => bV (f_X_needPlace G4 a0 a1 a2) fun G8 => gFA G8 a0 3 0 fun v9 => gOb G8 v9 1 fun o11 => bI (f_I_keyAt G8 v9 a1 a2) fun v14 G13 => rI v14 G13
theorem k_X_key {l : Launch} {D : va_G} {B : Nat} {O : State → Heap → Prop} (hV : zG l D B O) (G : gH) (a0 : Nat) (a1 : Int32) (a2 : Int32) : gMet (zVm l D B O) m_X_key 7 [.ref a0, .int a1, .int a2] G (f_X_key G a0 a1 a2) := by
  have hdd : lSa m_X_key 0 [(.aload_n 0, 0), (.iload_n 1, 0)] = true ∧ lIa m_X_key 2 (.invokevirtual 23) 3 = true ∧ lSa m_X_key 5 [(.aload_n 0, 0), (.iload_n 1, 0), (.iload_n 2, 0)] = true ∧ lIa m_X_key 8 (.invokevirtual 58) 3 = true ∧ lSa m_X_key 11 [(.aload_n 0, 0)] = true ∧ lIa m_X_key 12 (.getfield 10) 3 = true ∧ lSa m_X_key 15 [(.iload_n 1, 0), (.iload_n 2, 0)] = true ∧ lIa m_X_key 17 (.invokevirtual 61) 3 = true ∧ lIa m_X_key 20 (.ireturn) 1 = true := by decide +kernel
  refine lA8 hdd (fun dd0 dd1 dd2 dd3 dd4 dd5 dd6 dd7 hdd => ?_)
  have dd8 := hdd
  refine gMet.of (by decide +kernel) (Nat.le_of_ble_eq_true rfl) [some (.ref a0), some (.int a1), some (.int a2)] (fun ls h => zEn_ok (n := 3) h) ?_
  intro o Gf h
  unfold f_X_key at h
  refine Y.blk (pc' := 2) (L' := [some (.ref a0), some (.int a1), some (.int a2)]) (st' := [.int a1, .ref a0]) (sg := [(.aload_n 0, 0), (.iload_n 1, 0)]) (lSa_ok dd0) rfl ?_
  obtain ⟨_, o2, e1, m3, h⟩ := gOb_inv h
  refine Y.callN (yC.Vi (b := a0) (As := [.int a1]) (st := []) (r := ("Partlister", T_X, 5)) hV.1 cb_X_needList lk_X_23 in_X_needList rfl se_X_needList (lIa_ok dd1) rfl rfl (Nat.le_of_ble_eq_true rfl) (by decide) e1 m3) (k_X_needList hV G a0 a1) h (fun G4 _ h => ?_)
  refine Y.blk (pc' := 8) (L' := [some (.ref a0), some (.int a1), some (.int a2)]) (st' := [.int a2, .int a1, .ref a0]) (sg := [(.aload_n 0, 0), (.iload_n 1, 0), (.iload_n 2, 0)]) (lSa_ok dd2) rfl ?_
  obtain ⟨_, o6, e5, m7, h⟩ := gOb_inv h
  refine Y.callN (yC.Vi (b := a0) (As := [.int a1, .int a2]) (st := []) (r := ("Partlister", T_X, 5)) hV.1 cb_X_needPlace lk_X_58 in_X_needPlace rfl se_X_needPlace (lIa_ok dd3) rfl rfl (Nat.le_of_ble_eq_true rfl) (by decide) e5 m7) (k_X_needPlace hV G4 a0 a1 a2) h (fun G8 _ h => ?_)
  refine Y.blk (pc' := 12) (L' := [some (.ref a0), some (.int a1), some (.int a2)]) (st' := [.ref a0]) (sg := [(.aload_n 0, 0)]) (lSa_ok dd4) rfl ?_
  refine Y.getA fl_X_10 (lIa_ok dd5) h (fun v9 h => ?_)
  refine Y.blk (pc' := 17) (L' := [some (.ref a0), some (.int a1), some (.int a2)]) (st' := [.int a2, .int a1, .ref v9]) (sg := [(.iload_n 1, 0), (.iload_n 2, 0)]) (lSa_ok dd6) rfl ?_
  obtain ⟨_, o11, e10, m12, h⟩ := gOb_inv h
  refine Y.callI (yC.Vi (b := v9) (As := [.int a1, .int a2]) (st := []) (r := ("Partlister$Lists", T_I, 7)) hV.1 cb_I_keyAt lk_X_61 in_I_keyAt rfl se_I_keyAt (lIa_ok dd7) rfl rfl (Nat.le_of_ble_eq_true rfl) (by decide) e10 m12) (k_I_keyAt hV G8 v9 a1 a2) h (fun v14 G13 _ h => ?_)
  exact Y.iret rfl (lIa_ok dd8) h

def f_X_knock (G : gH) (a0 : Nat) : gR :=
  gFI G a0 3 4 fun v1 => gPut G a0 3 4 (.int (v1 + (nI 1))) fun G2 => gFI G2 a0 3 4 fun v3 => rI v3 G2
theorem k_X_knock {l : Launch} {D : va_G} {B : Nat} {O : State → Heap → Prop} (hV : zG l D B O) (G : gH) (a0 : Nat) : gMet (zVm l D B O) m_X_knock 1 [.ref a0] G (f_X_knock G a0) := by
  have hdd : lSa m_X_knock 0 [(.aload_n 0, 0), (.dup, 0)] = true ∧ lIa m_X_knock 2 (.getfield 257) 3 = true ∧ lSa m_X_knock 5 [(.iconst 1, nI 1), (.iadd, 0)] = true ∧ lIa m_X_knock 7 (.putfield 257) 3 = true ∧ lSa m_X_knock 10 [(.aload_n 0, 0)] = true ∧ lIa m_X_knock 11 (.getfield 257) 3 = true ∧ lIa m_X_knock 14 (.ireturn) 1 = true := by decide +kernel
  obtain ⟨dd0, dd1, dd2, dd3, dd4, dd5, dd6⟩ := hdd
  refine gMet.of (by decide +kernel) (Nat.le_of_ble_eq_true rfl) [some (.ref a0)] (fun ls h => zEn_ok (n := 1) h) ?_
  intro o Gf h
  unfold f_X_knock at h
  refine Y.blk (pc' := 2) (L' := [some (.ref a0)]) (st' := [.ref a0, .ref a0]) (sg := [(.aload_n 0, 0), (.dup, 0)]) (lSa_ok dd0) rfl ?_
  refine Y.getI fl_X_257 (lIa_ok dd1) h (fun v1 h => ?_)
  refine Y.blk (pc' := 7) (L' := [some (.ref a0)]) (st' := [.int (v1 + (nI 1)), .ref a0]) (sg := [(.iconst 1, nI 1), (.iadd, 0)]) (lSa_ok dd2) rfl ?_
  refine Y.putf fl_X_257 (by decide) rfl rfl (lIa_ok dd3) h (fun G2 _ _ h => ?_)
  refine Y.blk (pc' := 11) (L' := [some (.ref a0)]) (st' := [.ref a0]) (sg := [(.aload_n 0, 0)]) (lSa_ok dd4) rfl ?_
  refine Y.getI fl_X_257 (lIa_ok dd5) h (fun v3 h => ?_)
  exact Y.iret rfl (lIa_ok dd6) h

def f_X_last (G : gH) (a0 : Nat) (a1 : Int32) (a2 : Int32) : gR :=
  gOb G a0 3 fun o2 => bV (f_X_needList G a0 a1) fun G4 => gOb G4 a0 3 fun o6 => bV (f_X_needKey G4 a0 a2) fun G8 => gFA G8 a0 3 0 fun v9 => gOb G8 v9 1 fun o11 => bI (f_I_lastOf G8 v9 a1 a2) fun v14 G13 => rI v14 G13
theorem k_X_last {l : Launch} {D : va_G} {B : Nat} {O : State → Heap → Prop} (hV : zG l D B O) (G : gH) (a0 : Nat) (a1 : Int32) (a2 : Int32) : gMet (zVm l D B O) m_X_last 7 [.ref a0, .int a1, .int a2] G (f_X_last G a0 a1 a2) := by
  have hdd : lSa m_X_last 0 [(.aload_n 0, 0), (.iload_n 1, 0)] = true ∧ lIa m_X_last 2 (.invokevirtual 23) 3 = true ∧ lSa m_X_last 5 [(.aload_n 0, 0), (.iload_n 2, 0)] = true ∧ lIa m_X_last 7 (.invokevirtual 27) 3 = true ∧ lSa m_X_last 10 [(.aload_n 0, 0)] = true ∧ lIa m_X_last 11 (.getfield 10) 3 = true ∧ lSa m_X_last 14 [(.iload_n 1, 0), (.iload_n 2, 0)] = true ∧ lIa m_X_last 16 (.invokevirtual 187) 3 = true ∧ lIa m_X_last 19 (.ireturn) 1 = true := by decide +kernel
  refine lA8 hdd (fun dd0 dd1 dd2 dd3 dd4 dd5 dd6 dd7 hdd => ?_)
  have dd8 := hdd
  refine gMet.of (by decide +kernel) (Nat.le_of_ble_eq_true rfl) [some (.ref a0), some (.int a1), some (.int a2)] (fun ls h => zEn_ok (n := 3) h) ?_
  intro o Gf h
  unfold f_X_last at h
  refine Y.blk (pc' := 2) (L' := [some (.ref a0), some (.int a1), some (.int a2)]) (st' := [.int a1, .ref a0]) (sg := [(.aload_n 0, 0), (.iload_n 1, 0)]) (lSa_ok dd0) rfl ?_
  obtain ⟨_, o2, e1, m3, h⟩ := gOb_inv h
  refine Y.callN (yC.Vi (b := a0) (As := [.int a1]) (st := []) (r := ("Partlister", T_X, 5)) hV.1 cb_X_needList lk_X_23 in_X_needList rfl se_X_needList (lIa_ok dd1) rfl rfl (Nat.le_of_ble_eq_true rfl) (by decide) e1 m3) (k_X_needList hV G a0 a1) h (fun G4 _ h => ?_)
  refine Y.blk (pc' := 7) (L' := [some (.ref a0), some (.int a1), some (.int a2)]) (st' := [.int a2, .ref a0]) (sg := [(.aload_n 0, 0), (.iload_n 2, 0)]) (lSa_ok dd2) rfl ?_
  obtain ⟨_, o6, e5, m7, h⟩ := gOb_inv h
  refine Y.callN (yC.Vi (b := a0) (As := [.int a2]) (st := []) (r := ("Partlister", T_X, 5)) hV.1 cb_X_needKey lk_X_27 in_X_needKey rfl se_X_needKey (lIa_ok dd3) rfl rfl (Nat.le_of_ble_eq_true rfl) (by decide) e5 m7) (k_X_needKey hV G4 a0 a2) h (fun G8 _ h => ?_)
  refine Y.blk (pc' := 11) (L' := [some (.ref a0), some (.int a1), some (.int a2)]) (st' := [.ref a0]) (sg := [(.aload_n 0, 0)]) (lSa_ok dd4) rfl ?_
  refine Y.getA fl_X_10 (lIa_ok dd5) h (fun v9 h => ?_)
  refine Y.blk (pc' := 16) (L' := [some (.ref a0), some (.int a1), some (.int a2)]) (st' := [.int a2, .int a1, .ref v9]) (sg := [(.iload_n 1, 0), (.iload_n 2, 0)]) (lSa_ok dd6) rfl ?_
  obtain ⟨_, o11, e10, m12, h⟩ := gOb_inv h
  refine Y.callI (yC.Vi (b := v9) (As := [.int a1, .int a2]) (st := []) (r := ("Partlister$Lists", T_I, 7)) hV.1 cb_I_lastOf lk_X_187 in_I_lastOf rfl se_I_lastOf (lIa_ok dd7) rfl rfl (Nat.le_of_ble_eq_true rfl) (by decide) e10 m12) (k_I_lastOf hV G8 v9 a1 a2) h (fun v14 G13 _ h => ?_)
  exact Y.iret rfl (lIa_ok dd8) h

def f_X_many (G : gH) (a0 : Nat) (a1 : Int32) (a2 : Int32) : gR :=
  gOb G a0 3 fun o2 => bV (f_X_needList G a0 a1) fun G4 => gOb G4 a0 3 fun o6 => bV (f_X_needKey G4 a0 a2) fun G8 => gFA G8 a0 3 0 fun v9 => gOb G8 v9 1 fun o11 => bI (f_I_countOf G8 v9 a1 a2) fun v14 G13 => rI v14 G13
theorem k_X_many {l : Launch} {D : va_G} {B : Nat} {O : State → Heap → Prop} (hV : zG l D B O) (G : gH) (a0 : Nat) (a1 : Int32) (a2 : Int32) : gMet (zVm l D B O) m_X_many 7 [.ref a0, .int a1, .int a2] G (f_X_many G a0 a1 a2) := by
  have hdd : lSa m_X_many 0 [(.aload_n 0, 0), (.iload_n 1, 0)] = true ∧ lIa m_X_many 2 (.invokevirtual 23) 3 = true ∧ lSa m_X_many 5 [(.aload_n 0, 0), (.iload_n 2, 0)] = true ∧ lIa m_X_many 7 (.invokevirtual 27) 3 = true ∧ lSa m_X_many 10 [(.aload_n 0, 0)] = true ∧ lIa m_X_many 11 (.getfield 10) 3 = true ∧ lSa m_X_many 14 [(.iload_n 1, 0), (.iload_n 2, 0)] = true ∧ lIa m_X_many 16 (.invokevirtual 189) 3 = true ∧ lIa m_X_many 19 (.ireturn) 1 = true := by decide +kernel
  refine lA8 hdd (fun dd0 dd1 dd2 dd3 dd4 dd5 dd6 dd7 hdd => ?_)
  have dd8 := hdd
  refine gMet.of (by decide +kernel) (Nat.le_of_ble_eq_true rfl) [some (.ref a0), some (.int a1), some (.int a2)] (fun ls h => zEn_ok (n := 3) h) ?_
  intro o Gf h
  unfold f_X_many at h
  refine Y.blk (pc' := 2) (L' := [some (.ref a0), some (.int a1), some (.int a2)]) (st' := [.int a1, .ref a0]) (sg := [(.aload_n 0, 0), (.iload_n 1, 0)]) (lSa_ok dd0) rfl ?_
  obtain ⟨_, o2, e1, m3, h⟩ := gOb_inv h
  refine Y.callN (yC.Vi (b := a0) (As := [.int a1]) (st := []) (r := ("Partlister", T_X, 5)) hV.1 cb_X_needList lk_X_23 in_X_needList rfl se_X_needList (lIa_ok dd1) rfl rfl (Nat.le_of_ble_eq_true rfl) (by decide) e1 m3) (k_X_needList hV G a0 a1) h (fun G4 _ h => ?_)
  refine Y.blk (pc' := 7) (L' := [some (.ref a0), some (.int a1), some (.int a2)]) (st' := [.int a2, .ref a0]) (sg := [(.aload_n 0, 0), (.iload_n 2, 0)]) (lSa_ok dd2) rfl ?_
  obtain ⟨_, o6, e5, m7, h⟩ := gOb_inv h
  refine Y.callN (yC.Vi (b := a0) (As := [.int a2]) (st := []) (r := ("Partlister", T_X, 5)) hV.1 cb_X_needKey lk_X_27 in_X_needKey rfl se_X_needKey (lIa_ok dd3) rfl rfl (Nat.le_of_ble_eq_true rfl) (by decide) e5 m7) (k_X_needKey hV G4 a0 a2) h (fun G8 _ h => ?_)
  refine Y.blk (pc' := 11) (L' := [some (.ref a0), some (.int a1), some (.int a2)]) (st' := [.ref a0]) (sg := [(.aload_n 0, 0)]) (lSa_ok dd4) rfl ?_
  refine Y.getA fl_X_10 (lIa_ok dd5) h (fun v9 h => ?_)
  refine Y.blk (pc' := 16) (L' := [some (.ref a0), some (.int a1), some (.int a2)]) (st' := [.int a2, .int a1, .ref v9]) (sg := [(.iload_n 1, 0), (.iload_n 2, 0)]) (lSa_ok dd6) rfl ?_
  obtain ⟨_, o11, e10, m12, h⟩ := gOb_inv h
  refine Y.callI (yC.Vi (b := v9) (As := [.int a1, .int a2]) (st := []) (r := ("Partlister$Lists", T_I, 7)) hV.1 cb_I_countOf lk_X_189 in_I_countOf rfl se_I_countOf (lIa_ok dd7) rfl rfl (Nat.le_of_ble_eq_true rfl) (by decide) e10 m12) (k_I_countOf hV G8 v9 a1 a2) h (fun v14 G13 _ h => ?_)
  exact Y.iret rfl (lIa_ok dd8) h

def f_MA_floorMod (G : gH) (a0 : Int32) (a1 : Int32) : gR :=
  gRem a0 a1 fun v1 => if 0 ≤ (a0 ^^^ a1) then rI v1 G
  else if v1 = 0 then rI v1 G
    else rI (v1 + a1) G
theorem k_MA_floorMod {l : Launch} {D : va_G} {B : Nat} {O : State → Heap → Prop} (hV : zG l D B O) (G : gH) (a0 : Int32) (a1 : Int32) : gMet (zVm l D B O) m_MA_floorMod 1 [.int a0, .int a1] G (f_MA_floorMod G a0 a1) := by
  have hdd : lSa m_MA_floorMod 0 [(.iload_n 0, 0), (.iload_n 1, 0)] = true ∧ lIa m_MA_floorMod 2 (.irem) 1 = true ∧ lSa m_MA_floorMod 3 [(.istore_n 2, 0), (.iload_n 0, 0), (.iload_n 1, 0), (.ixor, 0)] = true ∧ lIa m_MA_floorMod 7 (.ifCond .ge 11) 3 = true ∧ lSa m_MA_floorMod 18 [(.iload_n 2, 0)] = true ∧ lIa m_MA_floorMod 19 (.ireturn) 1 = true ∧ lSa m_MA_floorMod 10 [(.iload_n 2, 0)] = true ∧ lIa m_MA_floorMod 11 (.ifCond .eq 7) 3 = true ∧ lSa m_MA_floorMod 14 [(.iload_n 2, 0), (.iload_n 1, 0), (.iadd, 0)] = true ∧ lIa m_MA_floorMod 17 (.ireturn) 1 = true := by decide +kernel
  refine lA8 hdd (fun dd0 dd1 dd2 dd3 dd4 dd5 dd6 dd7 hdd => ?_)
  obtain ⟨dd8, dd9⟩ := hdd
  refine gMet.of (by decide +kernel) (Nat.le_of_ble_eq_true rfl) [some (.int a0), some (.int a1), none] (fun ls h => zEn_ok (n := 3) h) ?_
  intro o Gf h
  unfold f_MA_floorMod at h
  refine Y.blk (pc' := 2) (L' := [some (.int a0), some (.int a1), none]) (st' := [.int a1, .int a0]) (sg := [(.iload_n 0, 0), (.iload_n 1, 0)]) (lSa_ok dd0) rfl ?_
  refine Y.irem (lIa_ok dd1) h (fun v1 h => ?_)
  refine Y.blk (pc' := 7) (L' := [some (.int a0), some (.int a1), some (.int v1)]) (st' := [.int (a0 ^^^ a1)]) (sg := [(.istore_n 2, 0), (.iload_n 0, 0), (.iload_n 1, 0), (.ixor, 0)]) (lSa_ok dd2) rfl ?_
  refine Y.if_ge (off := 11) (tgt := 18) (lIa_ok dd3) (by decide) h (fun c3 h => ?_) (fun c3 h => ?_)
  · refine Y.blk (pc' := 19) (L' := [some (.int a0), some (.int a1), some (.int v1)]) (st' := [.int v1]) (sg := [(.iload_n 2, 0)]) (lSa_ok dd4) rfl ?_
    exact Y.iret rfl (lIa_ok dd5) h
  · refine Y.blk (pc' := 11) (L' := [some (.int a0), some (.int a1), some (.int v1)]) (st' := [.int v1]) (sg := [(.iload_n 2, 0)]) (lSa_ok dd6) rfl ?_
    refine Y.if_eq (off := 7) (tgt := 18) (lIa_ok dd7) (by decide) h (fun c2 h => ?_) (fun c2 h => ?_)
    · refine Y.blk (pc' := 19) (L' := [some (.int a0), some (.int a1), some (.int v1)]) (st' := [.int v1]) (sg := [(.iload_n 2, 0)]) (lSa_ok dd4) rfl ?_
      exact Y.iret rfl (lIa_ok dd5) h
    · refine Y.blk (pc' := 17) (L' := [some (.int a0), some (.int a1), some (.int v1)]) (st' := [.int (v1 + a1)]) (sg := [(.iload_n 2, 0), (.iload_n 1, 0), (.iadd, 0)]) (lSa_ok dd8) rfl ?_
      exact Y.iret rfl (lIa_ok dd9) h

def f_I_moveOn_L20 (K51 : gH → gR) : Nat → gH → Nat → Int32 → Int32 → Int32 → Int32 → gR
  | 0, _, _, _, _, _, _ => none
  | n + 1, G, x0, x1, x2, x3, x4 =>
    if x3 ≤ x4 then K51 G
    else bI (f_MA_floorMod G (x4 + x2) x3) fun v12 G11 => gOb G11 x0 1 fun o14 => bI (f_I_thingInSpare G11 x0 x4) fun v17 G16 => gOb G16 x0 1 fun o19 => bV (f_I_write G16 x0 x1 v12 v17) fun G21 => f_I_moveOn_L20 K51 n G21 x0 x1 x2 x3 (x4 + (nI 1))
def f_I_moveOn (G : gH) (a0 : Nat) (a1 : Int32) (a2 : Int32) : gR :=
  gOb G a0 1 fun o2 => bI (f_I_lengthOf G a0 a1) fun v5 G4 => if (nI 1) ≤ v5 then gOb G4 a0 1 fun o7 => bV (f_I_copyToSpare G4 a0 a1) fun G9 => f_I_moveOn_L20 (fun G23 => rV G23) zFu G9 a0 a1 a2 v5 (nI 0)
  else rV G4
theorem k_I_moveOn_L20 {l : Launch} {D : va_G} {B : Nat} {O : State → Heap → Prop} (hV : zG l D B O) {o : gO} {Gf : gH} (K51 : gH → gR) (hK51 : ∀ (G : gH), K51 G  = some (o, Gf) → Y (zVm l D B O) m_I_moveOn 5 o Gf 51 [none, none, none, none, none] [] G) : ∀ (n : Nat) (G : gH) (x0 : Nat) (x1 : Int32) (x2 : Int32) (x3 : Int32) (x4 : Int32), f_I_moveOn_L20 K51 n G x0 x1 x2 x3 x4 = some (o, Gf) → Y (zVm l D B O) m_I_moveOn 5 o Gf 20 [some (.ref x0), some (.int x1), some (.int x2), some (.int x3), some (.int x4)] [] G := by
  have hdd : lSa m_I_moveOn 20 [(.iload 4, 0), (.iload_n 3, 0)] = true ∧ lIa m_I_moveOn 23 (.if_icmp .ge 28) 3 = true ∧ lSa m_I_moveOn 26 [(.aload_n 0, 0), (.iload_n 1, 0), (.iload 4, 0), (.iload_n 2, 0), (.iadd, 0), (.iload_n 3, 0)] = true ∧ lIa m_I_moveOn 33 (.invokestatic 68) 3 = true ∧ lSa m_I_moveOn 36 [(.aload_n 0, 0), (.iload 4, 0)] = true ∧ lIa m_I_moveOn 39 (.invokevirtual 73) 3 = true ∧ lIa m_I_moveOn 42 (.invokevirtual 53) 3 = true ∧ lSa m_I_moveOn 45 [(.iinc 4 1, nI 1)] = true ∧ lIa m_I_moveOn 48 (.goto (-28)) 3 = true := by decide +kernel
  refine lA8 hdd (fun dd0 dd1 dd2 dd3 dd4 dd5 dd6 dd7 hdd => ?_)
  have dd8 := hdd
  intro n
  induction n with
  | zero => intro G x0 x1 x2 x3 x4 h; cases h
  | succ n ih =>
    intro G x0 x1 x2 x3 x4 h
    unfold f_I_moveOn_L20 at h
    refine Y.blk (pc' := 23) (L' := [some (.ref x0), some (.int x1), some (.int x2), some (.int x3), some (.int x4)]) (st' := [.int x3, .int x4]) (sg := [(.iload 4, 0), (.iload_n 3, 0)]) (lSa_ok dd0) rfl ?_
    refine Y.ic_ge (off := 28) (tgt := 51) (lIa_ok dd1) (by decide) h (fun c22 h => ?_) (fun c22 h => ?_)
    · refine Y.less (L' := [none, none, none, none, none]) (zLe_none (zLe_none (zLe_none (zLe_none (zLe_none (zLe_nil)))))) ?_
      exact hK51 G  h
    · refine Y.blk (pc' := 33) (L' := [some (.ref x0), some (.int x1), some (.int x2), some (.int x3), some (.int x4)]) (st' := [.int x3, .int (x4 + x2), .int x1, .ref x0]) (sg := [(.aload_n 0, 0), (.iload_n 1, 0), (.iload 4, 0), (.iload_n 2, 0), (.iadd, 0), (.iload_n 3, 0)]) (lSa_ok dd2) rfl ?_
      refine Y.callI (yC.S (As := [.int (x4 + x2), .int x3]) (st := [.int x1, .ref x0]) hV.1 cb_MA_floorMod lk_I_68 st_MA_floorMod (lIa_ok dd3) rfl rfl (Nat.le_of_ble_eq_true rfl) (by decide)) (k_MA_floorMod hV G (x4 + x2) x3) h (fun v12 G11 _ h => ?_)
      refine Y.blk (pc' := 39) (L' := [some (.ref x0), some (.int x1), some (.int x2), some (.int x3), some (.int x4)]) (st' := [.int x4, .ref x0, .int v12, .int x1, .ref x0]) (sg := [(.aload_n 0, 0), (.iload 4, 0)]) (lSa_ok dd4) rfl ?_
      obtain ⟨_, o14, e13, m15, h⟩ := gOb_inv h
      refine Y.callI (yC.Vi (b := x0) (As := [.int x4]) (st := [.int v12, .int x1, .ref x0]) (r := ("Partlister$Lists", T_I, 7)) hV.1 cb_I_thingInSpare lk_I_73 in_I_thingInSpare rfl se_I_thingInSpare (lIa_ok dd5) rfl rfl (Nat.le_of_ble_eq_true rfl) (by decide) e13 m15) (k_I_thingInSpare hV G11 x0 x4) h (fun v17 G16 _ h => ?_)
      obtain ⟨_, o19, e18, m20, h⟩ := gOb_inv h
      refine Y.callN (yC.Vi (b := x0) (As := [.int x1, .int v12, .int v17]) (st := []) (r := ("Partlister$Lists", T_I, 7)) hV.1 cb_I_write lk_I_53 in_I_write rfl se_I_write (lIa_ok dd6) rfl rfl (Nat.le_of_ble_eq_true rfl) (by decide) e18 m20) (k_I_write hV G16 x0 x1 v12 v17) h (fun G21 _ h => ?_)
      refine Y.blk (pc' := 48) (L' := [some (.ref x0), some (.int x1), some (.int x2), some (.int x3), some (.int (x4 + (nI 1)))]) (st' := []) (sg := [(.iinc 4 1, nI 1)]) (lSa_ok dd7) rfl ?_
      refine Y.goto (off := -28) (tgt := 20) (lIa_ok dd8) (by decide) ?_
      exact ih G21 x0 x1 x2 x3 (x4 + (nI 1)) h
theorem k_I_moveOn {l : Launch} {D : va_G} {B : Nat} {O : State → Heap → Prop} (hV : zG l D B O) (G : gH) (a0 : Nat) (a1 : Int32) (a2 : Int32) : gMet (zVm l D B O) m_I_moveOn 5 [.ref a0, .int a1, .int a2] G (f_I_moveOn G a0 a1 a2) := by
  have hdd : lSa m_I_moveOn 0 [(.aload_n 0, 0), (.iload_n 1, 0)] = true ∧ lIa m_I_moveOn 2 (.invokevirtual 59) 3 = true ∧ lSa m_I_moveOn 5 [(.istore_n 3, 0), (.iload_n 3, 0), (.iconst 1, nI 1)] = true ∧ lIa m_I_moveOn 8 (.if_icmp .ge 4) 3 = true ∧ lSa m_I_moveOn 12 [(.aload_n 0, 0), (.iload_n 1, 0)] = true ∧ lIa m_I_moveOn 14 (.invokevirtual 65) 3 = true ∧ lSa m_I_moveOn 17 [(.iconst 0, nI 0), (.istore 4, 0)] = true ∧ lIa m_I_moveOn 51 (.return_) 1 = true ∧ lIa m_I_moveOn 11 (.return_) 1 = true := by decide +kernel
  refine lA8 hdd (fun dd0 dd1 dd2 dd3 dd4 dd5 dd6 dd7 hdd => ?_)
  have dd8 := hdd
  refine gMet.of (by decide +kernel) (Nat.le_of_ble_eq_true rfl) [some (.ref a0), some (.int a1), some (.int a2), none, none] (fun ls h => zEn_ok (n := 5) h) ?_
  intro o Gf h
  unfold f_I_moveOn at h
  refine Y.blk (pc' := 2) (L' := [some (.ref a0), some (.int a1), some (.int a2), none, none]) (st' := [.int a1, .ref a0]) (sg := [(.aload_n 0, 0), (.iload_n 1, 0)]) (lSa_ok dd0) rfl ?_
  obtain ⟨_, o2, e1, m3, h⟩ := gOb_inv h
  refine Y.callI (yC.Vi (b := a0) (As := [.int a1]) (st := []) (r := ("Partlister$Lists", T_I, 7)) hV.1 cb_I_lengthOf lk_I_59 in_I_lengthOf rfl se_I_lengthOf (lIa_ok dd1) rfl rfl (Nat.le_of_ble_eq_true rfl) (by decide) e1 m3) (k_I_lengthOf hV G a0 a1) h (fun v5 G4 _ h => ?_)
  refine Y.blk (pc' := 8) (L' := [some (.ref a0), some (.int a1), some (.int a2), some (.int v5), none]) (st' := [.int (nI 1), .int v5]) (sg := [(.istore_n 3, 0), (.iload_n 3, 0), (.iconst 1, nI 1)]) (lSa_ok dd2) rfl ?_
  refine Y.ic_ge (off := 4) (tgt := 12) (lIa_ok dd3) (by decide) h (fun c24 h => ?_) (fun c24 h => ?_)
  · refine Y.blk (pc' := 14) (L' := [some (.ref a0), some (.int a1), some (.int a2), some (.int v5), none]) (st' := [.int a1, .ref a0]) (sg := [(.aload_n 0, 0), (.iload_n 1, 0)]) (lSa_ok dd4) rfl ?_
    obtain ⟨_, o7, e6, m8, h⟩ := gOb_inv h
    refine Y.callN (yC.Vi (b := a0) (As := [.int a1]) (st := []) (r := ("Partlister$Lists", T_I, 7)) hV.1 cb_I_copyToSpare lk_I_65 in_I_copyToSpare rfl se_I_copyToSpare (lIa_ok dd5) rfl rfl (Nat.le_of_ble_eq_true rfl) (by decide) e6 m8) (k_I_copyToSpare hV G4 a0 a1) h (fun G9 _ h => ?_)
    refine Y.blk (pc' := 20) (L' := [some (.ref a0), some (.int a1), some (.int a2), some (.int v5), some (.int (nI 0))]) (st' := []) (sg := [(.iconst 0, nI 0), (.istore 4, 0)]) (lSa_ok dd6) rfl ?_
    refine k_I_moveOn_L20 hV _ ?_  zFu G9 a0 a1 a2 v5 (nI 0) h
    · intro G23 h
      exact Y.vret rfl (lIa_ok dd7) h
  · exact Y.vret rfl (lIa_ok dd8) h

def f_X_move (G : gH) (a0 : Nat) (a1 : Int32) (a2 : Int32) : gR :=
  gOb G a0 3 fun o2 => bV (f_X_needList G a0 a1) fun G4 => if a2 < (-40) then gThrow "java/lang/IllegalArgumentException" G4
  else if a2 ≤ (nI 40) then (gFA G4 a0 3 0 fun v5 => gOb G4 v5 1 fun o7 => bI (f_I_lengthOf G4 v5 a1) fun v10 G9 => if v10 = 0 then rI (-1) G9
      else gFA G9 a0 3 0 fun v11 => gOb G9 v11 1 fun o13 => bV (f_I_moveOn G9 v11 a1 a2) fun G15 => gFA G15 a0 3 0 fun v16 => gOb G15 v16 1 fun o18 => bI (f_I_thingAt G15 v16 a1 (nI 0)) fun v21 G20 => bI (f_X_tagOf G20 v21) fun v24 G23 => rI v24 G23)
    else gThrow "java/lang/IllegalArgumentException" G4
theorem k_X_move {l : Launch} {D : va_G} {B : Nat} {O : State → Heap → Prop} (hV : zG l D B O) (G : gH) (a0 : Nat) (a1 : Int32) (a2 : Int32) : gMet (zVm l D B O) m_X_move 7 [.ref a0, .int a1, .int a2] G (f_X_move G a0 a1 a2) := by
  have hdd : lSa m_X_move 0 [(.aload_n 0, 0), (.iload_n 1, 0)] = true ∧ lIa m_X_move 2 (.invokevirtual 23) 3 = true ∧ lSa m_X_move 5 [(.iload_n 2, 0), (.bipush (-40), -40)] = true ∧ lIa m_X_move 8 (.if_icmp .lt 9) 3 = true ∧ lIa m_X_move 17 (.new 81) 3 = true ∧ lIa m_X_move 20 (.dup) 1 = true ∧ lIa m_X_move 21 (.ldc 120) 2 = true ∧ lIa m_X_move 23 (.invokespecial 85) 3 = true ∧ lIa m_X_move 26 (.athrow) 1 = true ∧ lSa m_X_move 11 [(.iload_n 2, 0), (.bipush 40, nI 40)] = true ∧ lIa m_X_move 14 (.if_icmp .le 13) 3 = true ∧ lSa m_X_move 27 [(.aload_n 0, 0)] = true ∧ lIa m_X_move 28 (.getfield 10) 3 = true ∧ lSa m_X_move 31 [(.iload_n 1, 0)] = true ∧ lIa m_X_move 32 (.invokevirtual 34) 3 = true ∧ lIa m_X_move 35 (.ifCond .ne 5) 3 = true ∧ lSa m_X_move 38 [(.iconst (-1), -1)] = true ∧ lIa m_X_move 39 (.ireturn) 1 = true ∧ lSa m_X_move 40 [(.aload_n 0, 0)] = true ∧ lIa m_X_move 41 (.getfield 10) 3 = true ∧ lSa m_X_move 44 [(.iload_n 1, 0), (.iload_n 2, 0)] = true ∧ lIa m_X_move 46 (.invokevirtual 122) 3 = true ∧ lSa m_X_move 49 [(.aload_n 0, 0)] = true ∧ lIa m_X_move 50 (.getfield 10) 3 = true ∧ lSa m_X_move 53 [(.iload_n 1, 0), (.iconst 0, nI 0)] = true ∧ lIa m_X_move 55 (.invokevirtual 94) 3 = true ∧ lIa m_X_move 58 (.invokestatic 48) 3 = true ∧ lIa m_X_move 61 (.ireturn) 1 = true := by decide +kernel
  refine lA8 hdd (fun dd0 dd1 dd2 dd3 dd4 dd5 dd6 dd7 hdd => ?_)
  refine lA8 hdd (fun dd8 dd9 dd10 dd11 dd12 dd13 dd14 dd15 hdd => ?_)
  refine lA8 hdd (fun dd16 dd17 dd18 dd19 dd20 dd21 dd22 dd23 hdd => ?_)
  obtain ⟨dd24, dd25, dd26, dd27⟩ := hdd
  refine gMet.of (by decide +kernel) (Nat.le_of_ble_eq_true rfl) [some (.ref a0), some (.int a1), some (.int a2)] (fun ls h => zEn_ok (n := 3) h) ?_
  intro o Gf h
  unfold f_X_move at h
  refine Y.blk (pc' := 2) (L' := [some (.ref a0), some (.int a1), some (.int a2)]) (st' := [.int a1, .ref a0]) (sg := [(.aload_n 0, 0), (.iload_n 1, 0)]) (lSa_ok dd0) rfl ?_
  obtain ⟨_, o2, e1, m3, h⟩ := gOb_inv h
  refine Y.callN (yC.Vi (b := a0) (As := [.int a1]) (st := []) (r := ("Partlister", T_X, 5)) hV.1 cb_X_needList lk_X_23 in_X_needList rfl se_X_needList (lIa_ok dd1) rfl rfl (Nat.le_of_ble_eq_true rfl) (by decide) e1 m3) (k_X_needList hV G a0 a1) h (fun G4 _ h => ?_)
  refine Y.blk (pc' := 8) (L' := [some (.ref a0), some (.int a1), some (.int a2)]) (st' := [.int (-40), .int a2]) (sg := [(.iload_n 2, 0), (.bipush (-40), -40)]) (lSa_ok dd2) rfl ?_
  refine Y.ic_lt (off := 9) (tgt := 17) (lIa_ok dd3) (by decide) h (fun c27 h => ?_) (fun c27 h => ?_)
  · exact Y.throwS (is := 120) (text := "by is not -40 to 40") (names := zNm) hV.1 (hV.2 _ _ _ (by decide +kernel)) (by decide +kernel) (by decide +kernel) ck_X_81 ini_IAE tw_X_85 tg_X_85 (by decide) (by decide) rfl (Nat.le_of_ble_eq_true rfl) (lIa_ok dd4) (lIa_ok dd5) (lIa_ok dd6) (lIa_ok dd7) (lIa_ok dd8) h
  · refine Y.blk (pc' := 14) (L' := [some (.ref a0), some (.int a1), some (.int a2)]) (st' := [.int (nI 40), .int a2]) (sg := [(.iload_n 2, 0), (.bipush 40, nI 40)]) (lSa_ok dd9) rfl ?_
    refine Y.ic_le (off := 13) (tgt := 27) (lIa_ok dd10) (by decide) h (fun c26 h => ?_) (fun c26 h => ?_)
    · refine Y.blk (pc' := 28) (L' := [some (.ref a0), some (.int a1), some (.int a2)]) (st' := [.ref a0]) (sg := [(.aload_n 0, 0)]) (lSa_ok dd11) rfl ?_
      refine Y.getA fl_X_10 (lIa_ok dd12) h (fun v5 h => ?_)
      refine Y.blk (pc' := 32) (L' := [some (.ref a0), some (.int a1), some (.int a2)]) (st' := [.int a1, .ref v5]) (sg := [(.iload_n 1, 0)]) (lSa_ok dd13) rfl ?_
      obtain ⟨_, o7, e6, m8, h⟩ := gOb_inv h
      refine Y.callI (yC.Vi (b := v5) (As := [.int a1]) (st := []) (r := ("Partlister$Lists", T_I, 7)) hV.1 cb_I_lengthOf lk_X_34 in_I_lengthOf rfl se_I_lengthOf (lIa_ok dd14) rfl rfl (Nat.le_of_ble_eq_true rfl) (by decide) e6 m8) (k_I_lengthOf hV G4 v5 a1) h (fun v10 G9 _ h => ?_)
      refine Y.if_ne (off := 5) (tgt := 40) (lIa_ok dd15) (by decide) h (fun c25 h => ?_) (fun c25 h => ?_)
      · refine Y.blk (pc' := 39) (L' := [some (.ref a0), some (.int a1), some (.int a2)]) (st' := [.int (-1)]) (sg := [(.iconst (-1), -1)]) (lSa_ok dd16) rfl ?_
        exact Y.iret rfl (lIa_ok dd17) h
      · refine Y.blk (pc' := 41) (L' := [some (.ref a0), some (.int a1), some (.int a2)]) (st' := [.ref a0]) (sg := [(.aload_n 0, 0)]) (lSa_ok dd18) rfl ?_
        refine Y.getA fl_X_10 (lIa_ok dd19) h (fun v11 h => ?_)
        refine Y.blk (pc' := 46) (L' := [some (.ref a0), some (.int a1), some (.int a2)]) (st' := [.int a2, .int a1, .ref v11]) (sg := [(.iload_n 1, 0), (.iload_n 2, 0)]) (lSa_ok dd20) rfl ?_
        obtain ⟨_, o13, e12, m14, h⟩ := gOb_inv h
        refine Y.callN (yC.Vi (b := v11) (As := [.int a1, .int a2]) (st := []) (r := ("Partlister$Lists", T_I, 7)) hV.1 cb_I_moveOn lk_X_122 in_I_moveOn rfl se_I_moveOn (lIa_ok dd21) rfl rfl (Nat.le_of_ble_eq_true rfl) (by decide) e12 m14) (k_I_moveOn hV G9 v11 a1 a2) h (fun G15 _ h => ?_)
        refine Y.blk (pc' := 50) (L' := [some (.ref a0), some (.int a1), some (.int a2)]) (st' := [.ref a0]) (sg := [(.aload_n 0, 0)]) (lSa_ok dd22) rfl ?_
        refine Y.getA fl_X_10 (lIa_ok dd23) h (fun v16 h => ?_)
        refine Y.blk (pc' := 55) (L' := [some (.ref a0), some (.int a1), some (.int a2)]) (st' := [.int (nI 0), .int a1, .ref v16]) (sg := [(.iload_n 1, 0), (.iconst 0, nI 0)]) (lSa_ok dd24) rfl ?_
        obtain ⟨_, o18, e17, m19, h⟩ := gOb_inv h
        refine Y.callI (yC.Vi (b := v16) (As := [.int a1, .int (nI 0)]) (st := []) (r := ("Partlister$Lists", T_I, 7)) hV.1 cb_I_thingAt lk_X_94 in_I_thingAt rfl se_I_thingAt (lIa_ok dd25) rfl rfl (Nat.le_of_ble_eq_true rfl) (by decide) e17 m19) (k_I_thingAt hV G15 v16 a1 (nI 0)) h (fun v21 G20 _ h => ?_)
        refine Y.callI (yC.S (As := [.int v21]) (st := []) hV.1 cb_X_tagOf lk_X_48 st_X_tagOf (lIa_ok dd26) rfl rfl (Nat.le_of_ble_eq_true rfl) (by decide)) (k_X_tagOf hV G20 v21) h (fun v24 G23 _ h => ?_)
        exact Y.iret rfl (lIa_ok dd27) h
    · exact Y.throwS (is := 120) (text := "by is not -40 to 40") (names := zNm) hV.1 (hV.2 _ _ _ (by decide +kernel)) (by decide +kernel) (by decide +kernel) ck_X_81 ini_IAE tw_X_85 tg_X_85 (by decide) (by decide) rfl (Nat.le_of_ble_eq_true rfl) (lIa_ok dd4) (lIa_ok dd5) (lIa_ok dd6) (lIa_ok dd7) (lIa_ok dd8) h

def f_X_next (G : gH) (a0 : Nat) (a1 : Int32) : gR :=
  gOb G a0 3 fun o2 => bV (f_X_needCursor G a0 a1) fun G4 => gFA G4 a0 3 1 fun v5 => gOb G4 v5 0 fun o7 => bI (f_U_isStale G4 v5 a1) fun v10 G9 => if v10 = 0 then (gFA G9 a0 3 1 fun v11 => gOb G9 v11 0 fun o13 => bI (f_U_listOf G9 v11 a1) fun v16 G15 => gFA G15 a0 3 1 fun v17 => gOb G15 v17 0 fun o19 => bI (f_U_nextOf G15 v17 a1) fun v22 G21 => gFA G21 a0 3 0 fun v23 => gOb G21 v23 1 fun o25 => bI (f_I_lengthOf G21 v23 v16) fun v28 G27 => if v22 < v28 then gFA G27 a0 3 1 fun v29 => gOb G27 v29 0 fun o31 => bV (f_U_stand G27 v29 a1 (v22 + (nI 1)) v22) fun G33 => gFA G33 a0 3 0 fun v34 => gOb G33 v34 1 fun o36 => bI (f_I_thingAt G33 v34 v16 v22) fun v39 G38 => bI (f_X_tagOf G38 v39) fun v42 G41 => rI v42 G41
    else gOb G27 a0 3 fun o44 => bI (f_X_failWith G27 a0 (-8)) fun v47 G46 => rI v47 G46)
  else gOb G9 a0 3 fun o50 => bI (f_X_failWith G9 a0 (-9)) fun v53 G52 => rI v53 G52
theorem k_X_next {l : Launch} {D : va_G} {B : Nat} {O : State → Heap → Prop} (hV : zG l D B O) (G : gH) (a0 : Nat) (a1 : Int32) : gMet (zVm l D B O) m_X_next 7 [.ref a0, .int a1] G (f_X_next G a0 a1) := by
  have hdd : lSa m_X_next 0 [(.aload_n 0, 0), (.iload_n 1, 0)] = true ∧ lIa m_X_next 2 (.invokevirtual 167) 3 = true ∧ lSa m_X_next 5 [(.aload_n 0, 0)] = true ∧ lIa m_X_next 6 (.getfield 19) 3 = true ∧ lSa m_X_next 9 [(.iload_n 1, 0)] = true ∧ lIa m_X_next 10 (.invokevirtual 170) 3 = true ∧ lIa m_X_next 13 (.ifCond .eq 10) 3 = true ∧ lSa m_X_next 23 [(.aload_n 0, 0)] = true ∧ lIa m_X_next 24 (.getfield 19) 3 = true ∧ lSa m_X_next 27 [(.iload_n 1, 0)] = true ∧ lIa m_X_next 28 (.invokevirtual 152) 3 = true ∧ lSa m_X_next 31 [(.istore_n 2, 0), (.aload_n 0, 0)] = true ∧ lIa m_X_next 33 (.getfield 19) 3 = true ∧ lSa m_X_next 36 [(.iload_n 1, 0)] = true ∧ lIa m_X_next 37 (.invokevirtual 176) 3 = true ∧ lSa m_X_next 40 [(.istore_n 3, 0), (.iload_n 3, 0), (.aload_n 0, 0)] = true ∧ lIa m_X_next 43 (.getfield 10) 3 = true ∧ lSa m_X_next 46 [(.iload_n 2, 0)] = true ∧ lIa m_X_next 47 (.invokevirtual 34) 3 = true ∧ lIa m_X_next 50 (.if_icmp .lt 10) 3 = true ∧ lSa m_X_next 60 [(.aload_n 0, 0)] = true ∧ lIa m_X_next 61 (.getfield 19) 3 = true ∧ lSa m_X_next 64 [(.iload_n 1, 0), (.iload_n 3, 0), (.iconst 1, nI 1), (.iadd, 0), (.iload_n 3, 0)] = true ∧ lIa m_X_next 69 (.invokevirtual 179) 3 = true ∧ lSa m_X_next 72 [(.aload_n 0, 0)] = true ∧ lIa m_X_next 73 (.getfield 10) 3 = true ∧ lSa m_X_next 76 [(.iload_n 2, 0), (.iload_n 3, 0)] = true ∧ lIa m_X_next 78 (.invokevirtual 94) 3 = true ∧ lIa m_X_next 81 (.invokestatic 48) 3 = true ∧ lIa m_X_next 84 (.ireturn) 1 = true ∧ lSa m_X_next 53 [(.aload_n 0, 0), (.bipush (-8), -8)] = true ∧ lIa m_X_next 56 (.invokevirtual 173) 3 = true ∧ lIa m_X_next 59 (.ireturn) 1 = true ∧ lSa m_X_next 16 [(.aload_n 0, 0), (.bipush (-9), -9)] = true ∧ lIa m_X_next 19 (.invokevirtual 173) 3 = true ∧ lIa m_X_next 22 (.ireturn) 1 = true := by decide +kernel
  refine lA8 hdd (fun dd0 dd1 dd2 dd3 dd4 dd5 dd6 dd7 hdd => ?_)
  refine lA8 hdd (fun dd8 dd9 dd10 dd11 dd12 dd13 dd14 dd15 hdd => ?_)
  refine lA8 hdd (fun dd16 dd17 dd18 dd19 dd20 dd21 dd22 dd23 hdd => ?_)
  refine lA8 hdd (fun dd24 dd25 dd26 dd27 dd28 dd29 dd30 dd31 hdd => ?_)
  obtain ⟨dd32, dd33, dd34, dd35⟩ := hdd
  refine gMet.of (by decide +kernel) (Nat.le_of_ble_eq_true rfl) [some (.ref a0), some (.int a1), none, none] (fun ls h => zEn_ok (n := 4) h) ?_
  intro o Gf h
  unfold f_X_next at h
  refine Y.blk (pc' := 2) (L' := [some (.ref a0), some (.int a1), none, none]) (st' := [.int a1, .ref a0]) (sg := [(.aload_n 0, 0), (.iload_n 1, 0)]) (lSa_ok dd0) rfl ?_
  obtain ⟨_, o2, e1, m3, h⟩ := gOb_inv h
  refine Y.callN (yC.Vi (b := a0) (As := [.int a1]) (st := []) (r := ("Partlister", T_X, 5)) hV.1 cb_X_needCursor lk_X_167 in_X_needCursor rfl se_X_needCursor (lIa_ok dd1) rfl rfl (Nat.le_of_ble_eq_true rfl) (by decide) e1 m3) (k_X_needCursor hV G a0 a1) h (fun G4 _ h => ?_)
  refine Y.blk (pc' := 6) (L' := [some (.ref a0), some (.int a1), none, none]) (st' := [.ref a0]) (sg := [(.aload_n 0, 0)]) (lSa_ok dd2) rfl ?_
  refine Y.getA fl_X_19 (lIa_ok dd3) h (fun v5 h => ?_)
  refine Y.blk (pc' := 10) (L' := [some (.ref a0), some (.int a1), none, none]) (st' := [.int a1, .ref v5]) (sg := [(.iload_n 1, 0)]) (lSa_ok dd4) rfl ?_
  obtain ⟨_, o7, e6, m8, h⟩ := gOb_inv h
  refine Y.callI (yC.Vi (b := v5) (As := [.int a1]) (st := []) (r := ("Partlister$Cursors", T_U, 5)) hV.1 cb_U_isStale lk_X_170 in_U_isStale rfl se_U_isStale (lIa_ok dd5) rfl rfl (Nat.le_of_ble_eq_true rfl) (by decide) e6 m8) (k_U_isStale hV G4 v5 a1) h (fun v10 G9 _ h => ?_)
  refine Y.if_eq (off := 10) (tgt := 23) (lIa_ok dd6) (by decide) h (fun c54 h => ?_) (fun c54 h => ?_)
  · refine Y.blk (pc' := 24) (L' := [some (.ref a0), some (.int a1), none, none]) (st' := [.ref a0]) (sg := [(.aload_n 0, 0)]) (lSa_ok dd7) rfl ?_
    refine Y.getA fl_X_19 (lIa_ok dd8) h (fun v11 h => ?_)
    refine Y.blk (pc' := 28) (L' := [some (.ref a0), some (.int a1), none, none]) (st' := [.int a1, .ref v11]) (sg := [(.iload_n 1, 0)]) (lSa_ok dd9) rfl ?_
    obtain ⟨_, o13, e12, m14, h⟩ := gOb_inv h
    refine Y.callI (yC.Vi (b := v11) (As := [.int a1]) (st := []) (r := ("Partlister$Cursors", T_U, 5)) hV.1 cb_U_listOf lk_X_152 in_U_listOf rfl se_U_listOf (lIa_ok dd10) rfl rfl (Nat.le_of_ble_eq_true rfl) (by decide) e12 m14) (k_U_listOf hV G9 v11 a1) h (fun v16 G15 _ h => ?_)
    refine Y.blk (pc' := 33) (L' := [some (.ref a0), some (.int a1), some (.int v16), none]) (st' := [.ref a0]) (sg := [(.istore_n 2, 0), (.aload_n 0, 0)]) (lSa_ok dd11) rfl ?_
    refine Y.getA fl_X_19 (lIa_ok dd12) h (fun v17 h => ?_)
    refine Y.blk (pc' := 37) (L' := [some (.ref a0), some (.int a1), some (.int v16), none]) (st' := [.int a1, .ref v17]) (sg := [(.iload_n 1, 0)]) (lSa_ok dd13) rfl ?_
    obtain ⟨_, o19, e18, m20, h⟩ := gOb_inv h
    refine Y.callI (yC.Vi (b := v17) (As := [.int a1]) (st := []) (r := ("Partlister$Cursors", T_U, 5)) hV.1 cb_U_nextOf lk_X_176 in_U_nextOf rfl se_U_nextOf (lIa_ok dd14) rfl rfl (Nat.le_of_ble_eq_true rfl) (by decide) e18 m20) (k_U_nextOf hV G15 v17 a1) h (fun v22 G21 _ h => ?_)
    refine Y.blk (pc' := 43) (L' := [some (.ref a0), some (.int a1), some (.int v16), some (.int v22)]) (st' := [.ref a0, .int v22]) (sg := [(.istore_n 3, 0), (.iload_n 3, 0), (.aload_n 0, 0)]) (lSa_ok dd15) rfl ?_
    refine Y.getA fl_X_10 (lIa_ok dd16) h (fun v23 h => ?_)
    refine Y.blk (pc' := 47) (L' := [some (.ref a0), some (.int a1), some (.int v16), some (.int v22)]) (st' := [.int v16, .ref v23, .int v22]) (sg := [(.iload_n 2, 0)]) (lSa_ok dd17) rfl ?_
    obtain ⟨_, o25, e24, m26, h⟩ := gOb_inv h
    refine Y.callI (yC.Vi (b := v23) (As := [.int v16]) (st := [.int v22]) (r := ("Partlister$Lists", T_I, 7)) hV.1 cb_I_lengthOf lk_X_34 in_I_lengthOf rfl se_I_lengthOf (lIa_ok dd18) rfl rfl (Nat.le_of_ble_eq_true rfl) (by decide) e24 m26) (k_I_lengthOf hV G21 v23 v16) h (fun v28 G27 _ h => ?_)
    refine Y.ic_lt (off := 10) (tgt := 60) (lIa_ok dd19) (by decide) h (fun c48 h => ?_) (fun c48 h => ?_)
    · refine Y.blk (pc' := 61) (L' := [some (.ref a0), some (.int a1), some (.int v16), some (.int v22)]) (st' := [.ref a0]) (sg := [(.aload_n 0, 0)]) (lSa_ok dd20) rfl ?_
      refine Y.getA fl_X_19 (lIa_ok dd21) h (fun v29 h => ?_)
      refine Y.blk (pc' := 69) (L' := [some (.ref a0), some (.int a1), some (.int v16), some (.int v22)]) (st' := [.int v22, .int (v22 + (nI 1)), .int a1, .ref v29]) (sg := [(.iload_n 1, 0), (.iload_n 3, 0), (.iconst 1, nI 1), (.iadd, 0), (.iload_n 3, 0)]) (lSa_ok dd22) rfl ?_
      obtain ⟨_, o31, e30, m32, h⟩ := gOb_inv h
      refine Y.callN (yC.Vi (b := v29) (As := [.int a1, .int (v22 + (nI 1)), .int v22]) (st := []) (r := ("Partlister$Cursors", T_U, 5)) hV.1 cb_U_stand lk_X_179 in_U_stand rfl se_U_stand (lIa_ok dd23) rfl rfl (Nat.le_of_ble_eq_true rfl) (by decide) e30 m32) (k_U_stand hV G27 v29 a1 (v22 + (nI 1)) v22) h (fun G33 _ h => ?_)
      refine Y.blk (pc' := 73) (L' := [some (.ref a0), some (.int a1), some (.int v16), some (.int v22)]) (st' := [.ref a0]) (sg := [(.aload_n 0, 0)]) (lSa_ok dd24) rfl ?_
      refine Y.getA fl_X_10 (lIa_ok dd25) h (fun v34 h => ?_)
      refine Y.blk (pc' := 78) (L' := [some (.ref a0), some (.int a1), some (.int v16), some (.int v22)]) (st' := [.int v22, .int v16, .ref v34]) (sg := [(.iload_n 2, 0), (.iload_n 3, 0)]) (lSa_ok dd26) rfl ?_
      obtain ⟨_, o36, e35, m37, h⟩ := gOb_inv h
      refine Y.callI (yC.Vi (b := v34) (As := [.int v16, .int v22]) (st := []) (r := ("Partlister$Lists", T_I, 7)) hV.1 cb_I_thingAt lk_X_94 in_I_thingAt rfl se_I_thingAt (lIa_ok dd27) rfl rfl (Nat.le_of_ble_eq_true rfl) (by decide) e35 m37) (k_I_thingAt hV G33 v34 v16 v22) h (fun v39 G38 _ h => ?_)
      refine Y.callI (yC.S (As := [.int v39]) (st := []) hV.1 cb_X_tagOf lk_X_48 st_X_tagOf (lIa_ok dd28) rfl rfl (Nat.le_of_ble_eq_true rfl) (by decide)) (k_X_tagOf hV G38 v39) h (fun v42 G41 _ h => ?_)
      exact Y.iret rfl (lIa_ok dd29) h
    · refine Y.blk (pc' := 56) (L' := [some (.ref a0), some (.int a1), some (.int v16), some (.int v22)]) (st' := [.int (-8), .ref a0]) (sg := [(.aload_n 0, 0), (.bipush (-8), -8)]) (lSa_ok dd30) rfl ?_
      obtain ⟨_, o44, e43, m45, h⟩ := gOb_inv h
      refine Y.callI (yC.Vi (b := a0) (As := [.int (-8)]) (st := []) (r := ("Partlister", T_X, 5)) hV.1 cb_X_failWith lk_X_173 in_X_failWith rfl se_X_failWith (lIa_ok dd31) rfl rfl (Nat.le_of_ble_eq_true rfl) (by decide) e43 m45) (k_X_failWith hV G27 a0 (-8)) h (fun v47 G46 _ h => ?_)
      exact Y.iret rfl (lIa_ok dd32) h
  · refine Y.blk (pc' := 19) (L' := [some (.ref a0), some (.int a1), none, none]) (st' := [.int (-9), .ref a0]) (sg := [(.aload_n 0, 0), (.bipush (-9), -9)]) (lSa_ok dd33) rfl ?_
    obtain ⟨_, o50, e49, m51, h⟩ := gOb_inv h
    refine Y.callI (yC.Vi (b := a0) (As := [.int (-9)]) (st := []) (r := ("Partlister", T_X, 5)) hV.1 cb_X_failWith lk_X_173 in_X_failWith rfl se_X_failWith (lIa_ok dd34) rfl rfl (Nat.le_of_ble_eq_true rfl) (by decide) e49 m51) (k_X_failWith hV G9 a0 (-9)) h (fun v53 G52 _ h => ?_)
    exact Y.iret rfl (lIa_ok dd35) h

def f_X_ofCursor (G : gH) (a0 : Nat) (a1 : Int32) (a2 : Int32) : gR :=
  if a1 < 0 then gThrow "java/lang/IndexOutOfBoundsException" G
  else if a1 < (nI 3) then (if a2 < 0 then gThrow "java/lang/IllegalArgumentException" G
      else if a2 < (nI 7) then gOb G a0 3 fun o2 => bI (f_X_worthOfCursor G a0 a1 a2) fun v5 G4 => rI v5 G4
        else gThrow "java/lang/IllegalArgumentException" G)
    else gThrow "java/lang/IndexOutOfBoundsException" G
theorem k_X_ofCursor {l : Launch} {D : va_G} {B : Nat} {O : State → Heap → Prop} (hV : zG l D B O) (G : gH) (a0 : Nat) (a1 : Int32) (a2 : Int32) : gMet (zVm l D B O) m_X_ofCursor 6 [.ref a0, .int a1, .int a2] G (f_X_ofCursor G a0 a1 a2) := by
  have hdd : lSa m_X_ofCursor 0 [(.iload_n 1, 0)] = true ∧ lIa m_X_ofCursor 1 (.ifCond .lt 8) 3 = true ∧ lIa m_X_ofCursor 9 (.new 125) 3 = true ∧ lIa m_X_ofCursor 12 (.dup) 1 = true ∧ lIa m_X_ofCursor 13 (.ldc 241) 2 = true ∧ lIa m_X_ofCursor 15 (.invokespecial 129) 3 = true ∧ lIa m_X_ofCursor 18 (.athrow) 1 = true ∧ lSa m_X_ofCursor 4 [(.iload_n 1, 0), (.iconst 3, nI 3)] = true ∧ lIa m_X_ofCursor 6 (.if_icmp .lt 13) 3 = true ∧ lSa m_X_ofCursor 19 [(.iload_n 2, 0)] = true ∧ lIa m_X_ofCursor 20 (.ifCond .lt 9) 3 = true ∧ lIa m_X_ofCursor 29 (.new 81) 3 = true ∧ lIa m_X_ofCursor 32 (.dup) 1 = true ∧ lIa m_X_ofCursor 33 (.ldc 243) 2 = true ∧ lIa m_X_ofCursor 35 (.invokespecial 85) 3 = true ∧ lIa m_X_ofCursor 38 (.athrow) 1 = true ∧ lSa m_X_ofCursor 23 [(.iload_n 2, 0), (.bipush 7, nI 7)] = true ∧ lIa m_X_ofCursor 26 (.if_icmp .lt 13) 3 = true ∧ lSa m_X_ofCursor 39 [(.aload_n 0, 0), (.iload_n 1, 0), (.iload_n 2, 0)] = true ∧ lIa m_X_ofCursor 42 (.invokevirtual 245) 3 = true ∧ lIa m_X_ofCursor 45 (.ireturn) 1 = true := by decide +kernel
  refine lA8 hdd (fun dd0 dd1 dd2 dd3 dd4 dd5 dd6 dd7 hdd => ?_)
  refine lA8 hdd (fun dd8 dd9 dd10 dd11 dd12 dd13 dd14 dd15 hdd => ?_)
  obtain ⟨dd16, dd17, dd18, dd19, dd20⟩ := hdd
  refine gMet.of (by decide +kernel) (Nat.le_of_ble_eq_true rfl) [some (.ref a0), some (.int a1), some (.int a2)] (fun ls h => zEn_ok (n := 3) h) ?_
  intro o Gf h
  unfold f_X_ofCursor at h
  refine Y.blk (pc' := 1) (L' := [some (.ref a0), some (.int a1), some (.int a2)]) (st' := [.int a1]) (sg := [(.iload_n 1, 0)]) (lSa_ok dd0) rfl ?_
  refine Y.if_lt (off := 8) (tgt := 9) (lIa_ok dd1) (by decide) h (fun c9 h => ?_) (fun c9 h => ?_)
  · exact Y.throwS (is := 241) (text := "cursor is not 0 to 2") (names := zNm) hV.1 (hV.2 _ _ _ (by decide +kernel)) (by decide +kernel) (by decide +kernel) ck_X_125 ini_IOE tw_X_129 tg_X_129 (by decide) (by decide) rfl (Nat.le_of_ble_eq_true rfl) (lIa_ok dd2) (lIa_ok dd3) (lIa_ok dd4) (lIa_ok dd5) (lIa_ok dd6) h
  · refine Y.blk (pc' := 6) (L' := [some (.ref a0), some (.int a1), some (.int a2)]) (st' := [.int (nI 3), .int a1]) (sg := [(.iload_n 1, 0), (.iconst 3, nI 3)]) (lSa_ok dd7) rfl ?_
    refine Y.ic_lt (off := 13) (tgt := 19) (lIa_ok dd8) (by decide) h (fun c8 h => ?_) (fun c8 h => ?_)
    · refine Y.blk (pc' := 20) (L' := [some (.ref a0), some (.int a1), some (.int a2)]) (st' := [.int a2]) (sg := [(.iload_n 2, 0)]) (lSa_ok dd9) rfl ?_
      refine Y.if_lt (off := 9) (tgt := 29) (lIa_ok dd10) (by decide) h (fun c7 h => ?_) (fun c7 h => ?_)
      · exact Y.throwS (is := 243) (text := "what is not 0 to 6") (names := zNm) hV.1 (hV.2 _ _ _ (by decide +kernel)) (by decide +kernel) (by decide +kernel) ck_X_81 ini_IAE tw_X_85 tg_X_85 (by decide) (by decide) rfl (Nat.le_of_ble_eq_true rfl) (lIa_ok dd11) (lIa_ok dd12) (lIa_ok dd13) (lIa_ok dd14) (lIa_ok dd15) h
      · refine Y.blk (pc' := 26) (L' := [some (.ref a0), some (.int a1), some (.int a2)]) (st' := [.int (nI 7), .int a2]) (sg := [(.iload_n 2, 0), (.bipush 7, nI 7)]) (lSa_ok dd16) rfl ?_
        refine Y.ic_lt (off := 13) (tgt := 39) (lIa_ok dd17) (by decide) h (fun c6 h => ?_) (fun c6 h => ?_)
        · refine Y.blk (pc' := 42) (L' := [some (.ref a0), some (.int a1), some (.int a2)]) (st' := [.int a2, .int a1, .ref a0]) (sg := [(.aload_n 0, 0), (.iload_n 1, 0), (.iload_n 2, 0)]) (lSa_ok dd18) rfl ?_
          obtain ⟨_, o2, e1, m3, h⟩ := gOb_inv h
          refine Y.callI (yC.Vi (b := a0) (As := [.int a1, .int a2]) (st := []) (r := ("Partlister", T_X, 5)) hV.1 cb_X_worthOfCursor lk_X_245 in_X_worthOfCursor rfl se_X_worthOfCursor (lIa_ok dd19) rfl rfl (Nat.le_of_ble_eq_true rfl) (by decide) e1 m3) (k_X_worthOfCursor hV G a0 a1 a2) h (fun v5 G4 _ h => ?_)
          exact Y.iret rfl (lIa_ok dd20) h
        · exact Y.throwS (is := 243) (text := "what is not 0 to 6") (names := zNm) hV.1 (hV.2 _ _ _ (by decide +kernel)) (by decide +kernel) (by decide +kernel) ck_X_81 ini_IAE tw_X_85 tg_X_85 (by decide) (by decide) rfl (Nat.le_of_ble_eq_true rfl) (lIa_ok dd11) (lIa_ok dd12) (lIa_ok dd13) (lIa_ok dd14) (lIa_ok dd15) h
    · exact Y.throwS (is := 241) (text := "cursor is not 0 to 2") (names := zNm) hV.1 (hV.2 _ _ _ (by decide +kernel)) (by decide +kernel) (by decide +kernel) ck_X_125 ini_IOE tw_X_129 tg_X_129 (by decide) (by decide) rfl (Nat.le_of_ble_eq_true rfl) (lIa_ok dd2) (lIa_ok dd3) (lIa_ok dd4) (lIa_ok dd5) (lIa_ok dd6) h

def f_X_ofPart (G : gH) (a0 : Nat) (a1 : Int32) (a2 : Int32) : gR :=
  gOb G a0 3 fun o2 => bV (f_X_needPart G a0 a1) fun G4 => if a2 < 0 then gThrow "java/lang/IllegalArgumentException" G4
  else if a2 < (nI 4) then gFA G4 a0 3 0 fun v5 => gOb G4 v5 1 fun o7 => bI (f_I_worthOf G4 v5 a1 a2) fun v10 G9 => rI v10 G9
    else gThrow "java/lang/IllegalArgumentException" G4
theorem k_X_ofPart {l : Launch} {D : va_G} {B : Nat} {O : State → Heap → Prop} (hV : zG l D B O) (G : gH) (a0 : Nat) (a1 : Int32) (a2 : Int32) : gMet (zVm l D B O) m_X_ofPart 7 [.ref a0, .int a1, .int a2] G (f_X_ofPart G a0 a1 a2) := by
  have hdd : lSa m_X_ofPart 0 [(.aload_n 0, 0), (.iload_n 1, 0)] = true ∧ lIa m_X_ofPart 2 (.invokevirtual 142) 3 = true ∧ lSa m_X_ofPart 5 [(.iload_n 2, 0)] = true ∧ lIa m_X_ofPart 6 (.ifCond .lt 8) 3 = true ∧ lIa m_X_ofPart 14 (.new 81) 3 = true ∧ lIa m_X_ofPart 17 (.dup) 1 = true ∧ lIa m_X_ofPart 18 (.ldc 236) 2 = true ∧ lIa m_X_ofPart 20 (.invokespecial 85) 3 = true ∧ lIa m_X_ofPart 23 (.athrow) 1 = true ∧ lSa m_X_ofPart 9 [(.iload_n 2, 0), (.iconst 4, nI 4)] = true ∧ lIa m_X_ofPart 11 (.if_icmp .lt 13) 3 = true ∧ lSa m_X_ofPart 24 [(.aload_n 0, 0)] = true ∧ lIa m_X_ofPart 25 (.getfield 10) 3 = true ∧ lSa m_X_ofPart 28 [(.iload_n 1, 0), (.iload_n 2, 0)] = true ∧ lIa m_X_ofPart 30 (.invokevirtual 238) 3 = true ∧ lIa m_X_ofPart 33 (.ireturn) 1 = true := by decide +kernel
  refine lA8 hdd (fun dd0 dd1 dd2 dd3 dd4 dd5 dd6 dd7 hdd => ?_)
  obtain ⟨dd8, dd9, dd10, dd11, dd12, dd13, dd14, dd15⟩ := hdd
  refine gMet.of (by decide +kernel) (Nat.le_of_ble_eq_true rfl) [some (.ref a0), some (.int a1), some (.int a2)] (fun ls h => zEn_ok (n := 3) h) ?_
  intro o Gf h
  unfold f_X_ofPart at h
  refine Y.blk (pc' := 2) (L' := [some (.ref a0), some (.int a1), some (.int a2)]) (st' := [.int a1, .ref a0]) (sg := [(.aload_n 0, 0), (.iload_n 1, 0)]) (lSa_ok dd0) rfl ?_
  obtain ⟨_, o2, e1, m3, h⟩ := gOb_inv h
  refine Y.callN (yC.Vi (b := a0) (As := [.int a1]) (st := []) (r := ("Partlister", T_X, 5)) hV.1 cb_X_needPart lk_X_142 in_X_needPart rfl se_X_needPart (lIa_ok dd1) rfl rfl (Nat.le_of_ble_eq_true rfl) (by decide) e1 m3) (k_X_needPart hV G a0 a1) h (fun G4 _ h => ?_)
  refine Y.blk (pc' := 6) (L' := [some (.ref a0), some (.int a1), some (.int a2)]) (st' := [.int a2]) (sg := [(.iload_n 2, 0)]) (lSa_ok dd2) rfl ?_
  refine Y.if_lt (off := 8) (tgt := 14) (lIa_ok dd3) (by decide) h (fun c12 h => ?_) (fun c12 h => ?_)
  · exact Y.throwS (is := 236) (text := "what is not 0 to 3") (names := zNm) hV.1 (hV.2 _ _ _ (by decide +kernel)) (by decide +kernel) (by decide +kernel) ck_X_81 ini_IAE tw_X_85 tg_X_85 (by decide) (by decide) rfl (Nat.le_of_ble_eq_true rfl) (lIa_ok dd4) (lIa_ok dd5) (lIa_ok dd6) (lIa_ok dd7) (lIa_ok dd8) h
  · refine Y.blk (pc' := 11) (L' := [some (.ref a0), some (.int a1), some (.int a2)]) (st' := [.int (nI 4), .int a2]) (sg := [(.iload_n 2, 0), (.iconst 4, nI 4)]) (lSa_ok dd9) rfl ?_
    refine Y.ic_lt (off := 13) (tgt := 24) (lIa_ok dd10) (by decide) h (fun c11 h => ?_) (fun c11 h => ?_)
    · refine Y.blk (pc' := 25) (L' := [some (.ref a0), some (.int a1), some (.int a2)]) (st' := [.ref a0]) (sg := [(.aload_n 0, 0)]) (lSa_ok dd11) rfl ?_
      refine Y.getA fl_X_10 (lIa_ok dd12) h (fun v5 h => ?_)
      refine Y.blk (pc' := 30) (L' := [some (.ref a0), some (.int a1), some (.int a2)]) (st' := [.int a2, .int a1, .ref v5]) (sg := [(.iload_n 1, 0), (.iload_n 2, 0)]) (lSa_ok dd13) rfl ?_
      obtain ⟨_, o7, e6, m8, h⟩ := gOb_inv h
      refine Y.callI (yC.Vi (b := v5) (As := [.int a1, .int a2]) (st := []) (r := ("Partlister$Lists", T_I, 7)) hV.1 cb_I_worthOf lk_X_238 in_I_worthOf rfl se_I_worthOf (lIa_ok dd14) rfl rfl (Nat.le_of_ble_eq_true rfl) (by decide) e6 m8) (k_I_worthOf hV G4 v5 a1 a2) h (fun v10 G9 _ h => ?_)
      exact Y.iret rfl (lIa_ok dd15) h
    · exact Y.throwS (is := 236) (text := "what is not 0 to 3") (names := zNm) hV.1 (hV.2 _ _ _ (by decide +kernel)) (by decide +kernel) (by decide +kernel) ck_X_81 ini_IAE tw_X_85 tg_X_85 (by decide) (by decide) rfl (Nat.le_of_ble_eq_true rfl) (lIa_ok dd4) (lIa_ok dd5) (lIa_ok dd6) (lIa_ok dd7) (lIa_ok dd8) h

def f_X_pack (G : gH) (a0 : Nat) (a1 : Int32) (a2 : Int32) : gR :=
  gOb G a0 3 fun o2 => bV (f_X_needRow G a0 a1) fun G4 => gOb G4 a0 3 fun o6 => bI (f_X_endAround G4 a0 a1) fun v9 G8 => rI v9 G8
theorem k_X_pack {l : Launch} {D : va_G} {B : Nat} {O : State → Heap → Prop} (hV : zG l D B O) (G : gH) (a0 : Nat) (a1 : Int32) (a2 : Int32) : gMet (zVm l D B O) m_X_pack 7 [.ref a0, .int a1, .int a2] G (f_X_pack G a0 a1 a2) := by
  have hdd : lSa m_X_pack 0 [(.aload_n 0, 0), (.iload_n 1, 0)] = true ∧ lIa m_X_pack 2 (.invokevirtual 106) 3 = true ∧ lSa m_X_pack 5 [(.aload_n 0, 0), (.iload_n 1, 0)] = true ∧ lIa m_X_pack 7 (.invokevirtual 103) 3 = true ∧ lIa m_X_pack 10 (.ireturn) 1 = true := by decide +kernel
  obtain ⟨dd0, dd1, dd2, dd3, dd4⟩ := hdd
  refine gMet.of (by decide +kernel) (Nat.le_of_ble_eq_true rfl) [some (.ref a0), some (.int a1), some (.int a2)] (fun ls h => zEn_ok (n := 3) h) ?_
  intro o Gf h
  unfold f_X_pack at h
  refine Y.blk (pc' := 2) (L' := [some (.ref a0), some (.int a1), some (.int a2)]) (st' := [.int a1, .ref a0]) (sg := [(.aload_n 0, 0), (.iload_n 1, 0)]) (lSa_ok dd0) rfl ?_
  obtain ⟨_, o2, e1, m3, h⟩ := gOb_inv h
  refine Y.callN (yC.Vi (b := a0) (As := [.int a1]) (st := []) (r := ("Partlister", T_X, 5)) hV.1 cb_X_needRow lk_X_106 in_X_needRow rfl se_X_needRow (lIa_ok dd1) rfl rfl (Nat.le_of_ble_eq_true rfl) (by decide) e1 m3) (k_X_needRow hV G a0 a1) h (fun G4 _ h => ?_)
  refine Y.blk (pc' := 7) (L' := [some (.ref a0), some (.int a1), some (.int a2)]) (st' := [.int a1, .ref a0]) (sg := [(.aload_n 0, 0), (.iload_n 1, 0)]) (lSa_ok dd2) rfl ?_
  obtain ⟨_, o6, e5, m7, h⟩ := gOb_inv h
  refine Y.callI (yC.Vi (b := a0) (As := [.int a1]) (st := []) (r := ("Partlister", T_X, 5)) hV.1 cb_X_endAround lk_X_103 in_X_endAround rfl se_X_endAround (lIa_ok dd3) rfl rfl (Nat.le_of_ble_eq_true rfl) (by decide) e5 m7) (k_X_endAround hV G4 a0 a1) h (fun v9 G8 _ h => ?_)
  exact Y.iret rfl (lIa_ok dd4) h

def f_I_freePart_L2 (K16 : gH → Int32 → gR) (K24 : gH → gR) : Nat → gH → Nat → Int32 → gR
  | 0, _, _, _ => none
  | n + 1, G, x0, x1 =>
    if (nI 6) ≤ x1 then K24 G
    else gOb G x0 1 fun o2 => bI (f_I_isThere G x0 x1) fun v5 G4 => if v5 = 0 then K16 G4 x1
      else f_I_freePart_L2 K16 K24 n G4 x0 (x1 + (nI 1))
def f_I_freePart (G : gH) (a0 : Nat) : gR :=
  f_I_freePart_L2 (fun G9 x8 => rI x8 G9) (fun G10 => rI (-1) G10) zFu G a0 (nI 2)
theorem k_I_freePart_L2 {l : Launch} {D : va_G} {B : Nat} {O : State → Heap → Prop} (hV : zG l D B O) {o : gO} {Gf : gH} (K16 : gH → Int32 → gR) (K24 : gH → gR) (hK16 : ∀ (G : gH) (x1 : Int32), K16 G x1 = some (o, Gf) → Y (zVm l D B O) m_I_freePart 3 o Gf 16 [none, some (.int x1)] [] G) (hK24 : ∀ (G : gH), K24 G  = some (o, Gf) → Y (zVm l D B O) m_I_freePart 3 o Gf 24 [none, none] [] G) : ∀ (n : Nat) (G : gH) (x0 : Nat) (x1 : Int32), f_I_freePart_L2 K16 K24 n G x0 x1 = some (o, Gf) → Y (zVm l D B O) m_I_freePart 3 o Gf 2 [some (.ref x0), some (.int x1)] [] G := by
  have hdd : lSa m_I_freePart 2 [(.iload_n 1, 0), (.bipush 6, nI 6)] = true ∧ lIa m_I_freePart 5 (.if_icmp .ge 19) 3 = true ∧ lSa m_I_freePart 8 [(.aload_n 0, 0), (.iload_n 1, 0)] = true ∧ lIa m_I_freePart 10 (.invokevirtual 86) 3 = true ∧ lIa m_I_freePart 13 (.ifCond .ne 5) 3 = true ∧ lSa m_I_freePart 18 [(.iinc 1 1, nI 1)] = true ∧ lIa m_I_freePart 21 (.goto (-19)) 3 = true := by decide +kernel
  obtain ⟨dd0, dd1, dd2, dd3, dd4, dd5, dd6⟩ := hdd
  intro n
  induction n with
  | zero => intro G x0 x1 h; cases h
  | succ n ih =>
    intro G x0 x1 h
    unfold f_I_freePart_L2 at h
    refine Y.blk (pc' := 5) (L' := [some (.ref x0), some (.int x1)]) (st' := [.int (nI 6), .int x1]) (sg := [(.iload_n 1, 0), (.bipush 6, nI 6)]) (lSa_ok dd0) rfl ?_
    refine Y.ic_ge (off := 19) (tgt := 24) (lIa_ok dd1) (by decide) h (fun c7 h => ?_) (fun c7 h => ?_)
    · refine Y.less (L' := [none, none]) (zLe_none (zLe_none (zLe_nil))) ?_
      exact hK24 G  h
    · refine Y.blk (pc' := 10) (L' := [some (.ref x0), some (.int x1)]) (st' := [.int x1, .ref x0]) (sg := [(.aload_n 0, 0), (.iload_n 1, 0)]) (lSa_ok dd2) rfl ?_
      obtain ⟨_, o2, e1, m3, h⟩ := gOb_inv h
      refine Y.callI (yC.Vi (b := x0) (As := [.int x1]) (st := []) (r := ("Partlister$Lists", T_I, 7)) hV.1 cb_I_isThere lk_I_86 in_I_isThere rfl se_I_isThere (lIa_ok dd3) rfl rfl (Nat.le_of_ble_eq_true rfl) (by decide) e1 m3) (k_I_isThere hV G x0 x1) h (fun v5 G4 _ h => ?_)
      refine Y.if_ne (off := 5) (tgt := 18) (lIa_ok dd4) (by decide) h (fun c6 h => ?_) (fun c6 h => ?_)
      · refine Y.less (L' := [none, some (.int x1)]) (zLe_none (zLe_some (zLe_nil))) ?_
        exact hK16 G4 x1 h
      · refine Y.blk (pc' := 21) (L' := [some (.ref x0), some (.int (x1 + (nI 1)))]) (st' := []) (sg := [(.iinc 1 1, nI 1)]) (lSa_ok dd5) rfl ?_
        refine Y.goto (off := -19) (tgt := 2) (lIa_ok dd6) (by decide) ?_
        exact ih G4 x0 (x1 + (nI 1)) h
theorem k_I_freePart {l : Launch} {D : va_G} {B : Nat} {O : State → Heap → Prop} (hV : zG l D B O) (G : gH) (a0 : Nat) : gMet (zVm l D B O) m_I_freePart 3 [.ref a0] G (f_I_freePart G a0) := by
  have hdd : lSa m_I_freePart 0 [(.iconst 2, nI 2), (.istore_n 1, 0)] = true ∧ lSa m_I_freePart 16 [(.iload_n 1, 0)] = true ∧ lIa m_I_freePart 17 (.ireturn) 1 = true ∧ lSa m_I_freePart 24 [(.iconst (-1), -1)] = true ∧ lIa m_I_freePart 25 (.ireturn) 1 = true := by decide +kernel
  obtain ⟨dd0, dd1, dd2, dd3, dd4⟩ := hdd
  refine gMet.of (by decide +kernel) (Nat.le_of_ble_eq_true rfl) [some (.ref a0), none] (fun ls h => zEn_ok (n := 2) h) ?_
  intro o Gf h
  unfold f_I_freePart at h
  refine Y.blk (pc' := 2) (L' := [some (.ref a0), some (.int (nI 2))]) (st' := []) (sg := [(.iconst 2, nI 2), (.istore_n 1, 0)]) (lSa_ok dd0) rfl ?_
  refine k_I_freePart_L2 hV _ _ ?_ ?_  zFu G a0 (nI 2) h
  · intro G9 x8 h
    refine Y.blk (pc' := 17) (L' := [none, some (.int x8)]) (st' := [.int x8]) (sg := [(.iload_n 1, 0)]) (lSa_ok dd1) rfl ?_
    exact Y.iret rfl (lIa_ok dd2) h
  · intro G10 h
    refine Y.blk (pc' := 25) (L' := [none, none]) (st' := [.int (-1)]) (sg := [(.iconst (-1), -1)]) (lSa_ok dd3) rfl ?_
    exact Y.iret rfl (lIa_ok dd4) h

def f_I_open (G : gH) (a0 : Nat) (a1 : Int32) (a2 : Int32) (a3 : Int32) (a4 : Int32) : gR :=
  gFA G a0 1 2 fun v1 => gOb G v1 2 fun o3 => bV (f_N_write G v1 a1 a2) fun G5 => gFA G5 a0 1 3 fun v6 => gOb G5 a0 1 fun o8 => bI (f_I_rowOf G5 a0 a2) fun v11 G10 => gOb G10 v6 2 fun o13 => bV (f_N_write G10 v6 a1 v11) fun G15 => gFA G15 a0 1 4 fun v16 => gFA G15 a0 1 4 fun v17 => gOb G15 v17 2 fun o19 => bI (f_N_read G15 v17 a2) fun v22 G21 => gOb G21 v16 2 fun o24 => bV (f_N_write G21 v16 a1 (v22 + a3)) fun G26 => gFA G26 a0 1 1 fun v27 => gOb G26 v27 2 fun o29 => bV (f_N_write G26 v27 a1 a4) fun G31 => rV G31
theorem k_I_open {l : Launch} {D : va_G} {B : Nat} {O : State → Heap → Prop} (hV : zG l D B O) (G : gH) (a0 : Nat) (a1 : Int32) (a2 : Int32) (a3 : Int32) (a4 : Int32) : gMet (zVm l D B O) m_I_open 3 [.ref a0, .int a1, .int a2, .int a3, .int a4] G (f_I_open G a0 a1 a2 a3 a4) := by
  have hdd : lSa m_I_open 0 [(.aload_n 0, 0)] = true ∧ lIa m_I_open 1 (.getfield 23) 3 = true ∧ lSa m_I_open 4 [(.iload_n 1, 0), (.iload_n 2, 0)] = true ∧ lIa m_I_open 6 (.invokevirtual 35) 3 = true ∧ lSa m_I_open 9 [(.aload_n 0, 0)] = true ∧ lIa m_I_open 10 (.getfield 26) 3 = true ∧ lSa m_I_open 13 [(.iload_n 1, 0), (.aload_n 0, 0), (.iload_n 2, 0)] = true ∧ lIa m_I_open 16 (.invokevirtual 56) 3 = true ∧ lIa m_I_open 19 (.invokevirtual 35) 3 = true ∧ lSa m_I_open 22 [(.aload_n 0, 0)] = true ∧ lIa m_I_open 23 (.getfield 29) 3 = true ∧ lSa m_I_open 26 [(.iload_n 1, 0), (.aload_n 0, 0)] = true ∧ lIa m_I_open 28 (.getfield 29) 3 = true ∧ lSa m_I_open 31 [(.iload_n 2, 0)] = true ∧ lIa m_I_open 32 (.invokevirtual 39) 3 = true ∧ lSa m_I_open 35 [(.iload_n 3, 0), (.iadd, 0)] = true ∧ lIa m_I_open 37 (.invokevirtual 35) 3 = true ∧ lSa m_I_open 40 [(.aload_n 0, 0)] = true ∧ lIa m_I_open 41 (.getfield 20) 3 = true ∧ lSa m_I_open 44 [(.iload_n 1, 0), (.iload 4, 0)] = true ∧ lIa m_I_open 47 (.invokevirtual 35) 3 = true ∧ lIa m_I_open 50 (.return_) 1 = true := by decide +kernel
  refine lA8 hdd (fun dd0 dd1 dd2 dd3 dd4 dd5 dd6 dd7 hdd => ?_)
  refine lA8 hdd (fun dd8 dd9 dd10 dd11 dd12 dd13 dd14 dd15 hdd => ?_)
  obtain ⟨dd16, dd17, dd18, dd19, dd20, dd21⟩ := hdd
  refine gMet.of (by decide +kernel) (Nat.le_of_ble_eq_true rfl) [some (.ref a0), some (.int a1), some (.int a2), some (.int a3), some (.int a4)] (fun ls h => zEn_ok (n := 5) h) ?_
  intro o Gf h
  unfold f_I_open at h
  refine Y.blk (pc' := 1) (L' := [some (.ref a0), some (.int a1), some (.int a2), some (.int a3), some (.int a4)]) (st' := [.ref a0]) (sg := [(.aload_n 0, 0)]) (lSa_ok dd0) rfl ?_
  refine Y.getA fl_I_23 (lIa_ok dd1) h (fun v1 h => ?_)
  refine Y.blk (pc' := 6) (L' := [some (.ref a0), some (.int a1), some (.int a2), some (.int a3), some (.int a4)]) (st' := [.int a2, .int a1, .ref v1]) (sg := [(.iload_n 1, 0), (.iload_n 2, 0)]) (lSa_ok dd2) rfl ?_
  obtain ⟨_, o3, e2, m4, h⟩ := gOb_inv h
  refine Y.callN (yC.Vi (b := v1) (As := [.int a1, .int a2]) (st := []) (r := ("Partlister$Numbers", T_N, 1)) hV.1 cb_N_write lk_I_35 in_N_write rfl se_N_write (lIa_ok dd3) rfl rfl (Nat.le_of_ble_eq_true rfl) (by decide) e2 m4) (k_N_write hV G v1 a1 a2) h (fun G5 _ h => ?_)
  refine Y.blk (pc' := 10) (L' := [some (.ref a0), some (.int a1), some (.int a2), some (.int a3), some (.int a4)]) (st' := [.ref a0]) (sg := [(.aload_n 0, 0)]) (lSa_ok dd4) rfl ?_
  refine Y.getA fl_I_26 (lIa_ok dd5) h (fun v6 h => ?_)
  refine Y.blk (pc' := 16) (L' := [some (.ref a0), some (.int a1), some (.int a2), some (.int a3), some (.int a4)]) (st' := [.int a2, .ref a0, .int a1, .ref v6]) (sg := [(.iload_n 1, 0), (.aload_n 0, 0), (.iload_n 2, 0)]) (lSa_ok dd6) rfl ?_
  obtain ⟨_, o8, e7, m9, h⟩ := gOb_inv h
  refine Y.callI (yC.Vi (b := a0) (As := [.int a2]) (st := [.int a1, .ref v6]) (r := ("Partlister$Lists", T_I, 7)) hV.1 cb_I_rowOf lk_I_56 in_I_rowOf rfl se_I_rowOf (lIa_ok dd7) rfl rfl (Nat.le_of_ble_eq_true rfl) (by decide) e7 m9) (k_I_rowOf hV G5 a0 a2) h (fun v11 G10 _ h => ?_)
  obtain ⟨_, o13, e12, m14, h⟩ := gOb_inv h
  refine Y.callN (yC.Vi (b := v6) (As := [.int a1, .int v11]) (st := []) (r := ("Partlister$Numbers", T_N, 1)) hV.1 cb_N_write lk_I_35 in_N_write rfl se_N_write (lIa_ok dd8) rfl rfl (Nat.le_of_ble_eq_true rfl) (by decide) e12 m14) (k_N_write hV G10 v6 a1 v11) h (fun G15 _ h => ?_)
  refine Y.blk (pc' := 23) (L' := [some (.ref a0), some (.int a1), some (.int a2), some (.int a3), some (.int a4)]) (st' := [.ref a0]) (sg := [(.aload_n 0, 0)]) (lSa_ok dd9) rfl ?_
  refine Y.getA fl_I_29 (lIa_ok dd10) h (fun v16 h => ?_)
  refine Y.blk (pc' := 28) (L' := [some (.ref a0), some (.int a1), some (.int a2), some (.int a3), some (.int a4)]) (st' := [.ref a0, .int a1, .ref v16]) (sg := [(.iload_n 1, 0), (.aload_n 0, 0)]) (lSa_ok dd11) rfl ?_
  refine Y.getA fl_I_29 (lIa_ok dd12) h (fun v17 h => ?_)
  refine Y.blk (pc' := 32) (L' := [some (.ref a0), some (.int a1), some (.int a2), some (.int a3), some (.int a4)]) (st' := [.int a2, .ref v17, .int a1, .ref v16]) (sg := [(.iload_n 2, 0)]) (lSa_ok dd13) rfl ?_
  obtain ⟨_, o19, e18, m20, h⟩ := gOb_inv h
  refine Y.callI (yC.Vi (b := v17) (As := [.int a2]) (st := [.int a1, .ref v16]) (r := ("Partlister$Numbers", T_N, 1)) hV.1 cb_N_read lk_I_39 in_N_read rfl se_N_read (lIa_ok dd14) rfl rfl (Nat.le_of_ble_eq_true rfl) (by decide) e18 m20) (k_N_read hV G15 v17 a2) h (fun v22 G21 _ h => ?_)
  refine Y.blk (pc' := 37) (L' := [some (.ref a0), some (.int a1), some (.int a2), some (.int a3), some (.int a4)]) (st' := [.int (v22 + a3), .int a1, .ref v16]) (sg := [(.iload_n 3, 0), (.iadd, 0)]) (lSa_ok dd15) rfl ?_
  obtain ⟨_, o24, e23, m25, h⟩ := gOb_inv h
  refine Y.callN (yC.Vi (b := v16) (As := [.int a1, .int (v22 + a3)]) (st := []) (r := ("Partlister$Numbers", T_N, 1)) hV.1 cb_N_write lk_I_35 in_N_write rfl se_N_write (lIa_ok dd16) rfl rfl (Nat.le_of_ble_eq_true rfl) (by decide) e23 m25) (k_N_write hV G21 v16 a1 (v22 + a3)) h (fun G26 _ h => ?_)
  refine Y.blk (pc' := 41) (L' := [some (.ref a0), some (.int a1), some (.int a2), some (.int a3), some (.int a4)]) (st' := [.ref a0]) (sg := [(.aload_n 0, 0)]) (lSa_ok dd17) rfl ?_
  refine Y.getA fl_I_20 (lIa_ok dd18) h (fun v27 h => ?_)
  refine Y.blk (pc' := 47) (L' := [some (.ref a0), some (.int a1), some (.int a2), some (.int a3), some (.int a4)]) (st' := [.int a4, .int a1, .ref v27]) (sg := [(.iload_n 1, 0), (.iload 4, 0)]) (lSa_ok dd19) rfl ?_
  obtain ⟨_, o29, e28, m30, h⟩ := gOb_inv h
  refine Y.callN (yC.Vi (b := v27) (As := [.int a1, .int a4]) (st := []) (r := ("Partlister$Numbers", T_N, 1)) hV.1 cb_N_write lk_I_35 in_N_write rfl se_N_write (lIa_ok dd20) rfl rfl (Nat.le_of_ble_eq_true rfl) (by decide) e28 m30) (k_N_write hV G26 v27 a1 a4) h (fun G31 _ h => ?_)
  exact Y.vret rfl (lIa_ok dd21) h

def f_X_part (G : gH) (a0 : Nat) (a1 : Int32) (a2 : Int32) (a3 : Int32) : gR :=
  gOb G a0 3 fun o2 => bV (f_X_needList G a0 a1) fun G4 => gOb G4 a0 3 fun o6 => bV (f_X_needGap G4 a0 a1 a2) fun G8 => if a3 < a2 then gThrow "java/lang/IndexOutOfBoundsException" G8
  else gFA G8 a0 3 0 fun v9 => gOb G8 v9 1 fun o11 => bI (f_I_lengthOf G8 v9 a1) fun v14 G13 => if a3 ≤ v14 then (gFA G13 a0 3 0 fun v15 => gOb G13 v15 1 fun o17 => bI (f_I_freePart G13 v15) fun v20 G19 => if v20 = (-1) then gThrow "java/lang/IllegalStateException" G19
      else gFA G19 a0 3 0 fun v21 => gOb G19 v21 1 fun o23 => bV (f_I_open G19 v21 v20 a1 a2 (a3 - a2)) fun G25 => rI v20 G25)
    else gThrow "java/lang/IndexOutOfBoundsException" G13
theorem k_X_part {l : Launch} {D : va_G} {B : Nat} {O : State → Heap → Prop} (hV : zG l D B O) (G : gH) (a0 : Nat) (a1 : Int32) (a2 : Int32) (a3 : Int32) : gMet (zVm l D B O) m_X_part 7 [.ref a0, .int a1, .int a2, .int a3] G (f_X_part G a0 a1 a2 a3) := by
  have hdd : lSa m_X_part 0 [(.aload_n 0, 0), (.iload_n 1, 0)] = true ∧ lIa m_X_part 2 (.invokevirtual 23) 3 = true ∧ lSa m_X_part 5 [(.aload_n 0, 0), (.iload_n 1, 0), (.iload_n 2, 0)] = true ∧ lIa m_X_part 8 (.invokevirtual 45) 3 = true ∧ lSa m_X_part 11 [(.iload_n 3, 0), (.iload_n 2, 0)] = true ∧ lIa m_X_part 13 (.if_icmp .lt 15) 3 = true ∧ lIa m_X_part 28 (.new 125) 3 = true ∧ lIa m_X_part 31 (.dup) 1 = true ∧ lIa m_X_part 32 (.ldc 127) 2 = true ∧ lIa m_X_part 34 (.invokespecial 129) 3 = true ∧ lIa m_X_part 37 (.athrow) 1 = true ∧ lSa m_X_part 16 [(.iload_n 3, 0), (.aload_n 0, 0)] = true ∧ lIa m_X_part 18 (.getfield 10) 3 = true ∧ lSa m_X_part 21 [(.iload_n 1, 0)] = true ∧ lIa m_X_part 22 (.invokevirtual 34) 3 = true ∧ lIa m_X_part 25 (.if_icmp .le 13) 3 = true ∧ lSa m_X_part 38 [(.aload_n 0, 0)] = true ∧ lIa m_X_part 39 (.getfield 10) 3 = true ∧ lIa m_X_part 42 (.invokevirtual 130) 3 = true ∧ lSa m_X_part 45 [(.istore 4, 0), (.iload 4, 0), (.iconst (-1), -1)] = true ∧ lIa m_X_part 50 (.if_icmp .ne 13) 3 = true ∧ lIa m_X_part 53 (.new 134) 3 = true ∧ lIa m_X_part 56 (.dup) 1 = true ∧ lIa m_X_part 57 (.ldc 136) 2 = true ∧ lIa m_X_part 59 (.invokespecial 138) 3 = true ∧ lIa m_X_part 62 (.athrow) 1 = true ∧ lSa m_X_part 63 [(.aload_n 0, 0)] = true ∧ lIa m_X_part 64 (.getfield 10) 3 = true ∧ lSa m_X_part 67 [(.iload 4, 0), (.iload_n 1, 0), (.iload_n 2, 0), (.iload_n 3, 0), (.iload_n 2, 0), (.isub, 0)] = true ∧ lIa m_X_part 74 (.invokevirtual 139) 3 = true ∧ lSa m_X_part 77 [(.iload 4, 0)] = true ∧ lIa m_X_part 79 (.ireturn) 1 = true := by decide +kernel
  refine lA8 hdd (fun dd0 dd1 dd2 dd3 dd4 dd5 dd6 dd7 hdd => ?_)
  refine lA8 hdd (fun dd8 dd9 dd10 dd11 dd12 dd13 dd14 dd15 hdd => ?_)
  refine lA8 hdd (fun dd16 dd17 dd18 dd19 dd20 dd21 dd22 dd23 hdd => ?_)
  obtain ⟨dd24, dd25, dd26, dd27, dd28, dd29, dd30, dd31⟩ := hdd
  refine gMet.of (by decide +kernel) (Nat.le_of_ble_eq_true rfl) [some (.ref a0), some (.int a1), some (.int a2), some (.int a3), none] (fun ls h => zEn_ok (n := 5) h) ?_
  intro o Gf h
  unfold f_X_part at h
  refine Y.blk (pc' := 2) (L' := [some (.ref a0), some (.int a1), some (.int a2), some (.int a3), none]) (st' := [.int a1, .ref a0]) (sg := [(.aload_n 0, 0), (.iload_n 1, 0)]) (lSa_ok dd0) rfl ?_
  obtain ⟨_, o2, e1, m3, h⟩ := gOb_inv h
  refine Y.callN (yC.Vi (b := a0) (As := [.int a1]) (st := []) (r := ("Partlister", T_X, 5)) hV.1 cb_X_needList lk_X_23 in_X_needList rfl se_X_needList (lIa_ok dd1) rfl rfl (Nat.le_of_ble_eq_true rfl) (by decide) e1 m3) (k_X_needList hV G a0 a1) h (fun G4 _ h => ?_)
  refine Y.blk (pc' := 8) (L' := [some (.ref a0), some (.int a1), some (.int a2), some (.int a3), none]) (st' := [.int a2, .int a1, .ref a0]) (sg := [(.aload_n 0, 0), (.iload_n 1, 0), (.iload_n 2, 0)]) (lSa_ok dd2) rfl ?_
  obtain ⟨_, o6, e5, m7, h⟩ := gOb_inv h
  refine Y.callN (yC.Vi (b := a0) (As := [.int a1, .int a2]) (st := []) (r := ("Partlister", T_X, 5)) hV.1 cb_X_needGap lk_X_45 in_X_needGap rfl se_X_needGap (lIa_ok dd3) rfl rfl (Nat.le_of_ble_eq_true rfl) (by decide) e5 m7) (k_X_needGap hV G4 a0 a1 a2) h (fun G8 _ h => ?_)
  refine Y.blk (pc' := 13) (L' := [some (.ref a0), some (.int a1), some (.int a2), some (.int a3), none]) (st' := [.int a2, .int a3]) (sg := [(.iload_n 3, 0), (.iload_n 2, 0)]) (lSa_ok dd4) rfl ?_
  refine Y.ic_lt (off := 15) (tgt := 28) (lIa_ok dd5) (by decide) h (fun c28 h => ?_) (fun c28 h => ?_)
  · exact Y.throwS (is := 127) (text := "to is not from to LENGTH") (names := zNm) hV.1 (hV.2 _ _ _ (by decide +kernel)) (by decide +kernel) (by decide +kernel) ck_X_125 ini_IOE tw_X_129 tg_X_129 (by decide) (by decide) rfl (Nat.le_of_ble_eq_true rfl) (lIa_ok dd6) (lIa_ok dd7) (lIa_ok dd8) (lIa_ok dd9) (lIa_ok dd10) h
  · refine Y.blk (pc' := 18) (L' := [some (.ref a0), some (.int a1), some (.int a2), some (.int a3), none]) (st' := [.ref a0, .int a3]) (sg := [(.iload_n 3, 0), (.aload_n 0, 0)]) (lSa_ok dd11) rfl ?_
    refine Y.getA fl_X_10 (lIa_ok dd12) h (fun v9 h => ?_)
    refine Y.blk (pc' := 22) (L' := [some (.ref a0), some (.int a1), some (.int a2), some (.int a3), none]) (st' := [.int a1, .ref v9, .int a3]) (sg := [(.iload_n 1, 0)]) (lSa_ok dd13) rfl ?_
    obtain ⟨_, o11, e10, m12, h⟩ := gOb_inv h
    refine Y.callI (yC.Vi (b := v9) (As := [.int a1]) (st := [.int a3]) (r := ("Partlister$Lists", T_I, 7)) hV.1 cb_I_lengthOf lk_X_34 in_I_lengthOf rfl se_I_lengthOf (lIa_ok dd14) rfl rfl (Nat.le_of_ble_eq_true rfl) (by decide) e10 m12) (k_I_lengthOf hV G8 v9 a1) h (fun v14 G13 _ h => ?_)
    refine Y.ic_le (off := 13) (tgt := 38) (lIa_ok dd15) (by decide) h (fun c27 h => ?_) (fun c27 h => ?_)
    · refine Y.blk (pc' := 39) (L' := [some (.ref a0), some (.int a1), some (.int a2), some (.int a3), none]) (st' := [.ref a0]) (sg := [(.aload_n 0, 0)]) (lSa_ok dd16) rfl ?_
      refine Y.getA fl_X_10 (lIa_ok dd17) h (fun v15 h => ?_)
      obtain ⟨_, o17, e16, m18, h⟩ := gOb_inv h
      refine Y.callI (yC.Vi (b := v15) (As := []) (st := []) (r := ("Partlister$Lists", T_I, 7)) hV.1 cb_I_freePart lk_X_130 in_I_freePart rfl se_I_freePart (lIa_ok dd18) rfl rfl (Nat.le_of_ble_eq_true rfl) (by decide) e16 m18) (k_I_freePart hV G13 v15) h (fun v20 G19 _ h => ?_)
      refine Y.blk (pc' := 50) (L' := [some (.ref a0), some (.int a1), some (.int a2), some (.int a3), some (.int v20)]) (st' := [.int (-1), .int v20]) (sg := [(.istore 4, 0), (.iload 4, 0), (.iconst (-1), -1)]) (lSa_ok dd19) rfl ?_
      refine Y.ic_ne (off := 13) (tgt := 63) (lIa_ok dd20) (by decide) h (fun c26 h => ?_) (fun c26 h => ?_)
      · exact Y.throwS (is := 136) (text := "there are four PARTS") (names := zNm) hV.1 (hV.2 _ _ _ (by decide +kernel)) (by decide +kernel) (by decide +kernel) ck_X_134 ini_ISE tw_X_138 tg_X_138 (by decide) (by decide) rfl (Nat.le_of_ble_eq_true rfl) (lIa_ok dd21) (lIa_ok dd22) (lIa_ok dd23) (lIa_ok dd24) (lIa_ok dd25) h
      · refine Y.blk (pc' := 64) (L' := [some (.ref a0), some (.int a1), some (.int a2), some (.int a3), some (.int v20)]) (st' := [.ref a0]) (sg := [(.aload_n 0, 0)]) (lSa_ok dd26) rfl ?_
        refine Y.getA fl_X_10 (lIa_ok dd27) h (fun v21 h => ?_)
        refine Y.blk (pc' := 74) (L' := [some (.ref a0), some (.int a1), some (.int a2), some (.int a3), some (.int v20)]) (st' := [.int (a3 - a2), .int a2, .int a1, .int v20, .ref v21]) (sg := [(.iload 4, 0), (.iload_n 1, 0), (.iload_n 2, 0), (.iload_n 3, 0), (.iload_n 2, 0), (.isub, 0)]) (lSa_ok dd28) rfl ?_
        obtain ⟨_, o23, e22, m24, h⟩ := gOb_inv h
        refine Y.callN (yC.Vi (b := v21) (As := [.int v20, .int a1, .int a2, .int (a3 - a2)]) (st := []) (r := ("Partlister$Lists", T_I, 7)) hV.1 cb_I_open lk_X_139 in_I_open rfl se_I_open (lIa_ok dd29) rfl rfl (Nat.le_of_ble_eq_true rfl) (by decide) e22 m24) (k_I_open hV G19 v21 v20 a1 a2 (a3 - a2)) h (fun G25 _ h => ?_)
        refine Y.blk (pc' := 79) (L' := [some (.ref a0), some (.int a1), some (.int a2), some (.int a3), some (.int v20)]) (st' := [.int v20]) (sg := [(.iload 4, 0)]) (lSa_ok dd30) rfl ?_
        exact Y.iret rfl (lIa_ok dd31) h
    · exact Y.throwS (is := 127) (text := "to is not from to LENGTH") (names := zNm) hV.1 (hV.2 _ _ _ (by decide +kernel)) (by decide +kernel) (by decide +kernel) ck_X_125 ini_IOE tw_X_129 tg_X_129 (by decide) (by decide) rfl (Nat.le_of_ble_eq_true rfl) (lIa_ok dd6) (lIa_ok dd7) (lIa_ok dd8) (lIa_ok dd9) (lIa_ok dd10) h
