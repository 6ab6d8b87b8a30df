def f_M_fault (G : gH) (a0 : Nat) (a1 : Int32) : gR :=
  gFI G a0 6 7 fun v1 => gPut G a0 6 7 (.int (v1 + (nI 1))) fun G2 => rI a1 G2
theorem k_M_fault {l : Launch} {D : va_G} {B : Nat} {O : State → Heap → Prop} (hV : zG l D B O) (G : gH) (a0 : Nat) (a1 : Int32) : gMet (zVm l D B O) m_M_fault 2 [.ref a0, .int a1] G (f_M_fault G a0 a1) := by
  refine gMet.of (by decide +kernel) (Nat.le_of_ble_eq_true rfl) [some (.ref a0), some (.int a1)] (fun ls h => zEn_ok (n := 2) h) ?_
  intro o Gf h
  unfold f_M_fault at h
  refine Y.blk (pc' := 2) (L' := [some (.ref a0), some (.int a1)]) (st' := [.ref a0, .ref a0]) (sg := [(.aload_n 0, 0), (.dup, 0)]) (by decide +kernel) rfl ?_
  refine Y.getI fl_M_211 (by decide +kernel) h (fun v1 h => ?_)
  refine Y.blk (pc' := 7) (L' := [some (.ref a0), some (.int a1)]) (st' := [.int (v1 + (nI 1)), .ref a0]) (sg := [(.iconst 1, nI 1), (.iadd, 0)]) (by decide +kernel) rfl ?_
  refine Y.putf fl_M_211 (by decide) rfl rfl (by decide +kernel) h (fun G2 _ _ h => ?_)
  refine Y.blk (pc' := 11) (L' := [some (.ref a0), some (.int a1)]) (st' := [.int a1]) (sg := [(.iload_n 1, 0)]) (by decide +kernel) rfl ?_
  exact Y.iret rfl (by decide +kernel) h

def f_M_isNoCursor (G : gH) (a0 : Nat) (a1 : Int32) : gR :=
  bI (f_M_isIn G a1 (nI 0) (nI 2)) fun v3 G2 => if v3 = 0 then rZ (nI 1) G2
  else gFA G2 a0 6 3 fun v4 => gLdq G2 v4 105 a1 (rZ (nI 1) G2) fun v5 => rZ (nI 0) G2
theorem k_M_isNoCursor {l : Launch} {D : va_G} {B : Nat} {O : State → Heap → Prop} (hV : zG l D B O) (G : gH) (a0 : Nat) (a1 : Int32) : gMet (zVm l D B O) m_M_isNoCursor 3 [.ref a0, .int a1] G (f_M_isNoCursor G a0 a1) := by
  refine gMet.of (by decide +kernel) (Nat.le_of_ble_eq_true rfl) [some (.ref a0), some (.int a1)] (fun ls h => zEn_ok (n := 2) h) ?_
  intro o Gf h
  unfold f_M_isNoCursor at h
  refine Y.blk (pc' := 3) (L' := [some (.ref a0), some (.int a1)]) (st' := [.int (nI 2), .int (nI 0), .int a1]) (sg := [(.iload_n 1, 0), (.iconst 0, nI 0), (.iconst 2, nI 2)]) (by decide +kernel) rfl ?_
  refine Y.callI (yC.S (As := [.int a1, .int (nI 0), .int (nI 2)]) (st := []) hV.1 cb_M_isIn lk_M_40 st_M_isIn (by decide +kernel) rfl rfl (Nat.le_of_ble_eq_true rfl) (by decide)) (k_M_isIn hV G a1 (nI 0) (nI 2)) h (fun v3 G2 _ h => ?_)
  refine Y.if_eq (off := 12) (tgt := 18) (by decide +kernel) (by decide) h (fun c6 h => ?_) (fun c6 h => ?_)
  · refine Y.blk (pc' := 19) (L' := [some (.ref a0), some (.int a1)]) (st' := [.int (nI 1)]) (sg := [(.iconst 1, nI 1)]) (by decide +kernel) rfl ?_
    refine Y.goto (off := 4) (tgt := 23) (by decide +kernel) (by decide) ?_
    exact Y.zret rfl (by decide +kernel) h
  · refine Y.blk (pc' := 10) (L' := [some (.ref a0), some (.int a1)]) (st' := [.ref a0]) (sg := [(.aload_n 0, 0)]) (by decide +kernel) rfl ?_
    refine Y.getA fl_M_24 (by decide +kernel) h (fun v4 h => ?_)
    refine Y.blk (pc' := 14) (L' := [some (.ref a0), some (.int a1)]) (st' := [.int a1, .ref v4]) (sg := [(.iload_n 1, 0)]) (by decide +kernel) rfl ?_
    refine Y.aald (t0 := 5) (by decide +kernel) rfl h (fun h => ?_) (fun v5 h => ?_)
    · refine Y.ifnonnull_n (off := 7) (by decide +kernel) ?_
      refine Y.blk (pc' := 19) (L' := [some (.ref a0), some (.int a1)]) (st' := [.int (nI 1)]) (sg := [(.iconst 1, nI 1)]) (by decide +kernel) rfl ?_
      refine Y.goto (off := 4) (tgt := 23) (by decide +kernel) (by decide) ?_
      exact Y.zret rfl (by decide +kernel) h
    · refine Y.ifnonnull_r (off := 7) (tgt := 22) (by decide +kernel) (by decide) ?_
      refine Y.blk (pc' := 23) (L' := [some (.ref a0), some (.int a1)]) (st' := [.int (nI 0)]) (sg := [(.iconst 0, nI 0)]) (by decide +kernel) rfl ?_
      exact Y.zret rfl (by decide +kernel) h

def f_M_drop (G : gH) (a0 : Nat) (a1 : Int32) : gR :=
  gOb G a0 6 fun o2 => bI (f_M_isNoCursor G a0 a1) fun v5 G4 => gOb G4 a0 6 fun o7 => bI (f_M_start G4 a0 v5 (nI 1)) fun v10 G9 => if v10 = 0 then (gFA G9 a0 6 3 fun v11 => gLdq G9 v11 105 a1 (none) fun v12 => gFI G9 v12 4 3 fun v13 => if v13 = 0 then (gFI G9 v12 4 2 fun v14 => if v14 = (-1) then gOb G9 a0 6 fun o16 => bI (f_M_fault G9 a0 (-7)) fun v19 G18 => rI v19 G18
        else gFI G9 v12 4 0 fun v20 => gFI G9 v12 4 2 fun v21 => gOb G9 a0 6 fun o23 => bA (f_M_take G9 a0 v20 v21) fun v26 G25 => gFI G25 v12 4 2 fun v27 => gPut G25 v12 4 1 (.int v27) fun G28 => gPut G28 v12 4 2 (.int (-1)) fun G29 => gFI G29 v12 4 0 fun v30 => gOb G29 a0 6 fun o32 => bV (f_M_change G29 a0 v30 (-1) a1) fun G34 => gFI G34 v12 4 0 fun v35 => gOb G34 a0 6 fun o37 => bI (f_M_length G34 a0 v35) fun v40 G39 => rI v40 G39)
      else gOb G9 a0 6 fun o43 => bI (f_M_fault G9 a0 (-9)) fun v46 G45 => rI v46 G45)
  else rI (nI 0) G9
theorem k_M_drop {l : Launch} {D : va_G} {B : Nat} {O : State → Heap → Prop} (hV : zG l D B O) (G : gH) (a0 : Nat) (a1 : Int32) : gMet (zVm l D B O) m_M_drop 14 [.ref a0, .int a1] G (f_M_drop G a0 a1) := by
  refine gMet.of (by decide +kernel) (Nat.le_of_ble_eq_true rfl) [some (.ref a0), some (.int a1), none] (fun ls h => zEn_ok (n := 3) h) ?_
  intro o Gf h
  unfold f_M_drop at h
  refine Y.blk (pc' := 3) (L' := [some (.ref a0), some (.int a1), none]) (st' := [.int a1, .ref a0, .ref a0]) (sg := [(.aload_n 0, 0), (.aload_n 0, 0), (.iload_n 1, 0)]) (by decide +kernel) rfl ?_
  obtain ⟨_, o2, e1, m3, h⟩ := gOb_inv h
  refine Y.callI (yC.Vi (b := a0) (As := [.int a1]) (st := [.ref a0]) (r := ("PartlisterModel", T_M, 9)) hV.1 cb_M_isNoCursor lk_M_214 in_M_isNoCursor rfl se_M_isNoCursor (by decide +kernel) rfl rfl (Nat.le_of_ble_eq_true rfl) (by decide) e1 m3) (k_M_isNoCursor hV G a0 a1) h (fun v5 G4 _ h => ?_)
  refine Y.blk (pc' := 7) (L' := [some (.ref a0), some (.int a1), none]) (st' := [.int (nI 1), .int v5, .ref a0]) (sg := [(.iconst 1, nI 1)]) (by decide +kernel) rfl ?_
  obtain ⟨_, o7, e6, m8, h⟩ := gOb_inv h
  refine Y.callI (yC.Vi (b := a0) (As := [.int v5, .int (nI 1)]) (st := []) (r := ("PartlisterModel", T_M, 9)) hV.1 cb_M_start lk_M_114 in_M_start rfl se_M_start (by decide +kernel) rfl rfl (Nat.le_of_ble_eq_true rfl) (by decide) e6 m8) (k_M_start hV G4 a0 v5 (nI 1)) h (fun v10 G9 _ h => ?_)
  refine Y.if_eq (off := 5) (tgt := 15) (by decide +kernel) (by decide) h (fun c48 h => ?_) (fun c48 h => ?_)
  · refine Y.blk (pc' := 16) (L' := [some (.ref a0), some (.int a1), none]) (st' := [.ref a0]) (sg := [(.aload_n 0, 0)]) (by decide +kernel) rfl ?_
    refine Y.getA fl_M_24 (by decide +kernel) h (fun v11 h => ?_)
    refine Y.blk (pc' := 20) (L' := [some (.ref a0), some (.int a1), none]) (st' := [.int a1, .ref v11]) (sg := [(.iload_n 1, 0)]) (by decide +kernel) rfl ?_
    refine Y.aald (t0 := 5) (by decide +kernel) rfl h (fun h => ?_) (fun v12 h => ?_)
    · refine Y.blk (pc' := 23) (L' := [some (.ref a0), some (.int a1), some (.null)]) (st' := [.null]) (sg := [(.astore_n 2, 0), (.aload_n 2, 0)]) (by decide +kernel) rfl ?_
      cases h
    · refine Y.blk (pc' := 23) (L' := [some (.ref a0), some (.int a1), some (.ref v12)]) (st' := [.ref v12]) (sg := [(.astore_n 2, 0), (.aload_n 2, 0)]) (by decide +kernel) rfl ?_
      refine Y.getI fl_M_99 (by decide +kernel) h (fun v13 h => ?_)
      refine Y.if_eq (off := 10) (tgt := 36) (by decide +kernel) (by decide) h (fun c47 h => ?_) (fun c47 h => ?_)
      · refine Y.blk (pc' := 37) (L' := [some (.ref a0), some (.int a1), some (.ref v12)]) (st' := [.ref v12]) (sg := [(.aload_n 2, 0)]) (by decide +kernel) rfl ?_
        refine Y.getI fl_M_220 (by decide +kernel) h (fun v14 h => ?_)
        refine Y.blk (pc' := 41) (L' := [some (.ref a0), some (.int a1), some (.ref v12)]) (st' := [.int (-1), .int v14]) (sg := [(.iconst (-1), -1)]) (by decide +kernel) rfl ?_
        refine Y.ic_ne (off := 10) (tgt := 51) (by decide +kernel) (by decide) h (fun c41 h => ?_) (fun c41 h => ?_)
        · refine Y.blk (pc' := 47) (L' := [some (.ref a0), some (.int a1), some (.ref v12)]) (st' := [.int (-7), .ref a0]) (sg := [(.aload_n 0, 0), (.bipush (-7), -7)]) (by decide +kernel) rfl ?_
          obtain ⟨_, o16, e15, m17, h⟩ := gOb_inv h
          refine Y.callI (yC.Vi (b := a0) (As := [.int (-7)]) (st := []) (r := ("PartlisterModel", T_M, 9)) hV.1 cb_M_fault lk_M_217 in_M_fault rfl se_M_fault (by decide +kernel) rfl rfl (Nat.le_of_ble_eq_true rfl) (by decide) e15 m17) (k_M_fault hV G9 a0 (-7)) h (fun v19 G18 _ h => ?_)
          exact Y.iret rfl (by decide +kernel) h
        · refine Y.blk (pc' := 53) (L' := [some (.ref a0), some (.int a1), some (.ref v12)]) (st' := [.ref v12, .ref a0]) (sg := [(.aload_n 0, 0), (.aload_n 2, 0)]) (by decide +kernel) rfl ?_
          refine Y.getI fl_M_89 (by decide +kernel) h (fun v20 h => ?_)
          refine Y.blk (pc' := 57) (L' := [some (.ref a0), some (.int a1), some (.ref v12)]) (st' := [.ref v12, .int v20, .ref a0]) (sg := [(.aload_n 2, 0)]) (by decide +kernel) rfl ?_
          refine Y.getI fl_M_220 (by decide +kernel) h (fun v21 h => ?_)
          obtain ⟨_, o23, e22, m24, h⟩ := gOb_inv h
          refine Y.callA (yC.Vi (b := a0) (As := [.int v20, .int v21]) (st := []) (r := ("PartlisterModel", T_M, 9)) hV.1 cb_M_take lk_M_157 in_M_take rfl se_M_take (by decide +kernel) rfl rfl (Nat.le_of_ble_eq_true rfl) (by decide) e22 m24) (k_M_take hV G9 a0 v20 v21) h (fun v26 G25 _ h => ?_)
          refine Y.blk (pc' := 66) (L' := [some (.ref a0), some (.int a1), some (.ref v12)]) (st' := [.ref v12, .ref v12]) (sg := [(.pop, 0), (.aload_n 2, 0), (.aload_n 2, 0)]) (by decide +kernel) rfl ?_
          refine Y.getI fl_M_220 (by decide +kernel) h (fun v27 h => ?_)
          refine Y.putf fl_M_208 (by decide) rfl rfl (by decide +kernel) h (fun G28 _ _ h => ?_)
          refine Y.blk (pc' := 74) (L' := [some (.ref a0), some (.int a1), some (.ref v12)]) (st' := [.int (-1), .ref v12]) (sg := [(.aload_n 2, 0), (.iconst (-1), -1)]) (by decide +kernel) rfl ?_
          refine Y.putf fl_M_220 (by decide) rfl rfl (by decide +kernel) h (fun G29 _ _ h => ?_)
          refine Y.blk (pc' := 79) (L' := [some (.ref a0), some (.int a1), some (.ref v12)]) (st' := [.ref v12, .ref a0]) (sg := [(.aload_n 0, 0), (.aload_n 2, 0)]) (by decide +kernel) rfl ?_
          refine Y.getI fl_M_89 (by decide +kernel) h (fun v30 h => ?_)
          refine Y.blk (pc' := 84) (L' := [some (.ref a0), some (.int a1), some (.ref v12)]) (st' := [.int a1, .int (-1), .int v30, .ref a0]) (sg := [(.iconst (-1), -1), (.iload_n 1, 0)]) (by decide +kernel) rfl ?_
          obtain ⟨_, o32, e31, m33, h⟩ := gOb_inv h
          refine Y.callN (yC.Vi (b := a0) (As := [.int v30, .int (-1), .int a1]) (st := []) (r := ("PartlisterModel", T_M, 9)) hV.1 cb_M_change lk_M_128 in_M_change rfl se_M_change (by decide +kernel) rfl rfl (Nat.le_of_ble_eq_true rfl) (by decide) e31 m33) (k_M_change hV G29 a0 v30 (-1) a1) h (fun G34 _ h => ?_)
          refine Y.blk (pc' := 89) (L' := [some (.ref a0), some (.int a1), some (.ref v12)]) (st' := [.ref v12, .ref a0]) (sg := [(.aload_n 0, 0), (.aload_n 2, 0)]) (by decide +kernel) rfl ?_
          refine Y.getI fl_M_89 (by decide +kernel) h (fun v35 h => ?_)
          obtain ⟨_, o37, e36, m38, h⟩ := gOb_inv h
          refine Y.callI (yC.Vi (b := a0) (As := [.int v35]) (st := []) (r := ("PartlisterModel", T_M, 9)) hV.1 cb_M_length lk_M_74 in_M_length rfl se_M_length (by decide +kernel) rfl rfl (Nat.le_of_ble_eq_true rfl) (by decide) e36 m38) (k_M_length hV G34 a0 v35) h (fun v40 G39 _ h => ?_)
          exact Y.iret rfl (by decide +kernel) h
      · refine Y.blk (pc' := 32) (L' := [some (.ref a0), some (.int a1), some (.ref v12)]) (st' := [.int (-9), .ref a0]) (sg := [(.aload_n 0, 0), (.bipush (-9), -9)]) (by decide +kernel) rfl ?_
        obtain ⟨_, o43, e42, m44, h⟩ := gOb_inv h
        refine Y.callI (yC.Vi (b := a0) (As := [.int (-9)]) (st := []) (r := ("PartlisterModel", T_M, 9)) hV.1 cb_M_fault lk_M_217 in_M_fault rfl se_M_fault (by decide +kernel) rfl rfl (Nat.le_of_ble_eq_true rfl) (by decide) e42 m44) (k_M_fault hV G9 a0 (-9)) h (fun v46 G45 _ h => ?_)
        exact Y.iret rfl (by decide +kernel) h
  · refine Y.blk (pc' := 14) (L' := [some (.ref a0), some (.int a1), none]) (st' := [.int (nI 0)]) (sg := [(.iconst 0, nI 0)]) (by decide +kernel) rfl ?_
    exact Y.iret rfl (by decide +kernel) h

def f_M_end (G : gH) (a0 : Nat) (a1 : Int32) : gR :=
  gOb G a0 6 fun o2 => bI (f_M_isNoCursor G a0 a1) fun v5 G4 => gOb G4 a0 6 fun o7 => bI (f_M_start G4 a0 v5 (nI 1)) fun v10 G9 => if v10 = 0 then gFA G9 a0 6 3 fun v11 => gLdq G9 v11 105 a1 (none) fun v12 => gFI G9 v12 4 3 fun v13 => gOb G9 a0 6 fun o15 => bV (f_M_endCursor G9 a0 a1) fun G17 => rZ v13 G17
  else rZ (nI 0) G9
theorem k_M_end {l : Launch} {D : va_G} {B : Nat} {O : State → Heap → Prop} (hV : zG l D B O) (G : gH) (a0 : Nat) (a1 : Int32) : gMet (zVm l D B O) m_M_end 4 [.ref a0, .int a1] G (f_M_end G a0 a1) := by
  refine gMet.of (by decide +kernel) (Nat.le_of_ble_eq_true rfl) [some (.ref a0), some (.int a1), none] (fun ls h => zEn_ok (n := 3) h) ?_
  intro o Gf h
  unfold f_M_end at h
  refine Y.blk (pc' := 3) (L' := [some (.ref a0), some (.int a1), none]) (st' := [.int a1, .ref a0, .ref a0]) (sg := [(.aload_n 0, 0), (.aload_n 0, 0), (.iload_n 1, 0)]) (by decide +kernel) rfl ?_
  obtain ⟨_, o2, e1, m3, h⟩ := gOb_inv h
  refine Y.callI (yC.Vi (b := a0) (As := [.int a1]) (st := [.ref a0]) (r := ("PartlisterModel", T_M, 9)) hV.1 cb_M_isNoCursor lk_M_214 in_M_isNoCursor rfl se_M_isNoCursor (by decide +kernel) rfl rfl (Nat.le_of_ble_eq_true rfl) (by decide) e1 m3) (k_M_isNoCursor hV G a0 a1) h (fun v5 G4 _ h => ?_)
  refine Y.blk (pc' := 7) (L' := [some (.ref a0), some (.int a1), none]) (st' := [.int (nI 1), .int v5, .ref a0]) (sg := [(.iconst 1, nI 1)]) (by decide +kernel) rfl ?_
  obtain ⟨_, o7, e6, m8, h⟩ := gOb_inv h
  refine Y.callI (yC.Vi (b := a0) (As := [.int v5, .int (nI 1)]) (st := []) (r := ("PartlisterModel", T_M, 9)) hV.1 cb_M_start lk_M_114 in_M_start rfl se_M_start (by decide +kernel) rfl rfl (Nat.le_of_ble_eq_true rfl) (by decide) e6 m8) (k_M_start hV G4 a0 v5 (nI 1)) h (fun v10 G9 _ h => ?_)
  refine Y.if_eq (off := 5) (tgt := 15) (by decide +kernel) (by decide) h (fun c18 h => ?_) (fun c18 h => ?_)
  · refine Y.blk (pc' := 16) (L' := [some (.ref a0), some (.int a1), none]) (st' := [.ref a0]) (sg := [(.aload_n 0, 0)]) (by decide +kernel) rfl ?_
    refine Y.getA fl_M_24 (by decide +kernel) h (fun v11 h => ?_)
    refine Y.blk (pc' := 20) (L' := [some (.ref a0), some (.int a1), none]) (st' := [.int a1, .ref v11]) (sg := [(.iload_n 1, 0)]) (by decide +kernel) rfl ?_
    refine Y.aald (t0 := 5) (by decide +kernel) rfl h (fun h => ?_) (fun v12 h => ?_)
    · cases h
    · refine Y.getI fl_M_99 (by decide +kernel) h (fun v13 h => ?_)
      refine Y.blk (pc' := 27) (L' := [some (.ref a0), some (.int a1), some (.int v13)]) (st' := [.int a1, .ref a0]) (sg := [(.istore_n 2, 0), (.aload_n 0, 0), (.iload_n 1, 0)]) (by decide +kernel) rfl ?_
      obtain ⟨_, o15, e14, m16, h⟩ := gOb_inv h
      refine Y.callN (yC.Vi (b := a0) (As := [.int a1]) (st := []) (r := ("PartlisterModel", T_M, 9)) hV.1 cb_M_endCursor lk_M_92 in_M_endCursor rfl se_M_endCursor (by decide +kernel) rfl rfl (Nat.le_of_ble_eq_true rfl) (by decide) e14 m16) (k_M_endCursor hV G9 a0 a1) h (fun G17 _ h => ?_)
      refine Y.blk (pc' := 31) (L' := [some (.ref a0), some (.int a1), some (.int v13)]) (st' := [.int v13]) (sg := [(.iload_n 2, 0)]) (by decide +kernel) rfl ?_
      exact Y.zret rfl (by decide +kernel) h
  · refine Y.blk (pc' := 14) (L' := [some (.ref a0), some (.int a1), none]) (st' := [.int (nI 0)]) (sg := [(.iconst 0, nI 0)]) (by decide +kernel) rfl ?_
    exact Y.zret rfl (by decide +kernel) h

def f_M_isNoPlace (G : gH) (a0 : Nat) (a1 : Int32) (a2 : Int32) : gR :=
  gOb G a0 6 fun o2 => bI (f_M_length G a0 a1) fun v5 G4 => bI (f_M_isIn G4 a2 (nI 0) (v5 - (nI 1))) fun v8 G7 => if v8 = 0 then rZ (nI 1) G7
  else rZ (nI 0) G7
theorem k_M_isNoPlace {l : Launch} {D : va_G} {B : Nat} {O : State → Heap → Prop} (hV : zG l D B O) (G : gH) (a0 : Nat) (a1 : Int32) (a2 : Int32) : gMet (zVm l D B O) m_M_isNoPlace 6 [.ref a0, .int a1, .int a2] G (f_M_isNoPlace G a0 a1 a2) := by
  refine gMet.of (by decide +kernel) (Nat.le_of_ble_eq_true rfl) [some (.ref a0), some (.int a1), some (.int a2)] (fun ls h => zEn_ok (n := 3) h) ?_
  intro o Gf h
  unfold f_M_isNoPlace at h
  refine Y.blk (pc' := 4) (L' := [some (.ref a0), some (.int a1), some (.int a2)]) (st' := [.int a1, .ref a0, .int (nI 0), .int a2]) (sg := [(.iload_n 2, 0), (.iconst 0, nI 0), (.aload_n 0, 0), (.iload_n 1, 0)]) (by decide +kernel) rfl ?_
  obtain ⟨_, o2, e1, m3, h⟩ := gOb_inv h
  refine Y.callI (yC.Vi (b := a0) (As := [.int a1]) (st := [.int (nI 0), .int a2]) (r := ("PartlisterModel", T_M, 9)) hV.1 cb_M_length lk_M_74 in_M_length rfl se_M_length (by decide +kernel) rfl rfl (Nat.le_of_ble_eq_true rfl) (by decide) e1 m3) (k_M_length hV G a0 a1) h (fun v5 G4 _ h => ?_)
  refine Y.blk (pc' := 9) (L' := [some (.ref a0), some (.int a1), some (.int a2)]) (st' := [.int (v5 - (nI 1)), .int (nI 0), .int a2]) (sg := [(.iconst 1, nI 1), (.isub, 0)]) (by decide +kernel) rfl ?_
  refine Y.callI (yC.S (As := [.int a2, .int (nI 0), .int (v5 - (nI 1))]) (st := []) hV.1 cb_M_isIn lk_M_40 st_M_isIn (by decide +kernel) rfl rfl (Nat.le_of_ble_eq_true rfl) (by decide)) (k_M_isIn hV G4 a2 (nI 0) (v5 - (nI 1))) h (fun v8 G7 _ h => ?_)
  refine Y.if_ne (off := 7) (tgt := 19) (by decide +kernel) (by decide) h (fun c9 h => ?_) (fun c9 h => ?_)
  · refine Y.blk (pc' := 16) (L' := [some (.ref a0), some (.int a1), some (.int a2)]) (st' := [.int (nI 1)]) (sg := [(.iconst 1, nI 1)]) (by decide +kernel) rfl ?_
    refine Y.goto (off := 4) (tgt := 20) (by decide +kernel) (by decide) ?_
    exact Y.zret rfl (by decide +kernel) h
  · refine Y.blk (pc' := 20) (L' := [some (.ref a0), some (.int a1), some (.int a2)]) (st' := [.int (nI 0)]) (sg := [(.iconst 0, nI 0)]) (by decide +kernel) rfl ?_
    exact Y.zret rfl (by decide +kernel) h

def f_M_write (G : gH) (a0 : Nat) (a1 : Int32) (a2 : Int32) (a3 : Nat) : gR :=
  gOb G a0 6 fun o2 => bA (f_M_row G a0 a1) fun v5 G4 => gOb G4 a0 6 fun o7 => bI (f_M_base zDp G4 a0 a1) fun v10 G9 => gOb G9 v5 9 fun o12 => bA (f_AL_set G9 v5 (v10 + a2) a3) fun v15 G14 => gCaA G14 v15 100 (rA v15 G14)
theorem k_M_write {l : Launch} {D : va_G} {B : Nat} {O : State → Heap → Prop} (hV : zG l D B O) (G : gH) (a0 : Nat) (a1 : Int32) (a2 : Int32) (a3 : Nat) : gMet (zVm l D B O) m_M_write 12 [.ref a0, .int a1, .int a2, .ref a3] G (f_M_write G a0 a1 a2 a3) := by
  refine gMet.of (by decide +kernel) (Nat.le_of_ble_eq_true rfl) [some (.ref a0), some (.int a1), some (.int a2), some (.ref a3)] (fun ls h => zEn_ok (n := 4) h) ?_
  intro o Gf h
  unfold f_M_write at h
  refine Y.blk (pc' := 2) (L' := [some (.ref a0), some (.int a1), some (.int a2), some (.ref a3)]) (st' := [.int a1, .ref a0]) (sg := [(.aload_n 0, 0), (.iload_n 1, 0)]) (by decide +kernel) rfl ?_
  obtain ⟨_, o2, e1, m3, h⟩ := gOb_inv h
  refine Y.callA (yC.Vi (b := a0) (As := [.int a1]) (st := []) (r := ("PartlisterModel", T_M, 9)) hV.1 cb_M_row lk_M_68 in_M_row rfl se_M_row (by decide +kernel) rfl rfl (Nat.le_of_ble_eq_true rfl) (by decide) e1 m3) (k_M_row hV G a0 a1) h (fun v5 G4 _ h => ?_)
  refine Y.blk (pc' := 7) (L' := [some (.ref a0), some (.int a1), some (.int a2), some (.ref a3)]) (st' := [.int a1, .ref a0, .ref v5]) (sg := [(.aload_n 0, 0), (.iload_n 1, 0)]) (by decide +kernel) rfl ?_
  obtain ⟨_, o7, e6, m8, h⟩ := gOb_inv h
  refine Y.callI (yC.Vi (b := a0) (As := [.int a1]) (st := [.ref v5]) (r := ("PartlisterModel", T_M, 9)) hV.1 cb_M_base lk_M_54 in_M_base rfl se_M_base (by decide +kernel) rfl rfl (Nat.le_of_ble_eq_true rfl) (by decide) e6 m8) (k_M_base zDp hV G4 a0 a1) h (fun v10 G9 _ h => ?_)
  refine Y.blk (pc' := 13) (L' := [some (.ref a0), some (.int a1), some (.int a2), some (.ref a3)]) (st' := [.ref a3, .int (v10 + a2), .ref v5]) (sg := [(.iload_n 2, 0), (.iadd, 0), (.aload_n 3, 0)]) (by decide +kernel) rfl ?_
  obtain ⟨_, o12, e11, m13, h⟩ := gOb_inv h
  refine Y.callA (yC.Vi (b := v5) (As := [.int (v10 + a2), .ref a3]) (st := []) (r := ("java/util/ArrayList", T_AL, 3)) hV.1 cb_AL_set lk_M_143 in_AL_set rfl se_AL_set (by decide +kernel) rfl rfl (Nat.le_of_ble_eq_true rfl) (by decide) e11 m13) (k_AL_set hV G9 v5 (v10 + a2) a3) h (fun v15 G14 _ h => ?_)
  refine Y.castA (t0 := 0) (nm := "[I") (by decide +kernel) rfl (by decide) ck_M_72 h (fun h => ?_)
  exact Y.aret rfl (by first | exact Or.inl ⟨_, rfl⟩ | exact Or.inr ⟨_, rfl⟩) (by decide +kernel) h

def f_M_exchange (G : gH) (a0 : Nat) (a1 : Int32) (a2 : Int32) (a3 : Int32) : gR :=
  gOb G a0 6 fun o2 => bI (f_M_isNoList G a0 a1) fun v5 G4 => gOb G4 a0 6 fun o7 => bI (f_M_start G4 a0 v5 (nI 1)) fun v10 G9 => if v10 = 0 then (gOb G9 a0 6 fun o12 => bI (f_M_isNoPlace G9 a0 a1 a2) fun v15 G14 => if v15 = 0 then (gOb G14 a0 6 fun o17 => bI (f_M_isNoPlace G14 a0 a1 a3) fun v20 G19 => if v20 = 0 then (gOb G19 a0 6 fun o22 => bI (f_M_refuse G19 a0 (nI 0) (nI 1)) fun v25 G24 => if v25 = 0 then (gOb G24 a0 6 fun o27 => bA (f_M_at G24 a0 a1 a3) fun v30 G29 => gOb G29 a0 6 fun o32 => bA (f_M_write G29 a0 a1 a2 v30) fun v35 G34 => gOb G34 a0 6 fun o37 => bA (f_M_write G34 a0 a1 a3 v35) fun v40 G39 => gOb G39 a0 6 fun o42 => bA (f_M_at G39 a0 a1 a2) fun v45 G44 => gLd G44 v45 100 (nI 0) fun v46 => gOb G44 a0 6 fun o48 => bA (f_M_at G44 a0 a1 a3) fun v51 G50 => gLd G50 v51 100 (nI 0) fun v52 => if v46 = v52 then rZ (nI 1) G50
          else rZ (nI 0) G50)
        else rZ (nI 0) G24)
      else gOb G19 a0 6 fun o56 => bI (f_M_refuse G19 a0 (nI 1) (nI 1)) fun v59 G58 => if v59 = 0 then (gOb G58 a0 6 fun o61 => bA (f_M_at G58 a0 a1 a3) fun v64 G63 => gOb G63 a0 6 fun o66 => bA (f_M_write G63 a0 a1 a2 v64) fun v69 G68 => gOb G68 a0 6 fun o71 => bA (f_M_write G68 a0 a1 a3 v69) fun v74 G73 => gOb G73 a0 6 fun o76 => bA (f_M_at G73 a0 a1 a2) fun v79 G78 => gLd G78 v79 100 (nI 0) fun v80 => gOb G78 a0 6 fun o82 => bA (f_M_at G78 a0 a1 a3) fun v85 G84 => gLd G84 v85 100 (nI 0) fun v86 => if v80 = v86 then rZ (nI 1) G84
          else rZ (nI 0) G84)
        else rZ (nI 0) G58)
    else gOb G14 a0 6 fun o91 => bI (f_M_refuse G14 a0 (nI 1) (nI 1)) fun v94 G93 => if v94 = 0 then (gOb G93 a0 6 fun o96 => bA (f_M_at G93 a0 a1 a3) fun v99 G98 => gOb G98 a0 6 fun o101 => bA (f_M_write G98 a0 a1 a2 v99) fun v104 G103 => gOb G103 a0 6 fun o106 => bA (f_M_write G103 a0 a1 a3 v104) fun v109 G108 => gOb G108 a0 6 fun o111 => bA (f_M_at G108 a0 a1 a2) fun v114 G113 => gLd G113 v114 100 (nI 0) fun v115 => gOb G113 a0 6 fun o117 => bA (f_M_at G113 a0 a1 a3) fun v120 G119 => gLd G119 v120 100 (nI 0) fun v121 => if v115 = v121 then rZ (nI 1) G119
        else rZ (nI 0) G119)
      else rZ (nI 0) G93)
  else rZ (nI 0) G9
theorem k_M_exchange {l : Launch} {D : va_G} {B : Nat} {O : State → Heap → Prop} (hV : zG l D B O) (G : gH) (a0 : Nat) (a1 : Int32) (a2 : Int32) (a3 : Int32) : gMet (zVm l D B O) m_M_exchange 13 [.ref a0, .int a1, .int a2, .int a3] G (f_M_exchange G a0 a1 a2 a3) := by
  refine gMet.of (by decide +kernel) (Nat.le_of_ble_eq_true rfl) [some (.ref a0), some (.int a1), some (.int a2), some (.int a3), none] (fun ls h => zEn_ok (n := 5) h) ?_
  intro o Gf h
  unfold f_M_exchange at h
  refine Y.blk (pc' := 3) (L' := [some (.ref a0), some (.int a1), some (.int a2), some (.int a3), none]) (st' := [.int a1, .ref a0, .ref a0]) (sg := [(.aload_n 0, 0), (.aload_n 0, 0), (.iload_n 1, 0)]) (by decide +kernel) rfl ?_
  obtain ⟨_, o2, e1, m3, h⟩ := gOb_inv h
  refine Y.callI (yC.Vi (b := a0) (As := [.int a1]) (st := [.ref a0]) (r := ("PartlisterModel", T_M, 9)) hV.1 cb_M_isNoList lk_M_110 in_M_isNoList rfl se_M_isNoList (by decide +kernel) rfl rfl (Nat.le_of_ble_eq_true rfl) (by decide) e1 m3) (k_M_isNoList hV G a0 a1) h (fun v5 G4 _ h => ?_)
  refine Y.blk (pc' := 7) (L' := [some (.ref a0), some (.int a1), some (.int a2), some (.int a3), none]) (st' := [.int (nI 1), .int v5, .ref a0]) (sg := [(.iconst 1, nI 1)]) (by decide +kernel) rfl ?_
  obtain ⟨_, o7, e6, m8, h⟩ := gOb_inv h
  refine Y.callI (yC.Vi (b := a0) (As := [.int v5, .int (nI 1)]) (st := []) (r := ("PartlisterModel", T_M, 9)) hV.1 cb_M_start lk_M_114 in_M_start rfl se_M_start (by decide +kernel) rfl rfl (Nat.le_of_ble_eq_true rfl) (by decide) e6 m8) (k_M_start hV G4 a0 v5 (nI 1)) h (fun v10 G9 _ h => ?_)
  refine Y.if_ne (off := 34) (tgt := 44) (by decide +kernel) (by decide) h (fun c125 h => ?_) (fun c125 h => ?_)
  · refine Y.blk (pc' := 17) (L' := [some (.ref a0), some (.int a1), some (.int a2), some (.int a3), none]) (st' := [.int a2, .int a1, .ref a0, .ref a0]) (sg := [(.aload_n 0, 0), (.aload_n 0, 0), (.iload_n 1, 0), (.iload_n 2, 0)]) (by decide +kernel) rfl ?_
    obtain ⟨_, o12, e11, m13, h⟩ := gOb_inv h
    refine Y.callI (yC.Vi (b := a0) (As := [.int a1, .int a2]) (st := [.ref a0]) (r := ("PartlisterModel", T_M, 9)) hV.1 cb_M_isNoPlace lk_M_147 in_M_isNoPlace rfl se_M_isNoPlace (by decide +kernel) rfl rfl (Nat.le_of_ble_eq_true rfl) (by decide) e11 m13) (k_M_isNoPlace hV G9 a0 a1 a2) h (fun v15 G14 _ h => ?_)
    refine Y.if_ne (off := 12) (tgt := 32) (by decide +kernel) (by decide) h (fun c124 h => ?_) (fun c124 h => ?_)
    · refine Y.blk (pc' := 26) (L' := [some (.ref a0), some (.int a1), some (.int a2), some (.int a3), none]) (st' := [.int a3, .int a1, .ref a0, .ref a0]) (sg := [(.aload_n 0, 0), (.iload_n 1, 0), (.iload_n 3, 0)]) (by decide +kernel) rfl ?_
      obtain ⟨_, o17, e16, m18, h⟩ := gOb_inv h
      refine Y.callI (yC.Vi (b := a0) (As := [.int a1, .int a3]) (st := [.ref a0]) (r := ("PartlisterModel", T_M, 9)) hV.1 cb_M_isNoPlace lk_M_147 in_M_isNoPlace rfl se_M_isNoPlace (by decide +kernel) rfl rfl (Nat.le_of_ble_eq_true rfl) (by decide) e16 m18) (k_M_isNoPlace hV G14 a0 a1 a3) h (fun v20 G19 _ h => ?_)
      refine Y.if_eq (off := 7) (tgt := 36) (by decide +kernel) (by decide) h (fun c89 h => ?_) (fun c89 h => ?_)
      · refine Y.blk (pc' := 38) (L' := [some (.ref a0), some (.int a1), some (.int a2), some (.int a3), none]) (st' := [.int (nI 1), .int (nI 0), .ref a0]) (sg := [(.iconst 0, nI 0), (.iconst 1, nI 1)]) (by decide +kernel) rfl ?_
        obtain ⟨_, o22, e21, m23, h⟩ := gOb_inv h
        refine Y.callI (yC.Vi (b := a0) (As := [.int (nI 0), .int (nI 1)]) (st := []) (r := ("PartlisterModel", T_M, 9)) hV.1 cb_M_refuse lk_M_36 in_M_refuse rfl se_M_refuse (by decide +kernel) rfl rfl (Nat.le_of_ble_eq_true rfl) (by decide) e21 m23) (k_M_refuse hV G19 a0 (nI 0) (nI 1)) h (fun v25 G24 _ h => ?_)
        refine Y.if_eq (off := 5) (tgt := 46) (by decide +kernel) (by decide) h (fun c54 h => ?_) (fun c54 h => ?_)
        · refine Y.blk (pc' := 52) (L' := [some (.ref a0), some (.int a1), some (.int a2), some (.int a3), none]) (st' := [.int a3, .int a1, .ref a0, .int a2, .int a1, .ref a0]) (sg := [(.aload_n 0, 0), (.iload_n 1, 0), (.iload_n 2, 0), (.aload_n 0, 0), (.iload_n 1, 0), (.iload_n 3, 0)]) (by decide +kernel) rfl ?_
          obtain ⟨_, o27, e26, m28, h⟩ := gOb_inv h
          refine Y.callA (yC.Vi (b := a0) (As := [.int a1, .int a3]) (st := [.int a2, .int a1, .ref a0]) (r := ("PartlisterModel", T_M, 9)) hV.1 cb_M_at lk_M_132 in_M_at rfl se_M_at (by decide +kernel) rfl rfl (Nat.le_of_ble_eq_true rfl) (by decide) e26 m28) (k_M_at hV G24 a0 a1 a3) h (fun v30 G29 _ h => ?_)
          obtain ⟨_, o32, e31, m33, h⟩ := gOb_inv h
          refine Y.callA (yC.Vi (b := a0) (As := [.int a1, .int a2, .ref v30]) (st := []) (r := ("PartlisterModel", T_M, 9)) hV.1 cb_M_write lk_M_150 in_M_write rfl se_M_write (by decide +kernel) rfl rfl (Nat.le_of_ble_eq_true rfl) (by decide) e31 m33) (k_M_write hV G29 a0 a1 a2 v30) h (fun v35 G34 _ h => ?_)
          refine Y.blk (pc' := 65) (L' := [some (.ref a0), some (.int a1), some (.int a2), some (.int a3), some (.ref v35)]) (st' := [.ref v35, .int a3, .int a1, .ref a0]) (sg := [(.astore 4, 0), (.aload_n 0, 0), (.iload_n 1, 0), (.iload_n 3, 0), (.aload 4, 0)]) (by decide +kernel) rfl ?_
          obtain ⟨_, o37, e36, m38, h⟩ := gOb_inv h
          refine Y.callA (yC.Vi (b := a0) (As := [.int a1, .int a3, .ref v35]) (st := []) (r := ("PartlisterModel", T_M, 9)) hV.1 cb_M_write lk_M_150 in_M_write rfl se_M_write (by decide +kernel) rfl rfl (Nat.le_of_ble_eq_true rfl) (by decide) e36 m38) (k_M_write hV G34 a0 a1 a3 v35) h (fun v40 G39 _ h => ?_)
          refine Y.blk (pc' := 72) (L' := [some (.ref a0), some (.int a1), some (.int a2), some (.int a3), some (.ref v35)]) (st' := [.int a2, .int a1, .ref a0]) (sg := [(.pop, 0), (.aload_n 0, 0), (.iload_n 1, 0), (.iload_n 2, 0)]) (by decide +kernel) rfl ?_
          obtain ⟨_, o42, e41, m43, h⟩ := gOb_inv h
          refine Y.callA (yC.Vi (b := a0) (As := [.int a1, .int a2]) (st := []) (r := ("PartlisterModel", T_M, 9)) hV.1 cb_M_at lk_M_132 in_M_at rfl se_M_at (by decide +kernel) rfl rfl (Nat.le_of_ble_eq_true rfl) (by decide) e41 m43) (k_M_at hV G39 a0 a1 a2) h (fun v45 G44 _ h => ?_)
          refine Y.blk (pc' := 76) (L' := [some (.ref a0), some (.int a1), some (.int a2), some (.int a3), some (.ref v35)]) (st' := [.int (nI 0), .ref v45]) (sg := [(.iconst 0, nI 0)]) (by decide +kernel) rfl ?_
          refine Y.iald (t0 := 0) (by decide +kernel) rfl h (fun v46 h => ?_)
          refine Y.blk (pc' := 80) (L' := [some (.ref a0), some (.int a1), some (.int a2), some (.int a3), some (.ref v35)]) (st' := [.int a3, .int a1, .ref a0, .int v46]) (sg := [(.aload_n 0, 0), (.iload_n 1, 0), (.iload_n 3, 0)]) (by decide +kernel) rfl ?_
          obtain ⟨_, o48, e47, m49, h⟩ := gOb_inv h
          refine Y.callA (yC.Vi (b := a0) (As := [.int a1, .int a3]) (st := [.int v46]) (r := ("PartlisterModel", T_M, 9)) hV.1 cb_M_at lk_M_132 in_M_at rfl se_M_at (by decide +kernel) rfl rfl (Nat.le_of_ble_eq_true rfl) (by decide) e47 m49) (k_M_at hV G44 a0 a1 a3) h (fun v51 G50 _ h => ?_)
          refine Y.blk (pc' := 84) (L' := [some (.ref a0), some (.int a1), some (.int a2), some (.int a3), some (.ref v35)]) (st' := [.int (nI 0), .ref v51, .int v46]) (sg := [(.iconst 0, nI 0)]) (by decide +kernel) rfl ?_
          refine Y.iald (t0 := 0) (by decide +kernel) rfl h (fun v52 h => ?_)
          refine Y.ic_ne (off := 7) (tgt := 92) (by decide +kernel) (by decide) h (fun c53 h => ?_) (fun c53 h => ?_)
          · refine Y.blk (pc' := 89) (L' := [some (.ref a0), some (.int a1), some (.int a2), some (.int a3), some (.ref v35)]) (st' := [.int (nI 1)]) (sg := [(.iconst 1, nI 1)]) (by decide +kernel) rfl ?_
            refine Y.goto (off := 4) (tgt := 93) (by decide +kernel) (by decide) ?_
            exact Y.zret rfl (by decide +kernel) h
          · refine Y.blk (pc' := 93) (L' := [some (.ref a0), some (.int a1), some (.int a2), some (.int a3), some (.ref v35)]) (st' := [.int (nI 0)]) (sg := [(.iconst 0, nI 0)]) (by decide +kernel) rfl ?_
            exact Y.zret rfl (by decide +kernel) h
        · refine Y.blk (pc' := 45) (L' := [some (.ref a0), some (.int a1), some (.int a2), some (.int a3), none]) (st' := [.int (nI 0)]) (sg := [(.iconst 0, nI 0)]) (by decide +kernel) rfl ?_
          exact Y.zret rfl (by decide +kernel) h
      · refine Y.blk (pc' := 33) (L' := [some (.ref a0), some (.int a1), some (.int a2), some (.int a3), none]) (st' := [.int (nI 1), .ref a0]) (sg := [(.iconst 1, nI 1)]) (by decide +kernel) rfl ?_
        refine Y.goto (off := 4) (tgt := 37) (by decide +kernel) (by decide) ?_
        refine Y.blk (pc' := 38) (L' := [some (.ref a0), some (.int a1), some (.int a2), some (.int a3), none]) (st' := [.int (nI 1), .int (nI 1), .ref a0]) (sg := [(.iconst 1, nI 1)]) (by decide +kernel) rfl ?_
        obtain ⟨_, o56, e55, m57, h⟩ := gOb_inv h
        refine Y.callI (yC.Vi (b := a0) (As := [.int (nI 1), .int (nI 1)]) (st := []) (r := ("PartlisterModel", T_M, 9)) hV.1 cb_M_refuse lk_M_36 in_M_refuse rfl se_M_refuse (by decide +kernel) rfl rfl (Nat.le_of_ble_eq_true rfl) (by decide) e55 m57) (k_M_refuse hV G19 a0 (nI 1) (nI 1)) h (fun v59 G58 _ h => ?_)
        refine Y.if_eq (off := 5) (tgt := 46) (by decide +kernel) (by decide) h (fun c88 h => ?_) (fun c88 h => ?_)
        · refine Y.blk (pc' := 52) (L' := [some (.ref a0), some (.int a1), some (.int a2), some (.int a3), none]) (st' := [.int a3, .int a1, .ref a0, .int a2, .int a1, .ref a0]) (sg := [(.aload_n 0, 0), (.iload_n 1, 0), (.iload_n 2, 0), (.aload_n 0, 0), (.iload_n 1, 0), (.iload_n 3, 0)]) (by decide +kernel) rfl ?_
          obtain ⟨_, o61, e60, m62, h⟩ := gOb_inv h
          refine Y.callA (yC.Vi (b := a0) (As := [.int a1, .int a3]) (st := [.int a2, .int a1, .ref a0]) (r := ("PartlisterModel", T_M, 9)) hV.1 cb_M_at lk_M_132 in_M_at rfl se_M_at (by decide +kernel) rfl rfl (Nat.le_of_ble_eq_true rfl) (by decide) e60 m62) (k_M_at hV G58 a0 a1 a3) h (fun v64 G63 _ h => ?_)
          obtain ⟨_, o66, e65, m67, h⟩ := gOb_inv h
          refine Y.callA (yC.Vi (b := a0) (As := [.int a1, .int a2, .ref v64]) (st := []) (r := ("PartlisterModel", T_M, 9)) hV.1 cb_M_write lk_M_150 in_M_write rfl se_M_write (by decide +kernel) rfl rfl (Nat.le_of_ble_eq_true rfl) (by decide) e65 m67) (k_M_write hV G63 a0 a1 a2 v64) h (fun v69 G68 _ h => ?_)
          refine Y.blk (pc' := 65) (L' := [some (.ref a0), some (.int a1), some (.int a2), some (.int a3), some (.ref v69)]) (st' := [.ref v69, .int a3, .int a1, .ref a0]) (sg := [(.astore 4, 0), (.aload_n 0, 0), (.iload_n 1, 0), (.iload_n 3, 0), (.aload 4, 0)]) (by decide +kernel) rfl ?_
          obtain ⟨_, o71, e70, m72, h⟩ := gOb_inv h
          refine Y.callA (yC.Vi (b := a0) (As := [.int a1, .int a3, .ref v69]) (st := []) (r := ("PartlisterModel", T_M, 9)) hV.1 cb_M_write lk_M_150 in_M_write rfl se_M_write (by decide +kernel) rfl rfl (Nat.le_of_ble_eq_true rfl) (by decide) e70 m72) (k_M_write hV G68 a0 a1 a3 v69) h (fun v74 G73 _ h => ?_)
          refine Y.blk (pc' := 72) (L' := [some (.ref a0), some (.int a1), some (.int a2), some (.int a3), some (.ref v69)]) (st' := [.int a2, .int a1, .ref a0]) (sg := [(.pop, 0), (.aload_n 0, 0), (.iload_n 1, 0), (.iload_n 2, 0)]) (by decide +kernel) rfl ?_
          obtain ⟨_, o76, e75, m77, h⟩ := gOb_inv h
          refine Y.callA (yC.Vi (b := a0) (As := [.int a1, .int a2]) (st := []) (r := ("PartlisterModel", T_M, 9)) hV.1 cb_M_at lk_M_132 in_M_at rfl se_M_at (by decide +kernel) rfl rfl (Nat.le_of_ble_eq_true rfl) (by decide) e75 m77) (k_M_at hV G73 a0 a1 a2) h (fun v79 G78 _ h => ?_)
          refine Y.blk (pc' := 76) (L' := [some (.ref a0), some (.int a1), some (.int a2), some (.int a3), some (.ref v69)]) (st' := [.int (nI 0), .ref v79]) (sg := [(.iconst 0, nI 0)]) (by decide +kernel) rfl ?_
          refine Y.iald (t0 := 0) (by decide +kernel) rfl h (fun v80 h => ?_)
          refine Y.blk (pc' := 80) (L' := [some (.ref a0), some (.int a1), some (.int a2), some (.int a3), some (.ref v69)]) (st' := [.int a3, .int a1, .ref a0, .int v80]) (sg := [(.aload_n 0, 0), (.iload_n 1, 0), (.iload_n 3, 0)]) (by decide +kernel) rfl ?_
          obtain ⟨_, o82, e81, m83, h⟩ := gOb_inv h
          refine Y.callA (yC.Vi (b := a0) (As := [.int a1, .int a3]) (st := [.int v80]) (r := ("PartlisterModel", T_M, 9)) hV.1 cb_M_at lk_M_132 in_M_at rfl se_M_at (by decide +kernel) rfl rfl (Nat.le_of_ble_eq_true rfl) (by decide) e81 m83) (k_M_at hV G78 a0 a1 a3) h (fun v85 G84 _ h => ?_)
          refine Y.blk (pc' := 84) (L' := [some (.ref a0), some (.int a1), some (.int a2), some (.int a3), some (.ref v69)]) (st' := [.int (nI 0), .ref v85, .int v80]) (sg := [(.iconst 0, nI 0)]) (by decide +kernel) rfl ?_
          refine Y.iald (t0 := 0) (by decide +kernel) rfl h (fun v86 h => ?_)
          refine Y.ic_ne (off := 7) (tgt := 92) (by decide +kernel) (by decide) h (fun c87 h => ?_) (fun c87 h => ?_)
          · refine Y.blk (pc' := 89) (L' := [some (.ref a0), some (.int a1), some (.int a2), some (.int a3), some (.ref v69)]) (st' := [.int (nI 1)]) (sg := [(.iconst 1, nI 1)]) (by decide +kernel) rfl ?_
            refine Y.goto (off := 4) (tgt := 93) (by decide +kernel) (by decide) ?_
            exact Y.zret rfl (by decide +kernel) h
          · refine Y.blk (pc' := 93) (L' := [some (.ref a0), some (.int a1), some (.int a2), some (.int a3), some (.ref v69)]) (st' := [.int (nI 0)]) (sg := [(.iconst 0, nI 0)]) (by decide +kernel) rfl ?_
            exact Y.zret rfl (by decide +kernel) h
        · refine Y.blk (pc' := 45) (L' := [some (.ref a0), some (.int a1), some (.int a2), some (.int a3), none]) (st' := [.int (nI 0)]) (sg := [(.iconst 0, nI 0)]) (by decide +kernel) rfl ?_
          exact Y.zret rfl (by decide +kernel) h
    · refine Y.blk (pc' := 33) (L' := [some (.ref a0), some (.int a1), some (.int a2), some (.int a3), none]) (st' := [.int (nI 1), .ref a0]) (sg := [(.iconst 1, nI 1)]) (by decide +kernel) rfl ?_
      refine Y.goto (off := 4) (tgt := 37) (by decide +kernel) (by decide) ?_
      refine Y.blk (pc' := 38) (L' := [some (.ref a0), some (.int a1), some (.int a2), some (.int a3), none]) (st' := [.int (nI 1), .int (nI 1), .ref a0]) (sg := [(.iconst 1, nI 1)]) (by decide +kernel) rfl ?_
      obtain ⟨_, o91, e90, m92, h⟩ := gOb_inv h
      refine Y.callI (yC.Vi (b := a0) (As := [.int (nI 1), .int (nI 1)]) (st := []) (r := ("PartlisterModel", T_M, 9)) hV.1 cb_M_refuse lk_M_36 in_M_refuse rfl se_M_refuse (by decide +kernel) rfl rfl (Nat.le_of_ble_eq_true rfl) (by decide) e90 m92) (k_M_refuse hV G14 a0 (nI 1) (nI 1)) h (fun v94 G93 _ h => ?_)
      refine Y.if_eq (off := 5) (tgt := 46) (by decide +kernel) (by decide) h (fun c123 h => ?_) (fun c123 h => ?_)
      · refine Y.blk (pc' := 52) (L' := [some (.ref a0), some (.int a1), some (.int a2), some (.int a3), none]) (st' := [.int a3, .int a1, .ref a0, .int a2, .int a1, .ref a0]) (sg := [(.aload_n 0, 0), (.iload_n 1, 0), (.iload_n 2, 0), (.aload_n 0, 0), (.iload_n 1, 0), (.iload_n 3, 0)]) (by decide +kernel) rfl ?_
        obtain ⟨_, o96, e95, m97, h⟩ := gOb_inv h
        refine Y.callA (yC.Vi (b := a0) (As := [.int a1, .int a3]) (st := [.int a2, .int a1, .ref a0]) (r := ("PartlisterModel", T_M, 9)) hV.1 cb_M_at lk_M_132 in_M_at rfl se_M_at (by decide +kernel) rfl rfl (Nat.le_of_ble_eq_true rfl) (by decide) e95 m97) (k_M_at hV G93 a0 a1 a3) h (fun v99 G98 _ h => ?_)
        obtain ⟨_, o101, e100, m102, h⟩ := gOb_inv h
        refine Y.callA (yC.Vi (b := a0) (As := [.int a1, .int a2, .ref v99]) (st := []) (r := ("PartlisterModel", T_M, 9)) hV.1 cb_M_write lk_M_150 in_M_write rfl se_M_write (by decide +kernel) rfl rfl (Nat.le_of_ble_eq_true rfl) (by decide) e100 m102) (k_M_write hV G98 a0 a1 a2 v99) h (fun v104 G103 _ h => ?_)
        refine Y.blk (pc' := 65) (L' := [some (.ref a0), some (.int a1), some (.int a2), some (.int a3), some (.ref v104)]) (st' := [.ref v104, .int a3, .int a1, .ref a0]) (sg := [(.astore 4, 0), (.aload_n 0, 0), (.iload_n 1, 0), (.iload_n 3, 0), (.aload 4, 0)]) (by decide +kernel) rfl ?_
        obtain ⟨_, o106, e105, m107, h⟩ := gOb_inv h
        refine Y.callA (yC.Vi (b := a0) (As := [.int a1, .int a3, .ref v104]) (st := []) (r := ("PartlisterModel", T_M, 9)) hV.1 cb_M_write lk_M_150 in_M_write rfl se_M_write (by decide +kernel) rfl rfl (Nat.le_of_ble_eq_true rfl) (by decide) e105 m107) (k_M_write hV G103 a0 a1 a3 v104) h (fun v109 G108 _ h => ?_)
        refine Y.blk (pc' := 72) (L' := [some (.ref a0), some (.int a1), some (.int a2), some (.int a3), some (.ref v104)]) (st' := [.int a2, .int a1, .ref a0]) (sg := [(.pop, 0), (.aload_n 0, 0), (.iload_n 1, 0), (.iload_n 2, 0)]) (by decide +kernel) rfl ?_
        obtain ⟨_, o111, e110, m112, h⟩ := gOb_inv h
        refine Y.callA (yC.Vi (b := a0) (As := [.int a1, .int a2]) (st := []) (r := ("PartlisterModel", T_M, 9)) hV.1 cb_M_at lk_M_132 in_M_at rfl se_M_at (by decide +kernel) rfl rfl (Nat.le_of_ble_eq_true rfl) (by decide) e110 m112) (k_M_at hV G108 a0 a1 a2) h (fun v114 G113 _ h => ?_)
        refine Y.blk (pc' := 76) (L' := [some (.ref a0), some (.int a1), some (.int a2), some (.int a3), some (.ref v104)]) (st' := [.int (nI 0), .ref v114]) (sg := [(.iconst 0, nI 0)]) (by decide +kernel) rfl ?_
        refine Y.iald (t0 := 0) (by decide +kernel) rfl h (fun v115 h => ?_)
        refine Y.blk (pc' := 80) (L' := [some (.ref a0), some (.int a1), some (.int a2), some (.int a3), some (.ref v104)]) (st' := [.int a3, .int a1, .ref a0, .int v115]) (sg := [(.aload_n 0, 0), (.iload_n 1, 0), (.iload_n 3, 0)]) (by decide +kernel) rfl ?_
        obtain ⟨_, o117, e116, m118, h⟩ := gOb_inv h
        refine Y.callA (yC.Vi (b := a0) (As := [.int a1, .int a3]) (st := [.int v115]) (r := ("PartlisterModel", T_M, 9)) hV.1 cb_M_at lk_M_132 in_M_at rfl se_M_at (by decide +kernel) rfl rfl (Nat.le_of_ble_eq_true rfl) (by decide) e116 m118) (k_M_at hV G113 a0 a1 a3) h (fun v120 G119 _ h => ?_)
        refine Y.blk (pc' := 84) (L' := [some (.ref a0), some (.int a1), some (.int a2), some (.int a3), some (.ref v104)]) (st' := [.int (nI 0), .ref v120, .int v115]) (sg := [(.iconst 0, nI 0)]) (by decide +kernel) rfl ?_
        refine Y.iald (t0 := 0) (by decide +kernel) rfl h (fun v121 h => ?_)
        refine Y.ic_ne (off := 7) (tgt := 92) (by decide +kernel) (by decide) h (fun c122 h => ?_) (fun c122 h => ?_)
        · refine Y.blk (pc' := 89) (L' := [some (.ref a0), some (.int a1), some (.int a2), some (.int a3), some (.ref v104)]) (st' := [.int (nI 1)]) (sg := [(.iconst 1, nI 1)]) (by decide +kernel) rfl ?_
          refine Y.goto (off := 4) (tgt := 93) (by decide +kernel) (by decide) ?_
          exact Y.zret rfl (by decide +kernel) h
        · refine Y.blk (pc' := 93) (L' := [some (.ref a0), some (.int a1), some (.int a2), some (.int a3), some (.ref v104)]) (st' := [.int (nI 0)]) (sg := [(.iconst 0, nI 0)]) (by decide +kernel) rfl ?_
          exact Y.zret rfl (by decide +kernel) h
      · refine Y.blk (pc' := 45) (L' := [some (.ref a0), some (.int a1), some (.int a2), some (.int a3), none]) (st' := [.int (nI 0)]) (sg := [(.iconst 0, nI 0)]) (by decide +kernel) rfl ?_
        exact Y.zret rfl (by decide +kernel) h
  · refine Y.blk (pc' := 45) (L' := [some (.ref a0), some (.int a1), some (.int a2), some (.int a3), none]) (st' := [.int (nI 0)]) (sg := [(.iconst 0, nI 0)]) (by decide +kernel) rfl ?_
    exact Y.zret rfl (by decide +kernel) h

def f_M_extreme (G : gH) (a0 : Nat) (a1 : Int32) (a2 : Int32) : gR :=
  gOb G a0 6 fun o2 => bI (f_M_isNoList G a0 a1) fun v5 G4 => gOb G4 a0 6 fun o7 => bI (f_M_start G4 a0 v5 (nI 1)) fun v10 G9 => if v10 = 0 then gOb G9 a0 6 fun o12 => bI (f_M_extremeOf G9 a0 a1 a2) fun v15 G14 => rI v15 G14
  else rI (nI 0) G9
theorem k_M_extreme {l : Launch} {D : va_G} {B : Nat} {O : State → Heap → Prop} (hV : zG l D B O) (G : gH) (a0 : Nat) (a1 : Int32) (a2 : Int32) : gMet (zVm l D B O) m_M_extreme 14 [.ref a0, .int a1, .int a2] G (f_M_extreme G a0 a1 a2) := by
  refine gMet.of (by decide +kernel) (Nat.le_of_ble_eq_true rfl) [some (.ref a0), some (.int a1), some (.int a2)] (fun ls h => zEn_ok (n := 3) h) ?_
  intro o Gf h
  unfold f_M_extreme at h
  refine Y.blk (pc' := 3) (L' := [some (.ref a0), some (.int a1), some (.int a2)]) (st' := [.int a1, .ref a0, .ref a0]) (sg := [(.aload_n 0, 0), (.aload_n 0, 0), (.iload_n 1, 0)]) (by decide +kernel) rfl ?_
  obtain ⟨_, o2, e1, m3, h⟩ := gOb_inv h
  refine Y.callI (yC.Vi (b := a0) (As := [.int a1]) (st := [.ref a0]) (r := ("PartlisterModel", T_M, 9)) hV.1 cb_M_isNoList lk_M_110 in_M_isNoList rfl se_M_isNoList (by decide +kernel) rfl rfl (Nat.le_of_ble_eq_true rfl) (by decide) e1 m3) (k_M_isNoList hV G a0 a1) h (fun v5 G4 _ h => ?_)
  refine Y.blk (pc' := 7) (L' := [some (.ref a0), some (.int a1), some (.int a2)]) (st' := [.int (nI 1), .int v5, .ref a0]) (sg := [(.iconst 1, nI 1)]) (by decide +kernel) rfl ?_
  obtain ⟨_, o7, e6, m8, h⟩ := gOb_inv h
  refine Y.callI (yC.Vi (b := a0) (As := [.int v5, .int (nI 1)]) (st := []) (r := ("PartlisterModel", T_M, 9)) hV.1 cb_M_start lk_M_114 in_M_start rfl se_M_start (by decide +kernel) rfl rfl (Nat.le_of_ble_eq_true rfl) (by decide) e6 m8) (k_M_start hV G4 a0 v5 (nI 1)) h (fun v10 G9 _ h => ?_)
  refine Y.if_eq (off := 7) (tgt := 17) (by decide +kernel) (by decide) h (fun c16 h => ?_) (fun c16 h => ?_)
  · refine Y.blk (pc' := 20) (L' := [some (.ref a0), some (.int a1), some (.int a2)]) (st' := [.int a2, .int a1, .ref a0]) (sg := [(.aload_n 0, 0), (.iload_n 1, 0), (.iload_n 2, 0)]) (by decide +kernel) rfl ?_
    obtain ⟨_, o12, e11, m13, h⟩ := gOb_inv h
    refine Y.callI (yC.Vi (b := a0) (As := [.int a1, .int a2]) (st := []) (r := ("PartlisterModel", T_M, 9)) hV.1 cb_M_extremeOf lk_M_253 in_M_extremeOf rfl se_M_extremeOf (by decide +kernel) rfl rfl (Nat.le_of_ble_eq_true rfl) (by decide) e11 m13) (k_M_extremeOf hV G9 a0 a1 a2) h (fun v15 G14 _ h => ?_)
    exact Y.iret rfl (by decide +kernel) h
  · refine Y.blk (pc' := 14) (L' := [some (.ref a0), some (.int a1), some (.int a2)]) (st' := [.int (nI 0)]) (sg := [(.iconst 0, nI 0)]) (by decide +kernel) rfl ?_
    refine Y.goto (off := 9) (tgt := 23) (by decide +kernel) (by decide) ?_
    exact Y.iret rfl (by decide +kernel) h

def f_M_find (G : gH) (a0 : Nat) (a1 : Int32) (a2 : Int32) : gR :=
  gOb G a0 6 fun o2 => bI (f_M_areNone G a0 a1 a2) fun v5 G4 => if v5 = 0 then gOb G4 a0 6 fun o7 => bI (f_M_found G4 a0 a1 a2) fun v10 G9 => rI v10 G9
  else rI (nI 0) G4
theorem k_M_find {l : Launch} {D : va_G} {B : Nat} {O : State → Heap → Prop} (hV : zG l D B O) (G : gH) (a0 : Nat) (a1 : Int32) (a2 : Int32) : gMet (zVm l D B O) m_M_find 15 [.ref a0, .int a1, .int a2] G (f_M_find G a0 a1 a2) := by
  refine gMet.of (by decide +kernel) (Nat.le_of_ble_eq_true rfl) [some (.ref a0), some (.int a1), some (.int a2)] (fun ls h => zEn_ok (n := 3) h) ?_
  intro o Gf h
  unfold f_M_find at h
  refine Y.blk (pc' := 3) (L' := [some (.ref a0), some (.int a1), some (.int a2)]) (st' := [.int a2, .int a1, .ref a0]) (sg := [(.aload_n 0, 0), (.iload_n 1, 0), (.iload_n 2, 0)]) (by decide +kernel) rfl ?_
  obtain ⟨_, o2, e1, m3, h⟩ := gOb_inv h
  refine Y.callI (yC.Vi (b := a0) (As := [.int a1, .int a2]) (st := []) (r := ("PartlisterModel", T_M, 9)) hV.1 cb_M_areNone lk_M_235 in_M_areNone rfl se_M_areNone (by decide +kernel) rfl rfl (Nat.le_of_ble_eq_true rfl) (by decide) e1 m3) (k_M_areNone hV G a0 a1 a2) h (fun v5 G4 _ h => ?_)
  refine Y.if_eq (off := 7) (tgt := 13) (by decide +kernel) (by decide) h (fun c11 h => ?_) (fun c11 h => ?_)
  · refine Y.blk (pc' := 16) (L' := [some (.ref a0), some (.int a1), some (.int a2)]) (st' := [.int a2, .int a1, .ref a0]) (sg := [(.aload_n 0, 0), (.iload_n 1, 0), (.iload_n 2, 0)]) (by decide +kernel) rfl ?_
    obtain ⟨_, o7, e6, m8, h⟩ := gOb_inv h
    refine Y.callI (yC.Vi (b := a0) (As := [.int a1, .int a2]) (st := []) (r := ("PartlisterModel", T_M, 9)) hV.1 cb_M_found lk_M_247 in_M_found rfl se_M_found (by decide +kernel) rfl rfl (Nat.le_of_ble_eq_true rfl) (by decide) e6 m8) (k_M_found hV G4 a0 a1 a2) h (fun v10 G9 _ h => ?_)
    exact Y.iret rfl (by decide +kernel) h
  · refine Y.blk (pc' := 10) (L' := [some (.ref a0), some (.int a1), some (.int a2)]) (st' := [.int (nI 0)]) (sg := [(.iconst 0, nI 0)]) (by decide +kernel) rfl ?_
    refine Y.goto (off := 9) (tgt := 19) (by decide +kernel) (by decide) ?_
    exact Y.iret rfl (by decide +kernel) h

def f_M_isNoKey (G : gH) (a0 : Nat) (a1 : Int32) : gR :=
  bI (f_M_isIn G a1 (nI 0) (nI 30)) fun v3 G2 => if v3 = 0 then rZ (nI 1) G2
  else rZ (nI 0) G2
theorem k_M_isNoKey {l : Launch} {D : va_G} {B : Nat} {O : State → Heap → Prop} (hV : zG l D B O) (G : gH) (a0 : Nat) (a1 : Int32) : gMet (zVm l D B O) m_M_isNoKey 3 [.ref a0, .int a1] G (f_M_isNoKey G a0 a1) := by
  refine gMet.of (by decide +kernel) (Nat.le_of_ble_eq_true rfl) [some (.ref a0), some (.int a1)] (fun ls h => zEn_ok (n := 2) h) ?_
  intro o Gf h
  unfold f_M_isNoKey at h
  refine Y.blk (pc' := 4) (L' := [some (.ref a0), some (.int a1)]) (st' := [.int (nI 30), .int (nI 0), .int a1]) (sg := [(.iload_n 1, 0), (.iconst 0, nI 0), (.bipush 30, nI 30)]) (by decide +kernel) rfl ?_
  refine Y.callI (yC.S (As := [.int a1, .int (nI 0), .int (nI 30)]) (st := []) hV.1 cb_M_isIn lk_M_40 st_M_isIn (by decide +kernel) rfl rfl (Nat.le_of_ble_eq_true rfl) (by decide)) (k_M_isIn hV G a1 (nI 0) (nI 30)) h (fun v3 G2 _ h => ?_)
  refine Y.if_ne (off := 7) (tgt := 14) (by decide +kernel) (by decide) h (fun c4 h => ?_) (fun c4 h => ?_)
  · refine Y.blk (pc' := 11) (L' := [some (.ref a0), some (.int a1)]) (st' := [.int (nI 1)]) (sg := [(.iconst 1, nI 1)]) (by decide +kernel) rfl ?_
    refine Y.goto (off := 4) (tgt := 15) (by decide +kernel) (by decide) ?_
    exact Y.zret rfl (by decide +kernel) h
  · refine Y.blk (pc' := 15) (L' := [some (.ref a0), some (.int a1)]) (st' := [.int (nI 0)]) (sg := [(.iconst 0, nI 0)]) (by decide +kernel) rfl ?_
    exact Y.zret rfl (by decide +kernel) h

def f_M_first (G : gH) (a0 : Nat) (a1 : Int32) (a2 : Int32) : gR :=
  gOb G a0 6 fun o2 => bI (f_M_isNoList G a0 a1) fun v5 G4 => gOb G4 a0 6 fun o7 => bI (f_M_start G4 a0 v5 (nI 1)) fun v10 G9 => if v10 = 0 then (gOb G9 a0 6 fun o12 => bI (f_M_isNoKey G9 a0 a2) fun v15 G14 => gOb G14 a0 6 fun o17 => bI (f_M_refuse G14 a0 v15 (nI 2)) fun v20 G19 => if v20 = 0 then gOb G19 a0 6 fun o22 => bI (f_M_firstOf G19 a0 a1 a2) fun v25 G24 => rI v25 G24
    else rI (nI 0) G19)
  else rI (nI 0) G9
theorem k_M_first {l : Launch} {D : va_G} {B : Nat} {O : State → Heap → Prop} (hV : zG l D B O) (G : gH) (a0 : Nat) (a1 : Int32) (a2 : Int32) : gMet (zVm l D B O) m_M_first 14 [.ref a0, .int a1, .int a2] G (f_M_first G a0 a1 a2) := by
  refine gMet.of (by decide +kernel) (Nat.le_of_ble_eq_true rfl) [some (.ref a0), some (.int a1), some (.int a2)] (fun ls h => zEn_ok (n := 3) h) ?_
  intro o Gf h
  unfold f_M_first at h
  refine Y.blk (pc' := 3) (L' := [some (.ref a0), some (.int a1), some (.int a2)]) (st' := [.int a1, .ref a0, .ref a0]) (sg := [(.aload_n 0, 0), (.aload_n 0, 0), (.iload_n 1, 0)]) (by decide +kernel) rfl ?_
  obtain ⟨_, o2, e1, m3, h⟩ := gOb_inv h
  refine Y.callI (yC.Vi (b := a0) (As := [.int a1]) (st := [.ref a0]) (r := ("PartlisterModel", T_M, 9)) hV.1 cb_M_isNoList lk_M_110 in_M_isNoList rfl se_M_isNoList (by decide +kernel) rfl rfl (Nat.le_of_ble_eq_true rfl) (by decide) e1 m3) (k_M_isNoList hV G a0 a1) h (fun v5 G4 _ h => ?_)
  refine Y.blk (pc' := 7) (L' := [some (.ref a0), some (.int a1), some (.int a2)]) (st' := [.int (nI 1), .int v5, .ref a0]) (sg := [(.iconst 1, nI 1)]) (by decide +kernel) rfl ?_
  obtain ⟨_, o7, e6, m8, h⟩ := gOb_inv h
  refine Y.callI (yC.Vi (b := a0) (As := [.int v5, .int (nI 1)]) (st := []) (r := ("PartlisterModel", T_M, 9)) hV.1 cb_M_start lk_M_114 in_M_start rfl se_M_start (by decide +kernel) rfl rfl (Nat.le_of_ble_eq_true rfl) (by decide) e6 m8) (k_M_start hV G4 a0 v5 (nI 1)) h (fun v10 G9 _ h => ?_)
  refine Y.if_ne (off := 16) (tgt := 26) (by decide +kernel) (by decide) h (fun c27 h => ?_) (fun c27 h => ?_)
  · refine Y.blk (pc' := 16) (L' := [some (.ref a0), some (.int a1), some (.int a2)]) (st' := [.int a2, .ref a0, .ref a0]) (sg := [(.aload_n 0, 0), (.aload_n 0, 0), (.iload_n 2, 0)]) (by decide +kernel) rfl ?_
    obtain ⟨_, o12, e11, m13, h⟩ := gOb_inv h
    refine Y.callI (yC.Vi (b := a0) (As := [.int a2]) (st := [.ref a0]) (r := ("PartlisterModel", T_M, 9)) hV.1 cb_M_isNoKey lk_M_160 in_M_isNoKey rfl se_M_isNoKey (by decide +kernel) rfl rfl (Nat.le_of_ble_eq_true rfl) (by decide) e11 m13) (k_M_isNoKey hV G9 a0 a2) h (fun v15 G14 _ h => ?_)
    refine Y.blk (pc' := 20) (L' := [some (.ref a0), some (.int a1), some (.int a2)]) (st' := [.int (nI 2), .int v15, .ref a0]) (sg := [(.iconst 2, nI 2)]) (by decide +kernel) rfl ?_
    obtain ⟨_, o17, e16, m18, h⟩ := gOb_inv h
    refine Y.callI (yC.Vi (b := a0) (As := [.int v15, .int (nI 2)]) (st := []) (r := ("PartlisterModel", T_M, 9)) hV.1 cb_M_refuse lk_M_36 in_M_refuse rfl se_M_refuse (by decide +kernel) rfl rfl (Nat.le_of_ble_eq_true rfl) (by decide) e16 m18) (k_M_refuse hV G14 a0 v15 (nI 2)) h (fun v20 G19 _ h => ?_)
    refine Y.if_eq (off := 7) (tgt := 30) (by decide +kernel) (by decide) h (fun c26 h => ?_) (fun c26 h => ?_)
    · refine Y.blk (pc' := 33) (L' := [some (.ref a0), some (.int a1), some (.int a2)]) (st' := [.int a2, .int a1, .ref a0]) (sg := [(.aload_n 0, 0), (.iload_n 1, 0), (.iload_n 2, 0)]) (by decide +kernel) rfl ?_
      obtain ⟨_, o22, e21, m23, h⟩ := gOb_inv h
      refine Y.callI (yC.Vi (b := a0) (As := [.int a1, .int a2]) (st := []) (r := ("PartlisterModel", T_M, 9)) hV.1 cb_M_firstOf lk_M_163 in_M_firstOf rfl se_M_firstOf (by decide +kernel) rfl rfl (Nat.le_of_ble_eq_true rfl) (by decide) e21 m23) (k_M_firstOf hV G19 a0 a1 a2) h (fun v25 G24 _ h => ?_)
      exact Y.iret rfl (by decide +kernel) h
    · refine Y.blk (pc' := 27) (L' := [some (.ref a0), some (.int a1), some (.int a2)]) (st' := [.int (nI 0)]) (sg := [(.iconst 0, nI 0)]) (by decide +kernel) rfl ?_
      refine Y.goto (off := 9) (tgt := 36) (by decide +kernel) (by decide) ?_
      exact Y.iret rfl (by decide +kernel) h
  · refine Y.blk (pc' := 27) (L' := [some (.ref a0), some (.int a1), some (.int a2)]) (st' := [.int (nI 0)]) (sg := [(.iconst 0, nI 0)]) (by decide +kernel) rfl ?_
    refine Y.goto (off := 9) (tgt := 36) (by decide +kernel) (by decide) ?_
    exact Y.iret rfl (by decide +kernel) h

def f_M_freePart_L2 (K17 : gH → Int32 → gR) (K25 : gH → gR) : Nat → gH → Nat → Int32 → gR
  | 0, _, _, _ => none
  | n + 1, G, x0, x1 =>
    if (nI 6) ≤ x1 then K25 G
    else gFA G x0 6 2 fun v1 => gLdq G v1 104 x1 (K17 G x1) fun v2 => f_M_freePart_L2 K17 K25 n G x0 (x1 + (nI 1))
def f_M_freePart (G : gH) (a0 : Nat) : gR :=
  f_M_freePart_L2 (fun G5 x4 => rI x4 G5) (fun G6 => rI (-1) G6) zFu G a0 (nI 2)
theorem k_M_freePart_L2 {l : Launch} {D : va_G} {B : Nat} {O : State → Heap → Prop} (hV : zG l D B O) {o : gO} {Gf : gH} (K17 : gH → Int32 → gR) (K25 : gH → gR) (hK17 : ∀ (G : gH) (x1 : Int32), K17 G x1 = some (o, Gf) → Y (zVm l D B O) m_M_freePart 2 o Gf 17 [none, some (.int x1)] [] G) (hK25 : ∀ (G : gH), K25 G  = some (o, Gf) → Y (zVm l D B O) m_M_freePart 2 o Gf 25 [none, none] [] G) : ∀ (n : Nat) (G : gH) (x0 : Nat) (x1 : Int32), f_M_freePart_L2 K17 K25 n G x0 x1 = some (o, Gf) → Y (zVm l D B O) m_M_freePart 2 o Gf 2 [some (.ref x0), some (.int x1)] [] G := by
  intro n
  induction n with
  | zero => intro G x0 x1 h; cases h
  | succ n ih =>
    intro G x0 x1 h
    unfold f_M_freePart_L2 at h
    refine Y.blk (pc' := 5) (L' := [some (.ref x0), some (.int x1)]) (st' := [.int (nI 6), .int x1]) (sg := [(.iload_n 1, 0), (.bipush 6, nI 6)]) (by decide +kernel) rfl ?_
    refine Y.ic_ge (off := 20) (tgt := 25) (by decide +kernel) (by decide) h (fun c3 h => ?_) (fun c3 h => ?_)
    · refine Y.less (L' := [none, none]) (zLe_none (zLe_none (zLe_nil))) ?_
      exact hK25 G  h
    · refine Y.blk (pc' := 9) (L' := [some (.ref x0), some (.int x1)]) (st' := [.ref x0]) (sg := [(.aload_n 0, 0)]) (by decide +kernel) rfl ?_
      refine Y.getA fl_M_18 (by decide +kernel) h (fun v1 h => ?_)
      refine Y.blk (pc' := 13) (L' := [some (.ref x0), some (.int x1)]) (st' := [.int x1, .ref v1]) (sg := [(.iload_n 1, 0)]) (by decide +kernel) rfl ?_
      refine Y.aald (t0 := 4) (by decide +kernel) rfl h (fun h => ?_) (fun v2 h => ?_)
      · refine Y.ifnonnull_n (off := 5) (by decide +kernel) ?_
        refine Y.less (L' := [none, some (.int x1)]) (zLe_none (zLe_some (zLe_nil))) ?_
        exact hK17 G x1 h
      · refine Y.ifnonnull_r (off := 5) (tgt := 19) (by decide +kernel) (by decide) ?_
        refine Y.blk (pc' := 22) (L' := [some (.ref x0), some (.int (x1 + (nI 1)))]) (st' := []) (sg := [(.iinc 1 1, nI 1)]) (by decide +kernel) rfl ?_
        refine Y.goto (off := -20) (tgt := 2) (by decide +kernel) (by decide) ?_
        exact ih G x0 (x1 + (nI 1)) h
theorem k_M_freePart {l : Launch} {D : va_G} {B : Nat} {O : State → Heap → Prop} (hV : zG l D B O) (G : gH) (a0 : Nat) : gMet (zVm l D B O) m_M_freePart 2 [.ref a0] G (f_M_freePart G a0) := by
  refine gMet.of (by decide +kernel) (Nat.le_of_ble_eq_true rfl) [some (.ref a0), none] (fun ls h => zEn_ok (n := 2) h) ?_
  intro o Gf h
  unfold f_M_freePart at h
  refine Y.blk (pc' := 2) (L' := [some (.ref a0), some (.int (nI 2))]) (st' := []) (sg := [(.iconst 2, nI 2), (.istore_n 1, 0)]) (by decide +kernel) rfl ?_
  refine k_M_freePart_L2 hV _ _ ?_ ?_  zFu G a0 (nI 2) h
  · intro G5 x4 h
    refine Y.blk (pc' := 18) (L' := [none, some (.int x4)]) (st' := [.int x4]) (sg := [(.iload_n 1, 0)]) (by decide +kernel) rfl ?_
    exact Y.iret rfl (by decide +kernel) h
  · intro G6 h
    refine Y.blk (pc' := 26) (L' := [none, none]) (st' := [.int (-1)]) (sg := [(.iconst (-1), -1)]) (by decide +kernel) rfl ?_
    exact Y.iret rfl (by decide +kernel) h

def f_M_hasAll (G : gH) (a0 : Nat) (a1 : Int32) (a2 : Int32) : gR :=
  gOb G a0 6 fun o2 => bI (f_M_areNone G a0 a1 a2) fun v5 G4 => if v5 = 0 then (gOb G4 a0 6 fun o7 => bI (f_M_hasEach G4 a0 a1 a2) fun v10 G9 => if v10 = 0 then rZ (nI 0) G9
    else rZ (nI 1) G9)
  else rZ (nI 0) G4
theorem k_M_hasAll {l : Launch} {D : va_G} {B : Nat} {O : State → Heap → Prop} (hV : zG l D B O) (G : gH) (a0 : Nat) (a1 : Int32) (a2 : Int32) : gMet (zVm l D B O) m_M_hasAll 15 [.ref a0, .int a1, .int a2] G (f_M_hasAll G a0 a1 a2) := by
  refine gMet.of (by decide +kernel) (Nat.le_of_ble_eq_true rfl) [some (.ref a0), some (.int a1), some (.int a2)] (fun ls h => zEn_ok (n := 3) h) ?_
  intro o Gf h
  unfold f_M_hasAll at h
  refine Y.blk (pc' := 3) (L' := [some (.ref a0), some (.int a1), some (.int a2)]) (st' := [.int a2, .int a1, .ref a0]) (sg := [(.aload_n 0, 0), (.iload_n 1, 0), (.iload_n 2, 0)]) (by decide +kernel) rfl ?_
  obtain ⟨_, o2, e1, m3, h⟩ := gOb_inv h
  refine Y.callI (yC.Vi (b := a0) (As := [.int a1, .int a2]) (st := []) (r := ("PartlisterModel", T_M, 9)) hV.1 cb_M_areNone lk_M_235 in_M_areNone rfl se_M_areNone (by decide +kernel) rfl rfl (Nat.le_of_ble_eq_true rfl) (by decide) e1 m3) (k_M_areNone hV G a0 a1 a2) h (fun v5 G4 _ h => ?_)
  refine Y.if_ne (off := 16) (tgt := 22) (by decide +kernel) (by decide) h (fun c12 h => ?_) (fun c12 h => ?_)
  · refine Y.blk (pc' := 12) (L' := [some (.ref a0), some (.int a1), some (.int a2)]) (st' := [.int a2, .int a1, .ref a0]) (sg := [(.aload_n 0, 0), (.iload_n 1, 0), (.iload_n 2, 0)]) (by decide +kernel) rfl ?_
    obtain ⟨_, o7, e6, m8, h⟩ := gOb_inv h
    refine Y.callI (yC.Vi (b := a0) (As := [.int a1, .int a2]) (st := []) (r := ("PartlisterModel", T_M, 9)) hV.1 cb_M_hasEach lk_M_238 in_M_hasEach rfl se_M_hasEach (by decide +kernel) rfl rfl (Nat.le_of_ble_eq_true rfl) (by decide) e6 m8) (k_M_hasEach hV G4 a0 a1 a2) h (fun v10 G9 _ h => ?_)
    refine Y.if_eq (off := 7) (tgt := 22) (by decide +kernel) (by decide) h (fun c11 h => ?_) (fun c11 h => ?_)
    · refine Y.blk (pc' := 23) (L' := [some (.ref a0), some (.int a1), some (.int a2)]) (st' := [.int (nI 0)]) (sg := [(.iconst 0, nI 0)]) (by decide +kernel) rfl ?_
      exact Y.zret rfl (by decide +kernel) h
    · refine Y.blk (pc' := 19) (L' := [some (.ref a0), some (.int a1), some (.int a2)]) (st' := [.int (nI 1)]) (sg := [(.iconst 1, nI 1)]) (by decide +kernel) rfl ?_
      refine Y.goto (off := 4) (tgt := 23) (by decide +kernel) (by decide) ?_
      exact Y.zret rfl (by decide +kernel) h
  · refine Y.blk (pc' := 23) (L' := [some (.ref a0), some (.int a1), some (.int a2)]) (st' := [.int (nI 0)]) (sg := [(.iconst 0, nI 0)]) (by decide +kernel) rfl ?_
    exact Y.zret rfl (by decide +kernel) h

def f_M_hash (G : gH) (a0 : Nat) (a1 : Int32) : gR :=
  gOb G a0 6 fun o2 => bI (f_M_isNoList G a0 a1) fun v5 G4 => gOb G4 a0 6 fun o7 => bI (f_M_start G4 a0 v5 (nI 1)) fun v10 G9 => if v10 = 0 then gOb G9 a0 6 fun o12 => bI (f_M_hashOf G9 a0 a1) fun v15 G14 => rI v15 G14
  else rI (nI 0) G9
theorem k_M_hash {l : Launch} {D : va_G} {B : Nat} {O : State → Heap → Prop} (hV : zG l D B O) (G : gH) (a0 : Nat) (a1 : Int32) : gMet (zVm l D B O) m_M_hash 14 [.ref a0, .int a1] G (f_M_hash G a0 a1) := by
  refine gMet.of (by decide +kernel) (Nat.le_of_ble_eq_true rfl) [some (.ref a0), some (.int a1)] (fun ls h => zEn_ok (n := 2) h) ?_
  intro o Gf h
  unfold f_M_hash at h
  refine Y.blk (pc' := 3) (L' := [some (.ref a0), some (.int a1)]) (st' := [.int a1, .ref a0, .ref a0]) (sg := [(.aload_n 0, 0), (.aload_n 0, 0), (.iload_n 1, 0)]) (by decide +kernel) rfl ?_
  obtain ⟨_, o2, e1, m3, h⟩ := gOb_inv h
  refine Y.callI (yC.Vi (b := a0) (As := [.int a1]) (st := [.ref a0]) (r := ("PartlisterModel", T_M, 9)) hV.1 cb_M_isNoList lk_M_110 in_M_isNoList rfl se_M_isNoList (by decide +kernel) rfl rfl (Nat.le_of_ble_eq_true rfl) (by decide) e1 m3) (k_M_isNoList hV G a0 a1) h (fun v5 G4 _ h => ?_)
  refine Y.blk (pc' := 7) (L' := [some (.ref a0), some (.int a1)]) (st' := [.int (nI 1), .int v5, .ref a0]) (sg := [(.iconst 1, nI 1)]) (by decide +kernel) rfl ?_
  obtain ⟨_, o7, e6, m8, h⟩ := gOb_inv h
  refine Y.callI (yC.Vi (b := a0) (As := [.int v5, .int (nI 1)]) (st := []) (r := ("PartlisterModel", T_M, 9)) hV.1 cb_M_start lk_M_114 in_M_start rfl se_M_start (by decide +kernel) rfl rfl (Nat.le_of_ble_eq_true rfl) (by decide) e6 m8) (k_M_start hV G4 a0 v5 (nI 1)) h (fun v10 G9 _ h => ?_)
  refine Y.if_eq (off := 7) (tgt := 17) (by decide +kernel) (by decide) h (fun c16 h => ?_) (fun c16 h => ?_)
  · refine Y.blk (pc' := 19) (L' := [some (.ref a0), some (.int a1)]) (st' := [.int a1, .ref a0]) (sg := [(.aload_n 0, 0), (.iload_n 1, 0)]) (by decide +kernel) rfl ?_
    obtain ⟨_, o12, e11, m13, h⟩ := gOb_inv h
    refine Y.callI (yC.Vi (b := a0) (As := [.int a1]) (st := []) (r := ("PartlisterModel", T_M, 9)) hV.1 cb_M_hashOf lk_M_257 in_M_hashOf rfl se_M_hashOf (by decide +kernel) rfl rfl (Nat.le_of_ble_eq_true rfl) (by decide) e11 m13) (k_M_hashOf hV G9 a0 a1) h (fun v15 G14 _ h => ?_)
    exact Y.iret rfl (by decide +kernel) h
  · refine Y.blk (pc' := 14) (L' := [some (.ref a0), some (.int a1)]) (st' := [.int (nI 0)]) (sg := [(.iconst 0, nI 0)]) (by decide +kernel) rfl ?_
    refine Y.goto (off := 8) (tgt := 22) (by decide +kernel) (by decide) ?_
    exact Y.iret rfl (by decide +kernel) h

def f_M_house (G : gH) (a0 : Nat) (a1 : Int32) : gR :=
  bI (f_M_isIn G a1 (nI 0) (nI 7)) fun v3 G2 => if v3 = 0 then (gOb G2 a0 6 fun o5 => bI (f_M_start G2 a0 (nI 1) (nI 1)) fun v8 G7 => if v8 = 0 then gOb G7 a0 6 fun o10 => bI (f_M_houseTold G7 a0 a1) fun v13 G12 => rI v13 G12
    else rI (nI 0) G7)
  else gOb G2 a0 6 fun o16 => bI (f_M_start G2 a0 (nI 0) (nI 1)) fun v19 G18 => if v19 = 0 then gOb G18 a0 6 fun o21 => bI (f_M_houseTold G18 a0 a1) fun v24 G23 => rI v24 G23
    else rI (nI 0) G18
theorem k_M_house {l : Launch} {D : va_G} {B : Nat} {O : State → Heap → Prop} (hV : zG l D B O) (G : gH) (a0 : Nat) (a1 : Int32) : gMet (zVm l D B O) m_M_house 4 [.ref a0, .int a1] G (f_M_house G a0 a1) := by
  refine gMet.of (by decide +kernel) (Nat.le_of_ble_eq_true rfl) [some (.ref a0), some (.int a1)] (fun ls h => zEn_ok (n := 2) h) ?_
  intro o Gf h
  unfold f_M_house at h
  refine Y.blk (pc' := 5) (L' := [some (.ref a0), some (.int a1)]) (st' := [.int (nI 7), .int (nI 0), .int a1, .ref a0]) (sg := [(.aload_n 0, 0), (.iload_n 1, 0), (.iconst 0, nI 0), (.bipush 7, nI 7)]) (by decide +kernel) rfl ?_
  refine Y.callI (yC.S (As := [.int a1, .int (nI 0), .int (nI 7)]) (st := [.ref a0]) hV.1 cb_M_isIn lk_M_40 st_M_isIn (by decide +kernel) rfl rfl (Nat.le_of_ble_eq_true rfl) (by decide)) (k_M_isIn hV G a1 (nI 0) (nI 7)) h (fun v3 G2 _ h => ?_)
  refine Y.if_ne (off := 7) (tgt := 15) (by decide +kernel) (by decide) h (fun c26 h => ?_) (fun c26 h => ?_)
  · refine Y.blk (pc' := 12) (L' := [some (.ref a0), some (.int a1)]) (st' := [.int (nI 1), .ref a0]) (sg := [(.iconst 1, nI 1)]) (by decide +kernel) rfl ?_
    refine Y.goto (off := 4) (tgt := 16) (by decide +kernel) (by decide) ?_
    refine Y.blk (pc' := 17) (L' := [some (.ref a0), some (.int a1)]) (st' := [.int (nI 1), .int (nI 1), .ref a0]) (sg := [(.iconst 1, nI 1)]) (by decide +kernel) rfl ?_
    obtain ⟨_, o5, e4, m6, h⟩ := gOb_inv h
    refine Y.callI (yC.Vi (b := a0) (As := [.int (nI 1), .int (nI 1)]) (st := []) (r := ("PartlisterModel", T_M, 9)) hV.1 cb_M_start lk_M_114 in_M_start rfl se_M_start (by decide +kernel) rfl rfl (Nat.le_of_ble_eq_true rfl) (by decide) e4 m6) (k_M_start hV G2 a0 (nI 1) (nI 1)) h (fun v8 G7 _ h => ?_)
    refine Y.if_eq (off := 7) (tgt := 27) (by decide +kernel) (by decide) h (fun c14 h => ?_) (fun c14 h => ?_)
    · refine Y.blk (pc' := 29) (L' := [some (.ref a0), some (.int a1)]) (st' := [.int a1, .ref a0]) (sg := [(.aload_n 0, 0), (.iload_n 1, 0)]) (by decide +kernel) rfl ?_
      obtain ⟨_, o10, e9, m11, h⟩ := gOb_inv h
      refine Y.callI (yC.Vi (b := a0) (As := [.int a1]) (st := []) (r := ("PartlisterModel", T_M, 9)) hV.1 cb_M_houseTold lk_M_296 in_M_houseTold rfl se_M_houseTold (by decide +kernel) rfl rfl (Nat.le_of_ble_eq_true rfl) (by decide) e9 m11) (k_M_houseTold hV G7 a0 a1) h (fun v13 G12 _ h => ?_)
      exact Y.iret rfl (by decide +kernel) h
    · refine Y.blk (pc' := 24) (L' := [some (.ref a0), some (.int a1)]) (st' := [.int (nI 0)]) (sg := [(.iconst 0, nI 0)]) (by decide +kernel) rfl ?_
      refine Y.goto (off := 8) (tgt := 32) (by decide +kernel) (by decide) ?_
      exact Y.iret rfl (by decide +kernel) h
  · refine Y.blk (pc' := 17) (L' := [some (.ref a0), some (.int a1)]) (st' := [.int (nI 1), .int (nI 0), .ref a0]) (sg := [(.iconst 0, nI 0), (.iconst 1, nI 1)]) (by decide +kernel) rfl ?_
    obtain ⟨_, o16, e15, m17, h⟩ := gOb_inv h
    refine Y.callI (yC.Vi (b := a0) (As := [.int (nI 0), .int (nI 1)]) (st := []) (r := ("PartlisterModel", T_M, 9)) hV.1 cb_M_start lk_M_114 in_M_start rfl se_M_start (by decide +kernel) rfl rfl (Nat.le_of_ble_eq_true rfl) (by decide) e15 m17) (k_M_start hV G2 a0 (nI 0) (nI 1)) h (fun v19 G18 _ h => ?_)
    refine Y.if_eq (off := 7) (tgt := 27) (by decide +kernel) (by decide) h (fun c25 h => ?_) (fun c25 h => ?_)
    · refine Y.blk (pc' := 29) (L' := [some (.ref a0), some (.int a1)]) (st' := [.int a1, .ref a0]) (sg := [(.aload_n 0, 0), (.iload_n 1, 0)]) (by decide +kernel) rfl ?_
      obtain ⟨_, o21, e20, m22, h⟩ := gOb_inv h
      refine Y.callI (yC.Vi (b := a0) (As := [.int a1]) (st := []) (r := ("PartlisterModel", T_M, 9)) hV.1 cb_M_houseTold lk_M_296 in_M_houseTold rfl se_M_houseTold (by decide +kernel) rfl rfl (Nat.le_of_ble_eq_true rfl) (by decide) e20 m22) (k_M_houseTold hV G18 a0 a1) h (fun v24 G23 _ h => ?_)
      exact Y.iret rfl (by decide +kernel) h
    · refine Y.blk (pc' := 24) (L' := [some (.ref a0), some (.int a1)]) (st' := [.int (nI 0)]) (sg := [(.iconst 0, nI 0)]) (by decide +kernel) rfl ?_
      refine Y.goto (off := 8) (tgt := 32) (by decide +kernel) (by decide) ?_
      exact Y.iret rfl (by decide +kernel) h

def f_M_insert (w : Nat → Nat) (G : gH) (a0 : Nat) (a1 : Int32) (a2 : Int32) : gR :=
  gOb G a0 6 fun o2 => bI (f_M_isNoCursor G a0 a1) fun v5 G4 => gOb G4 a0 6 fun o7 => bI (f_M_start G4 a0 v5 (nI 1)) fun v10 G9 => if v10 = 0 then (gOb G9 a0 6 fun o12 => bI (f_M_isNoKey G9 a0 a2) fun v15 G14 => gOb G14 a0 6 fun o17 => bI (f_M_refuse G14 a0 v15 (nI 2)) fun v20 G19 => if v20 = 0 then (gFA G19 a0 6 3 fun v21 => gLdq G19 v21 105 a1 (none) fun v22 => gFI G19 v22 4 0 fun v23 => gOb G19 a0 6 fun o25 => bI (f_M_isFull G19 a0 v23 (nI 1)) fun v28 G27 => gOb G27 a0 6 fun o30 => bI (f_M_refuse G27 a0 v28 (nI 3)) fun v33 G32 => if v33 = 0 then (gFA G32 a0 6 3 fun v34 => gLdq G32 v34 105 a1 (none) fun v35 => gFI G32 v35 4 3 fun v36 => if v36 = 0 then gFI G32 v35 4 0 fun v37 => gFI G32 v35 4 1 fun v38 => gOb G32 a0 6 fun o40 => bA (f_M_make G32 a0 a2) fun v43 G42 => gOb G42 a0 6 fun o45 => bV (f_M_come w G42 a0 v37 v38 v43) fun G47 => gFI G47 v35 4 1 fun v48 => gPut G47 v35 4 1 (.int (v48 + (nI 1))) fun G49 => gPut G49 v35 4 2 (.int (-1)) fun G50 => gFI G50 v35 4 0 fun v51 => gOb G50 a0 6 fun o53 => bV (f_M_change G50 a0 v51 (nI 1) a1) fun G55 => gFI G55 a0 6 4 fun v56 => rI (v56 - (nI 1)) G55
            else gOb G32 a0 6 fun o58 => bI (f_M_fault G32 a0 (-9)) fun v61 G60 => rI v61 G60)
        else rI (nI 0) G32)
    else rI (nI 0) G19)
  else rI (nI 0) G9
theorem k_M_insert {l : Launch} {D : va_G} {B : Nat} {O : State → Heap → Prop} {w : Nat → Nat} (hV : zGw l D B O w) (G : gH) (a0 : Nat) (a1 : Int32) (a2 : Int32) : gMet (zVm l D B O) m_M_insert 14 [.ref a0, .int a1, .int a2] G (f_M_insert w G a0 a1 a2) := by
  refine gMet.of (by decide +kernel) (Nat.le_of_ble_eq_true rfl) [some (.ref a0), some (.int a1), some (.int a2), none] (fun ls h => zEn_ok (n := 4) h) ?_
  intro o Gf h
  unfold f_M_insert at h
  refine Y.blk (pc' := 3) (L' := [some (.ref a0), some (.int a1), some (.int a2), none]) (st' := [.int a1, .ref a0, .ref a0]) (sg := [(.aload_n 0, 0), (.aload_n 0, 0), (.iload_n 1, 0)]) (by decide +kernel) rfl ?_
  obtain ⟨_, o2, e1, m3, h⟩ := gOb_inv h
  refine Y.callI (yC.Vi (b := a0) (As := [.int a1]) (st := [.ref a0]) (r := ("PartlisterModel", T_M, 9)) hV.1.1 cb_M_isNoCursor lk_M_214 in_M_isNoCursor rfl se_M_isNoCursor (by decide +kernel) rfl rfl (Nat.le_of_ble_eq_true rfl) (by decide) e1 m3) (k_M_isNoCursor hV.1 G a0 a1) h (fun v5 G4 _ h => ?_)
  refine Y.blk (pc' := 7) (L' := [some (.ref a0), some (.int a1), some (.int a2), none]) (st' := [.int (nI 1), .int v5, .ref a0]) (sg := [(.iconst 1, nI 1)]) (by decide +kernel) rfl ?_
  obtain ⟨_, o7, e6, m8, h⟩ := gOb_inv h
  refine Y.callI (yC.Vi (b := a0) (As := [.int v5, .int (nI 1)]) (st := []) (r := ("PartlisterModel", T_M, 9)) hV.1.1 cb_M_start lk_M_114 in_M_start rfl se_M_start (by decide +kernel) rfl rfl (Nat.le_of_ble_eq_true rfl) (by decide) e6 m8) (k_M_start hV.1 G4 a0 v5 (nI 1)) h (fun v10 G9 _ h => ?_)
  refine Y.if_ne (off := 38) (tgt := 48) (by decide +kernel) (by decide) h (fun c65 h => ?_) (fun c65 h => ?_)
  · refine Y.blk (pc' := 16) (L' := [some (.ref a0), some (.int a1), some (.int a2), none]) (st' := [.int a2, .ref a0, .ref a0]) (sg := [(.aload_n 0, 0), (.aload_n 0, 0), (.iload_n 2, 0)]) (by decide +kernel) rfl ?_
    obtain ⟨_, o12, e11, m13, h⟩ := gOb_inv h
    refine Y.callI (yC.Vi (b := a0) (As := [.int a2]) (st := [.ref a0]) (r := ("PartlisterModel", T_M, 9)) hV.1.1 cb_M_isNoKey lk_M_160 in_M_isNoKey rfl se_M_isNoKey (by decide +kernel) rfl rfl (Nat.le_of_ble_eq_true rfl) (by decide) e11 m13) (k_M_isNoKey hV.1 G9 a0 a2) h (fun v15 G14 _ h => ?_)
    refine Y.blk (pc' := 20) (L' := [some (.ref a0), some (.int a1), some (.int a2), none]) (st' := [.int (nI 2), .int v15, .ref a0]) (sg := [(.iconst 2, nI 2)]) (by decide +kernel) rfl ?_
    obtain ⟨_, o17, e16, m18, h⟩ := gOb_inv h
    refine Y.callI (yC.Vi (b := a0) (As := [.int v15, .int (nI 2)]) (st := []) (r := ("PartlisterModel", T_M, 9)) hV.1.1 cb_M_refuse lk_M_36 in_M_refuse rfl se_M_refuse (by decide +kernel) rfl rfl (Nat.le_of_ble_eq_true rfl) (by decide) e16 m18) (k_M_refuse hV.1 G14 a0 v15 (nI 2)) h (fun v20 G19 _ h => ?_)
    refine Y.if_ne (off := 25) (tgt := 48) (by decide +kernel) (by decide) h (fun c64 h => ?_) (fun c64 h => ?_)
    · refine Y.blk (pc' := 29) (L' := [some (.ref a0), some (.int a1), some (.int a2), none]) (st' := [.ref a0, .ref a0, .ref a0]) (sg := [(.aload_n 0, 0), (.aload_n 0, 0), (.aload_n 0, 0)]) (by decide +kernel) rfl ?_
      refine Y.getA fl_M_24 (by decide +kernel) h (fun v21 h => ?_)
      refine Y.blk (pc' := 33) (L' := [some (.ref a0), some (.int a1), some (.int a2), none]) (st' := [.int a1, .ref v21, .ref a0, .ref a0]) (sg := [(.iload_n 1, 0)]) (by decide +kernel) rfl ?_
      refine Y.aald (t0 := 5) (by decide +kernel) rfl h (fun h => ?_) (fun v22 h => ?_)
      · cases h
      · refine Y.getI fl_M_89 (by decide +kernel) h (fun v23 h => ?_)
        refine Y.blk (pc' := 38) (L' := [some (.ref a0), some (.int a1), some (.int a2), none]) (st' := [.int (nI 1), .int v23, .ref a0, .ref a0]) (sg := [(.iconst 1, nI 1)]) (by decide +kernel) rfl ?_
        obtain ⟨_, o25, e24, m26, h⟩ := gOb_inv h
        refine Y.callI (yC.Vi (b := a0) (As := [.int v23, .int (nI 1)]) (st := [.ref a0]) (r := ("PartlisterModel", T_M, 9)) hV.1.1 cb_M_isFull lk_M_117 in_M_isFull rfl se_M_isFull (by decide +kernel) rfl rfl (Nat.le_of_ble_eq_true rfl) (by decide) e24 m26) (k_M_isFull hV.1 G19 a0 v23 (nI 1)) h (fun v28 G27 _ h => ?_)
        refine Y.blk (pc' := 42) (L' := [some (.ref a0), some (.int a1), some (.int a2), none]) (st' := [.int (nI 3), .int v28, .ref a0]) (sg := [(.iconst 3, nI 3)]) (by decide +kernel) rfl ?_
        obtain ⟨_, o30, e29, m31, h⟩ := gOb_inv h
        refine Y.callI (yC.Vi (b := a0) (As := [.int v28, .int (nI 3)]) (st := []) (r := ("PartlisterModel", T_M, 9)) hV.1.1 cb_M_refuse lk_M_36 in_M_refuse rfl se_M_refuse (by decide +kernel) rfl rfl (Nat.le_of_ble_eq_true rfl) (by decide) e29 m31) (k_M_refuse hV.1 G27 a0 v28 (nI 3)) h (fun v33 G32 _ h => ?_)
        refine Y.if_eq (off := 5) (tgt := 50) (by decide +kernel) (by decide) h (fun c63 h => ?_) (fun c63 h => ?_)
        · refine Y.blk (pc' := 51) (L' := [some (.ref a0), some (.int a1), some (.int a2), none]) (st' := [.ref a0]) (sg := [(.aload_n 0, 0)]) (by decide +kernel) rfl ?_
          refine Y.getA fl_M_24 (by decide +kernel) h (fun v34 h => ?_)
          refine Y.blk (pc' := 55) (L' := [some (.ref a0), some (.int a1), some (.int a2), none]) (st' := [.int a1, .ref v34]) (sg := [(.iload_n 1, 0)]) (by decide +kernel) rfl ?_
          refine Y.aald (t0 := 5) (by decide +kernel) rfl h (fun h => ?_) (fun v35 h => ?_)
          · refine Y.blk (pc' := 58) (L' := [some (.ref a0), some (.int a1), some (.int a2), some (.null)]) (st' := [.null]) (sg := [(.astore_n 3, 0), (.aload_n 3, 0)]) (by decide +kernel) rfl ?_
            cases h
          · refine Y.blk (pc' := 58) (L' := [some (.ref a0), some (.int a1), some (.int a2), some (.ref v35)]) (st' := [.ref v35]) (sg := [(.astore_n 3, 0), (.aload_n 3, 0)]) (by decide +kernel) rfl ?_
            refine Y.getI fl_M_99 (by decide +kernel) h (fun v36 h => ?_)
            refine Y.if_eq (off := 10) (tgt := 71) (by decide +kernel) (by decide) h (fun c62 h => ?_) (fun c62 h => ?_)
            · refine Y.blk (pc' := 73) (L' := [some (.ref a0), some (.int a1), some (.int a2), some (.ref v35)]) (st' := [.ref v35, .ref a0]) (sg := [(.aload_n 0, 0), (.aload_n 3, 0)]) (by decide +kernel) rfl ?_
              refine Y.getI fl_M_89 (by decide +kernel) h (fun v37 h => ?_)
              refine Y.blk (pc' := 77) (L' := [some (.ref a0), some (.int a1), some (.int a2), some (.ref v35)]) (st' := [.ref v35, .int v37, .ref a0]) (sg := [(.aload_n 3, 0)]) (by decide +kernel) rfl ?_
              refine Y.getI fl_M_208 (by decide +kernel) h (fun v38 h => ?_)
              refine Y.blk (pc' := 82) (L' := [some (.ref a0), some (.int a1), some (.int a2), some (.ref v35)]) (st' := [.int a2, .ref a0, .int v38, .int v37, .ref a0]) (sg := [(.aload_n 0, 0), (.iload_n 2, 0)]) (by decide +kernel) rfl ?_
              obtain ⟨_, o40, e39, m41, h⟩ := gOb_inv h
              refine Y.callA (yC.Vi (b := a0) (As := [.int a2]) (st := [.int v38, .int v37, .ref a0]) (r := ("PartlisterModel", T_M, 9)) hV.1.1 cb_M_make lk_M_120 in_M_make rfl se_M_make (by decide +kernel) rfl rfl (Nat.le_of_ble_eq_true rfl) (by decide) e39 m41) (k_M_make hV.1 G32 a0 a2) h (fun v43 G42 _ h => ?_)
              obtain ⟨_, o45, e44, m46, h⟩ := gOb_inv h
              refine Y.callN (yC.Vi (b := a0) (As := [.int v37, .int v38, .ref v43]) (st := []) (r := ("PartlisterModel", T_M, 9)) hV.1.1 cb_M_come lk_M_124 in_M_come rfl se_M_come (by decide +kernel) rfl rfl (Nat.le_of_ble_eq_true rfl) (by decide) e44 m46) (k_M_come hV G42 a0 v37 v38 v43) h (fun G47 _ h => ?_)
              refine Y.blk (pc' := 90) (L' := [some (.ref a0), some (.int a1), some (.int a2), some (.ref v35)]) (st' := [.ref v35, .ref v35]) (sg := [(.aload_n 3, 0), (.dup, 0)]) (by decide +kernel) rfl ?_
              refine Y.getI fl_M_208 (by decide +kernel) h (fun v48 h => ?_)
              refine Y.blk (pc' := 95) (L' := [some (.ref a0), some (.int a1), some (.int a2), some (.ref v35)]) (st' := [.int (v48 + (nI 1)), .ref v35]) (sg := [(.iconst 1, nI 1), (.iadd, 0)]) (by decide +kernel) rfl ?_
              refine Y.putf fl_M_208 (by decide) rfl rfl (by decide +kernel) h (fun G49 _ _ h => ?_)
              refine Y.blk (pc' := 100) (L' := [some (.ref a0), some (.int a1), some (.int a2), some (.ref v35)]) (st' := [.int (-1), .ref v35]) (sg := [(.aload_n 3, 0), (.iconst (-1), -1)]) (by decide +kernel) rfl ?_
              refine Y.putf fl_M_220 (by decide) rfl rfl (by decide +kernel) h (fun G50 _ _ h => ?_)
              refine Y.blk (pc' := 105) (L' := [some (.ref a0), some (.int a1), some (.int a2), some (.ref v35)]) (st' := [.ref v35, .ref a0]) (sg := [(.aload_n 0, 0), (.aload_n 3, 0)]) (by decide +kernel) rfl ?_
              refine Y.getI fl_M_89 (by decide +kernel) h (fun v51 h => ?_)
              refine Y.blk (pc' := 110) (L' := [some (.ref a0), some (.int a1), some (.int a2), some (.ref v35)]) (st' := [.int a1, .int (nI 1), .int v51, .ref a0]) (sg := [(.iconst 1, nI 1), (.iload_n 1, 0)]) (by decide +kernel) rfl ?_
              obtain ⟨_, o53, e52, m54, h⟩ := gOb_inv h
              refine Y.callN (yC.Vi (b := a0) (As := [.int v51, .int (nI 1), .int a1]) (st := []) (r := ("PartlisterModel", T_M, 9)) hV.1.1 cb_M_change lk_M_128 in_M_change rfl se_M_change (by decide +kernel) rfl rfl (Nat.le_of_ble_eq_true rfl) (by decide) e52 m54) (k_M_change hV.1 G50 a0 v51 (nI 1) a1) h (fun G55 _ h => ?_)
              refine Y.blk (pc' := 114) (L' := [some (.ref a0), some (.int a1), some (.int a2), some (.ref v35)]) (st' := [.ref a0]) (sg := [(.aload_n 0, 0)]) (by decide +kernel) rfl ?_
              refine Y.getI fl_M_76 (by decide +kernel) h (fun v56 h => ?_)
              refine Y.blk (pc' := 119) (L' := [some (.ref a0), some (.int a1), some (.int a2), some (.ref v35)]) (st' := [.int (v56 - (nI 1))]) (sg := [(.iconst 1, nI 1), (.isub, 0)]) (by decide +kernel) rfl ?_
              exact Y.iret rfl (by decide +kernel) h
            · refine Y.blk (pc' := 67) (L' := [some (.ref a0), some (.int a1), some (.int a2), some (.ref v35)]) (st' := [.int (-9), .ref a0]) (sg := [(.aload_n 0, 0), (.bipush (-9), -9)]) (by decide +kernel) rfl ?_
              obtain ⟨_, o58, e57, m59, h⟩ := gOb_inv h
              refine Y.callI (yC.Vi (b := a0) (As := [.int (-9)]) (st := []) (r := ("PartlisterModel", T_M, 9)) hV.1.1 cb_M_fault lk_M_217 in_M_fault rfl se_M_fault (by decide +kernel) rfl rfl (Nat.le_of_ble_eq_true rfl) (by decide) e57 m59) (k_M_fault hV.1 G32 a0 (-9)) h (fun v61 G60 _ h => ?_)
              exact Y.iret rfl (by decide +kernel) h
        · refine Y.blk (pc' := 49) (L' := [some (.ref a0), some (.int a1), some (.int a2), none]) (st' := [.int (nI 0)]) (sg := [(.iconst 0, nI 0)]) (by decide +kernel) rfl ?_
          exact Y.iret rfl (by decide +kernel) h
    · refine Y.blk (pc' := 49) (L' := [some (.ref a0), some (.int a1), some (.int a2), none]) (st' := [.int (nI 0)]) (sg := [(.iconst 0, nI 0)]) (by decide +kernel) rfl ?_
      exact Y.iret rfl (by decide +kernel) h
  · refine Y.blk (pc' := 49) (L' := [some (.ref a0), some (.int a1), some (.int a2), none]) (st' := [.int (nI 0)]) (sg := [(.iconst 0, nI 0)]) (by decide +kernel) rfl ?_
    exact Y.iret rfl (by decide +kernel) h
