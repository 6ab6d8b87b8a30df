def f_X_run (G : gH) (a0 : Nat) (a1 : Int32) (a2 : Int32) : gR :=
  gOb G a0 3 fun o2 => bV (f_X_needCursor G a0 a1) fun G3 => gFA G3 a0 3 1 fun v4 => gOb G3 v4 0 fun o6 => bI (f_U_isStale G3 v4 a1) fun v8 G7 => if v8 = 0 then (gFA G7 a0 3 1 fun v9 => gOb G7 v9 0 fun o11 => bI (f_U_nextOf G7 v9 a1) fun v13 G12 => gFA G12 a0 3 0 fun v14 => gFA G12 a0 3 1 fun v15 => gOb G12 v15 0 fun o17 => bI (f_U_listOf G12 v15 a1) fun v19 G18 => gOb G18 v14 1 fun o21 => bI (f_I_lengthOf G18 v14 v19) fun v23 G22 => if a2 = 0 then (if (v23 - v13) ≤ 0 then (if (v23 - v13) ≤ 0 then rI (v23 - v13) G22
        else gFA G22 a0 3 1 fun v24 => gOb G22 v24 0 fun o26 => bV (f_U_stand G22 v24 a1 v23 (v23 - (nI 1))) fun G27 => rI (v23 - v13) G27)
      else if a2 = 0 then (if (v23 - v13) ≤ 0 then rI (v23 - v13) G22
          else gFA G22 a0 3 1 fun v29 => gOb G22 v29 0 fun o31 => bV (f_U_stand G22 v29 a1 v23 (v23 - (nI 1))) fun G32 => rI (v23 - v13) G32)
        else gFA G22 a0 3 1 fun v34 => gOb G22 v34 0 fun o36 => bV (f_U_stand G22 v34 a1 (nI 0) (nI 0)) fun G37 => rI (v23 - v13) G37)
    else if v13 ≤ 0 then (if v13 ≤ 0 then rI v13 G22
        else gFA G22 a0 3 1 fun v40 => gOb G22 v40 0 fun o42 => bV (f_U_stand G22 v40 a1 v23 (v23 - (nI 1))) fun G43 => rI v13 G43)
      else if a2 = 0 then (if v13 ≤ 0 then rI v13 G22
          else gFA G22 a0 3 1 fun v45 => gOb G22 v45 0 fun o47 => bV (f_U_stand G22 v45 a1 v23 (v23 - (nI 1))) fun G48 => rI v13 G48)
        else gFA G22 a0 3 1 fun v50 => gOb G22 v50 0 fun o52 => bV (f_U_stand G22 v50 a1 (nI 0) (nI 0)) fun G53 => rI v13 G53)
  else gOb G7 a0 3 fun o58 => bI (f_X_failWith G7 a0 (-9)) fun v60 G59 => rI v60 G59
theorem k_X_run {l : Launch} {D : va_G} {B : Nat} {O : State → Heap → Prop} (hV : zG l D B O) (G : gH) (a0 : Nat) (a1 : Int32) (a2 : Int32) : gMet (zVm l D B O) m_X_run 7 [.ref a0, .int a1, .int a2] G (f_X_run G a0 a1 a2) := by
  refine gMet.of (by decide +kernel) (Nat.le_of_ble_eq_true rfl) [some (.ref a0), some (.int a1), some (.int a2), none, none, none] (fun ls h => zEn_ok (n := 6) h) ?_
  intro o Gf h
  unfold f_X_run at h
  refine Y.blk (pc' := 2) (L' := [some (.ref a0), some (.int a1), some (.int a2), none, none, none]) (st' := [.int a1, .ref a0]) (sg := [(.aload_n 0, 0), (.iload_n 1, 0)]) (by decide +kernel) rfl ?_
  obtain ⟨o2, e1, h⟩ := gOb_inv h
  refine Y.callN (yC.Vi (b := a0) (As := [.int a1]) (st := []) (r := ("Partlister", T_X, 5)) hV.1 cb_X_needCursor lk_X_167 in_X_needCursor rfl se_X_needCursor (by decide +kernel) rfl rfl (Nat.le_of_ble_eq_true rfl) (by decide) e1) (k_X_needCursor hV G a0 a1) h (fun G3 _ h => ?_)
  refine Y.blk (pc' := 6) (L' := [some (.ref a0), some (.int a1), some (.int a2), none, none, none]) (st' := [.ref a0]) (sg := [(.aload_n 0, 0)]) (by decide +kernel) rfl ?_
  refine Y.getA fl_X_19 (by decide +kernel) h (fun v4 h => ?_)
  refine Y.blk (pc' := 10) (L' := [some (.ref a0), some (.int a1), some (.int a2), none, none, none]) (st' := [.int a1, .ref v4]) (sg := [(.iload_n 1, 0)]) (by decide +kernel) rfl ?_
  obtain ⟨o6, e5, h⟩ := gOb_inv h
  refine Y.callI (yC.Vi (b := v4) (As := [.int a1]) (st := []) (r := ("Partlister$Cursors", T_U, 5)) hV.1 cb_U_isStale lk_X_170 in_U_isStale rfl se_U_isStale (by decide +kernel) rfl rfl (Nat.le_of_ble_eq_true rfl) (by decide) e5) (k_U_isStale hV G3 v4 a1) h (fun v8 G7 _ h => ?_)
  refine Y.if_eq (off := 10) (tgt := 23) (by decide +kernel) (by decide) h (fun c61 h => ?_) (fun c61 h => ?_)
  · refine Y.blk (pc' := 24) (L' := [some (.ref a0), some (.int a1), some (.int a2), none, none, none]) (st' := [.ref a0]) (sg := [(.aload_n 0, 0)]) (by decide +kernel) rfl ?_
    refine Y.getA fl_X_19 (by decide +kernel) h (fun v9 h => ?_)
    refine Y.blk (pc' := 28) (L' := [some (.ref a0), some (.int a1), some (.int a2), none, none, none]) (st' := [.int a1, .ref v9]) (sg := [(.iload_n 1, 0)]) (by decide +kernel) rfl ?_
    obtain ⟨o11, e10, h⟩ := gOb_inv h
    refine Y.callI (yC.Vi (b := v9) (As := [.int a1]) (st := []) (r := ("Partlister$Cursors", T_U, 5)) hV.1 cb_U_nextOf lk_X_176 in_U_nextOf rfl se_U_nextOf (by decide +kernel) rfl rfl (Nat.le_of_ble_eq_true rfl) (by decide) e10) (k_U_nextOf hV G7 v9 a1) h (fun v13 G12 _ h => ?_)
    refine Y.blk (pc' := 33) (L' := [some (.ref a0), some (.int a1), some (.int a2), some (.int v13), none, none]) (st' := [.ref a0]) (sg := [(.istore_n 3, 0), (.aload_n 0, 0)]) (by decide +kernel) rfl ?_
    refine Y.getA fl_X_10 (by decide +kernel) h (fun v14 h => ?_)
    refine Y.blk (pc' := 37) (L' := [some (.ref a0), some (.int a1), some (.int a2), some (.int v13), none, none]) (st' := [.ref a0, .ref v14]) (sg := [(.aload_n 0, 0)]) (by decide +kernel) rfl ?_
    refine Y.getA fl_X_19 (by decide +kernel) h (fun v15 h => ?_)
    refine Y.blk (pc' := 41) (L' := [some (.ref a0), some (.int a1), some (.int a2), some (.int v13), none, none]) (st' := [.int a1, .ref v15, .ref v14]) (sg := [(.iload_n 1, 0)]) (by decide +kernel) rfl ?_
    obtain ⟨o17, e16, h⟩ := gOb_inv h
    refine Y.callI (yC.Vi (b := v15) (As := [.int a1]) (st := [.ref v14]) (r := ("Partlister$Cursors", T_U, 5)) hV.1 cb_U_listOf lk_X_152 in_U_listOf rfl se_U_listOf (by decide +kernel) rfl rfl (Nat.le_of_ble_eq_true rfl) (by decide) e16) (k_U_listOf hV G12 v15 a1) h (fun v19 G18 _ h => ?_)
    obtain ⟨o21, e20, h⟩ := gOb_inv h
    refine Y.callI (yC.Vi (b := v14) (As := [.int v19]) (st := []) (r := ("Partlister$Lists", T_I, 7)) hV.1 cb_I_lengthOf lk_X_34 in_I_lengthOf rfl se_I_lengthOf (by decide +kernel) rfl rfl (Nat.le_of_ble_eq_true rfl) (by decide) e20) (k_I_lengthOf hV G18 v14 v19) h (fun v23 G22 _ h => ?_)
    refine Y.blk (pc' := 50) (L' := [some (.ref a0), some (.int a1), some (.int a2), some (.int v13), some (.int v23), none]) (st' := [.int a2]) (sg := [(.istore 4, 0), (.iload_n 2, 0)]) (by decide +kernel) rfl ?_
    refine Y.if_eq (off := 7) (tgt := 57) (by decide +kernel) (by decide) h (fun c56 h => ?_) (fun c56 h => ?_)
    · refine Y.blk (pc' := 65) (L' := [some (.ref a0), some (.int a1), some (.int a2), some (.int v13), some (.int v23), some (.int (v23 - v13))]) (st' := [.int (v23 - v13)]) (sg := [(.iload 4, 0), (.iload_n 3, 0), (.isub, 0), (.istore 5, 0), (.iload 5, 0)]) (by decide +kernel) rfl ?_
      refine Y.if_le (off := 20) (tgt := 85) (by decide +kernel) (by decide) h (fun c39 h => ?_) (fun c39 h => ?_)
      · refine Y.blk (pc' := 87) (L' := [some (.ref a0), some (.int a1), some (.int a2), some (.int v13), some (.int v23), some (.int (v23 - v13))]) (st' := [.int (v23 - v13)]) (sg := [(.iload 5, 0)]) (by decide +kernel) rfl ?_
        refine Y.if_le (off := 17) (tgt := 104) (by decide +kernel) (by decide) h (fun c28 h => ?_) (fun c28 h => ?_)
        · refine Y.blk (pc' := 106) (L' := [some (.ref a0), some (.int a1), some (.int a2), some (.int v13), some (.int v23), some (.int (v23 - v13))]) (st' := [.int (v23 - v13)]) (sg := [(.iload 5, 0)]) (by decide +kernel) rfl ?_
          exact Y.iret rfl (by decide +kernel) h
        · refine Y.blk (pc' := 91) (L' := [some (.ref a0), some (.int a1), some (.int a2), some (.int v13), some (.int v23), some (.int (v23 - v13))]) (st' := [.ref a0]) (sg := [(.aload_n 0, 0)]) (by decide +kernel) rfl ?_
          refine Y.getA fl_X_19 (by decide +kernel) h (fun v24 h => ?_)
          refine Y.blk (pc' := 101) (L' := [some (.ref a0), some (.int a1), some (.int a2), some (.int v13), some (.int v23), some (.int (v23 - v13))]) (st' := [.int (v23 - (nI 1)), .int v23, .int a1, .ref v24]) (sg := [(.iload_n 1, 0), (.iload 4, 0), (.iload 4, 0), (.iconst 1, nI 1), (.isub, 0)]) (by decide +kernel) rfl ?_
          obtain ⟨o26, e25, h⟩ := gOb_inv h
          refine Y.callN (yC.Vi (b := v24) (As := [.int a1, .int v23, .int (v23 - (nI 1))]) (st := []) (r := ("Partlister$Cursors", T_U, 5)) hV.1 cb_U_stand lk_X_179 in_U_stand rfl se_U_stand (by decide +kernel) rfl rfl (Nat.le_of_ble_eq_true rfl) (by decide) e25) (k_U_stand hV G22 v24 a1 v23 (v23 - (nI 1))) h (fun G27 _ h => ?_)
          refine Y.blk (pc' := 106) (L' := [some (.ref a0), some (.int a1), some (.int a2), some (.int v13), some (.int v23), some (.int (v23 - v13))]) (st' := [.int (v23 - v13)]) (sg := [(.iload 5, 0)]) (by decide +kernel) rfl ?_
          exact Y.iret rfl (by decide +kernel) h
      · refine Y.blk (pc' := 69) (L' := [some (.ref a0), some (.int a1), some (.int a2), some (.int v13), some (.int v23), some (.int (v23 - v13))]) (st' := [.int a2]) (sg := [(.iload_n 2, 0)]) (by decide +kernel) rfl ?_
        refine Y.if_eq (off := 16) (tgt := 85) (by decide +kernel) (by decide) h (fun c38 h => ?_) (fun c38 h => ?_)
        · refine Y.blk (pc' := 87) (L' := [some (.ref a0), some (.int a1), some (.int a2), some (.int v13), some (.int v23), some (.int (v23 - v13))]) (st' := [.int (v23 - v13)]) (sg := [(.iload 5, 0)]) (by decide +kernel) rfl ?_
          refine Y.if_le (off := 17) (tgt := 104) (by decide +kernel) (by decide) h (fun c33 h => ?_) (fun c33 h => ?_)
          · refine Y.blk (pc' := 106) (L' := [some (.ref a0), some (.int a1), some (.int a2), some (.int v13), some (.int v23), some (.int (v23 - v13))]) (st' := [.int (v23 - v13)]) (sg := [(.iload 5, 0)]) (by decide +kernel) rfl ?_
            exact Y.iret rfl (by decide +kernel) h
          · refine Y.blk (pc' := 91) (L' := [some (.ref a0), some (.int a1), some (.int a2), some (.int v13), some (.int v23), some (.int (v23 - v13))]) (st' := [.ref a0]) (sg := [(.aload_n 0, 0)]) (by decide +kernel) rfl ?_
            refine Y.getA fl_X_19 (by decide +kernel) h (fun v29 h => ?_)
            refine Y.blk (pc' := 101) (L' := [some (.ref a0), some (.int a1), some (.int a2), some (.int v13), some (.int v23), some (.int (v23 - v13))]) (st' := [.int (v23 - (nI 1)), .int v23, .int a1, .ref v29]) (sg := [(.iload_n 1, 0), (.iload 4, 0), (.iload 4, 0), (.iconst 1, nI 1), (.isub, 0)]) (by decide +kernel) rfl ?_
            obtain ⟨o31, e30, h⟩ := gOb_inv h
            refine Y.callN (yC.Vi (b := v29) (As := [.int a1, .int v23, .int (v23 - (nI 1))]) (st := []) (r := ("Partlister$Cursors", T_U, 5)) hV.1 cb_U_stand lk_X_179 in_U_stand rfl se_U_stand (by decide +kernel) rfl rfl (Nat.le_of_ble_eq_true rfl) (by decide) e30) (k_U_stand hV G22 v29 a1 v23 (v23 - (nI 1))) h (fun G32 _ h => ?_)
            refine Y.blk (pc' := 106) (L' := [some (.ref a0), some (.int a1), some (.int a2), some (.int v13), some (.int v23), some (.int (v23 - v13))]) (st' := [.int (v23 - v13)]) (sg := [(.iload 5, 0)]) (by decide +kernel) rfl ?_
            exact Y.iret rfl (by decide +kernel) h
        · refine Y.blk (pc' := 73) (L' := [some (.ref a0), some (.int a1), some (.int a2), some (.int v13), some (.int v23), some (.int (v23 - v13))]) (st' := [.ref a0]) (sg := [(.aload_n 0, 0)]) (by decide +kernel) rfl ?_
          refine Y.getA fl_X_19 (by decide +kernel) h (fun v34 h => ?_)
          refine Y.blk (pc' := 79) (L' := [some (.ref a0), some (.int a1), some (.int a2), some (.int v13), some (.int v23), some (.int (v23 - v13))]) (st' := [.int (nI 0), .int (nI 0), .int a1, .ref v34]) (sg := [(.iload_n 1, 0), (.iconst 0, nI 0), (.iconst 0, nI 0)]) (by decide +kernel) rfl ?_
          obtain ⟨o36, e35, h⟩ := gOb_inv h
          refine Y.callN (yC.Vi (b := v34) (As := [.int a1, .int (nI 0), .int (nI 0)]) (st := []) (r := ("Partlister$Cursors", T_U, 5)) hV.1 cb_U_stand lk_X_179 in_U_stand rfl se_U_stand (by decide +kernel) rfl rfl (Nat.le_of_ble_eq_true rfl) (by decide) e35) (k_U_stand hV G22 v34 a1 (nI 0) (nI 0)) h (fun G37 _ h => ?_)
          refine Y.goto (off := 22) (tgt := 104) (by decide +kernel) (by decide) ?_
          refine Y.blk (pc' := 106) (L' := [some (.ref a0), some (.int a1), some (.int a2), some (.int v13), some (.int v23), some (.int (v23 - v13))]) (st' := [.int (v23 - v13)]) (sg := [(.iload 5, 0)]) (by decide +kernel) rfl ?_
          exact Y.iret rfl (by decide +kernel) h
    · refine Y.blk (pc' := 54) (L' := [some (.ref a0), some (.int a1), some (.int a2), some (.int v13), some (.int v23), none]) (st' := [.int v13]) (sg := [(.iload_n 3, 0)]) (by decide +kernel) rfl ?_
      refine Y.goto (off := 7) (tgt := 61) (by decide +kernel) (by decide) ?_
      refine Y.blk (pc' := 65) (L' := [some (.ref a0), some (.int a1), some (.int a2), some (.int v13), some (.int v23), some (.int v13)]) (st' := [.int v13]) (sg := [(.istore 5, 0), (.iload 5, 0)]) (by decide +kernel) rfl ?_
      refine Y.if_le (off := 20) (tgt := 85) (by decide +kernel) (by decide) h (fun c55 h => ?_) (fun c55 h => ?_)
      · refine Y.blk (pc' := 87) (L' := [some (.ref a0), some (.int a1), some (.int a2), some (.int v13), some (.int v23), some (.int v13)]) (st' := [.int v13]) (sg := [(.iload 5, 0)]) (by decide +kernel) rfl ?_
        refine Y.if_le (off := 17) (tgt := 104) (by decide +kernel) (by decide) h (fun c44 h => ?_) (fun c44 h => ?_)
        · refine Y.blk (pc' := 106) (L' := [some (.ref a0), some (.int a1), some (.int a2), some (.int v13), some (.int v23), some (.int v13)]) (st' := [.int v13]) (sg := [(.iload 5, 0)]) (by decide +kernel) rfl ?_
          exact Y.iret rfl (by decide +kernel) h
        · refine Y.blk (pc' := 91) (L' := [some (.ref a0), some (.int a1), some (.int a2), some (.int v13), some (.int v23), some (.int v13)]) (st' := [.ref a0]) (sg := [(.aload_n 0, 0)]) (by decide +kernel) rfl ?_
          refine Y.getA fl_X_19 (by decide +kernel) h (fun v40 h => ?_)
          refine Y.blk (pc' := 101) (L' := [some (.ref a0), some (.int a1), some (.int a2), some (.int v13), some (.int v23), some (.int v13)]) (st' := [.int (v23 - (nI 1)), .int v23, .int a1, .ref v40]) (sg := [(.iload_n 1, 0), (.iload 4, 0), (.iload 4, 0), (.iconst 1, nI 1), (.isub, 0)]) (by decide +kernel) rfl ?_
          obtain ⟨o42, e41, h⟩ := gOb_inv h
          refine Y.callN (yC.Vi (b := v40) (As := [.int a1, .int v23, .int (v23 - (nI 1))]) (st := []) (r := ("Partlister$Cursors", T_U, 5)) hV.1 cb_U_stand lk_X_179 in_U_stand rfl se_U_stand (by decide +kernel) rfl rfl (Nat.le_of_ble_eq_true rfl) (by decide) e41) (k_U_stand hV G22 v40 a1 v23 (v23 - (nI 1))) h (fun G43 _ h => ?_)
          refine Y.blk (pc' := 106) (L' := [some (.ref a0), some (.int a1), some (.int a2), some (.int v13), some (.int v23), some (.int v13)]) (st' := [.int v13]) (sg := [(.iload 5, 0)]) (by decide +kernel) rfl ?_
          exact Y.iret rfl (by decide +kernel) h
      · refine Y.blk (pc' := 69) (L' := [some (.ref a0), some (.int a1), some (.int a2), some (.int v13), some (.int v23), some (.int v13)]) (st' := [.int a2]) (sg := [(.iload_n 2, 0)]) (by decide +kernel) rfl ?_
        refine Y.if_eq (off := 16) (tgt := 85) (by decide +kernel) (by decide) h (fun c54 h => ?_) (fun c54 h => ?_)
        · refine Y.blk (pc' := 87) (L' := [some (.ref a0), some (.int a1), some (.int a2), some (.int v13), some (.int v23), some (.int v13)]) (st' := [.int v13]) (sg := [(.iload 5, 0)]) (by decide +kernel) rfl ?_
          refine Y.if_le (off := 17) (tgt := 104) (by decide +kernel) (by decide) h (fun c49 h => ?_) (fun c49 h => ?_)
          · refine Y.blk (pc' := 106) (L' := [some (.ref a0), some (.int a1), some (.int a2), some (.int v13), some (.int v23), some (.int v13)]) (st' := [.int v13]) (sg := [(.iload 5, 0)]) (by decide +kernel) rfl ?_
            exact Y.iret rfl (by decide +kernel) h
          · refine Y.blk (pc' := 91) (L' := [some (.ref a0), some (.int a1), some (.int a2), some (.int v13), some (.int v23), some (.int v13)]) (st' := [.ref a0]) (sg := [(.aload_n 0, 0)]) (by decide +kernel) rfl ?_
            refine Y.getA fl_X_19 (by decide +kernel) h (fun v45 h => ?_)
            refine Y.blk (pc' := 101) (L' := [some (.ref a0), some (.int a1), some (.int a2), some (.int v13), some (.int v23), some (.int v13)]) (st' := [.int (v23 - (nI 1)), .int v23, .int a1, .ref v45]) (sg := [(.iload_n 1, 0), (.iload 4, 0), (.iload 4, 0), (.iconst 1, nI 1), (.isub, 0)]) (by decide +kernel) rfl ?_
            obtain ⟨o47, e46, h⟩ := gOb_inv h
            refine Y.callN (yC.Vi (b := v45) (As := [.int a1, .int v23, .int (v23 - (nI 1))]) (st := []) (r := ("Partlister$Cursors", T_U, 5)) hV.1 cb_U_stand lk_X_179 in_U_stand rfl se_U_stand (by decide +kernel) rfl rfl (Nat.le_of_ble_eq_true rfl) (by decide) e46) (k_U_stand hV G22 v45 a1 v23 (v23 - (nI 1))) h (fun G48 _ h => ?_)
            refine Y.blk (pc' := 106) (L' := [some (.ref a0), some (.int a1), some (.int a2), some (.int v13), some (.int v23), some (.int v13)]) (st' := [.int v13]) (sg := [(.iload 5, 0)]) (by decide +kernel) rfl ?_
            exact Y.iret rfl (by decide +kernel) h
        · refine Y.blk (pc' := 73) (L' := [some (.ref a0), some (.int a1), some (.int a2), some (.int v13), some (.int v23), some (.int v13)]) (st' := [.ref a0]) (sg := [(.aload_n 0, 0)]) (by decide +kernel) rfl ?_
          refine Y.getA fl_X_19 (by decide +kernel) h (fun v50 h => ?_)
          refine Y.blk (pc' := 79) (L' := [some (.ref a0), some (.int a1), some (.int a2), some (.int v13), some (.int v23), some (.int v13)]) (st' := [.int (nI 0), .int (nI 0), .int a1, .ref v50]) (sg := [(.iload_n 1, 0), (.iconst 0, nI 0), (.iconst 0, nI 0)]) (by decide +kernel) rfl ?_
          obtain ⟨o52, e51, h⟩ := gOb_inv h
          refine Y.callN (yC.Vi (b := v50) (As := [.int a1, .int (nI 0), .int (nI 0)]) (st := []) (r := ("Partlister$Cursors", T_U, 5)) hV.1 cb_U_stand lk_X_179 in_U_stand rfl se_U_stand (by decide +kernel) rfl rfl (Nat.le_of_ble_eq_true rfl) (by decide) e51) (k_U_stand hV G22 v50 a1 (nI 0) (nI 0)) h (fun G53 _ h => ?_)
          refine Y.goto (off := 22) (tgt := 104) (by decide +kernel) (by decide) ?_
          refine Y.blk (pc' := 106) (L' := [some (.ref a0), some (.int a1), some (.int a2), some (.int v13), some (.int v23), some (.int v13)]) (st' := [.int v13]) (sg := [(.iload 5, 0)]) (by decide +kernel) rfl ?_
          exact Y.iret rfl (by decide +kernel) h
  · refine Y.blk (pc' := 19) (L' := [some (.ref a0), some (.int a1), some (.int a2), none, none, none]) (st' := [.int (-9), .ref a0]) (sg := [(.aload_n 0, 0), (.bipush (-9), -9)]) (by decide +kernel) rfl ?_
    obtain ⟨o58, e57, h⟩ := gOb_inv h
    refine Y.callI (yC.Vi (b := a0) (As := [.int (-9)]) (st := []) (r := ("Partlister", T_X, 5)) hV.1 cb_X_failWith lk_X_173 in_X_failWith rfl se_X_failWith (by decide +kernel) rfl rfl (Nat.le_of_ble_eq_true rfl) (by decide) e57) (k_X_failWith hV G7 a0 (-9)) h (fun v60 G59 _ h => ?_)
    exact Y.iret rfl (by decide +kernel) h

def f_X_set (G : gH) (a0 : Nat) (a1 : Int32) (a2 : Int32) (a3 : Int32) : gR :=
  gOb G a0 3 fun o2 => bV (f_X_needList G a0 a1) fun G3 => gOb G3 a0 3 fun o5 => bV (f_X_needPlace G3 a0 a1 a2) fun G6 => gOb G6 a0 3 fun o8 => bV (f_X_needKey G6 a0 a3) fun G9 => gFA G9 a0 3 0 fun v10 => gOb G9 v10 1 fun o12 => bI (f_I_keyAt G9 v10 a1 a2) fun v14 G13 => gFA G13 a0 3 0 fun v15 => gOb G13 a0 3 fun o17 => bI (f_X_make G13 a0 a3) fun v19 G18 => gOb G18 v15 1 fun o21 => bV (f_I_write G18 v15 a1 a2 v19) fun G22 => rI v14 G22
theorem k_X_set {l : Launch} {D : va_G} {B : Nat} {O : State → Heap → Prop} (hV : zG l D B O) (G : gH) (a0 : Nat) (a1 : Int32) (a2 : Int32) (a3 : Int32) : gMet (zVm l D B O) m_X_set 7 [.ref a0, .int a1, .int a2, .int a3] G (f_X_set G a0 a1 a2 a3) := by
  refine gMet.of (by decide +kernel) (Nat.le_of_ble_eq_true rfl) [some (.ref a0), some (.int a1), some (.int a2), some (.int a3), none] (fun ls h => zEn_ok (n := 5) h) ?_
  intro o Gf h
  unfold f_X_set at h
  refine Y.blk (pc' := 2) (L' := [some (.ref a0), some (.int a1), some (.int a2), some (.int a3), none]) (st' := [.int a1, .ref a0]) (sg := [(.aload_n 0, 0), (.iload_n 1, 0)]) (by decide +kernel) rfl ?_
  obtain ⟨o2, e1, h⟩ := gOb_inv h
  refine Y.callN (yC.Vi (b := a0) (As := [.int a1]) (st := []) (r := ("Partlister", T_X, 5)) hV.1 cb_X_needList lk_X_23 in_X_needList rfl se_X_needList (by decide +kernel) rfl rfl (Nat.le_of_ble_eq_true rfl) (by decide) e1) (k_X_needList hV G a0 a1) h (fun G3 _ h => ?_)
  refine Y.blk (pc' := 8) (L' := [some (.ref a0), some (.int a1), some (.int a2), some (.int a3), none]) (st' := [.int a2, .int a1, .ref a0]) (sg := [(.aload_n 0, 0), (.iload_n 1, 0), (.iload_n 2, 0)]) (by decide +kernel) rfl ?_
  obtain ⟨o5, e4, h⟩ := gOb_inv h
  refine Y.callN (yC.Vi (b := a0) (As := [.int a1, .int a2]) (st := []) (r := ("Partlister", T_X, 5)) hV.1 cb_X_needPlace lk_X_58 in_X_needPlace rfl se_X_needPlace (by decide +kernel) rfl rfl (Nat.le_of_ble_eq_true rfl) (by decide) e4) (k_X_needPlace hV G3 a0 a1 a2) h (fun G6 _ h => ?_)
  refine Y.blk (pc' := 13) (L' := [some (.ref a0), some (.int a1), some (.int a2), some (.int a3), none]) (st' := [.int a3, .ref a0]) (sg := [(.aload_n 0, 0), (.iload_n 3, 0)]) (by decide +kernel) rfl ?_
  obtain ⟨o8, e7, h⟩ := gOb_inv h
  refine Y.callN (yC.Vi (b := a0) (As := [.int a3]) (st := []) (r := ("Partlister", T_X, 5)) hV.1 cb_X_needKey lk_X_27 in_X_needKey rfl se_X_needKey (by decide +kernel) rfl rfl (Nat.le_of_ble_eq_true rfl) (by decide) e7) (k_X_needKey hV G6 a0 a3) h (fun G9 _ h => ?_)
  refine Y.blk (pc' := 17) (L' := [some (.ref a0), some (.int a1), some (.int a2), some (.int a3), none]) (st' := [.ref a0]) (sg := [(.aload_n 0, 0)]) (by decide +kernel) rfl ?_
  refine Y.getA fl_X_10 (by decide +kernel) h (fun v10 h => ?_)
  refine Y.blk (pc' := 22) (L' := [some (.ref a0), some (.int a1), some (.int a2), some (.int a3), none]) (st' := [.int a2, .int a1, .ref v10]) (sg := [(.iload_n 1, 0), (.iload_n 2, 0)]) (by decide +kernel) rfl ?_
  obtain ⟨o12, e11, h⟩ := gOb_inv h
  refine Y.callI (yC.Vi (b := v10) (As := [.int a1, .int a2]) (st := []) (r := ("Partlister$Lists", T_I, 7)) hV.1 cb_I_keyAt lk_X_61 in_I_keyAt rfl se_I_keyAt (by decide +kernel) rfl rfl (Nat.le_of_ble_eq_true rfl) (by decide) e11) (k_I_keyAt hV G9 v10 a1 a2) h (fun v14 G13 _ h => ?_)
  refine Y.blk (pc' := 28) (L' := [some (.ref a0), some (.int a1), some (.int a2), some (.int a3), some (.int v14)]) (st' := [.ref a0]) (sg := [(.istore 4, 0), (.aload_n 0, 0)]) (by decide +kernel) rfl ?_
  refine Y.getA fl_X_10 (by decide +kernel) h (fun v15 h => ?_)
  refine Y.blk (pc' := 35) (L' := [some (.ref a0), some (.int a1), some (.int a2), some (.int a3), some (.int v14)]) (st' := [.int a3, .ref a0, .int a2, .int a1, .ref v15]) (sg := [(.iload_n 1, 0), (.iload_n 2, 0), (.aload_n 0, 0), (.iload_n 3, 0)]) (by decide +kernel) rfl ?_
  obtain ⟨o17, e16, h⟩ := gOb_inv h
  refine Y.callI (yC.Vi (b := a0) (As := [.int a3]) (st := [.int a2, .int a1, .ref v15]) (r := ("Partlister", T_X, 5)) hV.1 cb_X_make lk_X_38 in_X_make rfl se_X_make (by decide +kernel) rfl rfl (Nat.le_of_ble_eq_true rfl) (by decide) e16) (k_X_make hV G13 a0 a3) h (fun v19 G18 _ h => ?_)
  obtain ⟨o21, e20, h⟩ := gOb_inv h
  refine Y.callN (yC.Vi (b := v15) (As := [.int a1, .int a2, .int v19]) (st := []) (r := ("Partlister$Lists", T_I, 7)) hV.1 cb_I_write lk_X_65 in_I_write rfl se_I_write (by decide +kernel) rfl rfl (Nat.le_of_ble_eq_true rfl) (by decide) e20) (k_I_write hV G18 v15 a1 a2 v19) h (fun G22 _ h => ?_)
  refine Y.blk (pc' := 43) (L' := [some (.ref a0), some (.int a1), some (.int a2), some (.int a3), some (.int v14)]) (st' := [.int v14]) (sg := [(.iload 4, 0)]) (by decide +kernel) rfl ?_
  exact Y.iret rfl (by decide +kernel) h

def f_X_size (G : gH) (a0 : Nat) (a1 : Int32) : gR :=
  if a1 < 0 then gThrow "java/lang/IndexOutOfBoundsException" G
  else if a1 < (nI 6) then gFA G a0 3 0 fun v1 => gOb G v1 1 fun o3 => bI (f_I_lengthOf G v1 a1) fun v5 G4 => rI v5 G4
    else gThrow "java/lang/IndexOutOfBoundsException" G
theorem k_X_size {l : Launch} {D : va_G} {B : Nat} {O : State → Heap → Prop} (hV : zG l D B O) (G : gH) (a0 : Nat) (a1 : Int32) : gMet (zVm l D B O) m_X_size 6 [.ref a0, .int a1] G (f_X_size G a0 a1) := by
  refine gMet.of (by decide +kernel) (Nat.le_of_ble_eq_true rfl) [some (.ref a0), some (.int a1)] (fun ls h => zEn_ok (n := 2) h) ?_
  intro o Gf h
  unfold f_X_size at h
  refine Y.blk (pc' := 1) (L' := [some (.ref a0), some (.int a1)]) (st' := [.int a1]) (sg := [(.iload_n 1, 0)]) (by decide +kernel) rfl ?_
  refine Y.if_lt (off := 9) (tgt := 10) (by decide +kernel) (by decide) h (fun c7 h => ?_) (fun c7 h => ?_)
  · exact Y.throwS (is := 185) (text := "list is not 0 to 5") (names := zNm) hV.1 (hV.2 _ _ _ (by decide +kernel)) (by decide +kernel) (by decide +kernel) ck_X_125 ini_IOE tw_X_129 tg_X_129 (by decide) (by decide) rfl (Nat.le_of_ble_eq_true rfl) (by decide +kernel) (by decide +kernel) (by decide +kernel) (by decide +kernel) (by decide +kernel) h
  · refine Y.blk (pc' := 7) (L' := [some (.ref a0), some (.int a1)]) (st' := [.int (nI 6), .int a1]) (sg := [(.iload_n 1, 0), (.bipush 6, nI 6)]) (by decide +kernel) rfl ?_
    refine Y.ic_lt (off := 13) (tgt := 20) (by decide +kernel) (by decide) h (fun c6 h => ?_) (fun c6 h => ?_)
    · refine Y.blk (pc' := 21) (L' := [some (.ref a0), some (.int a1)]) (st' := [.ref a0]) (sg := [(.aload_n 0, 0)]) (by decide +kernel) rfl ?_
      refine Y.getA fl_X_10 (by decide +kernel) h (fun v1 h => ?_)
      refine Y.blk (pc' := 25) (L' := [some (.ref a0), some (.int a1)]) (st' := [.int a1, .ref v1]) (sg := [(.iload_n 1, 0)]) (by decide +kernel) rfl ?_
      obtain ⟨o3, e2, h⟩ := gOb_inv h
      refine Y.callI (yC.Vi (b := v1) (As := [.int a1]) (st := []) (r := ("Partlister$Lists", T_I, 7)) hV.1 cb_I_lengthOf lk_X_34 in_I_lengthOf rfl se_I_lengthOf (by decide +kernel) rfl rfl (Nat.le_of_ble_eq_true rfl) (by decide) e2) (k_I_lengthOf hV G v1 a1) h (fun v5 G4 _ h => ?_)
      exact Y.iret rfl (by decide +kernel) h
    · exact Y.throwS (is := 185) (text := "list is not 0 to 5") (names := zNm) hV.1 (hV.2 _ _ _ (by decide +kernel)) (by decide +kernel) (by decide +kernel) ck_X_125 ini_IOE tw_X_129 tg_X_129 (by decide) (by decide) rfl (Nat.le_of_ble_eq_true rfl) (by decide +kernel) (by decide +kernel) (by decide +kernel) (by decide +kernel) (by decide +kernel) h

def f_I_arrange_L23 (K73 : gH → Int32 → gR) : Nat → gH → Nat → Int32 → Int32 → Int32 → Int32 → gR
  | 0, _, _, _, _, _, _ => none
  | n + 1, G, x0, x1, x3, x4, x5 =>
    if x3 ≤ x5 then K73 G x4
    else gOb G x0 1 fun o12 => bI (f_I_thingInSpare G x0 x5) fun v14 G13 => bI (f_X_tagOf G13 v14) fun v17 G16 => gOb G16 x0 1 fun o19 => bI (f_I_thingAt G16 x0 x1 x5) fun v21 G20 => bI (f_X_tagOf G20 v21) fun v24 G23 => if v17 = v24 then gOb G23 x0 1 fun o26 => bV (f_I_write G23 x0 x1 x5 v14) fun G27 => f_I_arrange_L23 K73 n G27 x0 x1 x3 x4 (x5 + (nI 1))
      else gOb G23 x0 1 fun o29 => bV (f_I_write G23 x0 x1 x5 v14) fun G30 => f_I_arrange_L23 K73 n G30 x0 x1 x3 (x4 + (nI 1)) (x5 + (nI 1))
def f_I_arrange (G : gH) (a0 : Nat) (a1 : Int32) (a2 : Int32) : gR :=
  gOb G a0 1 fun o2 => bI (f_I_lengthOf G a0 a1) fun v4 G3 => gOb G3 a0 1 fun o6 => bV (f_I_copyToSpare G3 a0 a1) fun G7 => gOb G7 a0 1 fun o9 => bV (f_I_arrangeSpare G7 a0 v4 a2) fun G10 => f_I_arrange_L23 (fun G34 x33 => rI x33 G34) zFu G10 a0 a1 v4 (nI 0) (nI 0)
theorem k_I_arrange_L23 {l : Launch} {D : va_G} {B : Nat} {O : State → Heap → Prop} (hV : zG l D B O) {o : gO} {Gf : gH} (K73 : gH → Int32 → gR) (hK73 : ∀ (G : gH) (x4 : Int32), K73 G x4 = some (o, Gf) → Y (zVm l D B O) m_I_arrange 5 o Gf 73 [none, none, none, none, some (.int x4), none, none] [] G) : ∀ (n : Nat) (G : gH) (x0 : Nat) (x1 : Int32) (x3 : Int32) (x4 : Int32) (x5 : Int32), f_I_arrange_L23 K73 n G x0 x1 x3 x4 x5 = some (o, Gf) → Y (zVm l D B O) m_I_arrange 5 o Gf 23 [some (.ref x0), some (.int x1), none, some (.int x3), some (.int x4), some (.int x5), none] [] G := by
  intro n
  induction n with
  | zero => intro G x0 x1 x3 x4 x5 h; cases h
  | succ n ih =>
    intro G x0 x1 x3 x4 x5 h
    unfold f_I_arrange_L23 at h
    refine Y.blk (pc' := 26) (L' := [some (.ref x0), some (.int x1), none, some (.int x3), some (.int x4), some (.int x5), none]) (st' := [.int x3, .int x5]) (sg := [(.iload 5, 0), (.iload_n 3, 0)]) (by decide +kernel) rfl ?_
    refine Y.ic_ge (off := 47) (tgt := 73) (by decide +kernel) (by decide) h (fun c32 h => ?_) (fun c32 h => ?_)
    · refine Y.less (L' := [none, none, none, none, some (.int x4), none, none]) (zLe_none (zLe_none (zLe_some (zLe_none (zLe_some (zLe_none (zLe_some (zLe_nil)))))))) ?_
      exact hK73 G x4 h
    · refine Y.blk (pc' := 32) (L' := [some (.ref x0), some (.int x1), none, some (.int x3), some (.int x4), some (.int x5), none]) (st' := [.int x5, .ref x0]) (sg := [(.aload_n 0, 0), (.iload 5, 0)]) (by decide +kernel) rfl ?_
      obtain ⟨o12, e11, h⟩ := gOb_inv h
      refine Y.callI (yC.Vi (b := x0) (As := [.int x5]) (st := []) (r := ("Partlister$Lists", T_I, 7)) hV.1 cb_I_thingInSpare lk_I_73 in_I_thingInSpare rfl se_I_thingInSpare (by decide +kernel) rfl rfl (Nat.le_of_ble_eq_true rfl) (by decide) e11) (k_I_thingInSpare hV G x0 x5) h (fun v14 G13 _ h => ?_)
      refine Y.blk (pc' := 39) (L' := [some (.ref x0), some (.int x1), none, some (.int x3), some (.int x4), some (.int x5), some (.int v14)]) (st' := [.int v14]) (sg := [(.istore 6, 0), (.iload 6, 0)]) (by decide +kernel) rfl ?_
      refine Y.callI (yC.SN (As := [.int v14]) (st := []) hV.1 cb_X_tagOf lk_I_79 st_X_tagOf (by decide +kernel) rfl rfl (Nat.le_of_ble_eq_true rfl) (by decide)) (k_X_tagOf hV G13 v14) h (fun v17 G16 _ h => ?_)
      refine Y.blk (pc' := 46) (L' := [some (.ref x0), some (.int x1), none, some (.int x3), some (.int x4), some (.int x5), some (.int v14)]) (st' := [.int x5, .int x1, .ref x0, .int v17]) (sg := [(.aload_n 0, 0), (.iload_n 1, 0), (.iload 5, 0)]) (by decide +kernel) rfl ?_
      obtain ⟨o19, e18, h⟩ := gOb_inv h
      refine Y.callI (yC.Vi (b := x0) (As := [.int x1, .int x5]) (st := [.int v17]) (r := ("Partlister$Lists", T_I, 7)) hV.1 cb_I_thingAt lk_I_50 in_I_thingAt rfl se_I_thingAt (by decide +kernel) rfl rfl (Nat.le_of_ble_eq_true rfl) (by decide) e18) (k_I_thingAt hV G16 x0 x1 x5) h (fun v21 G20 _ h => ?_)
      refine Y.callI (yC.SN (As := [.int v21]) (st := [.int v17]) hV.1 cb_X_tagOf lk_I_79 st_X_tagOf (by decide +kernel) rfl rfl (Nat.le_of_ble_eq_true rfl) (by decide)) (k_X_tagOf hV G20 v21) h (fun v24 G23 _ h => ?_)
      refine Y.ic_eq (off := 6) (tgt := 58) (by decide +kernel) (by decide) h (fun c31 h => ?_) (fun c31 h => ?_)
      · refine Y.blk (pc' := 64) (L' := [some (.ref x0), some (.int x1), none, some (.int x3), some (.int x4), some (.int x5), some (.int v14)]) (st' := [.int v14, .int x5, .int x1, .ref x0]) (sg := [(.aload_n 0, 0), (.iload_n 1, 0), (.iload 5, 0), (.iload 6, 0)]) (by decide +kernel) rfl ?_
        obtain ⟨o26, e25, h⟩ := gOb_inv h
        refine Y.callN (yC.Vi (b := x0) (As := [.int x1, .int x5, .int v14]) (st := []) (r := ("Partlister$Lists", T_I, 7)) hV.1 cb_I_write lk_I_53 in_I_write rfl se_I_write (by decide +kernel) rfl rfl (Nat.le_of_ble_eq_true rfl) (by decide) e25) (k_I_write hV G23 x0 x1 x5 v14) h (fun G27 _ h => ?_)
        refine Y.blk (pc' := 70) (L' := [some (.ref x0), some (.int x1), none, some (.int x3), some (.int x4), some (.int (x5 + (nI 1))), some (.int v14)]) (st' := []) (sg := [(.iinc 5 1, nI 1)]) (by decide +kernel) rfl ?_
        refine Y.goto (off := -47) (tgt := 23) (by decide +kernel) (by decide) ?_
        refine Y.less (L' := [some (.ref x0), some (.int x1), none, some (.int x3), some (.int x4), some (.int (x5 + (nI 1))), none]) (zLe_some (zLe_some (zLe_some (zLe_some (zLe_some (zLe_some (zLe_none (zLe_nil)))))))) ?_
        exact ih G27 x0 x1 x3 x4 (x5 + (nI 1)) h
      · refine Y.blk (pc' := 64) (L' := [some (.ref x0), some (.int x1), none, some (.int x3), some (.int (x4 + (nI 1))), some (.int x5), some (.int v14)]) (st' := [.int v14, .int x5, .int x1, .ref x0]) (sg := [(.iinc 4 1, nI 1), (.aload_n 0, 0), (.iload_n 1, 0), (.iload 5, 0), (.iload 6, 0)]) (by decide +kernel) rfl ?_
        obtain ⟨o29, e28, h⟩ := gOb_inv h
        refine Y.callN (yC.Vi (b := x0) (As := [.int x1, .int x5, .int v14]) (st := []) (r := ("Partlister$Lists", T_I, 7)) hV.1 cb_I_write lk_I_53 in_I_write rfl se_I_write (by decide +kernel) rfl rfl (Nat.le_of_ble_eq_true rfl) (by decide) e28) (k_I_write hV G23 x0 x1 x5 v14) h (fun G30 _ h => ?_)
        refine Y.blk (pc' := 70) (L' := [some (.ref x0), some (.int x1), none, some (.int x3), some (.int (x4 + (nI 1))), some (.int (x5 + (nI 1))), some (.int v14)]) (st' := []) (sg := [(.iinc 5 1, nI 1)]) (by decide +kernel) rfl ?_
        refine Y.goto (off := -47) (tgt := 23) (by decide +kernel) (by decide) ?_
        refine Y.less (L' := [some (.ref x0), some (.int x1), none, some (.int x3), some (.int (x4 + (nI 1))), some (.int (x5 + (nI 1))), none]) (zLe_some (zLe_some (zLe_some (zLe_some (zLe_some (zLe_some (zLe_none (zLe_nil)))))))) ?_
        exact ih G30 x0 x1 x3 (x4 + (nI 1)) (x5 + (nI 1)) h
theorem k_I_arrange {l : Launch} {D : va_G} {B : Nat} {O : State → Heap → Prop} (hV : zG l D B O) (G : gH) (a0 : Nat) (a1 : Int32) (a2 : Int32) : gMet (zVm l D B O) m_I_arrange 5 [.ref a0, .int a1, .int a2] G (f_I_arrange G a0 a1 a2) := by
  refine gMet.of (by decide +kernel) (Nat.le_of_ble_eq_true rfl) [some (.ref a0), some (.int a1), some (.int a2), none, none, none, none] (fun ls h => zEn_ok (n := 7) h) ?_
  intro o Gf h
  unfold f_I_arrange at h
  refine Y.blk (pc' := 2) (L' := [some (.ref a0), some (.int a1), some (.int a2), none, none, none, none]) (st' := [.int a1, .ref a0]) (sg := [(.aload_n 0, 0), (.iload_n 1, 0)]) (by decide +kernel) rfl ?_
  obtain ⟨o2, e1, h⟩ := gOb_inv h
  refine Y.callI (yC.Vi (b := a0) (As := [.int a1]) (st := []) (r := ("Partlister$Lists", T_I, 7)) hV.1 cb_I_lengthOf lk_I_59 in_I_lengthOf rfl se_I_lengthOf (by decide +kernel) rfl rfl (Nat.le_of_ble_eq_true rfl) (by decide) e1) (k_I_lengthOf hV G a0 a1) h (fun v4 G3 _ h => ?_)
  refine Y.blk (pc' := 8) (L' := [some (.ref a0), some (.int a1), some (.int a2), some (.int v4), none, none, none]) (st' := [.int a1, .ref a0]) (sg := [(.istore_n 3, 0), (.aload_n 0, 0), (.iload_n 1, 0)]) (by decide +kernel) rfl ?_
  obtain ⟨o6, e5, h⟩ := gOb_inv h
  refine Y.callN (yC.Vi (b := a0) (As := [.int a1]) (st := []) (r := ("Partlister$Lists", T_I, 7)) hV.1 cb_I_copyToSpare lk_I_65 in_I_copyToSpare rfl se_I_copyToSpare (by decide +kernel) rfl rfl (Nat.le_of_ble_eq_true rfl) (by decide) e5) (k_I_copyToSpare hV G3 a0 a1) h (fun G7 _ h => ?_)
  refine Y.blk (pc' := 14) (L' := [some (.ref a0), some (.int a1), some (.int a2), some (.int v4), none, none, none]) (st' := [.int a2, .int v4, .ref a0]) (sg := [(.aload_n 0, 0), (.iload_n 3, 0), (.iload_n 2, 0)]) (by decide +kernel) rfl ?_
  obtain ⟨o9, e8, h⟩ := gOb_inv h
  refine Y.callN (yC.Vi (b := a0) (As := [.int v4, .int a2]) (st := []) (r := ("Partlister$Lists", T_I, 7)) hV.1 cb_I_arrangeSpare lk_I_76 in_I_arrangeSpare rfl se_I_arrangeSpare (by decide +kernel) rfl rfl (Nat.le_of_ble_eq_true rfl) (by decide) e8) (k_I_arrangeSpare hV G7 a0 v4 a2) h (fun G10 _ h => ?_)
  refine Y.blk (pc' := 23) (L' := [some (.ref a0), some (.int a1), some (.int a2), some (.int v4), some (.int (nI 0)), some (.int (nI 0)), none]) (st' := []) (sg := [(.iconst 0, nI 0), (.istore 4, 0), (.iconst 0, nI 0), (.istore 5, 0)]) (by decide +kernel) rfl ?_
  refine Y.less (L' := [some (.ref a0), some (.int a1), none, some (.int v4), some (.int (nI 0)), some (.int (nI 0)), none]) (zLe_some (zLe_some (zLe_none (zLe_some (zLe_some (zLe_some (zLe_some (zLe_nil)))))))) ?_
  refine k_I_arrange_L23 hV _ ?_  zFu G10 a0 a1 v4 (nI 0) (nI 0) h
  · intro G34 x33 h
    refine Y.blk (pc' := 75) (L' := [none, none, none, none, some (.int x33), none, none]) (st' := [.int x33]) (sg := [(.iload 4, 0)]) (by decide +kernel) rfl ?_
    exact Y.iret rfl (by decide +kernel) h

def f_X_sort (G : gH) (a0 : Nat) (a1 : Int32) (a2 : Int32) : gR :=
  gOb G a0 3 fun o2 => bV (f_X_needList G a0 a1) fun G3 => if a2 < 0 then gThrow "java/lang/IllegalArgumentException" G3
  else if a2 < (nI 5) then gFA G3 a0 3 0 fun v4 => gOb G3 v4 1 fun o6 => bI (f_I_arrange G3 v4 a1 a2) fun v8 G7 => gOb G7 a0 3 fun o10 => bI (f_X_endAround G7 a0 a1) fun v12 G11 => rI v8 G11
    else gThrow "java/lang/IllegalArgumentException" G3
theorem k_X_sort {l : Launch} {D : va_G} {B : Nat} {O : State → Heap → Prop} (hV : zG l D B O) (G : gH) (a0 : Nat) (a1 : Int32) (a2 : Int32) : gMet (zVm l D B O) m_X_sort 7 [.ref a0, .int a1, .int a2] G (f_X_sort G a0 a1 a2) := by
  refine gMet.of (by decide +kernel) (Nat.le_of_ble_eq_true rfl) [some (.ref a0), some (.int a1), some (.int a2), none] (fun ls h => zEn_ok (n := 4) h) ?_
  intro o Gf h
  unfold f_X_sort at h
  refine Y.blk (pc' := 2) (L' := [some (.ref a0), some (.int a1), some (.int a2), none]) (st' := [.int a1, .ref a0]) (sg := [(.aload_n 0, 0), (.iload_n 1, 0)]) (by decide +kernel) rfl ?_
  obtain ⟨o2, e1, h⟩ := gOb_inv h
  refine Y.callN (yC.Vi (b := a0) (As := [.int a1]) (st := []) (r := ("Partlister", T_X, 5)) hV.1 cb_X_needList lk_X_23 in_X_needList rfl se_X_needList (by decide +kernel) rfl rfl (Nat.le_of_ble_eq_true rfl) (by decide) e1) (k_X_needList hV G a0 a1) h (fun G3 _ h => ?_)
  refine Y.blk (pc' := 6) (L' := [some (.ref a0), some (.int a1), some (.int a2), none]) (st' := [.int a2]) (sg := [(.iload_n 2, 0)]) (by decide +kernel) rfl ?_
  refine Y.if_lt (off := 8) (tgt := 14) (by decide +kernel) (by decide) h (fun c14 h => ?_) (fun c14 h => ?_)
  · exact Y.throwS (is := 112) (text := "order is not 0 to 4") (names := zNm) hV.1 (hV.2 _ _ _ (by decide +kernel)) (by decide +kernel) (by decide +kernel) ck_X_81 ini_IAE tw_X_85 tg_X_85 (by decide) (by decide) rfl (Nat.le_of_ble_eq_true rfl) (by decide +kernel) (by decide +kernel) (by decide +kernel) (by decide +kernel) (by decide +kernel) h
  · refine Y.blk (pc' := 11) (L' := [some (.ref a0), some (.int a1), some (.int a2), none]) (st' := [.int (nI 5), .int a2]) (sg := [(.iload_n 2, 0), (.iconst 5, nI 5)]) (by decide +kernel) rfl ?_
    refine Y.ic_lt (off := 13) (tgt := 24) (by decide +kernel) (by decide) h (fun c13 h => ?_) (fun c13 h => ?_)
    · refine Y.blk (pc' := 25) (L' := [some (.ref a0), some (.int a1), some (.int a2), none]) (st' := [.ref a0]) (sg := [(.aload_n 0, 0)]) (by decide +kernel) rfl ?_
      refine Y.getA fl_X_10 (by decide +kernel) h (fun v4 h => ?_)
      refine Y.blk (pc' := 30) (L' := [some (.ref a0), some (.int a1), some (.int a2), none]) (st' := [.int a2, .int a1, .ref v4]) (sg := [(.iload_n 1, 0), (.iload_n 2, 0)]) (by decide +kernel) rfl ?_
      obtain ⟨o6, e5, h⟩ := gOb_inv h
      refine Y.callI (yC.Vi (b := v4) (As := [.int a1, .int a2]) (st := []) (r := ("Partlister$Lists", T_I, 7)) hV.1 cb_I_arrange lk_X_114 in_I_arrange rfl se_I_arrange (by decide +kernel) rfl rfl (Nat.le_of_ble_eq_true rfl) (by decide) e5) (k_I_arrange hV G3 v4 a1 a2) h (fun v8 G7 _ h => ?_)
      refine Y.blk (pc' := 36) (L' := [some (.ref a0), some (.int a1), some (.int a2), some (.int v8)]) (st' := [.int a1, .ref a0]) (sg := [(.istore_n 3, 0), (.aload_n 0, 0), (.iload_n 1, 0)]) (by decide +kernel) rfl ?_
      obtain ⟨o10, e9, h⟩ := gOb_inv h
      refine Y.callI (yC.Vi (b := a0) (As := [.int a1]) (st := []) (r := ("Partlister", T_X, 5)) hV.1 cb_X_endAround lk_X_103 in_X_endAround rfl se_X_endAround (by decide +kernel) rfl rfl (Nat.le_of_ble_eq_true rfl) (by decide) e9) (k_X_endAround hV G7 a0 a1) h (fun v12 G11 _ h => ?_)
      refine Y.blk (pc' := 41) (L' := [some (.ref a0), some (.int a1), some (.int a2), some (.int v8)]) (st' := [.int v8]) (sg := [(.pop, 0), (.iload_n 3, 0)]) (by decide +kernel) rfl ?_
      exact Y.iret rfl (by decide +kernel) h
    · exact Y.throwS (is := 112) (text := "order is not 0 to 4") (names := zNm) hV.1 (hV.2 _ _ _ (by decide +kernel)) (by decide +kernel) (by decide +kernel) ck_X_81 ini_IAE tw_X_85 tg_X_85 (by decide) (by decide) rfl (Nat.le_of_ble_eq_true rfl) (by decide +kernel) (by decide +kernel) (by decide +kernel) (by decide +kernel) (by decide +kernel) h

def f_I_countBelow_L12 (K38 : gH → Int32 → gR) : Nat → gH → Nat → Int32 → Int32 → Int32 → Int32 → Int32 → gR
  | 0, _, _, _, _, _, _, _ => none
  | n + 1, G, x0, x1, x2, x3, x4, x5 =>
    if x3 ≤ x5 then K38 G x4
    else gOb G x0 1 fun o6 => bI (f_I_keyAt G x0 x1 x5) fun v8 G7 => if x2 ≤ v8 then f_I_countBelow_L12 K38 n G7 x0 x1 x2 x3 x4 (x5 + (nI 1))
      else f_I_countBelow_L12 K38 n G7 x0 x1 x2 x3 (x4 + (nI 1)) (x5 + (nI 1))
def f_I_countBelow (G : gH) (a0 : Nat) (a1 : Int32) (a2 : Int32) : gR :=
  gOb G a0 1 fun o2 => bI (f_I_lengthOf G a0 a1) fun v4 G3 => f_I_countBelow_L12 (fun G12 x11 => rI x11 G12) zFu G3 a0 a1 a2 v4 (nI 0) (nI 0)
theorem k_I_countBelow_L12 {l : Launch} {D : va_G} {B : Nat} {O : State → Heap → Prop} (hV : zG l D B O) {o : gO} {Gf : gH} (K38 : gH → Int32 → gR) (hK38 : ∀ (G : gH) (x4 : Int32), K38 G x4 = some (o, Gf) → Y (zVm l D B O) m_I_countBelow 4 o Gf 38 [none, none, none, none, some (.int x4), none] [] G) : ∀ (n : Nat) (G : gH) (x0 : Nat) (x1 : Int32) (x2 : Int32) (x3 : Int32) (x4 : Int32) (x5 : Int32), f_I_countBelow_L12 K38 n G x0 x1 x2 x3 x4 x5 = some (o, Gf) → Y (zVm l D B O) m_I_countBelow 4 o Gf 12 [some (.ref x0), some (.int x1), some (.int x2), some (.int x3), some (.int x4), some (.int x5)] [] G := by
  intro n
  induction n with
  | zero => intro G x0 x1 x2 x3 x4 x5 h; cases h
  | succ n ih =>
    intro G x0 x1 x2 x3 x4 x5 h
    unfold f_I_countBelow_L12 at h
    refine Y.blk (pc' := 15) (L' := [some (.ref x0), some (.int x1), some (.int x2), some (.int x3), some (.int x4), some (.int x5)]) (st' := [.int x3, .int x5]) (sg := [(.iload 5, 0), (.iload_n 3, 0)]) (by decide +kernel) rfl ?_
    refine Y.ic_ge (off := 23) (tgt := 38) (by decide +kernel) (by decide) h (fun c10 h => ?_) (fun c10 h => ?_)
    · refine Y.less (L' := [none, none, none, none, some (.int x4), none]) (zLe_none (zLe_none (zLe_none (zLe_none (zLe_some (zLe_none (zLe_nil))))))) ?_
      exact hK38 G x4 h
    · refine Y.blk (pc' := 22) (L' := [some (.ref x0), some (.int x1), some (.int x2), some (.int x3), some (.int x4), some (.int x5)]) (st' := [.int x5, .int x1, .ref x0]) (sg := [(.aload_n 0, 0), (.iload_n 1, 0), (.iload 5, 0)]) (by decide +kernel) rfl ?_
      obtain ⟨o6, e5, h⟩ := gOb_inv h
      refine Y.callI (yC.Vi (b := x0) (As := [.int x1, .int x5]) (st := []) (r := ("Partlister$Lists", T_I, 7)) hV.1 cb_I_keyAt lk_I_101 in_I_keyAt rfl se_I_keyAt (by decide +kernel) rfl rfl (Nat.le_of_ble_eq_true rfl) (by decide) e5) (k_I_keyAt hV G x0 x1 x5) h (fun v8 G7 _ h => ?_)
      refine Y.blk (pc' := 26) (L' := [some (.ref x0), some (.int x1), some (.int x2), some (.int x3), some (.int x4), some (.int x5)]) (st' := [.int x2, .int v8]) (sg := [(.iload_n 2, 0)]) (by decide +kernel) rfl ?_
      refine Y.ic_ge (off := 6) (tgt := 32) (by decide +kernel) (by decide) h (fun c9 h => ?_) (fun c9 h => ?_)
      · refine Y.blk (pc' := 35) (L' := [some (.ref x0), some (.int x1), some (.int x2), some (.int x3), some (.int x4), some (.int (x5 + (nI 1)))]) (st' := []) (sg := [(.iinc 5 1, nI 1)]) (by decide +kernel) rfl ?_
        refine Y.goto (off := -23) (tgt := 12) (by decide +kernel) (by decide) ?_
        exact ih G7 x0 x1 x2 x3 x4 (x5 + (nI 1)) h
      · refine Y.blk (pc' := 35) (L' := [some (.ref x0), some (.int x1), some (.int x2), some (.int x3), some (.int (x4 + (nI 1))), some (.int (x5 + (nI 1)))]) (st' := []) (sg := [(.iinc 4 1, nI 1), (.iinc 5 1, nI 1)]) (by decide +kernel) rfl ?_
        refine Y.goto (off := -23) (tgt := 12) (by decide +kernel) (by decide) ?_
        exact ih G7 x0 x1 x2 x3 (x4 + (nI 1)) (x5 + (nI 1)) h
theorem k_I_countBelow {l : Launch} {D : va_G} {B : Nat} {O : State → Heap → Prop} (hV : zG l D B O) (G : gH) (a0 : Nat) (a1 : Int32) (a2 : Int32) : gMet (zVm l D B O) m_I_countBelow 4 [.ref a0, .int a1, .int a2] G (f_I_countBelow G a0 a1 a2) := by
  refine gMet.of (by decide +kernel) (Nat.le_of_ble_eq_true rfl) [some (.ref a0), some (.int a1), some (.int a2), none, none, none] (fun ls h => zEn_ok (n := 6) h) ?_
  intro o Gf h
  unfold f_I_countBelow at h
  refine Y.blk (pc' := 2) (L' := [some (.ref a0), some (.int a1), some (.int a2), none, none, none]) (st' := [.int a1, .ref a0]) (sg := [(.aload_n 0, 0), (.iload_n 1, 0)]) (by decide +kernel) rfl ?_
  obtain ⟨o2, e1, h⟩ := gOb_inv h
  refine Y.callI (yC.Vi (b := a0) (As := [.int a1]) (st := []) (r := ("Partlister$Lists", T_I, 7)) hV.1 cb_I_lengthOf lk_I_59 in_I_lengthOf rfl se_I_lengthOf (by decide +kernel) rfl rfl (Nat.le_of_ble_eq_true rfl) (by decide) e1) (k_I_lengthOf hV G a0 a1) h (fun v4 G3 _ h => ?_)
  refine Y.blk (pc' := 12) (L' := [some (.ref a0), some (.int a1), some (.int a2), some (.int v4), some (.int (nI 0)), some (.int (nI 0))]) (st' := []) (sg := [(.istore_n 3, 0), (.iconst 0, nI 0), (.istore 4, 0), (.iconst 0, nI 0), (.istore 5, 0)]) (by decide +kernel) rfl ?_
  refine k_I_countBelow_L12 hV _ ?_  zFu G3 a0 a1 a2 v4 (nI 0) (nI 0) h
  · intro G12 x11 h
    refine Y.blk (pc' := 40) (L' := [none, none, none, none, some (.int x11), none]) (st' := [.int x11]) (sg := [(.iload 4, 0)]) (by decide +kernel) rfl ?_
    exact Y.iret rfl (by decide +kernel) h

def f_I_isSorted_L8 (K30 : gH → gR) (K38 : gH → gR) : Nat → gH → Nat → Int32 → Int32 → Int32 → gR
  | 0, _, _, _, _, _ => none
  | n + 1, G, x0, x1, x2, x3 =>
    if x2 ≤ x3 then K38 G
    else gOb G x0 1 fun o6 => bI (f_I_keyAt G x0 x1 x3) fun v8 G7 => gOb G7 x0 1 fun o10 => bI (f_I_keyAt G7 x0 x1 (x3 - (nI 1))) fun v12 G11 => if v12 ≤ v8 then f_I_isSorted_L8 K30 K38 n G11 x0 x1 x2 (x3 + (nI 1))
      else K30 G11
def f_I_isSorted (G : gH) (a0 : Nat) (a1 : Int32) : gR :=
  gOb G a0 1 fun o2 => bI (f_I_lengthOf G a0 a1) fun v4 G3 => f_I_isSorted_L8 (fun G15 => rZ (nI 0) G15) (fun G16 => rZ (nI 1) G16) zFu G3 a0 a1 v4 (nI 1)
theorem k_I_isSorted_L8 {l : Launch} {D : va_G} {B : Nat} {O : State → Heap → Prop} (hV : zG l D B O) {o : gO} {Gf : gH} (K30 : gH → gR) (K38 : gH → gR) (hK30 : ∀ (G : gH), K30 G  = some (o, Gf) → Y (zVm l D B O) m_I_isSorted 4 o Gf 30 [none, none, none, none] [] G) (hK38 : ∀ (G : gH), K38 G  = some (o, Gf) → Y (zVm l D B O) m_I_isSorted 4 o Gf 38 [none, none, none, none] [] G) : ∀ (n : Nat) (G : gH) (x0 : Nat) (x1 : Int32) (x2 : Int32) (x3 : Int32), f_I_isSorted_L8 K30 K38 n G x0 x1 x2 x3 = some (o, Gf) → Y (zVm l D B O) m_I_isSorted 4 o Gf 8 [some (.ref x0), some (.int x1), some (.int x2), some (.int x3)] [] G := by
  intro n
  induction n with
  | zero => intro G x0 x1 x2 x3 h; cases h
  | succ n ih =>
    intro G x0 x1 x2 x3 h
    unfold f_I_isSorted_L8 at h
    refine Y.blk (pc' := 10) (L' := [some (.ref x0), some (.int x1), some (.int x2), some (.int x3)]) (st' := [.int x2, .int x3]) (sg := [(.iload_n 3, 0), (.iload_n 2, 0)]) (by decide +kernel) rfl ?_
    refine Y.ic_ge (off := 28) (tgt := 38) (by decide +kernel) (by decide) h (fun c14 h => ?_) (fun c14 h => ?_)
    · refine Y.less (L' := [none, none, none, none]) (zLe_none (zLe_none (zLe_none (zLe_none (zLe_nil))))) ?_
      exact hK38 G  h
    · refine Y.blk (pc' := 16) (L' := [some (.ref x0), some (.int x1), some (.int x2), some (.int x3)]) (st' := [.int x3, .int x1, .ref x0]) (sg := [(.aload_n 0, 0), (.iload_n 1, 0), (.iload_n 3, 0)]) (by decide +kernel) rfl ?_
      obtain ⟨o6, e5, h⟩ := gOb_inv h
      refine Y.callI (yC.Vi (b := x0) (As := [.int x1, .int x3]) (st := []) (r := ("Partlister$Lists", T_I, 7)) hV.1 cb_I_keyAt lk_I_101 in_I_keyAt rfl se_I_keyAt (by decide +kernel) rfl rfl (Nat.le_of_ble_eq_true rfl) (by decide) e5) (k_I_keyAt hV G x0 x1 x3) h (fun v8 G7 _ h => ?_)
      refine Y.blk (pc' := 24) (L' := [some (.ref x0), some (.int x1), some (.int x2), some (.int x3)]) (st' := [.int (x3 - (nI 1)), .int x1, .ref x0, .int v8]) (sg := [(.aload_n 0, 0), (.iload_n 1, 0), (.iload_n 3, 0), (.iconst 1, nI 1), (.isub, 0)]) (by decide +kernel) rfl ?_
      obtain ⟨o10, e9, h⟩ := gOb_inv h
      refine Y.callI (yC.Vi (b := x0) (As := [.int x1, .int (x3 - (nI 1))]) (st := [.int v8]) (r := ("Partlister$Lists", T_I, 7)) hV.1 cb_I_keyAt lk_I_101 in_I_keyAt rfl se_I_keyAt (by decide +kernel) rfl rfl (Nat.le_of_ble_eq_true rfl) (by decide) e9) (k_I_keyAt hV G7 x0 x1 (x3 - (nI 1))) h (fun v12 G11 _ h => ?_)
      refine Y.ic_ge (off := 5) (tgt := 32) (by decide +kernel) (by decide) h (fun c13 h => ?_) (fun c13 h => ?_)
      · refine Y.blk (pc' := 35) (L' := [some (.ref x0), some (.int x1), some (.int x2), some (.int (x3 + (nI 1)))]) (st' := []) (sg := [(.iinc 3 1, nI 1)]) (by decide +kernel) rfl ?_
        refine Y.goto (off := -27) (tgt := 8) (by decide +kernel) (by decide) ?_
        exact ih G11 x0 x1 x2 (x3 + (nI 1)) h
      · refine Y.less (L' := [none, none, none, none]) (zLe_none (zLe_none (zLe_none (zLe_none (zLe_nil))))) ?_
        exact hK30 G11  h
theorem k_I_isSorted {l : Launch} {D : va_G} {B : Nat} {O : State → Heap → Prop} (hV : zG l D B O) (G : gH) (a0 : Nat) (a1 : Int32) : gMet (zVm l D B O) m_I_isSorted 4 [.ref a0, .int a1] G (f_I_isSorted G a0 a1) := by
  refine gMet.of (by decide +kernel) (Nat.le_of_ble_eq_true rfl) [some (.ref a0), some (.int a1), none, none] (fun ls h => zEn_ok (n := 4) h) ?_
  intro o Gf h
  unfold f_I_isSorted at h
  refine Y.blk (pc' := 2) (L' := [some (.ref a0), some (.int a1), none, none]) (st' := [.int a1, .ref a0]) (sg := [(.aload_n 0, 0), (.iload_n 1, 0)]) (by decide +kernel) rfl ?_
  obtain ⟨o2, e1, h⟩ := gOb_inv h
  refine Y.callI (yC.Vi (b := a0) (As := [.int a1]) (st := []) (r := ("Partlister$Lists", T_I, 7)) hV.1 cb_I_lengthOf lk_I_59 in_I_lengthOf rfl se_I_lengthOf (by decide +kernel) rfl rfl (Nat.le_of_ble_eq_true rfl) (by decide) e1) (k_I_lengthOf hV G a0 a1) h (fun v4 G3 _ h => ?_)
  refine Y.blk (pc' := 8) (L' := [some (.ref a0), some (.int a1), some (.int v4), some (.int (nI 1))]) (st' := []) (sg := [(.istore_n 2, 0), (.iconst 1, nI 1), (.istore_n 3, 0)]) (by decide +kernel) rfl ?_
  refine k_I_isSorted_L8 hV _ _ ?_ ?_  zFu G3 a0 a1 v4 (nI 1) h
  · intro G15 h
    refine Y.blk (pc' := 31) (L' := [none, none, none, none]) (st' := [.int (nI 0)]) (sg := [(.iconst 0, nI 0)]) (by decide +kernel) rfl ?_
    exact Y.zret rfl (by decide +kernel) h
  · intro G16 h
    refine Y.blk (pc' := 39) (L' := [none, none, none, none]) (st' := [.int (nI 1)]) (sg := [(.iconst 1, nI 1)]) (by decide +kernel) rfl ?_
    exact Y.zret rfl (by decide +kernel) h

def f_X_spot (G : gH) (a0 : Nat) (a1 : Int32) (a2 : Int32) : gR :=
  gOb G a0 3 fun o2 => bV (f_X_needList G a0 a1) fun G3 => gOb G3 a0 3 fun o5 => bV (f_X_needKey G3 a0 a2) fun G6 => gFA G6 a0 3 0 fun v7 => gOb G6 v7 1 fun o9 => bI (f_I_isSorted G6 v7 a1) fun v11 G10 => if v11 = 0 then gThrow "java/lang/IllegalStateException" G10
  else gFA G10 a0 3 0 fun v12 => gOb G10 v12 1 fun o14 => bI (f_I_firstOf G10 v12 a1 a2) fun v16 G15 => if v16 = (-1) then gFA G15 a0 3 0 fun v17 => gOb G15 v17 1 fun o19 => bI (f_I_countBelow G15 v17 a1 a2) fun v21 G20 => rI v21 G20
    else rI (nI 99) G15
theorem k_X_spot {l : Launch} {D : va_G} {B : Nat} {O : State → Heap → Prop} (hV : zG l D B O) (G : gH) (a0 : Nat) (a1 : Int32) (a2 : Int32) : gMet (zVm l D B O) m_X_spot 7 [.ref a0, .int a1, .int a2] G (f_X_spot G a0 a1 a2) := by
  refine gMet.of (by decide +kernel) (Nat.le_of_ble_eq_true rfl) [some (.ref a0), some (.int a1), some (.int a2)] (fun ls h => zEn_ok (n := 3) h) ?_
  intro o Gf h
  unfold f_X_spot at h
  refine Y.blk (pc' := 2) (L' := [some (.ref a0), some (.int a1), some (.int a2)]) (st' := [.int a1, .ref a0]) (sg := [(.aload_n 0, 0), (.iload_n 1, 0)]) (by decide +kernel) rfl ?_
  obtain ⟨o2, e1, h⟩ := gOb_inv h
  refine Y.callN (yC.Vi (b := a0) (As := [.int a1]) (st := []) (r := ("Partlister", T_X, 5)) hV.1 cb_X_needList lk_X_23 in_X_needList rfl se_X_needList (by decide +kernel) rfl rfl (Nat.le_of_ble_eq_true rfl) (by decide) e1) (k_X_needList hV G a0 a1) h (fun G3 _ h => ?_)
  refine Y.blk (pc' := 7) (L' := [some (.ref a0), some (.int a1), some (.int a2)]) (st' := [.int a2, .ref a0]) (sg := [(.aload_n 0, 0), (.iload_n 2, 0)]) (by decide +kernel) rfl ?_
  obtain ⟨o5, e4, h⟩ := gOb_inv h
  refine Y.callN (yC.Vi (b := a0) (As := [.int a2]) (st := []) (r := ("Partlister", T_X, 5)) hV.1 cb_X_needKey lk_X_27 in_X_needKey rfl se_X_needKey (by decide +kernel) rfl rfl (Nat.le_of_ble_eq_true rfl) (by decide) e4) (k_X_needKey hV G3 a0 a2) h (fun G6 _ h => ?_)
  refine Y.blk (pc' := 11) (L' := [some (.ref a0), some (.int a1), some (.int a2)]) (st' := [.ref a0]) (sg := [(.aload_n 0, 0)]) (by decide +kernel) rfl ?_
  refine Y.getA fl_X_10 (by decide +kernel) h (fun v7 h => ?_)
  refine Y.blk (pc' := 15) (L' := [some (.ref a0), some (.int a1), some (.int a2)]) (st' := [.int a1, .ref v7]) (sg := [(.iload_n 1, 0)]) (by decide +kernel) rfl ?_
  obtain ⟨o9, e8, h⟩ := gOb_inv h
  refine Y.callI (yC.Vi (b := v7) (As := [.int a1]) (st := []) (r := ("Partlister$Lists", T_I, 7)) hV.1 cb_I_isSorted lk_X_205 in_I_isSorted rfl se_I_isSorted (by decide +kernel) rfl rfl (Nat.le_of_ble_eq_true rfl) (by decide) e8) (k_I_isSorted hV G6 v7 a1) h (fun v11 G10 _ h => ?_)
  refine Y.if_ne (off := 13) (tgt := 31) (by decide +kernel) (by decide) h (fun c23 h => ?_) (fun c23 h => ?_)
  · exact Y.throwS (is := 208) (text := "the LIST is not SORTED") (names := zNm) hV.1 (hV.2 _ _ _ (by decide +kernel)) (by decide +kernel) (by decide +kernel) ck_X_134 ini_ISE tw_X_138 tg_X_138 (by decide) (by decide) rfl (Nat.le_of_ble_eq_true rfl) (by decide +kernel) (by decide +kernel) (by decide +kernel) (by decide +kernel) (by decide +kernel) h
  · refine Y.blk (pc' := 32) (L' := [some (.ref a0), some (.int a1), some (.int a2)]) (st' := [.ref a0]) (sg := [(.aload_n 0, 0)]) (by decide +kernel) rfl ?_
    refine Y.getA fl_X_10 (by decide +kernel) h (fun v12 h => ?_)
    refine Y.blk (pc' := 37) (L' := [some (.ref a0), some (.int a1), some (.int a2)]) (st' := [.int a2, .int a1, .ref v12]) (sg := [(.iload_n 1, 0), (.iload_n 2, 0)]) (by decide +kernel) rfl ?_
    obtain ⟨o14, e13, h⟩ := gOb_inv h
    refine Y.callI (yC.Vi (b := v12) (As := [.int a1, .int a2]) (st := []) (r := ("Partlister$Lists", T_I, 7)) hV.1 cb_I_firstOf lk_X_72 in_I_firstOf rfl se_I_firstOf (by decide +kernel) rfl rfl (Nat.le_of_ble_eq_true rfl) (by decide) e13) (k_I_firstOf hV G10 v12 a1 a2) h (fun v16 G15 _ h => ?_)
    refine Y.blk (pc' := 41) (L' := [some (.ref a0), some (.int a1), some (.int a2)]) (st' := [.int (-1), .int v16]) (sg := [(.iconst (-1), -1)]) (by decide +kernel) rfl ?_
    refine Y.ic_eq (off := 8) (tgt := 49) (by decide +kernel) (by decide) h (fun c22 h => ?_) (fun c22 h => ?_)
    · refine Y.blk (pc' := 50) (L' := [some (.ref a0), some (.int a1), some (.int a2)]) (st' := [.ref a0]) (sg := [(.aload_n 0, 0)]) (by decide +kernel) rfl ?_
      refine Y.getA fl_X_10 (by decide +kernel) h (fun v17 h => ?_)
      refine Y.blk (pc' := 55) (L' := [some (.ref a0), some (.int a1), some (.int a2)]) (st' := [.int a2, .int a1, .ref v17]) (sg := [(.iload_n 1, 0), (.iload_n 2, 0)]) (by decide +kernel) rfl ?_
      obtain ⟨o19, e18, h⟩ := gOb_inv h
      refine Y.callI (yC.Vi (b := v17) (As := [.int a1, .int a2]) (st := []) (r := ("Partlister$Lists", T_I, 7)) hV.1 cb_I_countBelow lk_X_210 in_I_countBelow rfl se_I_countBelow (by decide +kernel) rfl rfl (Nat.le_of_ble_eq_true rfl) (by decide) e18) (k_I_countBelow hV G15 v17 a1 a2) h (fun v21 G20 _ h => ?_)
      exact Y.iret rfl (by decide +kernel) h
    · refine Y.blk (pc' := 46) (L' := [some (.ref a0), some (.int a1), some (.int a2)]) (st' := [.int (nI 99)]) (sg := [(.bipush 99, nI 99)]) (by decide +kernel) rfl ?_
      refine Y.goto (off := 12) (tgt := 58) (by decide +kernel) (by decide) ?_
      exact Y.iret rfl (by decide +kernel) h

def f_X_tag (G : gH) (a0 : Nat) (a1 : Int32) (a2 : Int32) : gR :=
  gOb G a0 3 fun o2 => bV (f_X_needList G a0 a1) fun G3 => gOb G3 a0 3 fun o5 => bV (f_X_needPlace G3 a0 a1 a2) fun G6 => gFA G6 a0 3 0 fun v7 => gOb G6 v7 1 fun o9 => bI (f_I_thingAt G6 v7 a1 a2) fun v11 G10 => bI (f_X_tagOf G10 v11) fun v14 G13 => rI v14 G13
theorem k_X_tag {l : Launch} {D : va_G} {B : Nat} {O : State → Heap → Prop} (hV : zG l D B O) (G : gH) (a0 : Nat) (a1 : Int32) (a2 : Int32) : gMet (zVm l D B O) m_X_tag 7 [.ref a0, .int a1, .int a2] G (f_X_tag G a0 a1 a2) := by
  refine gMet.of (by decide +kernel) (Nat.le_of_ble_eq_true rfl) [some (.ref a0), some (.int a1), some (.int a2)] (fun ls h => zEn_ok (n := 3) h) ?_
  intro o Gf h
  unfold f_X_tag at h
  refine Y.blk (pc' := 2) (L' := [some (.ref a0), some (.int a1), some (.int a2)]) (st' := [.int a1, .ref a0]) (sg := [(.aload_n 0, 0), (.iload_n 1, 0)]) (by decide +kernel) rfl ?_
  obtain ⟨o2, e1, h⟩ := gOb_inv h
  refine Y.callN (yC.Vi (b := a0) (As := [.int a1]) (st := []) (r := ("Partlister", T_X, 5)) hV.1 cb_X_needList lk_X_23 in_X_needList rfl se_X_needList (by decide +kernel) rfl rfl (Nat.le_of_ble_eq_true rfl) (by decide) e1) (k_X_needList hV G a0 a1) h (fun G3 _ h => ?_)
  refine Y.blk (pc' := 8) (L' := [some (.ref a0), some (.int a1), some (.int a2)]) (st' := [.int a2, .int a1, .ref a0]) (sg := [(.aload_n 0, 0), (.iload_n 1, 0), (.iload_n 2, 0)]) (by decide +kernel) rfl ?_
  obtain ⟨o5, e4, h⟩ := gOb_inv h
  refine Y.callN (yC.Vi (b := a0) (As := [.int a1, .int a2]) (st := []) (r := ("Partlister", T_X, 5)) hV.1 cb_X_needPlace lk_X_58 in_X_needPlace rfl se_X_needPlace (by decide +kernel) rfl rfl (Nat.le_of_ble_eq_true rfl) (by decide) e4) (k_X_needPlace hV G3 a0 a1 a2) h (fun G6 _ h => ?_)
  refine Y.blk (pc' := 12) (L' := [some (.ref a0), some (.int a1), some (.int a2)]) (st' := [.ref a0]) (sg := [(.aload_n 0, 0)]) (by decide +kernel) rfl ?_
  refine Y.getA fl_X_10 (by decide +kernel) h (fun v7 h => ?_)
  refine Y.blk (pc' := 17) (L' := [some (.ref a0), some (.int a1), some (.int a2)]) (st' := [.int a2, .int a1, .ref v7]) (sg := [(.iload_n 1, 0), (.iload_n 2, 0)]) (by decide +kernel) rfl ?_
  obtain ⟨o9, e8, h⟩ := gOb_inv h
  refine Y.callI (yC.Vi (b := v7) (As := [.int a1, .int a2]) (st := []) (r := ("Partlister$Lists", T_I, 7)) hV.1 cb_I_thingAt lk_X_94 in_I_thingAt rfl se_I_thingAt (by decide +kernel) rfl rfl (Nat.le_of_ble_eq_true rfl) (by decide) e8) (k_I_thingAt hV G6 v7 a1 a2) h (fun v11 G10 _ h => ?_)
  refine Y.callI (yC.S (As := [.int v11]) (st := []) hV.1 cb_X_tagOf lk_X_48 st_X_tagOf (by decide +kernel) rfl rfl (Nat.le_of_ble_eq_true rfl) (by decide)) (k_X_tagOf hV G10 v11) h (fun v14 G13 _ h => ?_)
  exact Y.iret rfl (by decide +kernel) h

def f_X_turn_L16 (K43 : gH → Int32 → gR) : Nat → gH → Nat → Int32 → Int32 → Int32 → gR
  | 0, _, _, _, _, _ => none
  | n + 1, G, x0, x1, x2, x3 =>
    gDiv x2 (nI 2) fun v9 => if v9 ≤ x3 then K43 G x2
    else gFA G x0 3 0 fun v10 => gOb G v10 1 fun o12 => bV (f_I_swap G v10 x1 x3 ((x2 - (nI 1)) - x3)) fun G13 => f_X_turn_L16 K43 n G13 x0 x1 x2 (x3 + (nI 1))
def f_X_turn (G : gH) (a0 : Nat) (a1 : Int32) : gR :=
  gOb G a0 3 fun o2 => bV (f_X_needList G a0 a1) fun G3 => gFA G3 a0 3 0 fun v4 => gOb G3 v4 1 fun o6 => bI (f_I_lengthOf G3 v4 a1) fun v8 G7 => f_X_turn_L16 (fun G16 x15 => rI x15 G16) zFu G7 a0 a1 v8 (nI 0)
theorem k_X_turn_L16 {l : Launch} {D : va_G} {B : Nat} {O : State → Heap → Prop} (hV : zG l D B O) {o : gO} {Gf : gH} (K43 : gH → Int32 → gR) (hK43 : ∀ (G : gH) (x2 : Int32), K43 G x2 = some (o, Gf) → Y (zVm l D B O) m_X_turn 7 o Gf 43 [none, none, some (.int x2), none] [] G) : ∀ (n : Nat) (G : gH) (x0 : Nat) (x1 : Int32) (x2 : Int32) (x3 : Int32), f_X_turn_L16 K43 n G x0 x1 x2 x3 = some (o, Gf) → Y (zVm l D B O) m_X_turn 7 o Gf 16 [some (.ref x0), some (.int x1), some (.int x2), some (.int x3)] [] G := by
  intro n
  induction n with
  | zero => intro G x0 x1 x2 x3 h; cases h
  | succ n ih =>
    intro G x0 x1 x2 x3 h
    unfold f_X_turn_L16 at h
    refine Y.blk (pc' := 19) (L' := [some (.ref x0), some (.int x1), some (.int x2), some (.int x3)]) (st' := [.int (nI 2), .int x2, .int x3]) (sg := [(.iload_n 3, 0), (.iload_n 2, 0), (.iconst 2, nI 2)]) (by decide +kernel) rfl ?_
    refine Y.idiv (by decide +kernel) h (fun v9 h => ?_)
    refine Y.ic_ge (off := 23) (tgt := 43) (by decide +kernel) (by decide) h (fun c14 h => ?_) (fun c14 h => ?_)
    · refine Y.less (L' := [none, none, some (.int x2), none]) (zLe_none (zLe_none (zLe_some (zLe_none (zLe_nil))))) ?_
      exact hK43 G x2 h
    · refine Y.blk (pc' := 24) (L' := [some (.ref x0), some (.int x1), some (.int x2), some (.int x3)]) (st' := [.ref x0]) (sg := [(.aload_n 0, 0)]) (by decide +kernel) rfl ?_
      refine Y.getA fl_X_10 (by decide +kernel) h (fun v10 h => ?_)
      refine Y.blk (pc' := 34) (L' := [some (.ref x0), some (.int x1), some (.int x2), some (.int x3)]) (st' := [.int ((x2 - (nI 1)) - x3), .int x3, .int x1, .ref v10]) (sg := [(.iload_n 1, 0), (.iload_n 3, 0), (.iload_n 2, 0), (.iconst 1, nI 1), (.isub, 0), (.iload_n 3, 0), (.isub, 0)]) (by decide +kernel) rfl ?_
      obtain ⟨o12, e11, h⟩ := gOb_inv h
      refine Y.callN (yC.Vi (b := v10) (As := [.int x1, .int x3, .int ((x2 - (nI 1)) - x3)]) (st := []) (r := ("Partlister$Lists", T_I, 7)) hV.1 cb_I_swap lk_X_117 in_I_swap rfl se_I_swap (by decide +kernel) rfl rfl (Nat.le_of_ble_eq_true rfl) (by decide) e11) (k_I_swap hV G v10 x1 x3 ((x2 - (nI 1)) - x3)) h (fun G13 _ h => ?_)
      refine Y.blk (pc' := 40) (L' := [some (.ref x0), some (.int x1), some (.int x2), some (.int (x3 + (nI 1)))]) (st' := []) (sg := [(.iinc 3 1, nI 1)]) (by decide +kernel) rfl ?_
      refine Y.goto (off := -24) (tgt := 16) (by decide +kernel) (by decide) ?_
      exact ih G13 x0 x1 x2 (x3 + (nI 1)) h
theorem k_X_turn {l : Launch} {D : va_G} {B : Nat} {O : State → Heap → Prop} (hV : zG l D B O) (G : gH) (a0 : Nat) (a1 : Int32) : gMet (zVm l D B O) m_X_turn 7 [.ref a0, .int a1] G (f_X_turn G a0 a1) := by
  refine gMet.of (by decide +kernel) (Nat.le_of_ble_eq_true rfl) [some (.ref a0), some (.int a1), none, none] (fun ls h => zEn_ok (n := 4) h) ?_
  intro o Gf h
  unfold f_X_turn at h
  refine Y.blk (pc' := 2) (L' := [some (.ref a0), some (.int a1), none, none]) (st' := [.int a1, .ref a0]) (sg := [(.aload_n 0, 0), (.iload_n 1, 0)]) (by decide +kernel) rfl ?_
  obtain ⟨o2, e1, h⟩ := gOb_inv h
  refine Y.callN (yC.Vi (b := a0) (As := [.int a1]) (st := []) (r := ("Partlister", T_X, 5)) hV.1 cb_X_needList lk_X_23 in_X_needList rfl se_X_needList (by decide +kernel) rfl rfl (Nat.le_of_ble_eq_true rfl) (by decide) e1) (k_X_needList hV G a0 a1) h (fun G3 _ h => ?_)
  refine Y.blk (pc' := 6) (L' := [some (.ref a0), some (.int a1), none, none]) (st' := [.ref a0]) (sg := [(.aload_n 0, 0)]) (by decide +kernel) rfl ?_
  refine Y.getA fl_X_10 (by decide +kernel) h (fun v4 h => ?_)
  refine Y.blk (pc' := 10) (L' := [some (.ref a0), some (.int a1), none, none]) (st' := [.int a1, .ref v4]) (sg := [(.iload_n 1, 0)]) (by decide +kernel) rfl ?_
  obtain ⟨o6, e5, h⟩ := gOb_inv h
  refine Y.callI (yC.Vi (b := v4) (As := [.int a1]) (st := []) (r := ("Partlister$Lists", T_I, 7)) hV.1 cb_I_lengthOf lk_X_34 in_I_lengthOf rfl se_I_lengthOf (by decide +kernel) rfl rfl (Nat.le_of_ble_eq_true rfl) (by decide) e5) (k_I_lengthOf hV G3 v4 a1) h (fun v8 G7 _ h => ?_)
  refine Y.blk (pc' := 16) (L' := [some (.ref a0), some (.int a1), some (.int v8), some (.int (nI 0))]) (st' := []) (sg := [(.istore_n 2, 0), (.iconst 0, nI 0), (.istore_n 3, 0)]) (by decide +kernel) rfl ?_
  refine k_X_turn_L16 hV _ ?_  zFu G7 a0 a1 v8 (nI 0) h
  · intro G16 x15 h
    refine Y.blk (pc' := 44) (L' := [none, none, some (.int x15), none]) (st' := [.int x15]) (sg := [(.iload_n 2, 0)]) (by decide +kernel) rfl ?_
    exact Y.iret rfl (by decide +kernel) h
