def f_X_next (G : gH) (a0 : Nat) (a1 : Int32) : gR :=
  gOb G a0 3 fun o2 => bV (f_X_needCursor G a0 a1) fun G4 => gFA G4 a0 3 1 fun v5 => gOb G4 v5 0 fun o7 => bI (f_U_isStale G4 v5 a1) fun v10 G9 => if v10 = 0 then (gFA G9 a0 3 1 fun v11 => gOb G9 v11 0 fun o13 => bI (f_U_listOf G9 v11 a1) fun v16 G15 => gFA G15 a0 3 1 fun v17 => gOb G15 v17 0 fun o19 => bI (f_U_nextOf G15 v17 a1) fun v22 G21 => gFA G21 a0 3 0 fun v23 => gOb G21 v23 1 fun o25 => bI (f_I_lengthOf G21 v23 v16) fun v28 G27 => if v22 < v28 then gFA G27 a0 3 1 fun v29 => gOb G27 v29 0 fun o31 => bV (f_U_stand G27 v29 a1 (v22 + (nI 1)) v22) fun G33 => gFA G33 a0 3 0 fun v34 => gOb G33 v34 1 fun o36 => bI (f_I_thingAt G33 v34 v16 v22) fun v39 G38 => bI (f_X_tagOf G38 v39) fun v42 G41 => rI v42 G41
    else gOb G27 a0 3 fun o44 => bI (f_X_failWith G27 a0 (-8)) fun v47 G46 => rI v47 G46)
  else gOb G9 a0 3 fun o50 => bI (f_X_failWith G9 a0 (-9)) fun v53 G52 => rI v53 G52
theorem k_X_next {l : Launch} {D : va_G} {B : Nat} {O : State → Heap → Prop} (hV : zG l D B O) (G : gH) (a0 : Nat) (a1 : Int32) : gMet (zVm l D B O) m_X_next 7 [.ref a0, .int a1] G (f_X_next G a0 a1) := by
  refine gMet.of (by decide +kernel) (Nat.le_of_ble_eq_true rfl) [some (.ref a0), some (.int a1), none, none] (fun ls h => zEn_ok (n := 4) h) ?_
  intro o Gf h
  unfold f_X_next at h
  refine Y.blk (pc' := 2) (L' := [some (.ref a0), some (.int a1), none, none]) (st' := [.int a1, .ref a0]) (sg := [(.aload_n 0, 0), (.iload_n 1, 0)]) (by decide +kernel) rfl ?_
  obtain ⟨_, o2, e1, m3, h⟩ := gOb_inv h
  refine Y.callN (yC.Vi (b := a0) (As := [.int a1]) (st := []) (r := ("Partlister", T_X, 5)) hV.1 cb_X_needCursor lk_X_167 in_X_needCursor rfl se_X_needCursor (by decide +kernel) rfl rfl (Nat.le_of_ble_eq_true rfl) (by decide) e1 m3) (k_X_needCursor hV G a0 a1) h (fun G4 _ h => ?_)
  refine Y.blk (pc' := 6) (L' := [some (.ref a0), some (.int a1), none, none]) (st' := [.ref a0]) (sg := [(.aload_n 0, 0)]) (by decide +kernel) rfl ?_
  refine Y.getA fl_X_19 (by decide +kernel) h (fun v5 h => ?_)
  refine Y.blk (pc' := 10) (L' := [some (.ref a0), some (.int a1), none, none]) (st' := [.int a1, .ref v5]) (sg := [(.iload_n 1, 0)]) (by decide +kernel) rfl ?_
  obtain ⟨_, o7, e6, m8, h⟩ := gOb_inv h
  refine Y.callI (yC.Vi (b := v5) (As := [.int a1]) (st := []) (r := ("Partlister$Cursors", T_U, 5)) hV.1 cb_U_isStale lk_X_170 in_U_isStale rfl se_U_isStale (by decide +kernel) rfl rfl (Nat.le_of_ble_eq_true rfl) (by decide) e6 m8) (k_U_isStale hV G4 v5 a1) h (fun v10 G9 _ h => ?_)
  refine Y.if_eq (off := 10) (tgt := 23) (by decide +kernel) (by decide) h (fun c54 h => ?_) (fun c54 h => ?_)
  · refine Y.blk (pc' := 24) (L' := [some (.ref a0), some (.int a1), none, none]) (st' := [.ref a0]) (sg := [(.aload_n 0, 0)]) (by decide +kernel) rfl ?_
    refine Y.getA fl_X_19 (by decide +kernel) h (fun v11 h => ?_)
    refine Y.blk (pc' := 28) (L' := [some (.ref a0), some (.int a1), none, none]) (st' := [.int a1, .ref v11]) (sg := [(.iload_n 1, 0)]) (by decide +kernel) rfl ?_
    obtain ⟨_, o13, e12, m14, h⟩ := gOb_inv h
    refine Y.callI (yC.Vi (b := v11) (As := [.int a1]) (st := []) (r := ("Partlister$Cursors", T_U, 5)) hV.1 cb_U_listOf lk_X_152 in_U_listOf rfl se_U_listOf (by decide +kernel) rfl rfl (Nat.le_of_ble_eq_true rfl) (by decide) e12 m14) (k_U_listOf hV G9 v11 a1) h (fun v16 G15 _ h => ?_)
    refine Y.blk (pc' := 33) (L' := [some (.ref a0), some (.int a1), some (.int v16), none]) (st' := [.ref a0]) (sg := [(.istore_n 2, 0), (.aload_n 0, 0)]) (by decide +kernel) rfl ?_
    refine Y.getA fl_X_19 (by decide +kernel) h (fun v17 h => ?_)
    refine Y.blk (pc' := 37) (L' := [some (.ref a0), some (.int a1), some (.int v16), none]) (st' := [.int a1, .ref v17]) (sg := [(.iload_n 1, 0)]) (by decide +kernel) rfl ?_
    obtain ⟨_, o19, e18, m20, h⟩ := gOb_inv h
    refine Y.callI (yC.Vi (b := v17) (As := [.int a1]) (st := []) (r := ("Partlister$Cursors", T_U, 5)) hV.1 cb_U_nextOf lk_X_176 in_U_nextOf rfl se_U_nextOf (by decide +kernel) rfl rfl (Nat.le_of_ble_eq_true rfl) (by decide) e18 m20) (k_U_nextOf hV G15 v17 a1) h (fun v22 G21 _ h => ?_)
    refine Y.blk (pc' := 43) (L' := [some (.ref a0), some (.int a1), some (.int v16), some (.int v22)]) (st' := [.ref a0, .int v22]) (sg := [(.istore_n 3, 0), (.iload_n 3, 0), (.aload_n 0, 0)]) (by decide +kernel) rfl ?_
    refine Y.getA fl_X_10 (by decide +kernel) h (fun v23 h => ?_)
    refine Y.blk (pc' := 47) (L' := [some (.ref a0), some (.int a1), some (.int v16), some (.int v22)]) (st' := [.int v16, .ref v23, .int v22]) (sg := [(.iload_n 2, 0)]) (by decide +kernel) rfl ?_
    obtain ⟨_, o25, e24, m26, h⟩ := gOb_inv h
    refine Y.callI (yC.Vi (b := v23) (As := [.int v16]) (st := [.int v22]) (r := ("Partlister$Lists", T_I, 7)) hV.1 cb_I_lengthOf lk_X_34 in_I_lengthOf rfl se_I_lengthOf (by decide +kernel) rfl rfl (Nat.le_of_ble_eq_true rfl) (by decide) e24 m26) (k_I_lengthOf hV G21 v23 v16) h (fun v28 G27 _ h => ?_)
    refine Y.ic_lt (off := 10) (tgt := 60) (by decide +kernel) (by decide) h (fun c48 h => ?_) (fun c48 h => ?_)
    · refine Y.blk (pc' := 61) (L' := [some (.ref a0), some (.int a1), some (.int v16), some (.int v22)]) (st' := [.ref a0]) (sg := [(.aload_n 0, 0)]) (by decide +kernel) rfl ?_
      refine Y.getA fl_X_19 (by decide +kernel) h (fun v29 h => ?_)
      refine Y.blk (pc' := 69) (L' := [some (.ref a0), some (.int a1), some (.int v16), some (.int v22)]) (st' := [.int v22, .int (v22 + (nI 1)), .int a1, .ref v29]) (sg := [(.iload_n 1, 0), (.iload_n 3, 0), (.iconst 1, nI 1), (.iadd, 0), (.iload_n 3, 0)]) (by decide +kernel) rfl ?_
      obtain ⟨_, o31, e30, m32, h⟩ := gOb_inv h
      refine Y.callN (yC.Vi (b := v29) (As := [.int a1, .int (v22 + (nI 1)), .int v22]) (st := []) (r := ("Partlister$Cursors", T_U, 5)) hV.1 cb_U_stand lk_X_179 in_U_stand rfl se_U_stand (by decide +kernel) rfl rfl (Nat.le_of_ble_eq_true rfl) (by decide) e30 m32) (k_U_stand hV G27 v29 a1 (v22 + (nI 1)) v22) h (fun G33 _ h => ?_)
      refine Y.blk (pc' := 73) (L' := [some (.ref a0), some (.int a1), some (.int v16), some (.int v22)]) (st' := [.ref a0]) (sg := [(.aload_n 0, 0)]) (by decide +kernel) rfl ?_
      refine Y.getA fl_X_10 (by decide +kernel) h (fun v34 h => ?_)
      refine Y.blk (pc' := 78) (L' := [some (.ref a0), some (.int a1), some (.int v16), some (.int v22)]) (st' := [.int v22, .int v16, .ref v34]) (sg := [(.iload_n 2, 0), (.iload_n 3, 0)]) (by decide +kernel) rfl ?_
      obtain ⟨_, o36, e35, m37, h⟩ := gOb_inv h
      refine Y.callI (yC.Vi (b := v34) (As := [.int v16, .int v22]) (st := []) (r := ("Partlister$Lists", T_I, 7)) hV.1 cb_I_thingAt lk_X_94 in_I_thingAt rfl se_I_thingAt (by decide +kernel) rfl rfl (Nat.le_of_ble_eq_true rfl) (by decide) e35 m37) (k_I_thingAt hV G33 v34 v16 v22) h (fun v39 G38 _ h => ?_)
      refine Y.callI (yC.S (As := [.int v39]) (st := []) hV.1 cb_X_tagOf lk_X_48 st_X_tagOf (by decide +kernel) rfl rfl (Nat.le_of_ble_eq_true rfl) (by decide)) (k_X_tagOf hV G38 v39) h (fun v42 G41 _ h => ?_)
      exact Y.iret rfl (by decide +kernel) h
    · refine Y.blk (pc' := 56) (L' := [some (.ref a0), some (.int a1), some (.int v16), some (.int v22)]) (st' := [.int (-8), .ref a0]) (sg := [(.aload_n 0, 0), (.bipush (-8), -8)]) (by decide +kernel) rfl ?_
      obtain ⟨_, o44, e43, m45, h⟩ := gOb_inv h
      refine Y.callI (yC.Vi (b := a0) (As := [.int (-8)]) (st := []) (r := ("Partlister", T_X, 5)) hV.1 cb_X_failWith lk_X_173 in_X_failWith rfl se_X_failWith (by decide +kernel) rfl rfl (Nat.le_of_ble_eq_true rfl) (by decide) e43 m45) (k_X_failWith hV G27 a0 (-8)) h (fun v47 G46 _ h => ?_)
      exact Y.iret rfl (by decide +kernel) h
  · refine Y.blk (pc' := 19) (L' := [some (.ref a0), some (.int a1), none, none]) (st' := [.int (-9), .ref a0]) (sg := [(.aload_n 0, 0), (.bipush (-9), -9)]) (by decide +kernel) rfl ?_
    obtain ⟨_, o50, e49, m51, h⟩ := gOb_inv h
    refine Y.callI (yC.Vi (b := a0) (As := [.int (-9)]) (st := []) (r := ("Partlister", T_X, 5)) hV.1 cb_X_failWith lk_X_173 in_X_failWith rfl se_X_failWith (by decide +kernel) rfl rfl (Nat.le_of_ble_eq_true rfl) (by decide) e49 m51) (k_X_failWith hV G9 a0 (-9)) h (fun v53 G52 _ h => ?_)
    exact Y.iret rfl (by decide +kernel) h

def f_X_ofCursor (G : gH) (a0 : Nat) (a1 : Int32) (a2 : Int32) : gR :=
  if a1 < 0 then gThrow "java/lang/IndexOutOfBoundsException" G
  else if a1 < (nI 3) then (if a2 < 0 then gThrow "java/lang/IllegalArgumentException" G
      else if a2 < (nI 7) then gOb G a0 3 fun o2 => bI (f_X_worthOfCursor G a0 a1 a2) fun v5 G4 => rI v5 G4
        else gThrow "java/lang/IllegalArgumentException" G)
    else gThrow "java/lang/IndexOutOfBoundsException" G
theorem k_X_ofCursor {l : Launch} {D : va_G} {B : Nat} {O : State → Heap → Prop} (hV : zG l D B O) (G : gH) (a0 : Nat) (a1 : Int32) (a2 : Int32) : gMet (zVm l D B O) m_X_ofCursor 6 [.ref a0, .int a1, .int a2] G (f_X_ofCursor G a0 a1 a2) := by
  refine gMet.of (by decide +kernel) (Nat.le_of_ble_eq_true rfl) [some (.ref a0), some (.int a1), some (.int a2)] (fun ls h => zEn_ok (n := 3) h) ?_
  intro o Gf h
  unfold f_X_ofCursor at h
  refine Y.blk (pc' := 1) (L' := [some (.ref a0), some (.int a1), some (.int a2)]) (st' := [.int a1]) (sg := [(.iload_n 1, 0)]) (by decide +kernel) rfl ?_
  refine Y.if_lt (off := 8) (tgt := 9) (by decide +kernel) (by decide) h (fun c9 h => ?_) (fun c9 h => ?_)
  · exact Y.throwS (is := 241) (text := "cursor is not 0 to 2") (names := zNm) hV.1 (hV.2 _ _ _ (by decide +kernel)) (by decide +kernel) (by decide +kernel) ck_X_125 ini_IOE tw_X_129 tg_X_129 (by decide) (by decide) rfl (Nat.le_of_ble_eq_true rfl) (by decide +kernel) (by decide +kernel) (by decide +kernel) (by decide +kernel) (by decide +kernel) h
  · refine Y.blk (pc' := 6) (L' := [some (.ref a0), some (.int a1), some (.int a2)]) (st' := [.int (nI 3), .int a1]) (sg := [(.iload_n 1, 0), (.iconst 3, nI 3)]) (by decide +kernel) rfl ?_
    refine Y.ic_lt (off := 13) (tgt := 19) (by decide +kernel) (by decide) h (fun c8 h => ?_) (fun c8 h => ?_)
    · refine Y.blk (pc' := 20) (L' := [some (.ref a0), some (.int a1), some (.int a2)]) (st' := [.int a2]) (sg := [(.iload_n 2, 0)]) (by decide +kernel) rfl ?_
      refine Y.if_lt (off := 9) (tgt := 29) (by decide +kernel) (by decide) h (fun c7 h => ?_) (fun c7 h => ?_)
      · exact Y.throwS (is := 243) (text := "what is not 0 to 6") (names := zNm) hV.1 (hV.2 _ _ _ (by decide +kernel)) (by decide +kernel) (by decide +kernel) ck_X_81 ini_IAE tw_X_85 tg_X_85 (by decide) (by decide) rfl (Nat.le_of_ble_eq_true rfl) (by decide +kernel) (by decide +kernel) (by decide +kernel) (by decide +kernel) (by decide +kernel) h
      · refine Y.blk (pc' := 26) (L' := [some (.ref a0), some (.int a1), some (.int a2)]) (st' := [.int (nI 7), .int a2]) (sg := [(.iload_n 2, 0), (.bipush 7, nI 7)]) (by decide +kernel) rfl ?_
        refine Y.ic_lt (off := 13) (tgt := 39) (by decide +kernel) (by decide) h (fun c6 h => ?_) (fun c6 h => ?_)
        · refine Y.blk (pc' := 42) (L' := [some (.ref a0), some (.int a1), some (.int a2)]) (st' := [.int a2, .int a1, .ref a0]) (sg := [(.aload_n 0, 0), (.iload_n 1, 0), (.iload_n 2, 0)]) (by decide +kernel) rfl ?_
          obtain ⟨_, o2, e1, m3, h⟩ := gOb_inv h
          refine Y.callI (yC.Vi (b := a0) (As := [.int a1, .int a2]) (st := []) (r := ("Partlister", T_X, 5)) hV.1 cb_X_worthOfCursor lk_X_245 in_X_worthOfCursor rfl se_X_worthOfCursor (by decide +kernel) rfl rfl (Nat.le_of_ble_eq_true rfl) (by decide) e1 m3) (k_X_worthOfCursor hV G a0 a1 a2) h (fun v5 G4 _ h => ?_)
          exact Y.iret rfl (by decide +kernel) h
        · exact Y.throwS (is := 243) (text := "what is not 0 to 6") (names := zNm) hV.1 (hV.2 _ _ _ (by decide +kernel)) (by decide +kernel) (by decide +kernel) ck_X_81 ini_IAE tw_X_85 tg_X_85 (by decide) (by decide) rfl (Nat.le_of_ble_eq_true rfl) (by decide +kernel) (by decide +kernel) (by decide +kernel) (by decide +kernel) (by decide +kernel) h
    · exact Y.throwS (is := 241) (text := "cursor is not 0 to 2") (names := zNm) hV.1 (hV.2 _ _ _ (by decide +kernel)) (by decide +kernel) (by decide +kernel) ck_X_125 ini_IOE tw_X_129 tg_X_129 (by decide) (by decide) rfl (Nat.le_of_ble_eq_true rfl) (by decide +kernel) (by decide +kernel) (by decide +kernel) (by decide +kernel) (by decide +kernel) h

def f_X_ofPart (G : gH) (a0 : Nat) (a1 : Int32) (a2 : Int32) : gR :=
  gOb G a0 3 fun o2 => bV (f_X_needPart G a0 a1) fun G4 => if a2 < 0 then gThrow "java/lang/IllegalArgumentException" G4
  else if a2 < (nI 4) then gFA G4 a0 3 0 fun v5 => gOb G4 v5 1 fun o7 => bI (f_I_worthOf G4 v5 a1 a2) fun v10 G9 => rI v10 G9
    else gThrow "java/lang/IllegalArgumentException" G4
theorem k_X_ofPart {l : Launch} {D : va_G} {B : Nat} {O : State → Heap → Prop} (hV : zG l D B O) (G : gH) (a0 : Nat) (a1 : Int32) (a2 : Int32) : gMet (zVm l D B O) m_X_ofPart 7 [.ref a0, .int a1, .int a2] G (f_X_ofPart G a0 a1 a2) := by
  refine gMet.of (by decide +kernel) (Nat.le_of_ble_eq_true rfl) [some (.ref a0), some (.int a1), some (.int a2)] (fun ls h => zEn_ok (n := 3) h) ?_
  intro o Gf h
  unfold f_X_ofPart at h
  refine Y.blk (pc' := 2) (L' := [some (.ref a0), some (.int a1), some (.int a2)]) (st' := [.int a1, .ref a0]) (sg := [(.aload_n 0, 0), (.iload_n 1, 0)]) (by decide +kernel) rfl ?_
  obtain ⟨_, o2, e1, m3, h⟩ := gOb_inv h
  refine Y.callN (yC.Vi (b := a0) (As := [.int a1]) (st := []) (r := ("Partlister", T_X, 5)) hV.1 cb_X_needPart lk_X_142 in_X_needPart rfl se_X_needPart (by decide +kernel) rfl rfl (Nat.le_of_ble_eq_true rfl) (by decide) e1 m3) (k_X_needPart hV G a0 a1) h (fun G4 _ h => ?_)
  refine Y.blk (pc' := 6) (L' := [some (.ref a0), some (.int a1), some (.int a2)]) (st' := [.int a2]) (sg := [(.iload_n 2, 0)]) (by decide +kernel) rfl ?_
  refine Y.if_lt (off := 8) (tgt := 14) (by decide +kernel) (by decide) h (fun c12 h => ?_) (fun c12 h => ?_)
  · exact Y.throwS (is := 236) (text := "what is not 0 to 3") (names := zNm) hV.1 (hV.2 _ _ _ (by decide +kernel)) (by decide +kernel) (by decide +kernel) ck_X_81 ini_IAE tw_X_85 tg_X_85 (by decide) (by decide) rfl (Nat.le_of_ble_eq_true rfl) (by decide +kernel) (by decide +kernel) (by decide +kernel) (by decide +kernel) (by decide +kernel) h
  · refine Y.blk (pc' := 11) (L' := [some (.ref a0), some (.int a1), some (.int a2)]) (st' := [.int (nI 4), .int a2]) (sg := [(.iload_n 2, 0), (.iconst 4, nI 4)]) (by decide +kernel) rfl ?_
    refine Y.ic_lt (off := 13) (tgt := 24) (by decide +kernel) (by decide) h (fun c11 h => ?_) (fun c11 h => ?_)
    · refine Y.blk (pc' := 25) (L' := [some (.ref a0), some (.int a1), some (.int a2)]) (st' := [.ref a0]) (sg := [(.aload_n 0, 0)]) (by decide +kernel) rfl ?_
      refine Y.getA fl_X_10 (by decide +kernel) h (fun v5 h => ?_)
      refine Y.blk (pc' := 30) (L' := [some (.ref a0), some (.int a1), some (.int a2)]) (st' := [.int a2, .int a1, .ref v5]) (sg := [(.iload_n 1, 0), (.iload_n 2, 0)]) (by decide +kernel) rfl ?_
      obtain ⟨_, o7, e6, m8, h⟩ := gOb_inv h
      refine Y.callI (yC.Vi (b := v5) (As := [.int a1, .int a2]) (st := []) (r := ("Partlister$Lists", T_I, 7)) hV.1 cb_I_worthOf lk_X_238 in_I_worthOf rfl se_I_worthOf (by decide +kernel) rfl rfl (Nat.le_of_ble_eq_true rfl) (by decide) e6 m8) (k_I_worthOf hV G4 v5 a1 a2) h (fun v10 G9 _ h => ?_)
      exact Y.iret rfl (by decide +kernel) h
    · exact Y.throwS (is := 236) (text := "what is not 0 to 3") (names := zNm) hV.1 (hV.2 _ _ _ (by decide +kernel)) (by decide +kernel) (by decide +kernel) ck_X_81 ini_IAE tw_X_85 tg_X_85 (by decide) (by decide) rfl (Nat.le_of_ble_eq_true rfl) (by decide +kernel) (by decide +kernel) (by decide +kernel) (by decide +kernel) (by decide +kernel) h

def f_X_pack (G : gH) (a0 : Nat) (a1 : Int32) (a2 : Int32) : gR :=
  gOb G a0 3 fun o2 => bV (f_X_needRow G a0 a1) fun G4 => gOb G4 a0 3 fun o6 => bI (f_X_endAround G4 a0 a1) fun v9 G8 => rI v9 G8
theorem k_X_pack {l : Launch} {D : va_G} {B : Nat} {O : State → Heap → Prop} (hV : zG l D B O) (G : gH) (a0 : Nat) (a1 : Int32) (a2 : Int32) : gMet (zVm l D B O) m_X_pack 7 [.ref a0, .int a1, .int a2] G (f_X_pack G a0 a1 a2) := by
  refine gMet.of (by decide +kernel) (Nat.le_of_ble_eq_true rfl) [some (.ref a0), some (.int a1), some (.int a2)] (fun ls h => zEn_ok (n := 3) h) ?_
  intro o Gf h
  unfold f_X_pack at h
  refine Y.blk (pc' := 2) (L' := [some (.ref a0), some (.int a1), some (.int a2)]) (st' := [.int a1, .ref a0]) (sg := [(.aload_n 0, 0), (.iload_n 1, 0)]) (by decide +kernel) rfl ?_
  obtain ⟨_, o2, e1, m3, h⟩ := gOb_inv h
  refine Y.callN (yC.Vi (b := a0) (As := [.int a1]) (st := []) (r := ("Partlister", T_X, 5)) hV.1 cb_X_needRow lk_X_106 in_X_needRow rfl se_X_needRow (by decide +kernel) rfl rfl (Nat.le_of_ble_eq_true rfl) (by decide) e1 m3) (k_X_needRow hV G a0 a1) h (fun G4 _ h => ?_)
  refine Y.blk (pc' := 7) (L' := [some (.ref a0), some (.int a1), some (.int a2)]) (st' := [.int a1, .ref a0]) (sg := [(.aload_n 0, 0), (.iload_n 1, 0)]) (by decide +kernel) rfl ?_
  obtain ⟨_, o6, e5, m7, h⟩ := gOb_inv h
  refine Y.callI (yC.Vi (b := a0) (As := [.int a1]) (st := []) (r := ("Partlister", T_X, 5)) hV.1 cb_X_endAround lk_X_103 in_X_endAround rfl se_X_endAround (by decide +kernel) rfl rfl (Nat.le_of_ble_eq_true rfl) (by decide) e5 m7) (k_X_endAround hV G4 a0 a1) h (fun v9 G8 _ h => ?_)
  exact Y.iret rfl (by decide +kernel) h

def f_I_freePart_L2 (K16 : gH → Int32 → gR) (K24 : gH → gR) : Nat → gH → Nat → Int32 → gR
  | 0, _, _, _ => none
  | n + 1, G, x0, x1 =>
    if (nI 6) ≤ x1 then K24 G
    else gOb G x0 1 fun o2 => bI (f_I_isThere G x0 x1) fun v5 G4 => if v5 = 0 then K16 G4 x1
      else f_I_freePart_L2 K16 K24 n G4 x0 (x1 + (nI 1))
def f_I_freePart (G : gH) (a0 : Nat) : gR :=
  f_I_freePart_L2 (fun G9 x8 => rI x8 G9) (fun G10 => rI (-1) G10) zFu G a0 (nI 2)
theorem k_I_freePart_L2 {l : Launch} {D : va_G} {B : Nat} {O : State → Heap → Prop} (hV : zG l D B O) {o : gO} {Gf : gH} (K16 : gH → Int32 → gR) (K24 : gH → gR) (hK16 : ∀ (G : gH) (x1 : Int32), K16 G x1 = some (o, Gf) → Y (zVm l D B O) m_I_freePart 3 o Gf 16 [none, some (.int x1)] [] G) (hK24 : ∀ (G : gH), K24 G  = some (o, Gf) → Y (zVm l D B O) m_I_freePart 3 o Gf 24 [none, none] [] G) : ∀ (n : Nat) (G : gH) (x0 : Nat) (x1 : Int32), f_I_freePart_L2 K16 K24 n G x0 x1 = some (o, Gf) → Y (zVm l D B O) m_I_freePart 3 o Gf 2 [some (.ref x0), some (.int x1)] [] G := by
  intro n
  induction n with
  | zero => intro G x0 x1 h; cases h
  | succ n ih =>
    intro G x0 x1 h
    unfold f_I_freePart_L2 at h
    refine Y.blk (pc' := 5) (L' := [some (.ref x0), some (.int x1)]) (st' := [.int (nI 6), .int x1]) (sg := [(.iload_n 1, 0), (.bipush 6, nI 6)]) (by decide +kernel) rfl ?_
    refine Y.ic_ge (off := 19) (tgt := 24) (by decide +kernel) (by decide) h (fun c7 h => ?_) (fun c7 h => ?_)
    · refine Y.less (L' := [none, none]) (zLe_none (zLe_none (zLe_nil))) ?_
      exact hK24 G  h
    · refine Y.blk (pc' := 10) (L' := [some (.ref x0), some (.int x1)]) (st' := [.int x1, .ref x0]) (sg := [(.aload_n 0, 0), (.iload_n 1, 0)]) (by decide +kernel) rfl ?_
      obtain ⟨_, o2, e1, m3, h⟩ := gOb_inv h
      refine Y.callI (yC.Vi (b := x0) (As := [.int x1]) (st := []) (r := ("Partlister$Lists", T_I, 7)) hV.1 cb_I_isThere lk_I_86 in_I_isThere rfl se_I_isThere (by decide +kernel) rfl rfl (Nat.le_of_ble_eq_true rfl) (by decide) e1 m3) (k_I_isThere hV G x0 x1) h (fun v5 G4 _ h => ?_)
      refine Y.if_ne (off := 5) (tgt := 18) (by decide +kernel) (by decide) h (fun c6 h => ?_) (fun c6 h => ?_)
      · refine Y.less (L' := [none, some (.int x1)]) (zLe_none (zLe_some (zLe_nil))) ?_
        exact hK16 G4 x1 h
      · refine Y.blk (pc' := 21) (L' := [some (.ref x0), some (.int (x1 + (nI 1)))]) (st' := []) (sg := [(.iinc 1 1, nI 1)]) (by decide +kernel) rfl ?_
        refine Y.goto (off := -19) (tgt := 2) (by decide +kernel) (by decide) ?_
        exact ih G4 x0 (x1 + (nI 1)) h
theorem k_I_freePart {l : Launch} {D : va_G} {B : Nat} {O : State → Heap → Prop} (hV : zG l D B O) (G : gH) (a0 : Nat) : gMet (zVm l D B O) m_I_freePart 3 [.ref a0] G (f_I_freePart G a0) := by
  refine gMet.of (by decide +kernel) (Nat.le_of_ble_eq_true rfl) [some (.ref a0), none] (fun ls h => zEn_ok (n := 2) h) ?_
  intro o Gf h
  unfold f_I_freePart at h
  refine Y.blk (pc' := 2) (L' := [some (.ref a0), some (.int (nI 2))]) (st' := []) (sg := [(.iconst 2, nI 2), (.istore_n 1, 0)]) (by decide +kernel) rfl ?_
  refine k_I_freePart_L2 hV _ _ ?_ ?_  zFu G a0 (nI 2) h
  · intro G9 x8 h
    refine Y.blk (pc' := 17) (L' := [none, some (.int x8)]) (st' := [.int x8]) (sg := [(.iload_n 1, 0)]) (by decide +kernel) rfl ?_
    exact Y.iret rfl (by decide +kernel) h
  · intro G10 h
    refine Y.blk (pc' := 25) (L' := [none, none]) (st' := [.int (-1)]) (sg := [(.iconst (-1), -1)]) (by decide +kernel) rfl ?_
    exact Y.iret rfl (by decide +kernel) h

def f_I_open (G : gH) (a0 : Nat) (a1 : Int32) (a2 : Int32) (a3 : Int32) (a4 : Int32) : gR :=
  gFA G a0 1 2 fun v1 => gOb G v1 2 fun o3 => bV (f_N_write G v1 a1 a2) fun G5 => gFA G5 a0 1 3 fun v6 => gOb G5 a0 1 fun o8 => bI (f_I_rowOf G5 a0 a2) fun v11 G10 => gOb G10 v6 2 fun o13 => bV (f_N_write G10 v6 a1 v11) fun G15 => gFA G15 a0 1 4 fun v16 => gFA G15 a0 1 4 fun v17 => gOb G15 v17 2 fun o19 => bI (f_N_read G15 v17 a2) fun v22 G21 => gOb G21 v16 2 fun o24 => bV (f_N_write G21 v16 a1 (v22 + a3)) fun G26 => gFA G26 a0 1 1 fun v27 => gOb G26 v27 2 fun o29 => bV (f_N_write G26 v27 a1 a4) fun G31 => rV G31
theorem k_I_open {l : Launch} {D : va_G} {B : Nat} {O : State → Heap → Prop} (hV : zG l D B O) (G : gH) (a0 : Nat) (a1 : Int32) (a2 : Int32) (a3 : Int32) (a4 : Int32) : gMet (zVm l D B O) m_I_open 3 [.ref a0, .int a1, .int a2, .int a3, .int a4] G (f_I_open G a0 a1 a2 a3 a4) := by
  refine gMet.of (by decide +kernel) (Nat.le_of_ble_eq_true rfl) [some (.ref a0), some (.int a1), some (.int a2), some (.int a3), some (.int a4)] (fun ls h => zEn_ok (n := 5) h) ?_
  intro o Gf h
  unfold f_I_open at h
  refine Y.blk (pc' := 1) (L' := [some (.ref a0), some (.int a1), some (.int a2), some (.int a3), some (.int a4)]) (st' := [.ref a0]) (sg := [(.aload_n 0, 0)]) (by decide +kernel) rfl ?_
  refine Y.getA fl_I_23 (by decide +kernel) h (fun v1 h => ?_)
  refine Y.blk (pc' := 6) (L' := [some (.ref a0), some (.int a1), some (.int a2), some (.int a3), some (.int a4)]) (st' := [.int a2, .int a1, .ref v1]) (sg := [(.iload_n 1, 0), (.iload_n 2, 0)]) (by decide +kernel) rfl ?_
  obtain ⟨_, o3, e2, m4, h⟩ := gOb_inv h
  refine Y.callN (yC.Vi (b := v1) (As := [.int a1, .int a2]) (st := []) (r := ("Partlister$Numbers", T_N, 1)) hV.1 cb_N_write lk_I_35 in_N_write rfl se_N_write (by decide +kernel) rfl rfl (Nat.le_of_ble_eq_true rfl) (by decide) e2 m4) (k_N_write hV G v1 a1 a2) h (fun G5 _ h => ?_)
  refine Y.blk (pc' := 10) (L' := [some (.ref a0), some (.int a1), some (.int a2), some (.int a3), some (.int a4)]) (st' := [.ref a0]) (sg := [(.aload_n 0, 0)]) (by decide +kernel) rfl ?_
  refine Y.getA fl_I_26 (by decide +kernel) h (fun v6 h => ?_)
  refine Y.blk (pc' := 16) (L' := [some (.ref a0), some (.int a1), some (.int a2), some (.int a3), some (.int a4)]) (st' := [.int a2, .ref a0, .int a1, .ref v6]) (sg := [(.iload_n 1, 0), (.aload_n 0, 0), (.iload_n 2, 0)]) (by decide +kernel) rfl ?_
  obtain ⟨_, o8, e7, m9, h⟩ := gOb_inv h
  refine Y.callI (yC.Vi (b := a0) (As := [.int a2]) (st := [.int a1, .ref v6]) (r := ("Partlister$Lists", T_I, 7)) hV.1 cb_I_rowOf lk_I_56 in_I_rowOf rfl se_I_rowOf (by decide +kernel) rfl rfl (Nat.le_of_ble_eq_true rfl) (by decide) e7 m9) (k_I_rowOf hV G5 a0 a2) h (fun v11 G10 _ h => ?_)
  obtain ⟨_, o13, e12, m14, h⟩ := gOb_inv h
  refine Y.callN (yC.Vi (b := v6) (As := [.int a1, .int v11]) (st := []) (r := ("Partlister$Numbers", T_N, 1)) hV.1 cb_N_write lk_I_35 in_N_write rfl se_N_write (by decide +kernel) rfl rfl (Nat.le_of_ble_eq_true rfl) (by decide) e12 m14) (k_N_write hV G10 v6 a1 v11) h (fun G15 _ h => ?_)
  refine Y.blk (pc' := 23) (L' := [some (.ref a0), some (.int a1), some (.int a2), some (.int a3), some (.int a4)]) (st' := [.ref a0]) (sg := [(.aload_n 0, 0)]) (by decide +kernel) rfl ?_
  refine Y.getA fl_I_29 (by decide +kernel) h (fun v16 h => ?_)
  refine Y.blk (pc' := 28) (L' := [some (.ref a0), some (.int a1), some (.int a2), some (.int a3), some (.int a4)]) (st' := [.ref a0, .int a1, .ref v16]) (sg := [(.iload_n 1, 0), (.aload_n 0, 0)]) (by decide +kernel) rfl ?_
  refine Y.getA fl_I_29 (by decide +kernel) h (fun v17 h => ?_)
  refine Y.blk (pc' := 32) (L' := [some (.ref a0), some (.int a1), some (.int a2), some (.int a3), some (.int a4)]) (st' := [.int a2, .ref v17, .int a1, .ref v16]) (sg := [(.iload_n 2, 0)]) (by decide +kernel) rfl ?_
  obtain ⟨_, o19, e18, m20, h⟩ := gOb_inv h
  refine Y.callI (yC.Vi (b := v17) (As := [.int a2]) (st := [.int a1, .ref v16]) (r := ("Partlister$Numbers", T_N, 1)) hV.1 cb_N_read lk_I_39 in_N_read rfl se_N_read (by decide +kernel) rfl rfl (Nat.le_of_ble_eq_true rfl) (by decide) e18 m20) (k_N_read hV G15 v17 a2) h (fun v22 G21 _ h => ?_)
  refine Y.blk (pc' := 37) (L' := [some (.ref a0), some (.int a1), some (.int a2), some (.int a3), some (.int a4)]) (st' := [.int (v22 + a3), .int a1, .ref v16]) (sg := [(.iload_n 3, 0), (.iadd, 0)]) (by decide +kernel) rfl ?_
  obtain ⟨_, o24, e23, m25, h⟩ := gOb_inv h
  refine Y.callN (yC.Vi (b := v16) (As := [.int a1, .int (v22 + a3)]) (st := []) (r := ("Partlister$Numbers", T_N, 1)) hV.1 cb_N_write lk_I_35 in_N_write rfl se_N_write (by decide +kernel) rfl rfl (Nat.le_of_ble_eq_true rfl) (by decide) e23 m25) (k_N_write hV G21 v16 a1 (v22 + a3)) h (fun G26 _ h => ?_)
  refine Y.blk (pc' := 41) (L' := [some (.ref a0), some (.int a1), some (.int a2), some (.int a3), some (.int a4)]) (st' := [.ref a0]) (sg := [(.aload_n 0, 0)]) (by decide +kernel) rfl ?_
  refine Y.getA fl_I_20 (by decide +kernel) h (fun v27 h => ?_)
  refine Y.blk (pc' := 47) (L' := [some (.ref a0), some (.int a1), some (.int a2), some (.int a3), some (.int a4)]) (st' := [.int a4, .int a1, .ref v27]) (sg := [(.iload_n 1, 0), (.iload 4, 0)]) (by decide +kernel) rfl ?_
  obtain ⟨_, o29, e28, m30, h⟩ := gOb_inv h
  refine Y.callN (yC.Vi (b := v27) (As := [.int a1, .int a4]) (st := []) (r := ("Partlister$Numbers", T_N, 1)) hV.1 cb_N_write lk_I_35 in_N_write rfl se_N_write (by decide +kernel) rfl rfl (Nat.le_of_ble_eq_true rfl) (by decide) e28 m30) (k_N_write hV G26 v27 a1 a4) h (fun G31 _ h => ?_)
  exact Y.vret rfl (by decide +kernel) h

def f_X_part (G : gH) (a0 : Nat) (a1 : Int32) (a2 : Int32) (a3 : Int32) : gR :=
  gOb G a0 3 fun o2 => bV (f_X_needList G a0 a1) fun G4 => gOb G4 a0 3 fun o6 => bV (f_X_needGap G4 a0 a1 a2) fun G8 => if a3 < a2 then gThrow "java/lang/IndexOutOfBoundsException" G8
  else gFA G8 a0 3 0 fun v9 => gOb G8 v9 1 fun o11 => bI (f_I_lengthOf G8 v9 a1) fun v14 G13 => if a3 ≤ v14 then (gFA G13 a0 3 0 fun v15 => gOb G13 v15 1 fun o17 => bI (f_I_freePart G13 v15) fun v20 G19 => if v20 = (-1) then gThrow "java/lang/IllegalStateException" G19
      else gFA G19 a0 3 0 fun v21 => gOb G19 v21 1 fun o23 => bV (f_I_open G19 v21 v20 a1 a2 (a3 - a2)) fun G25 => rI v20 G25)
    else gThrow "java/lang/IndexOutOfBoundsException" G13
theorem k_X_part {l : Launch} {D : va_G} {B : Nat} {O : State → Heap → Prop} (hV : zG l D B O) (G : gH) (a0 : Nat) (a1 : Int32) (a2 : Int32) (a3 : Int32) : gMet (zVm l D B O) m_X_part 7 [.ref a0, .int a1, .int a2, .int a3] G (f_X_part G a0 a1 a2 a3) := by
  refine gMet.of (by decide +kernel) (Nat.le_of_ble_eq_true rfl) [some (.ref a0), some (.int a1), some (.int a2), some (.int a3), none] (fun ls h => zEn_ok (n := 5) h) ?_
  intro o Gf h
  unfold f_X_part at h
  refine Y.blk (pc' := 2) (L' := [some (.ref a0), some (.int a1), some (.int a2), some (.int a3), none]) (st' := [.int a1, .ref a0]) (sg := [(.aload_n 0, 0), (.iload_n 1, 0)]) (by decide +kernel) rfl ?_
  obtain ⟨_, o2, e1, m3, h⟩ := gOb_inv h
  refine Y.callN (yC.Vi (b := a0) (As := [.int a1]) (st := []) (r := ("Partlister", T_X, 5)) hV.1 cb_X_needList lk_X_23 in_X_needList rfl se_X_needList (by decide +kernel) rfl rfl (Nat.le_of_ble_eq_true rfl) (by decide) e1 m3) (k_X_needList hV G a0 a1) h (fun G4 _ h => ?_)
  refine Y.blk (pc' := 8) (L' := [some (.ref a0), some (.int a1), some (.int a2), some (.int a3), none]) (st' := [.int a2, .int a1, .ref a0]) (sg := [(.aload_n 0, 0), (.iload_n 1, 0), (.iload_n 2, 0)]) (by decide +kernel) rfl ?_
  obtain ⟨_, o6, e5, m7, h⟩ := gOb_inv h
  refine Y.callN (yC.Vi (b := a0) (As := [.int a1, .int a2]) (st := []) (r := ("Partlister", T_X, 5)) hV.1 cb_X_needGap lk_X_45 in_X_needGap rfl se_X_needGap (by decide +kernel) rfl rfl (Nat.le_of_ble_eq_true rfl) (by decide) e5 m7) (k_X_needGap hV G4 a0 a1 a2) h (fun G8 _ h => ?_)
  refine Y.blk (pc' := 13) (L' := [some (.ref a0), some (.int a1), some (.int a2), some (.int a3), none]) (st' := [.int a2, .int a3]) (sg := [(.iload_n 3, 0), (.iload_n 2, 0)]) (by decide +kernel) rfl ?_
  refine Y.ic_lt (off := 15) (tgt := 28) (by decide +kernel) (by decide) h (fun c28 h => ?_) (fun c28 h => ?_)
  · exact Y.throwS (is := 127) (text := "to is not from to LENGTH") (names := zNm) hV.1 (hV.2 _ _ _ (by decide +kernel)) (by decide +kernel) (by decide +kernel) ck_X_125 ini_IOE tw_X_129 tg_X_129 (by decide) (by decide) rfl (Nat.le_of_ble_eq_true rfl) (by decide +kernel) (by decide +kernel) (by decide +kernel) (by decide +kernel) (by decide +kernel) h
  · refine Y.blk (pc' := 18) (L' := [some (.ref a0), some (.int a1), some (.int a2), some (.int a3), none]) (st' := [.ref a0, .int a3]) (sg := [(.iload_n 3, 0), (.aload_n 0, 0)]) (by decide +kernel) rfl ?_
    refine Y.getA fl_X_10 (by decide +kernel) h (fun v9 h => ?_)
    refine Y.blk (pc' := 22) (L' := [some (.ref a0), some (.int a1), some (.int a2), some (.int a3), none]) (st' := [.int a1, .ref v9, .int a3]) (sg := [(.iload_n 1, 0)]) (by decide +kernel) rfl ?_
    obtain ⟨_, o11, e10, m12, h⟩ := gOb_inv h
    refine Y.callI (yC.Vi (b := v9) (As := [.int a1]) (st := [.int a3]) (r := ("Partlister$Lists", T_I, 7)) hV.1 cb_I_lengthOf lk_X_34 in_I_lengthOf rfl se_I_lengthOf (by decide +kernel) rfl rfl (Nat.le_of_ble_eq_true rfl) (by decide) e10 m12) (k_I_lengthOf hV G8 v9 a1) h (fun v14 G13 _ h => ?_)
    refine Y.ic_le (off := 13) (tgt := 38) (by decide +kernel) (by decide) h (fun c27 h => ?_) (fun c27 h => ?_)
    · refine Y.blk (pc' := 39) (L' := [some (.ref a0), some (.int a1), some (.int a2), some (.int a3), none]) (st' := [.ref a0]) (sg := [(.aload_n 0, 0)]) (by decide +kernel) rfl ?_
      refine Y.getA fl_X_10 (by decide +kernel) h (fun v15 h => ?_)
      obtain ⟨_, o17, e16, m18, h⟩ := gOb_inv h
      refine Y.callI (yC.Vi (b := v15) (As := []) (st := []) (r := ("Partlister$Lists", T_I, 7)) hV.1 cb_I_freePart lk_X_130 in_I_freePart rfl se_I_freePart (by decide +kernel) rfl rfl (Nat.le_of_ble_eq_true rfl) (by decide) e16 m18) (k_I_freePart hV G13 v15) h (fun v20 G19 _ h => ?_)
      refine Y.blk (pc' := 50) (L' := [some (.ref a0), some (.int a1), some (.int a2), some (.int a3), some (.int v20)]) (st' := [.int (-1), .int v20]) (sg := [(.istore 4, 0), (.iload 4, 0), (.iconst (-1), -1)]) (by decide +kernel) rfl ?_
      refine Y.ic_ne (off := 13) (tgt := 63) (by decide +kernel) (by decide) h (fun c26 h => ?_) (fun c26 h => ?_)
      · exact Y.throwS (is := 136) (text := "there are four PARTS") (names := zNm) hV.1 (hV.2 _ _ _ (by decide +kernel)) (by decide +kernel) (by decide +kernel) ck_X_134 ini_ISE tw_X_138 tg_X_138 (by decide) (by decide) rfl (Nat.le_of_ble_eq_true rfl) (by decide +kernel) (by decide +kernel) (by decide +kernel) (by decide +kernel) (by decide +kernel) h
      · refine Y.blk (pc' := 64) (L' := [some (.ref a0), some (.int a1), some (.int a2), some (.int a3), some (.int v20)]) (st' := [.ref a0]) (sg := [(.aload_n 0, 0)]) (by decide +kernel) rfl ?_
        refine Y.getA fl_X_10 (by decide +kernel) h (fun v21 h => ?_)
        refine Y.blk (pc' := 74) (L' := [some (.ref a0), some (.int a1), some (.int a2), some (.int a3), some (.int v20)]) (st' := [.int (a3 - a2), .int a2, .int a1, .int v20, .ref v21]) (sg := [(.iload 4, 0), (.iload_n 1, 0), (.iload_n 2, 0), (.iload_n 3, 0), (.iload_n 2, 0), (.isub, 0)]) (by decide +kernel) rfl ?_
        obtain ⟨_, o23, e22, m24, h⟩ := gOb_inv h
        refine Y.callN (yC.Vi (b := v21) (As := [.int v20, .int a1, .int a2, .int (a3 - a2)]) (st := []) (r := ("Partlister$Lists", T_I, 7)) hV.1 cb_I_open lk_X_139 in_I_open rfl se_I_open (by decide +kernel) rfl rfl (Nat.le_of_ble_eq_true rfl) (by decide) e22 m24) (k_I_open hV G19 v21 v20 a1 a2 (a3 - a2)) h (fun G25 _ h => ?_)
        refine Y.blk (pc' := 79) (L' := [some (.ref a0), some (.int a1), some (.int a2), some (.int a3), some (.int v20)]) (st' := [.int v20]) (sg := [(.iload 4, 0)]) (by decide +kernel) rfl ?_
        exact Y.iret rfl (by decide +kernel) h
    · exact Y.throwS (is := 127) (text := "to is not from to LENGTH") (names := zNm) hV.1 (hV.2 _ _ _ (by decide +kernel)) (by decide +kernel) (by decide +kernel) ck_X_125 ini_IOE tw_X_129 tg_X_129 (by decide) (by decide) rfl (Nat.le_of_ble_eq_true rfl) (by decide +kernel) (by decide +kernel) (by decide +kernel) (by decide +kernel) (by decide +kernel) h

def f_X_previous (G : gH) (a0 : Nat) (a1 : Int32) : gR :=
  gOb G a0 3 fun o2 => bV (f_X_needCursor G a0 a1) fun G4 => gFA G4 a0 3 1 fun v5 => gOb G4 v5 0 fun o7 => bI (f_U_isStale G4 v5 a1) fun v10 G9 => if v10 = 0 then (gFA G9 a0 3 1 fun v11 => gOb G9 v11 0 fun o13 => bI (f_U_nextOf G9 v11 a1) fun v16 G15 => if 0 ≤ (v16 - (nI 1)) then gFA G15 a0 3 1 fun v17 => gOb G15 v17 0 fun o19 => bV (f_U_stand G15 v17 a1 (v16 - (nI 1)) (v16 - (nI 1))) fun G21 => gFA G21 a0 3 0 fun v22 => gFA G21 a0 3 1 fun v23 => gOb G21 v23 0 fun o25 => bI (f_U_listOf G21 v23 a1) fun v28 G27 => gOb G27 v22 1 fun o30 => bI (f_I_thingAt G27 v22 v28 (v16 - (nI 1))) fun v33 G32 => bI (f_X_tagOf G32 v33) fun v36 G35 => rI v36 G35
    else gOb G15 a0 3 fun o38 => bI (f_X_failWith G15 a0 (-8)) fun v41 G40 => rI v41 G40)
  else gOb G9 a0 3 fun o44 => bI (f_X_failWith G9 a0 (-9)) fun v47 G46 => rI v47 G46
theorem k_X_previous {l : Launch} {D : va_G} {B : Nat} {O : State → Heap → Prop} (hV : zG l D B O) (G : gH) (a0 : Nat) (a1 : Int32) : gMet (zVm l D B O) m_X_previous 7 [.ref a0, .int a1] G (f_X_previous G a0 a1) := by
  refine gMet.of (by decide +kernel) (Nat.le_of_ble_eq_true rfl) [some (.ref a0), some (.int a1), none] (fun ls h => zEn_ok (n := 3) h) ?_
  intro o Gf h
  unfold f_X_previous at h
  refine Y.blk (pc' := 2) (L' := [some (.ref a0), some (.int a1), none]) (st' := [.int a1, .ref a0]) (sg := [(.aload_n 0, 0), (.iload_n 1, 0)]) (by decide +kernel) rfl ?_
  obtain ⟨_, o2, e1, m3, h⟩ := gOb_inv h
  refine Y.callN (yC.Vi (b := a0) (As := [.int a1]) (st := []) (r := ("Partlister", T_X, 5)) hV.1 cb_X_needCursor lk_X_167 in_X_needCursor rfl se_X_needCursor (by decide +kernel) rfl rfl (Nat.le_of_ble_eq_true rfl) (by decide) e1 m3) (k_X_needCursor hV G a0 a1) h (fun G4 _ h => ?_)
  refine Y.blk (pc' := 6) (L' := [some (.ref a0), some (.int a1), none]) (st' := [.ref a0]) (sg := [(.aload_n 0, 0)]) (by decide +kernel) rfl ?_
  refine Y.getA fl_X_19 (by decide +kernel) h (fun v5 h => ?_)
  refine Y.blk (pc' := 10) (L' := [some (.ref a0), some (.int a1), none]) (st' := [.int a1, .ref v5]) (sg := [(.iload_n 1, 0)]) (by decide +kernel) rfl ?_
  obtain ⟨_, o7, e6, m8, h⟩ := gOb_inv h
  refine Y.callI (yC.Vi (b := v5) (As := [.int a1]) (st := []) (r := ("Partlister$Cursors", T_U, 5)) hV.1 cb_U_isStale lk_X_170 in_U_isStale rfl se_U_isStale (by decide +kernel) rfl rfl (Nat.le_of_ble_eq_true rfl) (by decide) e6 m8) (k_U_isStale hV G4 v5 a1) h (fun v10 G9 _ h => ?_)
  refine Y.if_eq (off := 10) (tgt := 23) (by decide +kernel) (by decide) h (fun c48 h => ?_) (fun c48 h => ?_)
  · refine Y.blk (pc' := 24) (L' := [some (.ref a0), some (.int a1), none]) (st' := [.ref a0]) (sg := [(.aload_n 0, 0)]) (by decide +kernel) rfl ?_
    refine Y.getA fl_X_19 (by decide +kernel) h (fun v11 h => ?_)
    refine Y.blk (pc' := 28) (L' := [some (.ref a0), some (.int a1), none]) (st' := [.int a1, .ref v11]) (sg := [(.iload_n 1, 0)]) (by decide +kernel) rfl ?_
    obtain ⟨_, o13, e12, m14, h⟩ := gOb_inv h
    refine Y.callI (yC.Vi (b := v11) (As := [.int a1]) (st := []) (r := ("Partlister$Cursors", T_U, 5)) hV.1 cb_U_nextOf lk_X_176 in_U_nextOf rfl se_U_nextOf (by decide +kernel) rfl rfl (Nat.le_of_ble_eq_true rfl) (by decide) e12 m14) (k_U_nextOf hV G9 v11 a1) h (fun v16 G15 _ h => ?_)
    refine Y.blk (pc' := 35) (L' := [some (.ref a0), some (.int a1), some (.int (v16 - (nI 1)))]) (st' := [.int (v16 - (nI 1))]) (sg := [(.iconst 1, nI 1), (.isub, 0), (.istore_n 2, 0), (.iload_n 2, 0)]) (by decide +kernel) rfl ?_
    refine Y.if_ge (off := 10) (tgt := 45) (by decide +kernel) (by decide) h (fun c42 h => ?_) (fun c42 h => ?_)
    · refine Y.blk (pc' := 46) (L' := [some (.ref a0), some (.int a1), some (.int (v16 - (nI 1)))]) (st' := [.ref a0]) (sg := [(.aload_n 0, 0)]) (by decide +kernel) rfl ?_
      refine Y.getA fl_X_19 (by decide +kernel) h (fun v17 h => ?_)
      refine Y.blk (pc' := 52) (L' := [some (.ref a0), some (.int a1), some (.int (v16 - (nI 1)))]) (st' := [.int (v16 - (nI 1)), .int (v16 - (nI 1)), .int a1, .ref v17]) (sg := [(.iload_n 1, 0), (.iload_n 2, 0), (.iload_n 2, 0)]) (by decide +kernel) rfl ?_
      obtain ⟨_, o19, e18, m20, h⟩ := gOb_inv h
      refine Y.callN (yC.Vi (b := v17) (As := [.int a1, .int (v16 - (nI 1)), .int (v16 - (nI 1))]) (st := []) (r := ("Partlister$Cursors", T_U, 5)) hV.1 cb_U_stand lk_X_179 in_U_stand rfl se_U_stand (by decide +kernel) rfl rfl (Nat.le_of_ble_eq_true rfl) (by decide) e18 m20) (k_U_stand hV G15 v17 a1 (v16 - (nI 1)) (v16 - (nI 1))) h (fun G21 _ h => ?_)
      refine Y.blk (pc' := 56) (L' := [some (.ref a0), some (.int a1), some (.int (v16 - (nI 1)))]) (st' := [.ref a0]) (sg := [(.aload_n 0, 0)]) (by decide +kernel) rfl ?_
      refine Y.getA fl_X_10 (by decide +kernel) h (fun v22 h => ?_)
      refine Y.blk (pc' := 60) (L' := [some (.ref a0), some (.int a1), some (.int (v16 - (nI 1)))]) (st' := [.ref a0, .ref v22]) (sg := [(.aload_n 0, 0)]) (by decide +kernel) rfl ?_
      refine Y.getA fl_X_19 (by decide +kernel) h (fun v23 h => ?_)
      refine Y.blk (pc' := 64) (L' := [some (.ref a0), some (.int a1), some (.int (v16 - (nI 1)))]) (st' := [.int a1, .ref v23, .ref v22]) (sg := [(.iload_n 1, 0)]) (by decide +kernel) rfl ?_
      obtain ⟨_, o25, e24, m26, h⟩ := gOb_inv h
      refine Y.callI (yC.Vi (b := v23) (As := [.int a1]) (st := [.ref v22]) (r := ("Partlister$Cursors", T_U, 5)) hV.1 cb_U_listOf lk_X_152 in_U_listOf rfl se_U_listOf (by decide +kernel) rfl rfl (Nat.le_of_ble_eq_true rfl) (by decide) e24 m26) (k_U_listOf hV G21 v23 a1) h (fun v28 G27 _ h => ?_)
      refine Y.blk (pc' := 68) (L' := [some (.ref a0), some (.int a1), some (.int (v16 - (nI 1)))]) (st' := [.int (v16 - (nI 1)), .int v28, .ref v22]) (sg := [(.iload_n 2, 0)]) (by decide +kernel) rfl ?_
      obtain ⟨_, o30, e29, m31, h⟩ := gOb_inv h
      refine Y.callI (yC.Vi (b := v22) (As := [.int v28, .int (v16 - (nI 1))]) (st := []) (r := ("Partlister$Lists", T_I, 7)) hV.1 cb_I_thingAt lk_X_94 in_I_thingAt rfl se_I_thingAt (by decide +kernel) rfl rfl (Nat.le_of_ble_eq_true rfl) (by decide) e29 m31) (k_I_thingAt hV G27 v22 v28 (v16 - (nI 1))) h (fun v33 G32 _ h => ?_)
      refine Y.callI (yC.S (As := [.int v33]) (st := []) hV.1 cb_X_tagOf lk_X_48 st_X_tagOf (by decide +kernel) rfl rfl (Nat.le_of_ble_eq_true rfl) (by decide)) (k_X_tagOf hV G32 v33) h (fun v36 G35 _ h => ?_)
      exact Y.iret rfl (by decide +kernel) h
    · refine Y.blk (pc' := 41) (L' := [some (.ref a0), some (.int a1), some (.int (v16 - (nI 1)))]) (st' := [.int (-8), .ref a0]) (sg := [(.aload_n 0, 0), (.bipush (-8), -8)]) (by decide +kernel) rfl ?_
      obtain ⟨_, o38, e37, m39, h⟩ := gOb_inv h
      refine Y.callI (yC.Vi (b := a0) (As := [.int (-8)]) (st := []) (r := ("Partlister", T_X, 5)) hV.1 cb_X_failWith lk_X_173 in_X_failWith rfl se_X_failWith (by decide +kernel) rfl rfl (Nat.le_of_ble_eq_true rfl) (by decide) e37 m39) (k_X_failWith hV G15 a0 (-8)) h (fun v41 G40 _ h => ?_)
      exact Y.iret rfl (by decide +kernel) h
  · refine Y.blk (pc' := 19) (L' := [some (.ref a0), some (.int a1), none]) (st' := [.int (-9), .ref a0]) (sg := [(.aload_n 0, 0), (.bipush (-9), -9)]) (by decide +kernel) rfl ?_
    obtain ⟨_, o44, e43, m45, h⟩ := gOb_inv h
    refine Y.callI (yC.Vi (b := a0) (As := [.int (-9)]) (st := []) (r := ("Partlister", T_X, 5)) hV.1 cb_X_failWith lk_X_173 in_X_failWith rfl se_X_failWith (by decide +kernel) rfl rfl (Nat.le_of_ble_eq_true rfl) (by decide) e43 m45) (k_X_failWith hV G9 a0 (-9)) h (fun v47 G46 _ h => ?_)
    exact Y.iret rfl (by decide +kernel) h

def f_X_put (G : gH) (a0 : Nat) (a1 : Int32) (a2 : Int32) : gR :=
  gOb G a0 3 fun o2 => bV (f_X_needCursor G a0 a1) fun G4 => gOb G4 a0 3 fun o6 => bV (f_X_needKey G4 a0 a2) fun G8 => gFA G8 a0 3 1 fun v9 => gOb G8 v9 0 fun o11 => bI (f_U_isStale G8 v9 a1) fun v14 G13 => if v14 = 0 then (gFA G13 a0 3 1 fun v15 => gOb G13 v15 0 fun o17 => bI (f_U_lastOf G13 v15 a1) fun v20 G19 => if v20 = (-1) then gOb G19 a0 3 fun o22 => bI (f_X_failWith G19 a0 (-7)) fun v25 G24 => rI v25 G24
    else gOb G19 a0 3 fun o27 => bI (f_X_make G19 a0 a2) fun v30 G29 => gFA G29 a0 3 0 fun v31 => gFA G29 a0 3 1 fun v32 => gOb G29 v32 0 fun o34 => bI (f_U_listOf G29 v32 a1) fun v37 G36 => gOb G36 v31 1 fun o39 => bV (f_I_write G36 v31 v37 v20 v30) fun G41 => bI (f_X_tagOf G41 v30) fun v44 G43 => rI v44 G43)
  else gOb G13 a0 3 fun o47 => bI (f_X_failWith G13 a0 (-9)) fun v50 G49 => rI v50 G49
theorem k_X_put {l : Launch} {D : va_G} {B : Nat} {O : State → Heap → Prop} (hV : zG l D B O) (G : gH) (a0 : Nat) (a1 : Int32) (a2 : Int32) : gMet (zVm l D B O) m_X_put 7 [.ref a0, .int a1, .int a2] G (f_X_put G a0 a1 a2) := by
  refine gMet.of (by decide +kernel) (Nat.le_of_ble_eq_true rfl) [some (.ref a0), some (.int a1), some (.int a2), none, none] (fun ls h => zEn_ok (n := 5) h) ?_
  intro o Gf h
  unfold f_X_put at h
  refine Y.blk (pc' := 2) (L' := [some (.ref a0), some (.int a1), some (.int a2), none, none]) (st' := [.int a1, .ref a0]) (sg := [(.aload_n 0, 0), (.iload_n 1, 0)]) (by decide +kernel) rfl ?_
  obtain ⟨_, o2, e1, m3, h⟩ := gOb_inv h
  refine Y.callN (yC.Vi (b := a0) (As := [.int a1]) (st := []) (r := ("Partlister", T_X, 5)) hV.1 cb_X_needCursor lk_X_167 in_X_needCursor rfl se_X_needCursor (by decide +kernel) rfl rfl (Nat.le_of_ble_eq_true rfl) (by decide) e1 m3) (k_X_needCursor hV G a0 a1) h (fun G4 _ h => ?_)
  refine Y.blk (pc' := 7) (L' := [some (.ref a0), some (.int a1), some (.int a2), none, none]) (st' := [.int a2, .ref a0]) (sg := [(.aload_n 0, 0), (.iload_n 2, 0)]) (by decide +kernel) rfl ?_
  obtain ⟨_, o6, e5, m7, h⟩ := gOb_inv h
  refine Y.callN (yC.Vi (b := a0) (As := [.int a2]) (st := []) (r := ("Partlister", T_X, 5)) hV.1 cb_X_needKey lk_X_27 in_X_needKey rfl se_X_needKey (by decide +kernel) rfl rfl (Nat.le_of_ble_eq_true rfl) (by decide) e5 m7) (k_X_needKey hV G4 a0 a2) h (fun G8 _ h => ?_)
  refine Y.blk (pc' := 11) (L' := [some (.ref a0), some (.int a1), some (.int a2), none, none]) (st' := [.ref a0]) (sg := [(.aload_n 0, 0)]) (by decide +kernel) rfl ?_
  refine Y.getA fl_X_19 (by decide +kernel) h (fun v9 h => ?_)
  refine Y.blk (pc' := 15) (L' := [some (.ref a0), some (.int a1), some (.int a2), none, none]) (st' := [.int a1, .ref v9]) (sg := [(.iload_n 1, 0)]) (by decide +kernel) rfl ?_
  obtain ⟨_, o11, e10, m12, h⟩ := gOb_inv h
  refine Y.callI (yC.Vi (b := v9) (As := [.int a1]) (st := []) (r := ("Partlister$Cursors", T_U, 5)) hV.1 cb_U_isStale lk_X_170 in_U_isStale rfl se_U_isStale (by decide +kernel) rfl rfl (Nat.le_of_ble_eq_true rfl) (by decide) e10 m12) (k_U_isStale hV G8 v9 a1) h (fun v14 G13 _ h => ?_)
  refine Y.if_eq (off := 10) (tgt := 28) (by decide +kernel) (by decide) h (fun c51 h => ?_) (fun c51 h => ?_)
  · refine Y.blk (pc' := 29) (L' := [some (.ref a0), some (.int a1), some (.int a2), none, none]) (st' := [.ref a0]) (sg := [(.aload_n 0, 0)]) (by decide +kernel) rfl ?_
    refine Y.getA fl_X_19 (by decide +kernel) h (fun v15 h => ?_)
    refine Y.blk (pc' := 33) (L' := [some (.ref a0), some (.int a1), some (.int a2), none, none]) (st' := [.int a1, .ref v15]) (sg := [(.iload_n 1, 0)]) (by decide +kernel) rfl ?_
    obtain ⟨_, o17, e16, m18, h⟩ := gOb_inv h
    refine Y.callI (yC.Vi (b := v15) (As := [.int a1]) (st := []) (r := ("Partlister$Cursors", T_U, 5)) hV.1 cb_U_lastOf lk_X_182 in_U_lastOf rfl se_U_lastOf (by decide +kernel) rfl rfl (Nat.le_of_ble_eq_true rfl) (by decide) e16 m18) (k_U_lastOf hV G13 v15 a1) h (fun v20 G19 _ h => ?_)
    refine Y.blk (pc' := 39) (L' := [some (.ref a0), some (.int a1), some (.int a2), some (.int v20), none]) (st' := [.int (-1), .int v20]) (sg := [(.istore_n 3, 0), (.iload_n 3, 0), (.iconst (-1), -1)]) (by decide +kernel) rfl ?_
    refine Y.ic_ne (off := 10) (tgt := 49) (by decide +kernel) (by decide) h (fun c45 h => ?_) (fun c45 h => ?_)
    · refine Y.blk (pc' := 45) (L' := [some (.ref a0), some (.int a1), some (.int a2), some (.int v20), none]) (st' := [.int (-7), .ref a0]) (sg := [(.aload_n 0, 0), (.bipush (-7), -7)]) (by decide +kernel) rfl ?_
      obtain ⟨_, o22, e21, m23, h⟩ := gOb_inv h
      refine Y.callI (yC.Vi (b := a0) (As := [.int (-7)]) (st := []) (r := ("Partlister", T_X, 5)) hV.1 cb_X_failWith lk_X_173 in_X_failWith rfl se_X_failWith (by decide +kernel) rfl rfl (Nat.le_of_ble_eq_true rfl) (by decide) e21 m23) (k_X_failWith hV G19 a0 (-7)) h (fun v25 G24 _ h => ?_)
      exact Y.iret rfl (by decide +kernel) h
    · refine Y.blk (pc' := 51) (L' := [some (.ref a0), some (.int a1), some (.int a2), some (.int v20), none]) (st' := [.int a2, .ref a0]) (sg := [(.aload_n 0, 0), (.iload_n 2, 0)]) (by decide +kernel) rfl ?_
      obtain ⟨_, o27, e26, m28, h⟩ := gOb_inv h
      refine Y.callI (yC.Vi (b := a0) (As := [.int a2]) (st := []) (r := ("Partlister", T_X, 5)) hV.1 cb_X_make lk_X_38 in_X_make rfl se_X_make (by decide +kernel) rfl rfl (Nat.le_of_ble_eq_true rfl) (by decide) e26 m28) (k_X_make hV G19 a0 a2) h (fun v30 G29 _ h => ?_)
      refine Y.blk (pc' := 57) (L' := [some (.ref a0), some (.int a1), some (.int a2), some (.int v20), some (.int v30)]) (st' := [.ref a0]) (sg := [(.istore 4, 0), (.aload_n 0, 0)]) (by decide +kernel) rfl ?_
      refine Y.getA fl_X_10 (by decide +kernel) h (fun v31 h => ?_)
      refine Y.blk (pc' := 61) (L' := [some (.ref a0), some (.int a1), some (.int a2), some (.int v20), some (.int v30)]) (st' := [.ref a0, .ref v31]) (sg := [(.aload_n 0, 0)]) (by decide +kernel) rfl ?_
      refine Y.getA fl_X_19 (by decide +kernel) h (fun v32 h => ?_)
      refine Y.blk (pc' := 65) (L' := [some (.ref a0), some (.int a1), some (.int a2), some (.int v20), some (.int v30)]) (st' := [.int a1, .ref v32, .ref v31]) (sg := [(.iload_n 1, 0)]) (by decide +kernel) rfl ?_
      obtain ⟨_, o34, e33, m35, h⟩ := gOb_inv h
      refine Y.callI (yC.Vi (b := v32) (As := [.int a1]) (st := [.ref v31]) (r := ("Partlister$Cursors", T_U, 5)) hV.1 cb_U_listOf lk_X_152 in_U_listOf rfl se_U_listOf (by decide +kernel) rfl rfl (Nat.le_of_ble_eq_true rfl) (by decide) e33 m35) (k_U_listOf hV G29 v32 a1) h (fun v37 G36 _ h => ?_)
      refine Y.blk (pc' := 71) (L' := [some (.ref a0), some (.int a1), some (.int a2), some (.int v20), some (.int v30)]) (st' := [.int v30, .int v20, .int v37, .ref v31]) (sg := [(.iload_n 3, 0), (.iload 4, 0)]) (by decide +kernel) rfl ?_
      obtain ⟨_, o39, e38, m40, h⟩ := gOb_inv h
      refine Y.callN (yC.Vi (b := v31) (As := [.int v37, .int v20, .int v30]) (st := []) (r := ("Partlister$Lists", T_I, 7)) hV.1 cb_I_write lk_X_65 in_I_write rfl se_I_write (by decide +kernel) rfl rfl (Nat.le_of_ble_eq_true rfl) (by decide) e38 m40) (k_I_write hV G36 v31 v37 v20 v30) h (fun G41 _ h => ?_)
      refine Y.blk (pc' := 76) (L' := [some (.ref a0), some (.int a1), some (.int a2), some (.int v20), some (.int v30)]) (st' := [.int v30]) (sg := [(.iload 4, 0)]) (by decide +kernel) rfl ?_
      refine Y.callI (yC.S (As := [.int v30]) (st := []) hV.1 cb_X_tagOf lk_X_48 st_X_tagOf (by decide +kernel) rfl rfl (Nat.le_of_ble_eq_true rfl) (by decide)) (k_X_tagOf hV G41 v30) h (fun v44 G43 _ h => ?_)
      exact Y.iret rfl (by decide +kernel) h
  · refine Y.blk (pc' := 24) (L' := [some (.ref a0), some (.int a1), some (.int a2), none, none]) (st' := [.int (-9), .ref a0]) (sg := [(.aload_n 0, 0), (.bipush (-9), -9)]) (by decide +kernel) rfl ?_
    obtain ⟨_, o47, e46, m48, h⟩ := gOb_inv h
    refine Y.callI (yC.Vi (b := a0) (As := [.int (-9)]) (st := []) (r := ("Partlister", T_X, 5)) hV.1 cb_X_failWith lk_X_173 in_X_failWith rfl se_X_failWith (by decide +kernel) rfl rfl (Nat.le_of_ble_eq_true rfl) (by decide) e46 m48) (k_X_failWith hV G13 a0 (-9)) h (fun v50 G49 _ h => ?_)
    exact Y.iret rfl (by decide +kernel) h

def f_X_remove (G : gH) (a0 : Nat) (a1 : Int32) (a2 : Int32) : gR :=
  gOb G a0 3 fun o2 => bV (f_X_needList G a0 a1) fun G4 => gOb G4 a0 3 fun o6 => bV (f_X_needKey G4 a0 a2) fun G8 => gFA G8 a0 3 0 fun v9 => gOb G8 v9 1 fun o11 => bI (f_I_firstOf G8 v9 a1 a2) fun v14 G13 => if v14 = (-1) then rZ (nI 0) G13
  else gOb G13 a0 3 fun o16 => bI (f_X_takeOut G13 a0 a1 v14 (-1)) fun v19 G18 => rZ (nI 1) G18
theorem k_X_remove {l : Launch} {D : va_G} {B : Nat} {O : State → Heap → Prop} (hV : zG l D B O) (G : gH) (a0 : Nat) (a1 : Int32) (a2 : Int32) : gMet (zVm l D B O) m_X_remove 7 [.ref a0, .int a1, .int a2] G (f_X_remove G a0 a1 a2) := by
  refine gMet.of (by decide +kernel) (Nat.le_of_ble_eq_true rfl) [some (.ref a0), some (.int a1), some (.int a2), none] (fun ls h => zEn_ok (n := 4) h) ?_
  intro o Gf h
  unfold f_X_remove at h
  refine Y.blk (pc' := 2) (L' := [some (.ref a0), some (.int a1), some (.int a2), none]) (st' := [.int a1, .ref a0]) (sg := [(.aload_n 0, 0), (.iload_n 1, 0)]) (by decide +kernel) rfl ?_
  obtain ⟨_, o2, e1, m3, h⟩ := gOb_inv h
  refine Y.callN (yC.Vi (b := a0) (As := [.int a1]) (st := []) (r := ("Partlister", T_X, 5)) hV.1 cb_X_needList lk_X_23 in_X_needList rfl se_X_needList (by decide +kernel) rfl rfl (Nat.le_of_ble_eq_true rfl) (by decide) e1 m3) (k_X_needList hV G a0 a1) h (fun G4 _ h => ?_)
  refine Y.blk (pc' := 7) (L' := [some (.ref a0), some (.int a1), some (.int a2), none]) (st' := [.int a2, .ref a0]) (sg := [(.aload_n 0, 0), (.iload_n 2, 0)]) (by decide +kernel) rfl ?_
  obtain ⟨_, o6, e5, m7, h⟩ := gOb_inv h
  refine Y.callN (yC.Vi (b := a0) (As := [.int a2]) (st := []) (r := ("Partlister", T_X, 5)) hV.1 cb_X_needKey lk_X_27 in_X_needKey rfl se_X_needKey (by decide +kernel) rfl rfl (Nat.le_of_ble_eq_true rfl) (by decide) e5 m7) (k_X_needKey hV G4 a0 a2) h (fun G8 _ h => ?_)
  refine Y.blk (pc' := 11) (L' := [some (.ref a0), some (.int a1), some (.int a2), none]) (st' := [.ref a0]) (sg := [(.aload_n 0, 0)]) (by decide +kernel) rfl ?_
  refine Y.getA fl_X_10 (by decide +kernel) h (fun v9 h => ?_)
  refine Y.blk (pc' := 16) (L' := [some (.ref a0), some (.int a1), some (.int a2), none]) (st' := [.int a2, .int a1, .ref v9]) (sg := [(.iload_n 1, 0), (.iload_n 2, 0)]) (by decide +kernel) rfl ?_
  obtain ⟨_, o11, e10, m12, h⟩ := gOb_inv h
  refine Y.callI (yC.Vi (b := v9) (As := [.int a1, .int a2]) (st := []) (r := ("Partlister$Lists", T_I, 7)) hV.1 cb_I_firstOf lk_X_72 in_I_firstOf rfl se_I_firstOf (by decide +kernel) rfl rfl (Nat.le_of_ble_eq_true rfl) (by decide) e10 m12) (k_I_firstOf hV G8 v9 a1 a2) h (fun v14 G13 _ h => ?_)
  refine Y.blk (pc' := 22) (L' := [some (.ref a0), some (.int a1), some (.int a2), some (.int v14)]) (st' := [.int (-1), .int v14]) (sg := [(.istore_n 3, 0), (.iload_n 3, 0), (.iconst (-1), -1)]) (by decide +kernel) rfl ?_
  refine Y.ic_ne (off := 5) (tgt := 27) (by decide +kernel) (by decide) h (fun c20 h => ?_) (fun c20 h => ?_)
  · refine Y.blk (pc' := 26) (L' := [some (.ref a0), some (.int a1), some (.int a2), some (.int v14)]) (st' := [.int (nI 0)]) (sg := [(.iconst 0, nI 0)]) (by decide +kernel) rfl ?_
    exact Y.zret rfl (by decide +kernel) h
  · refine Y.blk (pc' := 31) (L' := [some (.ref a0), some (.int a1), some (.int a2), some (.int v14)]) (st' := [.int (-1), .int v14, .int a1, .ref a0]) (sg := [(.aload_n 0, 0), (.iload_n 1, 0), (.iload_n 3, 0), (.iconst (-1), -1)]) (by decide +kernel) rfl ?_
    obtain ⟨_, o16, e15, m17, h⟩ := gOb_inv h
    refine Y.callI (yC.Vi (b := a0) (As := [.int a1, .int v14, .int (-1)]) (st := []) (r := ("Partlister", T_X, 5)) hV.1 cb_X_takeOut lk_X_69 in_X_takeOut rfl se_X_takeOut (by decide +kernel) rfl rfl (Nat.le_of_ble_eq_true rfl) (by decide) e15 m17) (k_X_takeOut hV G13 a0 a1 v14 (-1)) h (fun v19 G18 _ h => ?_)
    refine Y.blk (pc' := 36) (L' := [some (.ref a0), some (.int a1), some (.int a2), some (.int v14)]) (st' := [.int (nI 1)]) (sg := [(.pop, 0), (.iconst 1, nI 1)]) (by decide +kernel) rfl ?_
    exact Y.zret rfl (by decide +kernel) h

def f_X_removeAll (G : gH) (a0 : Nat) (a1 : Int32) (a2 : Int32) : gR :=
  gOb G a0 3 fun o2 => bV (f_X_needList G a0 a1) fun G4 => gOb G4 a0 3 fun o6 => bV (f_X_needList G4 a0 a2) fun G8 => gOb G8 a0 3 fun o10 => bV (f_X_needOtherRow G8 a0 a1 a2) fun G12 => gFA G12 a0 3 0 fun v13 => gOb G12 v13 1 fun o15 => bI (f_I_keysOf G12 v13 a2) fun v18 G17 => gOb G17 a0 3 fun o20 => bI (f_X_takeOutAll G17 a0 a1 v18) fun v23 G22 => rI v23 G22
theorem k_X_removeAll {l : Launch} {D : va_G} {B : Nat} {O : State → Heap → Prop} (hV : zG l D B O) (G : gH) (a0 : Nat) (a1 : Int32) (a2 : Int32) : gMet (zVm l D B O) m_X_removeAll 7 [.ref a0, .int a1, .int a2] G (f_X_removeAll G a0 a1 a2) := by
  refine gMet.of (by decide +kernel) (Nat.le_of_ble_eq_true rfl) [some (.ref a0), some (.int a1), some (.int a2)] (fun ls h => zEn_ok (n := 3) h) ?_
  intro o Gf h
  unfold f_X_removeAll at h
  refine Y.blk (pc' := 2) (L' := [some (.ref a0), some (.int a1), some (.int a2)]) (st' := [.int a1, .ref a0]) (sg := [(.aload_n 0, 0), (.iload_n 1, 0)]) (by decide +kernel) rfl ?_
  obtain ⟨_, o2, e1, m3, h⟩ := gOb_inv h
  refine Y.callN (yC.Vi (b := a0) (As := [.int a1]) (st := []) (r := ("Partlister", T_X, 5)) hV.1 cb_X_needList lk_X_23 in_X_needList rfl se_X_needList (by decide +kernel) rfl rfl (Nat.le_of_ble_eq_true rfl) (by decide) e1 m3) (k_X_needList hV G a0 a1) h (fun G4 _ h => ?_)
  refine Y.blk (pc' := 7) (L' := [some (.ref a0), some (.int a1), some (.int a2)]) (st' := [.int a2, .ref a0]) (sg := [(.aload_n 0, 0), (.iload_n 2, 0)]) (by decide +kernel) rfl ?_
  obtain ⟨_, o6, e5, m7, h⟩ := gOb_inv h
  refine Y.callN (yC.Vi (b := a0) (As := [.int a2]) (st := []) (r := ("Partlister", T_X, 5)) hV.1 cb_X_needList lk_X_23 in_X_needList rfl se_X_needList (by decide +kernel) rfl rfl (Nat.le_of_ble_eq_true rfl) (by decide) e5 m7) (k_X_needList hV G4 a0 a2) h (fun G8 _ h => ?_)
  refine Y.blk (pc' := 13) (L' := [some (.ref a0), some (.int a1), some (.int a2)]) (st' := [.int a2, .int a1, .ref a0]) (sg := [(.aload_n 0, 0), (.iload_n 1, 0), (.iload_n 2, 0)]) (by decide +kernel) rfl ?_
  obtain ⟨_, o10, e9, m11, h⟩ := gOb_inv h
  refine Y.callN (yC.Vi (b := a0) (As := [.int a1, .int a2]) (st := []) (r := ("Partlister", T_X, 5)) hV.1 cb_X_needOtherRow lk_X_51 in_X_needOtherRow rfl se_X_needOtherRow (by decide +kernel) rfl rfl (Nat.le_of_ble_eq_true rfl) (by decide) e9 m11) (k_X_needOtherRow hV G8 a0 a1 a2) h (fun G12 _ h => ?_)
  refine Y.blk (pc' := 19) (L' := [some (.ref a0), some (.int a1), some (.int a2)]) (st' := [.ref a0, .int a1, .ref a0]) (sg := [(.aload_n 0, 0), (.iload_n 1, 0), (.aload_n 0, 0)]) (by decide +kernel) rfl ?_
  refine Y.getA fl_X_10 (by decide +kernel) h (fun v13 h => ?_)
  refine Y.blk (pc' := 23) (L' := [some (.ref a0), some (.int a1), some (.int a2)]) (st' := [.int a2, .ref v13, .int a1, .ref a0]) (sg := [(.iload_n 2, 0)]) (by decide +kernel) rfl ?_
  obtain ⟨_, o15, e14, m16, h⟩ := gOb_inv h
  refine Y.callI (yC.Vi (b := v13) (As := [.int a2]) (st := [.int a1, .ref a0]) (r := ("Partlister$Lists", T_I, 7)) hV.1 cb_I_keysOf lk_X_75 in_I_keysOf rfl se_I_keysOf (by decide +kernel) rfl rfl (Nat.le_of_ble_eq_true rfl) (by decide) e14 m16) (k_I_keysOf hV G12 v13 a2) h (fun v18 G17 _ h => ?_)
  obtain ⟨_, o20, e19, m21, h⟩ := gOb_inv h
  refine Y.callI (yC.Vi (b := a0) (As := [.int a1, .int v18]) (st := []) (r := ("Partlister", T_X, 5)) hV.1 cb_X_takeOutAll lk_X_78 in_X_takeOutAll rfl se_X_takeOutAll (by decide +kernel) rfl rfl (Nat.le_of_ble_eq_true rfl) (by decide) e19 m21) (k_X_takeOutAll hV G17 a0 a1 v18) h (fun v23 G22 _ h => ?_)
  exact Y.iret rfl (by decide +kernel) h

def f_X_removeAt (G : gH) (a0 : Nat) (a1 : Int32) (a2 : Int32) : gR :=
  gOb G a0 3 fun o2 => bV (f_X_needList G a0 a1) fun G4 => gOb G4 a0 3 fun o6 => bV (f_X_needPlace G4 a0 a1 a2) fun G8 => gOb G8 a0 3 fun o10 => bI (f_X_takeOut G8 a0 a1 a2 (-1)) fun v13 G12 => bI (f_X_tagOf G12 v13) fun v16 G15 => rI v16 G15
theorem k_X_removeAt {l : Launch} {D : va_G} {B : Nat} {O : State → Heap → Prop} (hV : zG l D B O) (G : gH) (a0 : Nat) (a1 : Int32) (a2 : Int32) : gMet (zVm l D B O) m_X_removeAt 7 [.ref a0, .int a1, .int a2] G (f_X_removeAt G a0 a1 a2) := by
  refine gMet.of (by decide +kernel) (Nat.le_of_ble_eq_true rfl) [some (.ref a0), some (.int a1), some (.int a2)] (fun ls h => zEn_ok (n := 3) h) ?_
  intro o Gf h
  unfold f_X_removeAt at h
  refine Y.blk (pc' := 2) (L' := [some (.ref a0), some (.int a1), some (.int a2)]) (st' := [.int a1, .ref a0]) (sg := [(.aload_n 0, 0), (.iload_n 1, 0)]) (by decide +kernel) rfl ?_
  obtain ⟨_, o2, e1, m3, h⟩ := gOb_inv h
  refine Y.callN (yC.Vi (b := a0) (As := [.int a1]) (st := []) (r := ("Partlister", T_X, 5)) hV.1 cb_X_needList lk_X_23 in_X_needList rfl se_X_needList (by decide +kernel) rfl rfl (Nat.le_of_ble_eq_true rfl) (by decide) e1 m3) (k_X_needList hV G a0 a1) h (fun G4 _ h => ?_)
  refine Y.blk (pc' := 8) (L' := [some (.ref a0), some (.int a1), some (.int a2)]) (st' := [.int a2, .int a1, .ref a0]) (sg := [(.aload_n 0, 0), (.iload_n 1, 0), (.iload_n 2, 0)]) (by decide +kernel) rfl ?_
  obtain ⟨_, o6, e5, m7, h⟩ := gOb_inv h
  refine Y.callN (yC.Vi (b := a0) (As := [.int a1, .int a2]) (st := []) (r := ("Partlister", T_X, 5)) hV.1 cb_X_needPlace lk_X_58 in_X_needPlace rfl se_X_needPlace (by decide +kernel) rfl rfl (Nat.le_of_ble_eq_true rfl) (by decide) e5 m7) (k_X_needPlace hV G4 a0 a1 a2) h (fun G8 _ h => ?_)
  refine Y.blk (pc' := 15) (L' := [some (.ref a0), some (.int a1), some (.int a2)]) (st' := [.int (-1), .int a2, .int a1, .ref a0]) (sg := [(.aload_n 0, 0), (.iload_n 1, 0), (.iload_n 2, 0), (.iconst (-1), -1)]) (by decide +kernel) rfl ?_
  obtain ⟨_, o10, e9, m11, h⟩ := gOb_inv h
  refine Y.callI (yC.Vi (b := a0) (As := [.int a1, .int a2, .int (-1)]) (st := []) (r := ("Partlister", T_X, 5)) hV.1 cb_X_takeOut lk_X_69 in_X_takeOut rfl se_X_takeOut (by decide +kernel) rfl rfl (Nat.le_of_ble_eq_true rfl) (by decide) e9 m11) (k_X_takeOut hV G8 a0 a1 a2 (-1)) h (fun v13 G12 _ h => ?_)
  refine Y.callI (yC.S (As := [.int v13]) (st := []) hV.1 cb_X_tagOf lk_X_48 st_X_tagOf (by decide +kernel) rfl rfl (Nat.le_of_ble_eq_true rfl) (by decide)) (k_X_tagOf hV G12 v13) h (fun v16 G15 _ h => ?_)
  exact Y.iret rfl (by decide +kernel) h

def f_X_removeIf_L51 (K85 : gH → Nat → Int32 → Int32 → gR) : Nat → gH → Nat → Int32 → Int32 → Int32 → Int32 → Int32 → gR
  | 0, _, _, _, _, _, _, _ => none
  | n + 1, G, x0, x1, x2, x3, x4, x5 =>
    if (nI 31) ≤ x5 then K85 G x0 x1 x4
    else gRem x5 x2 fun v5 => if v5 = x3 then f_X_removeIf_L51 K85 n G x0 x1 x2 x3 (x4 ||| ((nI 1) <<< (x5 &&& 31))) (x5 + (nI 1))
      else f_X_removeIf_L51 K85 n G x0 x1 x2 x3 (x4 ||| (nI 0)) (x5 + (nI 1))
def f_X_removeIf (G : gH) (a0 : Nat) (a1 : Int32) (a2 : Int32) (a3 : Int32) : gR :=
  gOb G a0 3 fun o2 => bV (f_X_needList G a0 a1) fun G4 => if a2 < (nI 1) then gThrow "java/lang/IllegalArgumentException" G4
  else if a2 ≤ (nI 9) then (if a3 < 0 then gThrow "java/lang/IllegalArgumentException" G4
      else if a3 < a2 then f_X_removeIf_L51 (fun G11 x8 x9 x10 => gOb G11 x8 3 fun o13 => bI (f_X_takeOutAll G11 x8 x9 x10) fun v16 G15 => rI v16 G15) zFu G4 a0 a1 a2 a3 (nI 0) (nI 0)
        else gThrow "java/lang/IllegalArgumentException" G4)
    else gThrow "java/lang/IllegalArgumentException" G4
theorem k_X_removeIf_L51 {l : Launch} {D : va_G} {B : Nat} {O : State → Heap → Prop} (hV : zG l D B O) {o : gO} {Gf : gH} (K85 : gH → Nat → Int32 → Int32 → gR) (hK85 : ∀ (G : gH) (x0 : Nat) (x1 : Int32) (x4 : Int32), K85 G x0 x1 x4 = some (o, Gf) → Y (zVm l D B O) m_X_removeIf 7 o Gf 85 [some (.ref x0), some (.int x1), none, none, some (.int x4), none] [] G) : ∀ (n : Nat) (G : gH) (x0 : Nat) (x1 : Int32) (x2 : Int32) (x3 : Int32) (x4 : Int32) (x5 : Int32), f_X_removeIf_L51 K85 n G x0 x1 x2 x3 x4 x5 = some (o, Gf) → Y (zVm l D B O) m_X_removeIf 7 o Gf 51 [some (.ref x0), some (.int x1), some (.int x2), some (.int x3), some (.int x4), some (.int x5)] [] G := by
  intro n
  induction n with
  | zero => intro G x0 x1 x2 x3 x4 x5 h; cases h
  | succ n ih =>
    intro G x0 x1 x2 x3 x4 x5 h
    unfold f_X_removeIf_L51 at h
    refine Y.blk (pc' := 55) (L' := [some (.ref x0), some (.int x1), some (.int x2), some (.int x3), some (.int x4), some (.int x5)]) (st' := [.int (nI 31), .int x5]) (sg := [(.iload 5, 0), (.bipush 31, nI 31)]) (by decide +kernel) rfl ?_
    refine Y.ic_ge (off := 30) (tgt := 85) (by decide +kernel) (by decide) h (fun c7 h => ?_) (fun c7 h => ?_)
    · refine Y.less (L' := [some (.ref x0), some (.int x1), none, none, some (.int x4), none]) (zLe_some (zLe_some (zLe_none (zLe_none (zLe_some (zLe_none (zLe_nil))))))) ?_
      exact hK85 G x0 x1 x4 h
    · refine Y.blk (pc' := 63) (L' := [some (.ref x0), some (.int x1), some (.int x2), some (.int x3), some (.int x4), some (.int x5)]) (st' := [.int x2, .int x5, .int x4]) (sg := [(.iload 4, 0), (.iload 5, 0), (.iload_n 2, 0)]) (by decide +kernel) rfl ?_
      refine Y.irem (by decide +kernel) h (fun v5 h => ?_)
      refine Y.blk (pc' := 65) (L' := [some (.ref x0), some (.int x1), some (.int x2), some (.int x3), some (.int x4), some (.int x5)]) (st' := [.int x3, .int v5, .int x4]) (sg := [(.iload_n 3, 0)]) (by decide +kernel) rfl ?_
      refine Y.ic_ne (off := 10) (tgt := 75) (by decide +kernel) (by decide) h (fun c6 h => ?_) (fun c6 h => ?_)
      · refine Y.blk (pc' := 72) (L' := [some (.ref x0), some (.int x1), some (.int x2), some (.int x3), some (.int x4), some (.int x5)]) (st' := [.int ((nI 1) <<< (x5 &&& 31)), .int x4]) (sg := [(.iconst 1, nI 1), (.iload 5, 0), (.ishl, 0)]) (by decide +kernel) rfl ?_
        refine Y.goto (off := 4) (tgt := 76) (by decide +kernel) (by decide) ?_
        refine Y.blk (pc' := 82) (L' := [some (.ref x0), some (.int x1), some (.int x2), some (.int x3), some (.int (x4 ||| ((nI 1) <<< (x5 &&& 31)))), some (.int (x5 + (nI 1)))]) (st' := []) (sg := [(.ior, 0), (.istore 4, 0), (.iinc 5 1, nI 1)]) (by decide +kernel) rfl ?_
        refine Y.goto (off := -31) (tgt := 51) (by decide +kernel) (by decide) ?_
        exact ih G x0 x1 x2 x3 (x4 ||| ((nI 1) <<< (x5 &&& 31))) (x5 + (nI 1)) h
      · refine Y.blk (pc' := 82) (L' := [some (.ref x0), some (.int x1), some (.int x2), some (.int x3), some (.int (x4 ||| (nI 0))), some (.int (x5 + (nI 1)))]) (st' := []) (sg := [(.iconst 0, nI 0), (.ior, 0), (.istore 4, 0), (.iinc 5 1, nI 1)]) (by decide +kernel) rfl ?_
        refine Y.goto (off := -31) (tgt := 51) (by decide +kernel) (by decide) ?_
        exact ih G x0 x1 x2 x3 (x4 ||| (nI 0)) (x5 + (nI 1)) h
theorem k_X_removeIf {l : Launch} {D : va_G} {B : Nat} {O : State → Heap → Prop} (hV : zG l D B O) (G : gH) (a0 : Nat) (a1 : Int32) (a2 : Int32) (a3 : Int32) : gMet (zVm l D B O) m_X_removeIf 7 [.ref a0, .int a1, .int a2, .int a3] G (f_X_removeIf G a0 a1 a2 a3) := by
  refine gMet.of (by decide +kernel) (Nat.le_of_ble_eq_true rfl) [some (.ref a0), some (.int a1), some (.int a2), some (.int a3), none, none] (fun ls h => zEn_ok (n := 6) h) ?_
  intro o Gf h
  unfold f_X_removeIf at h
  refine Y.blk (pc' := 2) (L' := [some (.ref a0), some (.int a1), some (.int a2), some (.int a3), none, none]) (st' := [.int a1, .ref a0]) (sg := [(.aload_n 0, 0), (.iload_n 1, 0)]) (by decide +kernel) rfl ?_
  obtain ⟨_, o2, e1, m3, h⟩ := gOb_inv h
  refine Y.callN (yC.Vi (b := a0) (As := [.int a1]) (st := []) (r := ("Partlister", T_X, 5)) hV.1 cb_X_needList lk_X_23 in_X_needList rfl se_X_needList (by decide +kernel) rfl rfl (Nat.le_of_ble_eq_true rfl) (by decide) e1 m3) (k_X_needList hV G a0 a1) h (fun G4 _ h => ?_)
  refine Y.blk (pc' := 7) (L' := [some (.ref a0), some (.int a1), some (.int a2), some (.int a3), none, none]) (st' := [.int (nI 1), .int a2]) (sg := [(.iload_n 2, 0), (.iconst 1, nI 1)]) (by decide +kernel) rfl ?_
  refine Y.ic_lt (off := 9) (tgt := 16) (by decide +kernel) (by decide) h (fun c20 h => ?_) (fun c20 h => ?_)
  · exact Y.throwS (is := 83) (text := "by is not 1 to 9") (names := zNm) hV.1 (hV.2 _ _ _ (by decide +kernel)) (by decide +kernel) (by decide +kernel) ck_X_81 ini_IAE tw_X_85 tg_X_85 (by decide) (by decide) rfl (Nat.le_of_ble_eq_true rfl) (by decide +kernel) (by decide +kernel) (by decide +kernel) (by decide +kernel) (by decide +kernel) h
  · refine Y.blk (pc' := 13) (L' := [some (.ref a0), some (.int a1), some (.int a2), some (.int a3), none, none]) (st' := [.int (nI 9), .int a2]) (sg := [(.iload_n 2, 0), (.bipush 9, nI 9)]) (by decide +kernel) rfl ?_
    refine Y.ic_le (off := 13) (tgt := 26) (by decide +kernel) (by decide) h (fun c19 h => ?_) (fun c19 h => ?_)
    · refine Y.blk (pc' := 27) (L' := [some (.ref a0), some (.int a1), some (.int a2), some (.int a3), none, none]) (st' := [.int a3]) (sg := [(.iload_n 3, 0)]) (by decide +kernel) rfl ?_
      refine Y.if_lt (off := 8) (tgt := 35) (by decide +kernel) (by decide) h (fun c18 h => ?_) (fun c18 h => ?_)
      · exact Y.throwS (is := 88) (text := "rest is not 0 to by - 1") (names := zNm) hV.1 (hV.2 _ _ _ (by decide +kernel)) (by decide +kernel) (by decide +kernel) ck_X_81 ini_IAE tw_X_85 tg_X_85 (by decide) (by decide) rfl (Nat.le_of_ble_eq_true rfl) (by decide +kernel) (by decide +kernel) (by decide +kernel) (by decide +kernel) (by decide +kernel) h
      · refine Y.blk (pc' := 32) (L' := [some (.ref a0), some (.int a1), some (.int a2), some (.int a3), none, none]) (st' := [.int a2, .int a3]) (sg := [(.iload_n 3, 0), (.iload_n 2, 0)]) (by decide +kernel) rfl ?_
        refine Y.ic_lt (off := 13) (tgt := 45) (by decide +kernel) (by decide) h (fun c17 h => ?_) (fun c17 h => ?_)
        · refine Y.blk (pc' := 51) (L' := [some (.ref a0), some (.int a1), some (.int a2), some (.int a3), some (.int (nI 0)), some (.int (nI 0))]) (st' := []) (sg := [(.iconst 0, nI 0), (.istore 4, 0), (.iconst 0, nI 0), (.istore 5, 0)]) (by decide +kernel) rfl ?_
          refine k_X_removeIf_L51 hV _ ?_  zFu G4 a0 a1 a2 a3 (nI 0) (nI 0) h
          · intro G11 x8 x9 x10 h
            refine Y.blk (pc' := 89) (L' := [some (.ref x8), some (.int x9), none, none, some (.int x10), none]) (st' := [.int x10, .int x9, .ref x8]) (sg := [(.aload_n 0, 0), (.iload_n 1, 0), (.iload 4, 0)]) (by decide +kernel) rfl ?_
            obtain ⟨_, o13, e12, m14, h⟩ := gOb_inv h
            refine Y.callI (yC.Vi (b := x8) (As := [.int x9, .int x10]) (st := []) (r := ("Partlister", T_X, 5)) hV.1 cb_X_takeOutAll lk_X_78 in_X_takeOutAll rfl se_X_takeOutAll (by decide +kernel) rfl rfl (Nat.le_of_ble_eq_true rfl) (by decide) e12 m14) (k_X_takeOutAll hV G11 x8 x9 x10) h (fun v16 G15 _ h => ?_)
            exact Y.iret rfl (by decide +kernel) h
        · exact Y.throwS (is := 88) (text := "rest is not 0 to by - 1") (names := zNm) hV.1 (hV.2 _ _ _ (by decide +kernel)) (by decide +kernel) (by decide +kernel) ck_X_81 ini_IAE tw_X_85 tg_X_85 (by decide) (by decide) rfl (Nat.le_of_ble_eq_true rfl) (by decide +kernel) (by decide +kernel) (by decide +kernel) (by decide +kernel) (by decide +kernel) h
    · exact Y.throwS (is := 83) (text := "by is not 1 to 9") (names := zNm) hV.1 (hV.2 _ _ _ (by decide +kernel)) (by decide +kernel) (by decide +kernel) ck_X_81 ini_IAE tw_X_85 tg_X_85 (by decide) (by decide) rfl (Nat.le_of_ble_eq_true rfl) (by decide +kernel) (by decide +kernel) (by decide +kernel) (by decide +kernel) (by decide +kernel) h

def f_X_replaceAll_L58 (K113 : gH → Nat → Int32 → Int32 → gR) : Nat → gH → Nat → Int32 → Int32 → Int32 → Int32 → Int32 → gR
  | 0, _, _, _, _, _, _, _ => none
  | n + 1, G, x0, x1, x2, x3, x4, x5 =>
    if x4 ≤ x5 then K113 G x0 x1 x4
    else gFA G x0 3 0 fun v11 => gOb G v11 1 fun o13 => bI (f_I_thingAt G v11 x1 x5) fun v16 G15 => gFA G15 x0 3 0 fun v17 => bI (f_X_tagOf G15 v16) fun v20 G19 => bI (f_X_keyOf G19 v16) fun v23 G22 => gRem ((v23 * x2) + x3) (nI 31) fun v24 => bI (f_X_thingOf G22 v20 v24) fun v27 G26 => gOb G26 v17 1 fun o29 => bV (f_I_write G26 v17 x1 x5 v27) fun G31 => f_X_replaceAll_L58 K113 n G31 x0 x1 x2 x3 x4 (x5 + (nI 1))
def f_X_replaceAll (G : gH) (a0 : Nat) (a1 : Int32) (a2 : Int32) (a3 : Int32) : gR :=
  gOb G a0 3 fun o2 => bV (f_X_needList G a0 a1) fun G4 => if a2 < 0 then gThrow "java/lang/IllegalArgumentException" G4
  else if a2 < (nI 31) then (if a3 < 0 then gThrow "java/lang/IllegalArgumentException" G4
      else if a3 < (nI 31) then gFA G4 a0 3 0 fun v5 => gOb G4 v5 1 fun o7 => bI (f_I_lengthOf G4 v5 a1) fun v10 G9 => f_X_replaceAll_L58 (fun G36 x33 x34 x35 => gOb G36 x33 3 fun o38 => bI (f_X_endAround G36 x33 x34) fun v41 G40 => rI x35 G40) zFu G9 a0 a1 a2 a3 v10 (nI 0)
        else gThrow "java/lang/IllegalArgumentException" G4)
    else gThrow "java/lang/IllegalArgumentException" G4
theorem k_X_replaceAll_L58 {l : Launch} {D : va_G} {B : Nat} {O : State → Heap → Prop} (hV : zG l D B O) {o : gO} {Gf : gH} (K113 : gH → Nat → Int32 → Int32 → gR) (hK113 : ∀ (G : gH) (x0 : Nat) (x1 : Int32) (x4 : Int32), K113 G x0 x1 x4 = some (o, Gf) → Y (zVm l D B O) m_X_replaceAll 7 o Gf 113 [some (.ref x0), some (.int x1), none, none, some (.int x4), none, none] [] G) : ∀ (n : Nat) (G : gH) (x0 : Nat) (x1 : Int32) (x2 : Int32) (x3 : Int32) (x4 : Int32) (x5 : Int32), f_X_replaceAll_L58 K113 n G x0 x1 x2 x3 x4 x5 = some (o, Gf) → Y (zVm l D B O) m_X_replaceAll 7 o Gf 58 [some (.ref x0), some (.int x1), some (.int x2), some (.int x3), some (.int x4), some (.int x5), none] [] G := by
  intro n
  induction n with
  | zero => intro G x0 x1 x2 x3 x4 x5 h; cases h
  | succ n ih =>
    intro G x0 x1 x2 x3 x4 x5 h
    unfold f_X_replaceAll_L58 at h
    refine Y.blk (pc' := 62) (L' := [some (.ref x0), some (.int x1), some (.int x2), some (.int x3), some (.int x4), some (.int x5), none]) (st' := [.int x4, .int x5]) (sg := [(.iload 5, 0), (.iload 4, 0)]) (by decide +kernel) rfl ?_
    refine Y.ic_ge (off := 51) (tgt := 113) (by decide +kernel) (by decide) h (fun c32 h => ?_) (fun c32 h => ?_)
    · refine Y.less (L' := [some (.ref x0), some (.int x1), none, none, some (.int x4), none, none]) (zLe_some (zLe_some (zLe_none (zLe_none (zLe_some (zLe_none (zLe_some (zLe_nil)))))))) ?_
      exact hK113 G x0 x1 x4 h
    · refine Y.blk (pc' := 66) (L' := [some (.ref x0), some (.int x1), some (.int x2), some (.int x3), some (.int x4), some (.int x5), none]) (st' := [.ref x0]) (sg := [(.aload_n 0, 0)]) (by decide +kernel) rfl ?_
      refine Y.getA fl_X_10 (by decide +kernel) h (fun v11 h => ?_)
      refine Y.blk (pc' := 72) (L' := [some (.ref x0), some (.int x1), some (.int x2), some (.int x3), some (.int x4), some (.int x5), none]) (st' := [.int x5, .int x1, .ref v11]) (sg := [(.iload_n 1, 0), (.iload 5, 0)]) (by decide +kernel) rfl ?_
      obtain ⟨_, o13, e12, m14, h⟩ := gOb_inv h
      refine Y.callI (yC.Vi (b := v11) (As := [.int x1, .int x5]) (st := []) (r := ("Partlister$Lists", T_I, 7)) hV.1 cb_I_thingAt lk_X_94 in_I_thingAt rfl se_I_thingAt (by decide +kernel) rfl rfl (Nat.le_of_ble_eq_true rfl) (by decide) e12 m14) (k_I_thingAt hV G v11 x1 x5) h (fun v16 G15 _ h => ?_)
      refine Y.blk (pc' := 78) (L' := [some (.ref x0), some (.int x1), some (.int x2), some (.int x3), some (.int x4), some (.int x5), some (.int v16)]) (st' := [.ref x0]) (sg := [(.istore 6, 0), (.aload_n 0, 0)]) (by decide +kernel) rfl ?_
      refine Y.getA fl_X_10 (by decide +kernel) h (fun v17 h => ?_)
      refine Y.blk (pc' := 86) (L' := [some (.ref x0), some (.int x1), some (.int x2), some (.int x3), some (.int x4), some (.int x5), some (.int v16)]) (st' := [.int v16, .int x5, .int x1, .ref v17]) (sg := [(.iload_n 1, 0), (.iload 5, 0), (.iload 6, 0)]) (by decide +kernel) rfl ?_
      refine Y.callI (yC.S (As := [.int v16]) (st := [.int x5, .int x1, .ref v17]) hV.1 cb_X_tagOf lk_X_48 st_X_tagOf (by decide +kernel) rfl rfl (Nat.le_of_ble_eq_true rfl) (by decide)) (k_X_tagOf hV G15 v16) h (fun v20 G19 _ h => ?_)
      refine Y.blk (pc' := 91) (L' := [some (.ref x0), some (.int x1), some (.int x2), some (.int x3), some (.int x4), some (.int x5), some (.int v16)]) (st' := [.int v16, .int v20, .int x5, .int x1, .ref v17]) (sg := [(.iload 6, 0)]) (by decide +kernel) rfl ?_
      refine Y.callI (yC.S (As := [.int v16]) (st := [.int v20, .int x5, .int x1, .ref v17]) hV.1 cb_X_keyOf lk_X_97 st_X_keyOf (by decide +kernel) rfl rfl (Nat.le_of_ble_eq_true rfl) (by decide)) (k_X_keyOf hV G19 v16) h (fun v23 G22 _ h => ?_)
      refine Y.blk (pc' := 100) (L' := [some (.ref x0), some (.int x1), some (.int x2), some (.int x3), some (.int x4), some (.int x5), some (.int v16)]) (st' := [.int (nI 31), .int ((v23 * x2) + x3), .int v20, .int x5, .int x1, .ref v17]) (sg := [(.iload_n 2, 0), (.imul, 0), (.iload_n 3, 0), (.iadd, 0), (.bipush 31, nI 31)]) (by decide +kernel) rfl ?_
      refine Y.irem (by decide +kernel) h (fun v24 h => ?_)
      refine Y.callI (yC.S (As := [.int v20, .int v24]) (st := [.int x5, .int x1, .ref v17]) hV.1 cb_X_thingOf lk_X_100 st_X_thingOf (by decide +kernel) rfl rfl (Nat.le_of_ble_eq_true rfl) (by decide)) (k_X_thingOf hV G22 v20 v24) h (fun v27 G26 _ h => ?_)
      obtain ⟨_, o29, e28, m30, h⟩ := gOb_inv h
      refine Y.callN (yC.Vi (b := v17) (As := [.int x1, .int x5, .int v27]) (st := []) (r := ("Partlister$Lists", T_I, 7)) hV.1 cb_I_write lk_X_65 in_I_write rfl se_I_write (by decide +kernel) rfl rfl (Nat.le_of_ble_eq_true rfl) (by decide) e28 m30) (k_I_write hV G26 v17 x1 x5 v27) h (fun G31 _ h => ?_)
      refine Y.blk (pc' := 110) (L' := [some (.ref x0), some (.int x1), some (.int x2), some (.int x3), some (.int x4), some (.int (x5 + (nI 1))), some (.int v16)]) (st' := []) (sg := [(.iinc 5 1, nI 1)]) (by decide +kernel) rfl ?_
      refine Y.goto (off := -52) (tgt := 58) (by decide +kernel) (by decide) ?_
      refine Y.less (L' := [some (.ref x0), some (.int x1), some (.int x2), some (.int x3), some (.int x4), some (.int (x5 + (nI 1))), none]) (zLe_some (zLe_some (zLe_some (zLe_some (zLe_some (zLe_some (zLe_none (zLe_nil)))))))) ?_
      exact ih G31 x0 x1 x2 x3 x4 (x5 + (nI 1)) h
theorem k_X_replaceAll {l : Launch} {D : va_G} {B : Nat} {O : State → Heap → Prop} (hV : zG l D B O) (G : gH) (a0 : Nat) (a1 : Int32) (a2 : Int32) (a3 : Int32) : gMet (zVm l D B O) m_X_replaceAll 7 [.ref a0, .int a1, .int a2, .int a3] G (f_X_replaceAll G a0 a1 a2 a3) := by
  refine gMet.of (by decide +kernel) (Nat.le_of_ble_eq_true rfl) [some (.ref a0), some (.int a1), some (.int a2), some (.int a3), none, none, none] (fun ls h => zEn_ok (n := 7) h) ?_
  intro o Gf h
  unfold f_X_replaceAll at h
  refine Y.blk (pc' := 2) (L' := [some (.ref a0), some (.int a1), some (.int a2), some (.int a3), none, none, none]) (st' := [.int a1, .ref a0]) (sg := [(.aload_n 0, 0), (.iload_n 1, 0)]) (by decide +kernel) rfl ?_
  obtain ⟨_, o2, e1, m3, h⟩ := gOb_inv h
  refine Y.callN (yC.Vi (b := a0) (As := [.int a1]) (st := []) (r := ("Partlister", T_X, 5)) hV.1 cb_X_needList lk_X_23 in_X_needList rfl se_X_needList (by decide +kernel) rfl rfl (Nat.le_of_ble_eq_true rfl) (by decide) e1 m3) (k_X_needList hV G a0 a1) h (fun G4 _ h => ?_)
  refine Y.blk (pc' := 6) (L' := [some (.ref a0), some (.int a1), some (.int a2), some (.int a3), none, none, none]) (st' := [.int a2]) (sg := [(.iload_n 2, 0)]) (by decide +kernel) rfl ?_
  refine Y.if_lt (off := 9) (tgt := 15) (by decide +kernel) (by decide) h (fun c45 h => ?_) (fun c45 h => ?_)
  · exact Y.throwS (is := 90) (text := "times is not 0 to 30") (names := zNm) hV.1 (hV.2 _ _ _ (by decide +kernel)) (by decide +kernel) (by decide +kernel) ck_X_81 ini_IAE tw_X_85 tg_X_85 (by decide) (by decide) rfl (Nat.le_of_ble_eq_true rfl) (by decide +kernel) (by decide +kernel) (by decide +kernel) (by decide +kernel) (by decide +kernel) h
  · refine Y.blk (pc' := 12) (L' := [some (.ref a0), some (.int a1), some (.int a2), some (.int a3), none, none, none]) (st' := [.int (nI 31), .int a2]) (sg := [(.iload_n 2, 0), (.bipush 31, nI 31)]) (by decide +kernel) rfl ?_
    refine Y.ic_lt (off := 13) (tgt := 25) (by decide +kernel) (by decide) h (fun c44 h => ?_) (fun c44 h => ?_)
    · refine Y.blk (pc' := 26) (L' := [some (.ref a0), some (.int a1), some (.int a2), some (.int a3), none, none, none]) (st' := [.int a3]) (sg := [(.iload_n 3, 0)]) (by decide +kernel) rfl ?_
      refine Y.if_lt (off := 9) (tgt := 35) (by decide +kernel) (by decide) h (fun c43 h => ?_) (fun c43 h => ?_)
      · exact Y.throwS (is := 92) (text := "more is not 0 to 30") (names := zNm) hV.1 (hV.2 _ _ _ (by decide +kernel)) (by decide +kernel) (by decide +kernel) ck_X_81 ini_IAE tw_X_85 tg_X_85 (by decide) (by decide) rfl (Nat.le_of_ble_eq_true rfl) (by decide +kernel) (by decide +kernel) (by decide +kernel) (by decide +kernel) (by decide +kernel) h
      · refine Y.blk (pc' := 32) (L' := [some (.ref a0), some (.int a1), some (.int a2), some (.int a3), none, none, none]) (st' := [.int (nI 31), .int a3]) (sg := [(.iload_n 3, 0), (.bipush 31, nI 31)]) (by decide +kernel) rfl ?_
        refine Y.ic_lt (off := 13) (tgt := 45) (by decide +kernel) (by decide) h (fun c42 h => ?_) (fun c42 h => ?_)
        · refine Y.blk (pc' := 46) (L' := [some (.ref a0), some (.int a1), some (.int a2), some (.int a3), none, none, none]) (st' := [.ref a0]) (sg := [(.aload_n 0, 0)]) (by decide +kernel) rfl ?_
          refine Y.getA fl_X_10 (by decide +kernel) h (fun v5 h => ?_)
          refine Y.blk (pc' := 50) (L' := [some (.ref a0), some (.int a1), some (.int a2), some (.int a3), none, none, none]) (st' := [.int a1, .ref v5]) (sg := [(.iload_n 1, 0)]) (by decide +kernel) rfl ?_
          obtain ⟨_, o7, e6, m8, h⟩ := gOb_inv h
          refine Y.callI (yC.Vi (b := v5) (As := [.int a1]) (st := []) (r := ("Partlister$Lists", T_I, 7)) hV.1 cb_I_lengthOf lk_X_34 in_I_lengthOf rfl se_I_lengthOf (by decide +kernel) rfl rfl (Nat.le_of_ble_eq_true rfl) (by decide) e6 m8) (k_I_lengthOf hV G4 v5 a1) h (fun v10 G9 _ h => ?_)
          refine Y.blk (pc' := 58) (L' := [some (.ref a0), some (.int a1), some (.int a2), some (.int a3), some (.int v10), some (.int (nI 0)), none]) (st' := []) (sg := [(.istore 4, 0), (.iconst 0, nI 0), (.istore 5, 0)]) (by decide +kernel) rfl ?_
          refine k_X_replaceAll_L58 hV _ ?_  zFu G9 a0 a1 a2 a3 v10 (nI 0) h
          · intro G36 x33 x34 x35 h
            refine Y.blk (pc' := 115) (L' := [some (.ref x33), some (.int x34), none, none, some (.int x35), none, none]) (st' := [.int x34, .ref x33]) (sg := [(.aload_n 0, 0), (.iload_n 1, 0)]) (by decide +kernel) rfl ?_
            obtain ⟨_, o38, e37, m39, h⟩ := gOb_inv h
            refine Y.callI (yC.Vi (b := x33) (As := [.int x34]) (st := []) (r := ("Partlister", T_X, 5)) hV.1 cb_X_endAround lk_X_103 in_X_endAround rfl se_X_endAround (by decide +kernel) rfl rfl (Nat.le_of_ble_eq_true rfl) (by decide) e37 m39) (k_X_endAround hV G36 x33 x34) h (fun v41 G40 _ h => ?_)
            refine Y.blk (pc' := 121) (L' := [some (.ref x33), some (.int x34), none, none, some (.int x35), none, none]) (st' := [.int x35]) (sg := [(.pop, 0), (.iload 4, 0)]) (by decide +kernel) rfl ?_
            exact Y.iret rfl (by decide +kernel) h
        · exact Y.throwS (is := 92) (text := "more is not 0 to 30") (names := zNm) hV.1 (hV.2 _ _ _ (by decide +kernel)) (by decide +kernel) (by decide +kernel) ck_X_81 ini_IAE tw_X_85 tg_X_85 (by decide) (by decide) rfl (Nat.le_of_ble_eq_true rfl) (by decide +kernel) (by decide +kernel) (by decide +kernel) (by decide +kernel) (by decide +kernel) h
    · exact Y.throwS (is := 90) (text := "times is not 0 to 30") (names := zNm) hV.1 (hV.2 _ _ _ (by decide +kernel)) (by decide +kernel) (by decide +kernel) ck_X_81 ini_IAE tw_X_85 tg_X_85 (by decide) (by decide) rfl (Nat.le_of_ble_eq_true rfl) (by decide +kernel) (by decide +kernel) (by decide +kernel) (by decide +kernel) (by decide +kernel) h
