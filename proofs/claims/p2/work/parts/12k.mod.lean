def f_M_ofPart (G : gH) (a0 : Nat) (a1 : Int32) (a2 : Int32) : gR :=
  gOb G a0 6 fun o2 => bI (f_M_isNoPart G a0 a1) fun v5 G4 => gOb G4 a0 6 fun o7 => bI (f_M_start G4 a0 v5 (nI 1)) fun v10 G9 => if v10 = 0 then (bI (f_M_isIn G9 a2 (nI 0) (nI 3)) fun v13 G12 => if v13 = 0 then (gOb G12 a0 6 fun o15 => bI (f_M_refuse G12 a0 (nI 1) (nI 2)) fun v18 G17 => if v18 = 0 then gOb G17 a0 6 fun o20 => bI (f_M_partTold G17 a0 a1 a2) fun v23 G22 => rI v23 G22
      else rI (nI 0) G17)
    else gOb G12 a0 6 fun o26 => bI (f_M_refuse G12 a0 (nI 0) (nI 2)) fun v29 G28 => if v29 = 0 then gOb G28 a0 6 fun o31 => bI (f_M_partTold G28 a0 a1 a2) fun v34 G33 => rI v34 G33
      else rI (nI 0) G28)
  else rI (nI 0) G9
theorem k_M_ofPart {l : Launch} {D : va_G} {B : Nat} {O : State → Heap → Prop} (hV : zG l D B O) (G : gH) (a0 : Nat) (a1 : Int32) (a2 : Int32) : gMet (zVm l D B O) m_M_ofPart 12 [.ref a0, .int a1, .int a2] G (f_M_ofPart G a0 a1 a2) := by
  refine gMet.of (by decide +kernel) (Nat.le_of_ble_eq_true rfl) [some (.ref a0), some (.int a1), some (.int a2)] (fun ls h => zEn_ok (n := 3) h) ?_
  intro o Gf h
  unfold f_M_ofPart at h
  refine Y.blk (pc' := 3) (L' := [some (.ref a0), some (.int a1), some (.int a2)]) (st' := [.int a1, .ref a0, .ref a0]) (sg := [(.aload_n 0, 0), (.aload_n 0, 0), (.iload_n 1, 0)]) (by decide +kernel) rfl ?_
  obtain ⟨_, o2, e1, m3, h⟩ := gOb_inv h
  refine Y.callI (yC.Vi (b := a0) (As := [.int a1]) (st := [.ref a0]) (r := ("PartlisterModel", T_M, 9)) hV.1 cb_M_isNoPart lk_M_201 in_M_isNoPart rfl se_M_isNoPart (by decide +kernel) rfl rfl (Nat.le_of_ble_eq_true rfl) (by decide) e1 m3) (k_M_isNoPart hV G a0 a1) h (fun v5 G4 _ h => ?_)
  refine Y.blk (pc' := 7) (L' := [some (.ref a0), some (.int a1), some (.int a2)]) (st' := [.int (nI 1), .int v5, .ref a0]) (sg := [(.iconst 1, nI 1)]) (by decide +kernel) rfl ?_
  obtain ⟨_, o7, e6, m8, h⟩ := gOb_inv h
  refine Y.callI (yC.Vi (b := a0) (As := [.int v5, .int (nI 1)]) (st := []) (r := ("PartlisterModel", T_M, 9)) hV.1 cb_M_start lk_M_114 in_M_start rfl se_M_start (by decide +kernel) rfl rfl (Nat.le_of_ble_eq_true rfl) (by decide) e6 m8) (k_M_start hV G4 a0 v5 (nI 1)) h (fun v10 G9 _ h => ?_)
  refine Y.if_ne (off := 25) (tgt := 35) (by decide +kernel) (by decide) h (fun c37 h => ?_) (fun c37 h => ?_)
  · refine Y.blk (pc' := 17) (L' := [some (.ref a0), some (.int a1), some (.int a2)]) (st' := [.int (nI 3), .int (nI 0), .int a2, .ref a0]) (sg := [(.aload_n 0, 0), (.iload_n 2, 0), (.iconst 0, nI 0), (.iconst 3, nI 3)]) (by decide +kernel) rfl ?_
    refine Y.callI (yC.S (As := [.int a2, .int (nI 0), .int (nI 3)]) (st := [.ref a0]) hV.1 cb_M_isIn lk_M_40 st_M_isIn (by decide +kernel) rfl rfl (Nat.le_of_ble_eq_true rfl) (by decide)) (k_M_isIn hV G9 a2 (nI 0) (nI 3)) h (fun v13 G12 _ h => ?_)
    refine Y.if_ne (off := 7) (tgt := 27) (by decide +kernel) (by decide) h (fun c36 h => ?_) (fun c36 h => ?_)
    · refine Y.blk (pc' := 24) (L' := [some (.ref a0), some (.int a1), some (.int a2)]) (st' := [.int (nI 1), .ref a0]) (sg := [(.iconst 1, nI 1)]) (by decide +kernel) rfl ?_
      refine Y.goto (off := 4) (tgt := 28) (by decide +kernel) (by decide) ?_
      refine Y.blk (pc' := 29) (L' := [some (.ref a0), some (.int a1), some (.int a2)]) (st' := [.int (nI 2), .int (nI 1), .ref a0]) (sg := [(.iconst 2, nI 2)]) (by decide +kernel) rfl ?_
      obtain ⟨_, o15, e14, m16, h⟩ := gOb_inv h
      refine Y.callI (yC.Vi (b := a0) (As := [.int (nI 1), .int (nI 2)]) (st := []) (r := ("PartlisterModel", T_M, 9)) hV.1 cb_M_refuse lk_M_36 in_M_refuse rfl se_M_refuse (by decide +kernel) rfl rfl (Nat.le_of_ble_eq_true rfl) (by decide) e14 m16) (k_M_refuse hV G12 a0 (nI 1) (nI 2)) h (fun v18 G17 _ h => ?_)
      refine Y.if_eq (off := 7) (tgt := 39) (by decide +kernel) (by decide) h (fun c24 h => ?_) (fun c24 h => ?_)
      · refine Y.blk (pc' := 42) (L' := [some (.ref a0), some (.int a1), some (.int a2)]) (st' := [.int a2, .int a1, .ref a0]) (sg := [(.aload_n 0, 0), (.iload_n 1, 0), (.iload_n 2, 0)]) (by decide +kernel) rfl ?_
        obtain ⟨_, o20, e19, m21, h⟩ := gOb_inv h
        refine Y.callI (yC.Vi (b := a0) (As := [.int a1, .int a2]) (st := []) (r := ("PartlisterModel", T_M, 9)) hV.1 cb_M_partTold lk_M_287 in_M_partTold rfl se_M_partTold (by decide +kernel) rfl rfl (Nat.le_of_ble_eq_true rfl) (by decide) e19 m21) (k_M_partTold hV G17 a0 a1 a2) h (fun v23 G22 _ h => ?_)
        exact Y.iret rfl (by decide +kernel) h
      · refine Y.blk (pc' := 36) (L' := [some (.ref a0), some (.int a1), some (.int a2)]) (st' := [.int (nI 0)]) (sg := [(.iconst 0, nI 0)]) (by decide +kernel) rfl ?_
        refine Y.goto (off := 9) (tgt := 45) (by decide +kernel) (by decide) ?_
        exact Y.iret rfl (by decide +kernel) h
    · refine Y.blk (pc' := 29) (L' := [some (.ref a0), some (.int a1), some (.int a2)]) (st' := [.int (nI 2), .int (nI 0), .ref a0]) (sg := [(.iconst 0, nI 0), (.iconst 2, nI 2)]) (by decide +kernel) rfl ?_
      obtain ⟨_, o26, e25, m27, h⟩ := gOb_inv h
      refine Y.callI (yC.Vi (b := a0) (As := [.int (nI 0), .int (nI 2)]) (st := []) (r := ("PartlisterModel", T_M, 9)) hV.1 cb_M_refuse lk_M_36 in_M_refuse rfl se_M_refuse (by decide +kernel) rfl rfl (Nat.le_of_ble_eq_true rfl) (by decide) e25 m27) (k_M_refuse hV G12 a0 (nI 0) (nI 2)) h (fun v29 G28 _ h => ?_)
      refine Y.if_eq (off := 7) (tgt := 39) (by decide +kernel) (by decide) h (fun c35 h => ?_) (fun c35 h => ?_)
      · refine Y.blk (pc' := 42) (L' := [some (.ref a0), some (.int a1), some (.int a2)]) (st' := [.int a2, .int a1, .ref a0]) (sg := [(.aload_n 0, 0), (.iload_n 1, 0), (.iload_n 2, 0)]) (by decide +kernel) rfl ?_
        obtain ⟨_, o31, e30, m32, h⟩ := gOb_inv h
        refine Y.callI (yC.Vi (b := a0) (As := [.int a1, .int a2]) (st := []) (r := ("PartlisterModel", T_M, 9)) hV.1 cb_M_partTold lk_M_287 in_M_partTold rfl se_M_partTold (by decide +kernel) rfl rfl (Nat.le_of_ble_eq_true rfl) (by decide) e30 m32) (k_M_partTold hV G28 a0 a1 a2) h (fun v34 G33 _ h => ?_)
        exact Y.iret rfl (by decide +kernel) h
      · refine Y.blk (pc' := 36) (L' := [some (.ref a0), some (.int a1), some (.int a2)]) (st' := [.int (nI 0)]) (sg := [(.iconst 0, nI 0)]) (by decide +kernel) rfl ?_
        refine Y.goto (off := 9) (tgt := 45) (by decide +kernel) (by decide) ?_
        exact Y.iret rfl (by decide +kernel) h
  · refine Y.blk (pc' := 36) (L' := [some (.ref a0), some (.int a1), some (.int a2)]) (st' := [.int (nI 0)]) (sg := [(.iconst 0, nI 0)]) (by decide +kernel) rfl ?_
    refine Y.goto (off := 9) (tgt := 45) (by decide +kernel) (by decide) ?_
    exact Y.iret rfl (by decide +kernel) h

def f_M_pack (G : gH) (a0 : Nat) (a1 : Int32) (a2 : Int32) : gR :=
  bI (f_M_isIn G a1 (nI 0) (nI 1)) fun v3 G2 => if v3 = 0 then (gOb G2 a0 6 fun o5 => bI (f_M_start G2 a0 (nI 1) (nI 1)) fun v8 G7 => if v8 = 0 then gOb G7 a0 6 fun o10 => bI (f_M_endParts G7 a0 a1 a1) fun v13 G12 => gOb G12 a0 6 fun o15 => bV (f_M_endCursors G12 a0 a1) fun G17 => rI v13 G17
    else rI (nI 0) G7)
  else gOb G2 a0 6 fun o20 => bI (f_M_start G2 a0 (nI 0) (nI 1)) fun v23 G22 => if v23 = 0 then gOb G22 a0 6 fun o25 => bI (f_M_endParts G22 a0 a1 a1) fun v28 G27 => gOb G27 a0 6 fun o30 => bV (f_M_endCursors G27 a0 a1) fun G32 => rI v28 G32
    else rI (nI 0) G22
theorem k_M_pack {l : Launch} {D : va_G} {B : Nat} {O : State → Heap → Prop} (hV : zG l D B O) (G : gH) (a0 : Nat) (a1 : Int32) (a2 : Int32) : gMet (zVm l D B O) m_M_pack 13 [.ref a0, .int a1, .int a2] G (f_M_pack G a0 a1 a2) := by
  refine gMet.of (by decide +kernel) (Nat.le_of_ble_eq_true rfl) [some (.ref a0), some (.int a1), some (.int a2), none] (fun ls h => zEn_ok (n := 4) h) ?_
  intro o Gf h
  unfold f_M_pack at h
  refine Y.blk (pc' := 4) (L' := [some (.ref a0), some (.int a1), some (.int a2), none]) (st' := [.int (nI 1), .int (nI 0), .int a1, .ref a0]) (sg := [(.aload_n 0, 0), (.iload_n 1, 0), (.iconst 0, nI 0), (.iconst 1, nI 1)]) (by decide +kernel) rfl ?_
  refine Y.callI (yC.S (As := [.int a1, .int (nI 0), .int (nI 1)]) (st := [.ref a0]) hV.1 cb_M_isIn lk_M_40 st_M_isIn (by decide +kernel) rfl rfl (Nat.le_of_ble_eq_true rfl) (by decide)) (k_M_isIn hV G a1 (nI 0) (nI 1)) h (fun v3 G2 _ h => ?_)
  refine Y.if_ne (off := 7) (tgt := 14) (by decide +kernel) (by decide) h (fun c34 h => ?_) (fun c34 h => ?_)
  · refine Y.blk (pc' := 11) (L' := [some (.ref a0), some (.int a1), some (.int a2), none]) (st' := [.int (nI 1), .ref a0]) (sg := [(.iconst 1, nI 1)]) (by decide +kernel) rfl ?_
    refine Y.goto (off := 4) (tgt := 15) (by decide +kernel) (by decide) ?_
    refine Y.blk (pc' := 16) (L' := [some (.ref a0), some (.int a1), some (.int a2), none]) (st' := [.int (nI 1), .int (nI 1), .ref a0]) (sg := [(.iconst 1, nI 1)]) (by decide +kernel) rfl ?_
    obtain ⟨_, o5, e4, m6, h⟩ := gOb_inv h
    refine Y.callI (yC.Vi (b := a0) (As := [.int (nI 1), .int (nI 1)]) (st := []) (r := ("PartlisterModel", T_M, 9)) hV.1 cb_M_start lk_M_114 in_M_start rfl se_M_start (by decide +kernel) rfl rfl (Nat.le_of_ble_eq_true rfl) (by decide) e4 m6) (k_M_start hV G2 a0 (nI 1) (nI 1)) h (fun v8 G7 _ h => ?_)
    refine Y.if_eq (off := 5) (tgt := 24) (by decide +kernel) (by decide) h (fun c18 h => ?_) (fun c18 h => ?_)
    · refine Y.blk (pc' := 27) (L' := [some (.ref a0), some (.int a1), some (.int a2), none]) (st' := [.int a1, .int a1, .ref a0]) (sg := [(.aload_n 0, 0), (.iload_n 1, 0), (.iload_n 1, 0)]) (by decide +kernel) rfl ?_
      obtain ⟨_, o10, e9, m11, h⟩ := gOb_inv h
      refine Y.callI (yC.Vi (b := a0) (As := [.int a1, .int a1]) (st := []) (r := ("PartlisterModel", T_M, 9)) hV.1 cb_M_endParts lk_M_103 in_M_endParts rfl se_M_endParts (by decide +kernel) rfl rfl (Nat.le_of_ble_eq_true rfl) (by decide) e9 m11) (k_M_endParts hV G7 a0 a1 a1) h (fun v13 G12 _ h => ?_)
      refine Y.blk (pc' := 33) (L' := [some (.ref a0), some (.int a1), some (.int a2), some (.int v13)]) (st' := [.int a1, .ref a0]) (sg := [(.istore_n 3, 0), (.aload_n 0, 0), (.iload_n 1, 0)]) (by decide +kernel) rfl ?_
      obtain ⟨_, o15, e14, m16, h⟩ := gOb_inv h
      refine Y.callN (yC.Vi (b := a0) (As := [.int a1]) (st := []) (r := ("PartlisterModel", T_M, 9)) hV.1 cb_M_endCursors lk_M_177 in_M_endCursors rfl se_M_endCursors (by decide +kernel) rfl rfl (Nat.le_of_ble_eq_true rfl) (by decide) e14 m16) (k_M_endCursors hV G12 a0 a1) h (fun G17 _ h => ?_)
      refine Y.blk (pc' := 37) (L' := [some (.ref a0), some (.int a1), some (.int a2), some (.int v13)]) (st' := [.int v13]) (sg := [(.iload_n 3, 0)]) (by decide +kernel) rfl ?_
      exact Y.iret rfl (by decide +kernel) h
    · refine Y.blk (pc' := 23) (L' := [some (.ref a0), some (.int a1), some (.int a2), none]) (st' := [.int (nI 0)]) (sg := [(.iconst 0, nI 0)]) (by decide +kernel) rfl ?_
      exact Y.iret rfl (by decide +kernel) h
  · refine Y.blk (pc' := 16) (L' := [some (.ref a0), some (.int a1), some (.int a2), none]) (st' := [.int (nI 1), .int (nI 0), .ref a0]) (sg := [(.iconst 0, nI 0), (.iconst 1, nI 1)]) (by decide +kernel) rfl ?_
    obtain ⟨_, o20, e19, m21, h⟩ := gOb_inv h
    refine Y.callI (yC.Vi (b := a0) (As := [.int (nI 0), .int (nI 1)]) (st := []) (r := ("PartlisterModel", T_M, 9)) hV.1 cb_M_start lk_M_114 in_M_start rfl se_M_start (by decide +kernel) rfl rfl (Nat.le_of_ble_eq_true rfl) (by decide) e19 m21) (k_M_start hV G2 a0 (nI 0) (nI 1)) h (fun v23 G22 _ h => ?_)
    refine Y.if_eq (off := 5) (tgt := 24) (by decide +kernel) (by decide) h (fun c33 h => ?_) (fun c33 h => ?_)
    · refine Y.blk (pc' := 27) (L' := [some (.ref a0), some (.int a1), some (.int a2), none]) (st' := [.int a1, .int a1, .ref a0]) (sg := [(.aload_n 0, 0), (.iload_n 1, 0), (.iload_n 1, 0)]) (by decide +kernel) rfl ?_
      obtain ⟨_, o25, e24, m26, h⟩ := gOb_inv h
      refine Y.callI (yC.Vi (b := a0) (As := [.int a1, .int a1]) (st := []) (r := ("PartlisterModel", T_M, 9)) hV.1 cb_M_endParts lk_M_103 in_M_endParts rfl se_M_endParts (by decide +kernel) rfl rfl (Nat.le_of_ble_eq_true rfl) (by decide) e24 m26) (k_M_endParts hV G22 a0 a1 a1) h (fun v28 G27 _ h => ?_)
      refine Y.blk (pc' := 33) (L' := [some (.ref a0), some (.int a1), some (.int a2), some (.int v28)]) (st' := [.int a1, .ref a0]) (sg := [(.istore_n 3, 0), (.aload_n 0, 0), (.iload_n 1, 0)]) (by decide +kernel) rfl ?_
      obtain ⟨_, o30, e29, m31, h⟩ := gOb_inv h
      refine Y.callN (yC.Vi (b := a0) (As := [.int a1]) (st := []) (r := ("PartlisterModel", T_M, 9)) hV.1 cb_M_endCursors lk_M_177 in_M_endCursors rfl se_M_endCursors (by decide +kernel) rfl rfl (Nat.le_of_ble_eq_true rfl) (by decide) e29 m31) (k_M_endCursors hV G27 a0 a1) h (fun G32 _ h => ?_)
      refine Y.blk (pc' := 37) (L' := [some (.ref a0), some (.int a1), some (.int a2), some (.int v28)]) (st' := [.int v28]) (sg := [(.iload_n 3, 0)]) (by decide +kernel) rfl ?_
      exact Y.iret rfl (by decide +kernel) h
    · refine Y.blk (pc' := 23) (L' := [some (.ref a0), some (.int a1), some (.int a2), none]) (st' := [.int (nI 0)]) (sg := [(.iconst 0, nI 0)]) (by decide +kernel) rfl ?_
      exact Y.iret rfl (by decide +kernel) h

def f_MP_init (G : gH) (a0 : Nat) : gR :=
  rV G
theorem k_MP_init {l : Launch} {D : va_G} {B : Nat} {O : State → Heap → Prop} (hV : zG l D B O) (G : gH) (a0 : Nat) : gMet (zVm l D B O) m_MP_init 2 [.ref a0] G (f_MP_init G a0) := by
  refine gMet.of (by decide +kernel) (Nat.le_of_ble_eq_true rfl) [some (.ref a0)] (fun ls h => zEn_ok (n := 1) h) ?_
  intro o Gf h
  unfold f_MP_init at h
  refine Y.blk (pc' := 1) (L' := [some (.ref a0)]) (st' := [.ref a0]) (sg := [(.aload_n 0, 0)]) (by decide +kernel) rfl ?_
  refine Y.objInit lk_MP_1 in_OJ_init cw_OJ_init (by decide) rfl (Nat.le_of_ble_eq_true rfl) (by decide +kernel) ?_
  exact Y.vret rfl (by decide +kernel) h

def f_M_part (G : gH) (a0 : Nat) (a1 : Int32) (a2 : Int32) (a3 : Int32) : gR :=
  gOb G a0 6 fun o2 => bI (f_M_isNoList G a0 a1) fun v5 G4 => gOb G4 a0 6 fun o7 => bI (f_M_start G4 a0 v5 (nI 1)) fun v10 G9 => if v10 = 0 then (gOb G9 a0 6 fun o12 => bI (f_M_length G9 a0 a1) fun v15 G14 => bI (f_M_isIn G14 a2 (nI 0) v15) fun v18 G17 => if v18 = 0 then (gOb G17 a0 6 fun o20 => bI (f_M_refuse G17 a0 (nI 1) (nI 1)) fun v23 G22 => if v23 = 0 then (gOb G22 a0 6 fun o25 => bI (f_M_freePart G22 a0) fun v28 G27 => if v28 = (-1) then (gOb G27 a0 6 fun o30 => bI (f_M_refuse G27 a0 (nI 1) (nI 2)) fun v33 G32 => if v33 = 0 then gOb G32 a0 6 fun o35 => bI (f_M_freePart G32 a0) fun v38 G37 => gFA G37 a0 6 2 fun v39 => gNewO G37 5 3 [.int 0, .int 0, .int 0] fun q40 G41 => bV (f_MP_init G41 q40) fun G43 => gStq G43 v39 104 5 v38 q40 fun G44 => gFA G44 a0 6 2 fun v45 => gLdq G44 v45 104 v38 (none) fun v46 => gPut G44 v46 5 0 (.int a1) fun G47 => gFA G47 a0 6 2 fun v48 => gLdq G47 v48 104 v38 (none) fun v49 => gPut G47 v49 5 1 (.int a2) fun G50 => gFA G50 a0 6 2 fun v51 => gLdq G50 v51 104 v38 (none) fun v52 => gPut G50 v52 5 2 (.int (a3 - a2)) fun G53 => rI v38 G53
          else rI (nI 0) G32)
        else gOb G27 a0 6 fun o56 => bI (f_M_refuse G27 a0 (nI 0) (nI 2)) fun v59 G58 => if v59 = 0 then gOb G58 a0 6 fun o61 => bI (f_M_freePart G58 a0) fun v64 G63 => gFA G63 a0 6 2 fun v65 => gNewO G63 5 3 [.int 0, .int 0, .int 0] fun q66 G67 => bV (f_MP_init G67 q66) fun G69 => gStq G69 v65 104 5 v64 q66 fun G70 => gFA G70 a0 6 2 fun v71 => gLdq G70 v71 104 v64 (none) fun v72 => gPut G70 v72 5 0 (.int a1) fun G73 => gFA G73 a0 6 2 fun v74 => gLdq G73 v74 104 v64 (none) fun v75 => gPut G73 v75 5 1 (.int a2) fun G76 => gFA G76 a0 6 2 fun v77 => gLdq G76 v77 104 v64 (none) fun v78 => gPut G76 v78 5 2 (.int (a3 - a2)) fun G79 => rI v64 G79
          else rI (nI 0) G58)
      else rI (nI 0) G22)
    else gOb G17 a0 6 fun o84 => bI (f_M_length G17 a0 a1) fun v87 G86 => bI (f_M_isIn G86 a3 a2 v87) fun v90 G89 => if v90 = 0 then (gOb G89 a0 6 fun o92 => bI (f_M_refuse G89 a0 (nI 1) (nI 1)) fun v95 G94 => if v95 = 0 then (gOb G94 a0 6 fun o97 => bI (f_M_freePart G94 a0) fun v100 G99 => if v100 = (-1) then (gOb G99 a0 6 fun o102 => bI (f_M_refuse G99 a0 (nI 1) (nI 2)) fun v105 G104 => if v105 = 0 then gOb G104 a0 6 fun o107 => bI (f_M_freePart G104 a0) fun v110 G109 => gFA G109 a0 6 2 fun v111 => gNewO G109 5 3 [.int 0, .int 0, .int 0] fun q112 G113 => bV (f_MP_init G113 q112) fun G115 => gStq G115 v111 104 5 v110 q112 fun G116 => gFA G116 a0 6 2 fun v117 => gLdq G116 v117 104 v110 (none) fun v118 => gPut G116 v118 5 0 (.int a1) fun G119 => gFA G119 a0 6 2 fun v120 => gLdq G119 v120 104 v110 (none) fun v121 => gPut G119 v121 5 1 (.int a2) fun G122 => gFA G122 a0 6 2 fun v123 => gLdq G122 v123 104 v110 (none) fun v124 => gPut G122 v124 5 2 (.int (a3 - a2)) fun G125 => rI v110 G125
            else rI (nI 0) G104)
          else gOb G99 a0 6 fun o128 => bI (f_M_refuse G99 a0 (nI 0) (nI 2)) fun v131 G130 => if v131 = 0 then gOb G130 a0 6 fun o133 => bI (f_M_freePart G130 a0) fun v136 G135 => gFA G135 a0 6 2 fun v137 => gNewO G135 5 3 [.int 0, .int 0, .int 0] fun q138 G139 => bV (f_MP_init G139 q138) fun G141 => gStq G141 v137 104 5 v136 q138 fun G142 => gFA G142 a0 6 2 fun v143 => gLdq G142 v143 104 v136 (none) fun v144 => gPut G142 v144 5 0 (.int a1) fun G145 => gFA G145 a0 6 2 fun v146 => gLdq G145 v146 104 v136 (none) fun v147 => gPut G145 v147 5 1 (.int a2) fun G148 => gFA G148 a0 6 2 fun v149 => gLdq G148 v149 104 v136 (none) fun v150 => gPut G148 v150 5 2 (.int (a3 - a2)) fun G151 => rI v136 G151
            else rI (nI 0) G130)
        else rI (nI 0) G94)
      else gOb G89 a0 6 fun o156 => bI (f_M_refuse G89 a0 (nI 0) (nI 1)) fun v159 G158 => if v159 = 0 then (gOb G158 a0 6 fun o161 => bI (f_M_freePart G158 a0) fun v164 G163 => if v164 = (-1) then (gOb G163 a0 6 fun o166 => bI (f_M_refuse G163 a0 (nI 1) (nI 2)) fun v169 G168 => if v169 = 0 then gOb G168 a0 6 fun o171 => bI (f_M_freePart G168 a0) fun v174 G173 => gFA G173 a0 6 2 fun v175 => gNewO G173 5 3 [.int 0, .int 0, .int 0] fun q176 G177 => bV (f_MP_init G177 q176) fun G179 => gStq G179 v175 104 5 v174 q176 fun G180 => gFA G180 a0 6 2 fun v181 => gLdq G180 v181 104 v174 (none) fun v182 => gPut G180 v182 5 0 (.int a1) fun G183 => gFA G183 a0 6 2 fun v184 => gLdq G183 v184 104 v174 (none) fun v185 => gPut G183 v185 5 1 (.int a2) fun G186 => gFA G186 a0 6 2 fun v187 => gLdq G186 v187 104 v174 (none) fun v188 => gPut G186 v188 5 2 (.int (a3 - a2)) fun G189 => rI v174 G189
            else rI (nI 0) G168)
          else gOb G163 a0 6 fun o192 => bI (f_M_refuse G163 a0 (nI 0) (nI 2)) fun v195 G194 => if v195 = 0 then gOb G194 a0 6 fun o197 => bI (f_M_freePart G194 a0) fun v200 G199 => gFA G199 a0 6 2 fun v201 => gNewO G199 5 3 [.int 0, .int 0, .int 0] fun q202 G203 => bV (f_MP_init G203 q202) fun G205 => gStq G205 v201 104 5 v200 q202 fun G206 => gFA G206 a0 6 2 fun v207 => gLdq G206 v207 104 v200 (none) fun v208 => gPut G206 v208 5 0 (.int a1) fun G209 => gFA G209 a0 6 2 fun v210 => gLdq G209 v210 104 v200 (none) fun v211 => gPut G209 v211 5 1 (.int a2) fun G212 => gFA G212 a0 6 2 fun v213 => gLdq G212 v213 104 v200 (none) fun v214 => gPut G212 v214 5 2 (.int (a3 - a2)) fun G215 => rI v200 G215
            else rI (nI 0) G194)
        else rI (nI 0) G158)
  else rI (nI 0) G9
theorem k_M_part {l : Launch} {D : va_G} {B : Nat} {O : State → Heap → Prop} (hV : zG l D B O) (G : gH) (a0 : Nat) (a1 : Int32) (a2 : Int32) (a3 : Int32) : gMet (zVm l D B O) m_M_part 6 [.ref a0, .int a1, .int a2, .int a3] G (f_M_part G a0 a1 a2 a3) := by
  refine gMet.of (by decide +kernel) (Nat.le_of_ble_eq_true rfl) [some (.ref a0), some (.int a1), some (.int a2), some (.int a3), none] (fun ls h => zEn_ok (n := 5) h) ?_
  intro o Gf h
  unfold f_M_part at h
  refine Y.blk (pc' := 3) (L' := [some (.ref a0), some (.int a1), some (.int a2), some (.int a3), none]) (st' := [.int a1, .ref a0, .ref a0]) (sg := [(.aload_n 0, 0), (.aload_n 0, 0), (.iload_n 1, 0)]) (by decide +kernel) rfl ?_
  obtain ⟨_, o2, e1, m3, h⟩ := gOb_inv h
  refine Y.callI (yC.Vi (b := a0) (As := [.int a1]) (st := [.ref a0]) (r := ("PartlisterModel", T_M, 9)) hV.1 cb_M_isNoList lk_M_110 in_M_isNoList rfl se_M_isNoList (by decide +kernel) rfl rfl (Nat.le_of_ble_eq_true rfl) (by decide) e1 m3) (k_M_isNoList hV G a0 a1) h (fun v5 G4 _ h => ?_)
  refine Y.blk (pc' := 7) (L' := [some (.ref a0), some (.int a1), some (.int a2), some (.int a3), none]) (st' := [.int (nI 1), .int v5, .ref a0]) (sg := [(.iconst 1, nI 1)]) (by decide +kernel) rfl ?_
  obtain ⟨_, o7, e6, m8, h⟩ := gOb_inv h
  refine Y.callI (yC.Vi (b := a0) (As := [.int v5, .int (nI 1)]) (st := []) (r := ("PartlisterModel", T_M, 9)) hV.1 cb_M_start lk_M_114 in_M_start rfl se_M_start (by decide +kernel) rfl rfl (Nat.le_of_ble_eq_true rfl) (by decide) e6 m8) (k_M_start hV G4 a0 v5 (nI 1)) h (fun v10 G9 _ h => ?_)
  refine Y.if_ne (off := 63) (tgt := 73) (by decide +kernel) (by decide) h (fun c221 h => ?_) (fun c221 h => ?_)
  · refine Y.blk (pc' := 18) (L' := [some (.ref a0), some (.int a1), some (.int a2), some (.int a3), none]) (st' := [.int a1, .ref a0, .int (nI 0), .int a2, .ref a0]) (sg := [(.aload_n 0, 0), (.iload_n 2, 0), (.iconst 0, nI 0), (.aload_n 0, 0), (.iload_n 1, 0)]) (by decide +kernel) rfl ?_
    obtain ⟨_, o12, e11, m13, h⟩ := gOb_inv h
    refine Y.callI (yC.Vi (b := a0) (As := [.int a1]) (st := [.int (nI 0), .int a2, .ref a0]) (r := ("PartlisterModel", T_M, 9)) hV.1 cb_M_length lk_M_74 in_M_length rfl se_M_length (by decide +kernel) rfl rfl (Nat.le_of_ble_eq_true rfl) (by decide) e11 m13) (k_M_length hV G9 a0 a1) h (fun v15 G14 _ h => ?_)
    refine Y.callI (yC.S (As := [.int a2, .int (nI 0), .int v15]) (st := [.ref a0]) hV.1 cb_M_isIn lk_M_40 st_M_isIn (by decide +kernel) rfl rfl (Nat.le_of_ble_eq_true rfl) (by decide)) (k_M_isIn hV G14 a2 (nI 0) v15) h (fun v18 G17 _ h => ?_)
    refine Y.if_eq (off := 16) (tgt := 40) (by decide +kernel) (by decide) h (fun c220 h => ?_) (fun c220 h => ?_)
    · refine Y.blk (pc' := 41) (L' := [some (.ref a0), some (.int a1), some (.int a2), some (.int a3), none]) (st' := [.int (nI 1), .ref a0]) (sg := [(.iconst 1, nI 1)]) (by decide +kernel) rfl ?_
      refine Y.goto (off := 4) (tgt := 45) (by decide +kernel) (by decide) ?_
      refine Y.blk (pc' := 46) (L' := [some (.ref a0), some (.int a1), some (.int a2), some (.int a3), none]) (st' := [.int (nI 1), .int (nI 1), .ref a0]) (sg := [(.iconst 1, nI 1)]) (by decide +kernel) rfl ?_
      obtain ⟨_, o20, e19, m21, h⟩ := gOb_inv h
      refine Y.callI (yC.Vi (b := a0) (As := [.int (nI 1), .int (nI 1)]) (st := []) (r := ("PartlisterModel", T_M, 9)) hV.1 cb_M_refuse lk_M_36 in_M_refuse rfl se_M_refuse (by decide +kernel) rfl rfl (Nat.le_of_ble_eq_true rfl) (by decide) e19 m21) (k_M_refuse hV G17 a0 (nI 1) (nI 1)) h (fun v23 G22 _ h => ?_)
      refine Y.if_ne (off := 24) (tgt := 73) (by decide +kernel) (by decide) h (fun c82 h => ?_) (fun c82 h => ?_)
      · refine Y.blk (pc' := 54) (L' := [some (.ref a0), some (.int a1), some (.int a2), some (.int a3), none]) (st' := [.ref a0, .ref a0]) (sg := [(.aload_n 0, 0), (.aload_n 0, 0)]) (by decide +kernel) rfl ?_
        obtain ⟨_, o25, e24, m26, h⟩ := gOb_inv h
        refine Y.callI (yC.Vi (b := a0) (As := []) (st := [.ref a0]) (r := ("PartlisterModel", T_M, 9)) hV.1 cb_M_freePart lk_M_197 in_M_freePart rfl se_M_freePart (by decide +kernel) rfl rfl (Nat.le_of_ble_eq_true rfl) (by decide) e24 m26) (k_M_freePart hV G22 a0) h (fun v28 G27 _ h => ?_)
        refine Y.blk (pc' := 58) (L' := [some (.ref a0), some (.int a1), some (.int a2), some (.int a3), none]) (st' := [.int (-1), .int v28, .ref a0]) (sg := [(.iconst (-1), -1)]) (by decide +kernel) rfl ?_
        refine Y.ic_ne (off := 7) (tgt := 65) (by decide +kernel) (by decide) h (fun c81 h => ?_) (fun c81 h => ?_)
        · refine Y.blk (pc' := 62) (L' := [some (.ref a0), some (.int a1), some (.int a2), some (.int a3), none]) (st' := [.int (nI 1), .ref a0]) (sg := [(.iconst 1, nI 1)]) (by decide +kernel) rfl ?_
          refine Y.goto (off := 4) (tgt := 66) (by decide +kernel) (by decide) ?_
          refine Y.blk (pc' := 67) (L' := [some (.ref a0), some (.int a1), some (.int a2), some (.int a3), none]) (st' := [.int (nI 2), .int (nI 1), .ref a0]) (sg := [(.iconst 2, nI 2)]) (by decide +kernel) rfl ?_
          obtain ⟨_, o30, e29, m31, h⟩ := gOb_inv h
          refine Y.callI (yC.Vi (b := a0) (As := [.int (nI 1), .int (nI 2)]) (st := []) (r := ("PartlisterModel", T_M, 9)) hV.1 cb_M_refuse lk_M_36 in_M_refuse rfl se_M_refuse (by decide +kernel) rfl rfl (Nat.le_of_ble_eq_true rfl) (by decide) e29 m31) (k_M_refuse hV G27 a0 (nI 1) (nI 2)) h (fun v33 G32 _ h => ?_)
          refine Y.if_eq (off := 5) (tgt := 75) (by decide +kernel) (by decide) h (fun c54 h => ?_) (fun c54 h => ?_)
          · refine Y.blk (pc' := 76) (L' := [some (.ref a0), some (.int a1), some (.int a2), some (.int a3), none]) (st' := [.ref a0]) (sg := [(.aload_n 0, 0)]) (by decide +kernel) rfl ?_
            obtain ⟨_, o35, e34, m36, h⟩ := gOb_inv h
            refine Y.callI (yC.Vi (b := a0) (As := []) (st := []) (r := ("PartlisterModel", T_M, 9)) hV.1 cb_M_freePart lk_M_197 in_M_freePart rfl se_M_freePart (by decide +kernel) rfl rfl (Nat.le_of_ble_eq_true rfl) (by decide) e34 m36) (k_M_freePart hV G32 a0) h (fun v38 G37 _ h => ?_)
            refine Y.blk (pc' := 82) (L' := [some (.ref a0), some (.int a1), some (.int a2), some (.int a3), some (.int v38)]) (st' := [.ref a0]) (sg := [(.istore 4, 0), (.aload_n 0, 0)]) (by decide +kernel) rfl ?_
            refine Y.getA fl_M_18 (by decide +kernel) h (fun v39 h => ?_)
            refine Y.blk (pc' := 87) (L' := [some (.ref a0), some (.int a1), some (.int a2), some (.int a3), some (.int v38)]) (st' := [.int v38, .ref v39]) (sg := [(.iload 4, 0)]) (by decide +kernel) rfl ?_
            refine Y.new nc_M_16 (by decide) bk_MP (by decide +kernel) h (fun q40 G41 h => ?_)
            refine Y.blk (pc' := 91) (L' := [some (.ref a0), some (.int a1), some (.int a2), some (.int a3), some (.int v38)]) (st' := [.ref q40, .ref q40, .int v38, .ref v39]) (sg := [(.dup, 0)]) (by decide +kernel) rfl ?_
            refine Y.callN (yC.IN (b := q40) (As := []) (st := [.ref q40, .int v38, .ref v39]) hV.1 cb_MP_init lk_M_200 in_MP_init rfl rfl (by decide +kernel) rfl rfl (Nat.le_of_ble_eq_true rfl) (by decide)) (k_MP_init hV G41 q40) h (fun G43 _ h => ?_)
            refine Y.aast (t0 := 4) (r := ("PartlisterModel$Part", T_MP, 3)) (by decide +kernel) rfl rfl (by decide) h (fun G44 _ _ h => ?_)
            refine Y.blk (pc' := 96) (L' := [some (.ref a0), some (.int a1), some (.int a2), some (.int a3), some (.int v38)]) (st' := [.ref a0]) (sg := [(.aload_n 0, 0)]) (by decide +kernel) rfl ?_
            refine Y.getA fl_M_18 (by decide +kernel) h (fun v45 h => ?_)
            refine Y.blk (pc' := 101) (L' := [some (.ref a0), some (.int a1), some (.int a2), some (.int a3), some (.int v38)]) (st' := [.int v38, .ref v45]) (sg := [(.iload 4, 0)]) (by decide +kernel) rfl ?_
            refine Y.aald (t0 := 4) (by decide +kernel) rfl h (fun h => ?_) (fun v46 h => ?_)
            · refine Y.blk (pc' := 103) (L' := [some (.ref a0), some (.int a1), some (.int a2), some (.int a3), some (.int v38)]) (st' := [.int a1, .null]) (sg := [(.iload_n 1, 0)]) (by decide +kernel) rfl ?_
              cases h
            · refine Y.blk (pc' := 103) (L' := [some (.ref a0), some (.int a1), some (.int a2), some (.int a3), some (.int v38)]) (st' := [.int a1, .ref v46]) (sg := [(.iload_n 1, 0)]) (by decide +kernel) rfl ?_
              refine Y.putf fl_M_44 (by decide) rfl rfl (by decide +kernel) h (fun G47 _ _ h => ?_)
              refine Y.blk (pc' := 107) (L' := [some (.ref a0), some (.int a1), some (.int a2), some (.int a3), some (.int v38)]) (st' := [.ref a0]) (sg := [(.aload_n 0, 0)]) (by decide +kernel) rfl ?_
              refine Y.getA fl_M_18 (by decide +kernel) h (fun v48 h => ?_)
              refine Y.blk (pc' := 112) (L' := [some (.ref a0), some (.int a1), some (.int a2), some (.int a3), some (.int v38)]) (st' := [.int v38, .ref v48]) (sg := [(.iload 4, 0)]) (by decide +kernel) rfl ?_
              refine Y.aald (t0 := 4) (by decide +kernel) rfl h (fun h => ?_) (fun v49 h => ?_)
              · refine Y.blk (pc' := 114) (L' := [some (.ref a0), some (.int a1), some (.int a2), some (.int a3), some (.int v38)]) (st' := [.int a2, .null]) (sg := [(.iload_n 2, 0)]) (by decide +kernel) rfl ?_
                cases h
              · refine Y.blk (pc' := 114) (L' := [some (.ref a0), some (.int a1), some (.int a2), some (.int a3), some (.int v38)]) (st' := [.int a2, .ref v49]) (sg := [(.iload_n 2, 0)]) (by decide +kernel) rfl ?_
                refine Y.putf fl_M_51 (by decide) rfl rfl (by decide +kernel) h (fun G50 _ _ h => ?_)
                refine Y.blk (pc' := 118) (L' := [some (.ref a0), some (.int a1), some (.int a2), some (.int a3), some (.int v38)]) (st' := [.ref a0]) (sg := [(.aload_n 0, 0)]) (by decide +kernel) rfl ?_
                refine Y.getA fl_M_18 (by decide +kernel) h (fun v51 h => ?_)
                refine Y.blk (pc' := 123) (L' := [some (.ref a0), some (.int a1), some (.int a2), some (.int a3), some (.int v38)]) (st' := [.int v38, .ref v51]) (sg := [(.iload 4, 0)]) (by decide +kernel) rfl ?_
                refine Y.aald (t0 := 4) (by decide +kernel) rfl h (fun h => ?_) (fun v52 h => ?_)
                · refine Y.blk (pc' := 127) (L' := [some (.ref a0), some (.int a1), some (.int a2), some (.int a3), some (.int v38)]) (st' := [.int (a3 - a2), .null]) (sg := [(.iload_n 3, 0), (.iload_n 2, 0), (.isub, 0)]) (by decide +kernel) rfl ?_
                  cases h
                · refine Y.blk (pc' := 127) (L' := [some (.ref a0), some (.int a1), some (.int a2), some (.int a3), some (.int v38)]) (st' := [.int (a3 - a2), .ref v52]) (sg := [(.iload_n 3, 0), (.iload_n 2, 0), (.isub, 0)]) (by decide +kernel) rfl ?_
                  refine Y.putf fl_M_65 (by decide) rfl rfl (by decide +kernel) h (fun G53 _ _ h => ?_)
                  refine Y.blk (pc' := 132) (L' := [some (.ref a0), some (.int a1), some (.int a2), some (.int a3), some (.int v38)]) (st' := [.int v38]) (sg := [(.iload 4, 0)]) (by decide +kernel) rfl ?_
                  exact Y.iret rfl (by decide +kernel) h
          · refine Y.blk (pc' := 74) (L' := [some (.ref a0), some (.int a1), some (.int a2), some (.int a3), none]) (st' := [.int (nI 0)]) (sg := [(.iconst 0, nI 0)]) (by decide +kernel) rfl ?_
            exact Y.iret rfl (by decide +kernel) h
        · refine Y.blk (pc' := 67) (L' := [some (.ref a0), some (.int a1), some (.int a2), some (.int a3), none]) (st' := [.int (nI 2), .int (nI 0), .ref a0]) (sg := [(.iconst 0, nI 0), (.iconst 2, nI 2)]) (by decide +kernel) rfl ?_
          obtain ⟨_, o56, e55, m57, h⟩ := gOb_inv h
          refine Y.callI (yC.Vi (b := a0) (As := [.int (nI 0), .int (nI 2)]) (st := []) (r := ("PartlisterModel", T_M, 9)) hV.1 cb_M_refuse lk_M_36 in_M_refuse rfl se_M_refuse (by decide +kernel) rfl rfl (Nat.le_of_ble_eq_true rfl) (by decide) e55 m57) (k_M_refuse hV G27 a0 (nI 0) (nI 2)) h (fun v59 G58 _ h => ?_)
          refine Y.if_eq (off := 5) (tgt := 75) (by decide +kernel) (by decide) h (fun c80 h => ?_) (fun c80 h => ?_)
          · refine Y.blk (pc' := 76) (L' := [some (.ref a0), some (.int a1), some (.int a2), some (.int a3), none]) (st' := [.ref a0]) (sg := [(.aload_n 0, 0)]) (by decide +kernel) rfl ?_
            obtain ⟨_, o61, e60, m62, h⟩ := gOb_inv h
            refine Y.callI (yC.Vi (b := a0) (As := []) (st := []) (r := ("PartlisterModel", T_M, 9)) hV.1 cb_M_freePart lk_M_197 in_M_freePart rfl se_M_freePart (by decide +kernel) rfl rfl (Nat.le_of_ble_eq_true rfl) (by decide) e60 m62) (k_M_freePart hV G58 a0) h (fun v64 G63 _ h => ?_)
            refine Y.blk (pc' := 82) (L' := [some (.ref a0), some (.int a1), some (.int a2), some (.int a3), some (.int v64)]) (st' := [.ref a0]) (sg := [(.istore 4, 0), (.aload_n 0, 0)]) (by decide +kernel) rfl ?_
            refine Y.getA fl_M_18 (by decide +kernel) h (fun v65 h => ?_)
            refine Y.blk (pc' := 87) (L' := [some (.ref a0), some (.int a1), some (.int a2), some (.int a3), some (.int v64)]) (st' := [.int v64, .ref v65]) (sg := [(.iload 4, 0)]) (by decide +kernel) rfl ?_
            refine Y.new nc_M_16 (by decide) bk_MP (by decide +kernel) h (fun q66 G67 h => ?_)
            refine Y.blk (pc' := 91) (L' := [some (.ref a0), some (.int a1), some (.int a2), some (.int a3), some (.int v64)]) (st' := [.ref q66, .ref q66, .int v64, .ref v65]) (sg := [(.dup, 0)]) (by decide +kernel) rfl ?_
            refine Y.callN (yC.IN (b := q66) (As := []) (st := [.ref q66, .int v64, .ref v65]) hV.1 cb_MP_init lk_M_200 in_MP_init rfl rfl (by decide +kernel) rfl rfl (Nat.le_of_ble_eq_true rfl) (by decide)) (k_MP_init hV G67 q66) h (fun G69 _ h => ?_)
            refine Y.aast (t0 := 4) (r := ("PartlisterModel$Part", T_MP, 3)) (by decide +kernel) rfl rfl (by decide) h (fun G70 _ _ h => ?_)
            refine Y.blk (pc' := 96) (L' := [some (.ref a0), some (.int a1), some (.int a2), some (.int a3), some (.int v64)]) (st' := [.ref a0]) (sg := [(.aload_n 0, 0)]) (by decide +kernel) rfl ?_
            refine Y.getA fl_M_18 (by decide +kernel) h (fun v71 h => ?_)
            refine Y.blk (pc' := 101) (L' := [some (.ref a0), some (.int a1), some (.int a2), some (.int a3), some (.int v64)]) (st' := [.int v64, .ref v71]) (sg := [(.iload 4, 0)]) (by decide +kernel) rfl ?_
            refine Y.aald (t0 := 4) (by decide +kernel) rfl h (fun h => ?_) (fun v72 h => ?_)
            · refine Y.blk (pc' := 103) (L' := [some (.ref a0), some (.int a1), some (.int a2), some (.int a3), some (.int v64)]) (st' := [.int a1, .null]) (sg := [(.iload_n 1, 0)]) (by decide +kernel) rfl ?_
              cases h
            · refine Y.blk (pc' := 103) (L' := [some (.ref a0), some (.int a1), some (.int a2), some (.int a3), some (.int v64)]) (st' := [.int a1, .ref v72]) (sg := [(.iload_n 1, 0)]) (by decide +kernel) rfl ?_
              refine Y.putf fl_M_44 (by decide) rfl rfl (by decide +kernel) h (fun G73 _ _ h => ?_)
              refine Y.blk (pc' := 107) (L' := [some (.ref a0), some (.int a1), some (.int a2), some (.int a3), some (.int v64)]) (st' := [.ref a0]) (sg := [(.aload_n 0, 0)]) (by decide +kernel) rfl ?_
              refine Y.getA fl_M_18 (by decide +kernel) h (fun v74 h => ?_)
              refine Y.blk (pc' := 112) (L' := [some (.ref a0), some (.int a1), some (.int a2), some (.int a3), some (.int v64)]) (st' := [.int v64, .ref v74]) (sg := [(.iload 4, 0)]) (by decide +kernel) rfl ?_
              refine Y.aald (t0 := 4) (by decide +kernel) rfl h (fun h => ?_) (fun v75 h => ?_)
              · refine Y.blk (pc' := 114) (L' := [some (.ref a0), some (.int a1), some (.int a2), some (.int a3), some (.int v64)]) (st' := [.int a2, .null]) (sg := [(.iload_n 2, 0)]) (by decide +kernel) rfl ?_
                cases h
              · refine Y.blk (pc' := 114) (L' := [some (.ref a0), some (.int a1), some (.int a2), some (.int a3), some (.int v64)]) (st' := [.int a2, .ref v75]) (sg := [(.iload_n 2, 0)]) (by decide +kernel) rfl ?_
                refine Y.putf fl_M_51 (by decide) rfl rfl (by decide +kernel) h (fun G76 _ _ h => ?_)
                refine Y.blk (pc' := 118) (L' := [some (.ref a0), some (.int a1), some (.int a2), some (.int a3), some (.int v64)]) (st' := [.ref a0]) (sg := [(.aload_n 0, 0)]) (by decide +kernel) rfl ?_
                refine Y.getA fl_M_18 (by decide +kernel) h (fun v77 h => ?_)
                refine Y.blk (pc' := 123) (L' := [some (.ref a0), some (.int a1), some (.int a2), some (.int a3), some (.int v64)]) (st' := [.int v64, .ref v77]) (sg := [(.iload 4, 0)]) (by decide +kernel) rfl ?_
                refine Y.aald (t0 := 4) (by decide +kernel) rfl h (fun h => ?_) (fun v78 h => ?_)
                · refine Y.blk (pc' := 127) (L' := [some (.ref a0), some (.int a1), some (.int a2), some (.int a3), some (.int v64)]) (st' := [.int (a3 - a2), .null]) (sg := [(.iload_n 3, 0), (.iload_n 2, 0), (.isub, 0)]) (by decide +kernel) rfl ?_
                  cases h
                · refine Y.blk (pc' := 127) (L' := [some (.ref a0), some (.int a1), some (.int a2), some (.int a3), some (.int v64)]) (st' := [.int (a3 - a2), .ref v78]) (sg := [(.iload_n 3, 0), (.iload_n 2, 0), (.isub, 0)]) (by decide +kernel) rfl ?_
                  refine Y.putf fl_M_65 (by decide) rfl rfl (by decide +kernel) h (fun G79 _ _ h => ?_)
                  refine Y.blk (pc' := 132) (L' := [some (.ref a0), some (.int a1), some (.int a2), some (.int a3), some (.int v64)]) (st' := [.int v64]) (sg := [(.iload 4, 0)]) (by decide +kernel) rfl ?_
                  exact Y.iret rfl (by decide +kernel) h
          · refine Y.blk (pc' := 74) (L' := [some (.ref a0), some (.int a1), some (.int a2), some (.int a3), none]) (st' := [.int (nI 0)]) (sg := [(.iconst 0, nI 0)]) (by decide +kernel) rfl ?_
            exact Y.iret rfl (by decide +kernel) h
      · refine Y.blk (pc' := 74) (L' := [some (.ref a0), some (.int a1), some (.int a2), some (.int a3), none]) (st' := [.int (nI 0)]) (sg := [(.iconst 0, nI 0)]) (by decide +kernel) rfl ?_
        exact Y.iret rfl (by decide +kernel) h
    · refine Y.blk (pc' := 31) (L' := [some (.ref a0), some (.int a1), some (.int a2), some (.int a3), none]) (st' := [.int a1, .ref a0, .int a2, .int a3, .ref a0]) (sg := [(.iload_n 3, 0), (.iload_n 2, 0), (.aload_n 0, 0), (.iload_n 1, 0)]) (by decide +kernel) rfl ?_
      obtain ⟨_, o84, e83, m85, h⟩ := gOb_inv h
      refine Y.callI (yC.Vi (b := a0) (As := [.int a1]) (st := [.int a2, .int a3, .ref a0]) (r := ("PartlisterModel", T_M, 9)) hV.1 cb_M_length lk_M_74 in_M_length rfl se_M_length (by decide +kernel) rfl rfl (Nat.le_of_ble_eq_true rfl) (by decide) e83 m85) (k_M_length hV G17 a0 a1) h (fun v87 G86 _ h => ?_)
      refine Y.callI (yC.S (As := [.int a3, .int a2, .int v87]) (st := [.ref a0]) hV.1 cb_M_isIn lk_M_40 st_M_isIn (by decide +kernel) rfl rfl (Nat.le_of_ble_eq_true rfl) (by decide)) (k_M_isIn hV G86 a3 a2 v87) h (fun v90 G89 _ h => ?_)
      refine Y.if_ne (off := 7) (tgt := 44) (by decide +kernel) (by decide) h (fun c219 h => ?_) (fun c219 h => ?_)
      · refine Y.blk (pc' := 41) (L' := [some (.ref a0), some (.int a1), some (.int a2), some (.int a3), none]) (st' := [.int (nI 1), .ref a0]) (sg := [(.iconst 1, nI 1)]) (by decide +kernel) rfl ?_
        refine Y.goto (off := 4) (tgt := 45) (by decide +kernel) (by decide) ?_
        refine Y.blk (pc' := 46) (L' := [some (.ref a0), some (.int a1), some (.int a2), some (.int a3), none]) (st' := [.int (nI 1), .int (nI 1), .ref a0]) (sg := [(.iconst 1, nI 1)]) (by decide +kernel) rfl ?_
        obtain ⟨_, o92, e91, m93, h⟩ := gOb_inv h
        refine Y.callI (yC.Vi (b := a0) (As := [.int (nI 1), .int (nI 1)]) (st := []) (r := ("PartlisterModel", T_M, 9)) hV.1 cb_M_refuse lk_M_36 in_M_refuse rfl se_M_refuse (by decide +kernel) rfl rfl (Nat.le_of_ble_eq_true rfl) (by decide) e91 m93) (k_M_refuse hV G89 a0 (nI 1) (nI 1)) h (fun v95 G94 _ h => ?_)
        refine Y.if_ne (off := 24) (tgt := 73) (by decide +kernel) (by decide) h (fun c154 h => ?_) (fun c154 h => ?_)
        · refine Y.blk (pc' := 54) (L' := [some (.ref a0), some (.int a1), some (.int a2), some (.int a3), none]) (st' := [.ref a0, .ref a0]) (sg := [(.aload_n 0, 0), (.aload_n 0, 0)]) (by decide +kernel) rfl ?_
          obtain ⟨_, o97, e96, m98, h⟩ := gOb_inv h
          refine Y.callI (yC.Vi (b := a0) (As := []) (st := [.ref a0]) (r := ("PartlisterModel", T_M, 9)) hV.1 cb_M_freePart lk_M_197 in_M_freePart rfl se_M_freePart (by decide +kernel) rfl rfl (Nat.le_of_ble_eq_true rfl) (by decide) e96 m98) (k_M_freePart hV G94 a0) h (fun v100 G99 _ h => ?_)
          refine Y.blk (pc' := 58) (L' := [some (.ref a0), some (.int a1), some (.int a2), some (.int a3), none]) (st' := [.int (-1), .int v100, .ref a0]) (sg := [(.iconst (-1), -1)]) (by decide +kernel) rfl ?_
          refine Y.ic_ne (off := 7) (tgt := 65) (by decide +kernel) (by decide) h (fun c153 h => ?_) (fun c153 h => ?_)
          · refine Y.blk (pc' := 62) (L' := [some (.ref a0), some (.int a1), some (.int a2), some (.int a3), none]) (st' := [.int (nI 1), .ref a0]) (sg := [(.iconst 1, nI 1)]) (by decide +kernel) rfl ?_
            refine Y.goto (off := 4) (tgt := 66) (by decide +kernel) (by decide) ?_
            refine Y.blk (pc' := 67) (L' := [some (.ref a0), some (.int a1), some (.int a2), some (.int a3), none]) (st' := [.int (nI 2), .int (nI 1), .ref a0]) (sg := [(.iconst 2, nI 2)]) (by decide +kernel) rfl ?_
            obtain ⟨_, o102, e101, m103, h⟩ := gOb_inv h
            refine Y.callI (yC.Vi (b := a0) (As := [.int (nI 1), .int (nI 2)]) (st := []) (r := ("PartlisterModel", T_M, 9)) hV.1 cb_M_refuse lk_M_36 in_M_refuse rfl se_M_refuse (by decide +kernel) rfl rfl (Nat.le_of_ble_eq_true rfl) (by decide) e101 m103) (k_M_refuse hV G99 a0 (nI 1) (nI 2)) h (fun v105 G104 _ h => ?_)
            refine Y.if_eq (off := 5) (tgt := 75) (by decide +kernel) (by decide) h (fun c126 h => ?_) (fun c126 h => ?_)
            · refine Y.blk (pc' := 76) (L' := [some (.ref a0), some (.int a1), some (.int a2), some (.int a3), none]) (st' := [.ref a0]) (sg := [(.aload_n 0, 0)]) (by decide +kernel) rfl ?_
              obtain ⟨_, o107, e106, m108, h⟩ := gOb_inv h
              refine Y.callI (yC.Vi (b := a0) (As := []) (st := []) (r := ("PartlisterModel", T_M, 9)) hV.1 cb_M_freePart lk_M_197 in_M_freePart rfl se_M_freePart (by decide +kernel) rfl rfl (Nat.le_of_ble_eq_true rfl) (by decide) e106 m108) (k_M_freePart hV G104 a0) h (fun v110 G109 _ h => ?_)
              refine Y.blk (pc' := 82) (L' := [some (.ref a0), some (.int a1), some (.int a2), some (.int a3), some (.int v110)]) (st' := [.ref a0]) (sg := [(.istore 4, 0), (.aload_n 0, 0)]) (by decide +kernel) rfl ?_
              refine Y.getA fl_M_18 (by decide +kernel) h (fun v111 h => ?_)
              refine Y.blk (pc' := 87) (L' := [some (.ref a0), some (.int a1), some (.int a2), some (.int a3), some (.int v110)]) (st' := [.int v110, .ref v111]) (sg := [(.iload 4, 0)]) (by decide +kernel) rfl ?_
              refine Y.new nc_M_16 (by decide) bk_MP (by decide +kernel) h (fun q112 G113 h => ?_)
              refine Y.blk (pc' := 91) (L' := [some (.ref a0), some (.int a1), some (.int a2), some (.int a3), some (.int v110)]) (st' := [.ref q112, .ref q112, .int v110, .ref v111]) (sg := [(.dup, 0)]) (by decide +kernel) rfl ?_
              refine Y.callN (yC.IN (b := q112) (As := []) (st := [.ref q112, .int v110, .ref v111]) hV.1 cb_MP_init lk_M_200 in_MP_init rfl rfl (by decide +kernel) rfl rfl (Nat.le_of_ble_eq_true rfl) (by decide)) (k_MP_init hV G113 q112) h (fun G115 _ h => ?_)
              refine Y.aast (t0 := 4) (r := ("PartlisterModel$Part", T_MP, 3)) (by decide +kernel) rfl rfl (by decide) h (fun G116 _ _ h => ?_)
              refine Y.blk (pc' := 96) (L' := [some (.ref a0), some (.int a1), some (.int a2), some (.int a3), some (.int v110)]) (st' := [.ref a0]) (sg := [(.aload_n 0, 0)]) (by decide +kernel) rfl ?_
              refine Y.getA fl_M_18 (by decide +kernel) h (fun v117 h => ?_)
              refine Y.blk (pc' := 101) (L' := [some (.ref a0), some (.int a1), some (.int a2), some (.int a3), some (.int v110)]) (st' := [.int v110, .ref v117]) (sg := [(.iload 4, 0)]) (by decide +kernel) rfl ?_
              refine Y.aald (t0 := 4) (by decide +kernel) rfl h (fun h => ?_) (fun v118 h => ?_)
              · refine Y.blk (pc' := 103) (L' := [some (.ref a0), some (.int a1), some (.int a2), some (.int a3), some (.int v110)]) (st' := [.int a1, .null]) (sg := [(.iload_n 1, 0)]) (by decide +kernel) rfl ?_
                cases h
              · refine Y.blk (pc' := 103) (L' := [some (.ref a0), some (.int a1), some (.int a2), some (.int a3), some (.int v110)]) (st' := [.int a1, .ref v118]) (sg := [(.iload_n 1, 0)]) (by decide +kernel) rfl ?_
                refine Y.putf fl_M_44 (by decide) rfl rfl (by decide +kernel) h (fun G119 _ _ h => ?_)
                refine Y.blk (pc' := 107) (L' := [some (.ref a0), some (.int a1), some (.int a2), some (.int a3), some (.int v110)]) (st' := [.ref a0]) (sg := [(.aload_n 0, 0)]) (by decide +kernel) rfl ?_
                refine Y.getA fl_M_18 (by decide +kernel) h (fun v120 h => ?_)
                refine Y.blk (pc' := 112) (L' := [some (.ref a0), some (.int a1), some (.int a2), some (.int a3), some (.int v110)]) (st' := [.int v110, .ref v120]) (sg := [(.iload 4, 0)]) (by decide +kernel) rfl ?_
                refine Y.aald (t0 := 4) (by decide +kernel) rfl h (fun h => ?_) (fun v121 h => ?_)
                · refine Y.blk (pc' := 114) (L' := [some (.ref a0), some (.int a1), some (.int a2), some (.int a3), some (.int v110)]) (st' := [.int a2, .null]) (sg := [(.iload_n 2, 0)]) (by decide +kernel) rfl ?_
                  cases h
                · refine Y.blk (pc' := 114) (L' := [some (.ref a0), some (.int a1), some (.int a2), some (.int a3), some (.int v110)]) (st' := [.int a2, .ref v121]) (sg := [(.iload_n 2, 0)]) (by decide +kernel) rfl ?_
                  refine Y.putf fl_M_51 (by decide) rfl rfl (by decide +kernel) h (fun G122 _ _ h => ?_)
                  refine Y.blk (pc' := 118) (L' := [some (.ref a0), some (.int a1), some (.int a2), some (.int a3), some (.int v110)]) (st' := [.ref a0]) (sg := [(.aload_n 0, 0)]) (by decide +kernel) rfl ?_
                  refine Y.getA fl_M_18 (by decide +kernel) h (fun v123 h => ?_)
                  refine Y.blk (pc' := 123) (L' := [some (.ref a0), some (.int a1), some (.int a2), some (.int a3), some (.int v110)]) (st' := [.int v110, .ref v123]) (sg := [(.iload 4, 0)]) (by decide +kernel) rfl ?_
                  refine Y.aald (t0 := 4) (by decide +kernel) rfl h (fun h => ?_) (fun v124 h => ?_)
                  · refine Y.blk (pc' := 127) (L' := [some (.ref a0), some (.int a1), some (.int a2), some (.int a3), some (.int v110)]) (st' := [.int (a3 - a2), .null]) (sg := [(.iload_n 3, 0), (.iload_n 2, 0), (.isub, 0)]) (by decide +kernel) rfl ?_
                    cases h
                  · refine Y.blk (pc' := 127) (L' := [some (.ref a0), some (.int a1), some (.int a2), some (.int a3), some (.int v110)]) (st' := [.int (a3 - a2), .ref v124]) (sg := [(.iload_n 3, 0), (.iload_n 2, 0), (.isub, 0)]) (by decide +kernel) rfl ?_
                    refine Y.putf fl_M_65 (by decide) rfl rfl (by decide +kernel) h (fun G125 _ _ h => ?_)
                    refine Y.blk (pc' := 132) (L' := [some (.ref a0), some (.int a1), some (.int a2), some (.int a3), some (.int v110)]) (st' := [.int v110]) (sg := [(.iload 4, 0)]) (by decide +kernel) rfl ?_
                    exact Y.iret rfl (by decide +kernel) h
            · refine Y.blk (pc' := 74) (L' := [some (.ref a0), some (.int a1), some (.int a2), some (.int a3), none]) (st' := [.int (nI 0)]) (sg := [(.iconst 0, nI 0)]) (by decide +kernel) rfl ?_
              exact Y.iret rfl (by decide +kernel) h
          · refine Y.blk (pc' := 67) (L' := [some (.ref a0), some (.int a1), some (.int a2), some (.int a3), none]) (st' := [.int (nI 2), .int (nI 0), .ref a0]) (sg := [(.iconst 0, nI 0), (.iconst 2, nI 2)]) (by decide +kernel) rfl ?_
            obtain ⟨_, o128, e127, m129, h⟩ := gOb_inv h
            refine Y.callI (yC.Vi (b := a0) (As := [.int (nI 0), .int (nI 2)]) (st := []) (r := ("PartlisterModel", T_M, 9)) hV.1 cb_M_refuse lk_M_36 in_M_refuse rfl se_M_refuse (by decide +kernel) rfl rfl (Nat.le_of_ble_eq_true rfl) (by decide) e127 m129) (k_M_refuse hV G99 a0 (nI 0) (nI 2)) h (fun v131 G130 _ h => ?_)
            refine Y.if_eq (off := 5) (tgt := 75) (by decide +kernel) (by decide) h (fun c152 h => ?_) (fun c152 h => ?_)
            · refine Y.blk (pc' := 76) (L' := [some (.ref a0), some (.int a1), some (.int a2), some (.int a3), none]) (st' := [.ref a0]) (sg := [(.aload_n 0, 0)]) (by decide +kernel) rfl ?_
              obtain ⟨_, o133, e132, m134, h⟩ := gOb_inv h
              refine Y.callI (yC.Vi (b := a0) (As := []) (st := []) (r := ("PartlisterModel", T_M, 9)) hV.1 cb_M_freePart lk_M_197 in_M_freePart rfl se_M_freePart (by decide +kernel) rfl rfl (Nat.le_of_ble_eq_true rfl) (by decide) e132 m134) (k_M_freePart hV G130 a0) h (fun v136 G135 _ h => ?_)
              refine Y.blk (pc' := 82) (L' := [some (.ref a0), some (.int a1), some (.int a2), some (.int a3), some (.int v136)]) (st' := [.ref a0]) (sg := [(.istore 4, 0), (.aload_n 0, 0)]) (by decide +kernel) rfl ?_
              refine Y.getA fl_M_18 (by decide +kernel) h (fun v137 h => ?_)
              refine Y.blk (pc' := 87) (L' := [some (.ref a0), some (.int a1), some (.int a2), some (.int a3), some (.int v136)]) (st' := [.int v136, .ref v137]) (sg := [(.iload 4, 0)]) (by decide +kernel) rfl ?_
              refine Y.new nc_M_16 (by decide) bk_MP (by decide +kernel) h (fun q138 G139 h => ?_)
              refine Y.blk (pc' := 91) (L' := [some (.ref a0), some (.int a1), some (.int a2), some (.int a3), some (.int v136)]) (st' := [.ref q138, .ref q138, .int v136, .ref v137]) (sg := [(.dup, 0)]) (by decide +kernel) rfl ?_
              refine Y.callN (yC.IN (b := q138) (As := []) (st := [.ref q138, .int v136, .ref v137]) hV.1 cb_MP_init lk_M_200 in_MP_init rfl rfl (by decide +kernel) rfl rfl (Nat.le_of_ble_eq_true rfl) (by decide)) (k_MP_init hV G139 q138) h (fun G141 _ h => ?_)
              refine Y.aast (t0 := 4) (r := ("PartlisterModel$Part", T_MP, 3)) (by decide +kernel) rfl rfl (by decide) h (fun G142 _ _ h => ?_)
              refine Y.blk (pc' := 96) (L' := [some (.ref a0), some (.int a1), some (.int a2), some (.int a3), some (.int v136)]) (st' := [.ref a0]) (sg := [(.aload_n 0, 0)]) (by decide +kernel) rfl ?_
              refine Y.getA fl_M_18 (by decide +kernel) h (fun v143 h => ?_)
              refine Y.blk (pc' := 101) (L' := [some (.ref a0), some (.int a1), some (.int a2), some (.int a3), some (.int v136)]) (st' := [.int v136, .ref v143]) (sg := [(.iload 4, 0)]) (by decide +kernel) rfl ?_
              refine Y.aald (t0 := 4) (by decide +kernel) rfl h (fun h => ?_) (fun v144 h => ?_)
              · refine Y.blk (pc' := 103) (L' := [some (.ref a0), some (.int a1), some (.int a2), some (.int a3), some (.int v136)]) (st' := [.int a1, .null]) (sg := [(.iload_n 1, 0)]) (by decide +kernel) rfl ?_
                cases h
              · refine Y.blk (pc' := 103) (L' := [some (.ref a0), some (.int a1), some (.int a2), some (.int a3), some (.int v136)]) (st' := [.int a1, .ref v144]) (sg := [(.iload_n 1, 0)]) (by decide +kernel) rfl ?_
                refine Y.putf fl_M_44 (by decide) rfl rfl (by decide +kernel) h (fun G145 _ _ h => ?_)
                refine Y.blk (pc' := 107) (L' := [some (.ref a0), some (.int a1), some (.int a2), some (.int a3), some (.int v136)]) (st' := [.ref a0]) (sg := [(.aload_n 0, 0)]) (by decide +kernel) rfl ?_
                refine Y.getA fl_M_18 (by decide +kernel) h (fun v146 h => ?_)
                refine Y.blk (pc' := 112) (L' := [some (.ref a0), some (.int a1), some (.int a2), some (.int a3), some (.int v136)]) (st' := [.int v136, .ref v146]) (sg := [(.iload 4, 0)]) (by decide +kernel) rfl ?_
                refine Y.aald (t0 := 4) (by decide +kernel) rfl h (fun h => ?_) (fun v147 h => ?_)
                · refine Y.blk (pc' := 114) (L' := [some (.ref a0), some (.int a1), some (.int a2), some (.int a3), some (.int v136)]) (st' := [.int a2, .null]) (sg := [(.iload_n 2, 0)]) (by decide +kernel) rfl ?_
                  cases h
                · refine Y.blk (pc' := 114) (L' := [some (.ref a0), some (.int a1), some (.int a2), some (.int a3), some (.int v136)]) (st' := [.int a2, .ref v147]) (sg := [(.iload_n 2, 0)]) (by decide +kernel) rfl ?_
                  refine Y.putf fl_M_51 (by decide) rfl rfl (by decide +kernel) h (fun G148 _ _ h => ?_)
                  refine Y.blk (pc' := 118) (L' := [some (.ref a0), some (.int a1), some (.int a2), some (.int a3), some (.int v136)]) (st' := [.ref a0]) (sg := [(.aload_n 0, 0)]) (by decide +kernel) rfl ?_
                  refine Y.getA fl_M_18 (by decide +kernel) h (fun v149 h => ?_)
                  refine Y.blk (pc' := 123) (L' := [some (.ref a0), some (.int a1), some (.int a2), some (.int a3), some (.int v136)]) (st' := [.int v136, .ref v149]) (sg := [(.iload 4, 0)]) (by decide +kernel) rfl ?_
                  refine Y.aald (t0 := 4) (by decide +kernel) rfl h (fun h => ?_) (fun v150 h => ?_)
                  · refine Y.blk (pc' := 127) (L' := [some (.ref a0), some (.int a1), some (.int a2), some (.int a3), some (.int v136)]) (st' := [.int (a3 - a2), .null]) (sg := [(.iload_n 3, 0), (.iload_n 2, 0), (.isub, 0)]) (by decide +kernel) rfl ?_
                    cases h
                  · refine Y.blk (pc' := 127) (L' := [some (.ref a0), some (.int a1), some (.int a2), some (.int a3), some (.int v136)]) (st' := [.int (a3 - a2), .ref v150]) (sg := [(.iload_n 3, 0), (.iload_n 2, 0), (.isub, 0)]) (by decide +kernel) rfl ?_
                    refine Y.putf fl_M_65 (by decide) rfl rfl (by decide +kernel) h (fun G151 _ _ h => ?_)
                    refine Y.blk (pc' := 132) (L' := [some (.ref a0), some (.int a1), some (.int a2), some (.int a3), some (.int v136)]) (st' := [.int v136]) (sg := [(.iload 4, 0)]) (by decide +kernel) rfl ?_
                    exact Y.iret rfl (by decide +kernel) h
            · refine Y.blk (pc' := 74) (L' := [some (.ref a0), some (.int a1), some (.int a2), some (.int a3), none]) (st' := [.int (nI 0)]) (sg := [(.iconst 0, nI 0)]) (by decide +kernel) rfl ?_
              exact Y.iret rfl (by decide +kernel) h
        · refine Y.blk (pc' := 74) (L' := [some (.ref a0), some (.int a1), some (.int a2), some (.int a3), none]) (st' := [.int (nI 0)]) (sg := [(.iconst 0, nI 0)]) (by decide +kernel) rfl ?_
          exact Y.iret rfl (by decide +kernel) h
      · refine Y.blk (pc' := 46) (L' := [some (.ref a0), some (.int a1), some (.int a2), some (.int a3), none]) (st' := [.int (nI 1), .int (nI 0), .ref a0]) (sg := [(.iconst 0, nI 0), (.iconst 1, nI 1)]) (by decide +kernel) rfl ?_
        obtain ⟨_, o156, e155, m157, h⟩ := gOb_inv h
        refine Y.callI (yC.Vi (b := a0) (As := [.int (nI 0), .int (nI 1)]) (st := []) (r := ("PartlisterModel", T_M, 9)) hV.1 cb_M_refuse lk_M_36 in_M_refuse rfl se_M_refuse (by decide +kernel) rfl rfl (Nat.le_of_ble_eq_true rfl) (by decide) e155 m157) (k_M_refuse hV G89 a0 (nI 0) (nI 1)) h (fun v159 G158 _ h => ?_)
        refine Y.if_ne (off := 24) (tgt := 73) (by decide +kernel) (by decide) h (fun c218 h => ?_) (fun c218 h => ?_)
        · refine Y.blk (pc' := 54) (L' := [some (.ref a0), some (.int a1), some (.int a2), some (.int a3), none]) (st' := [.ref a0, .ref a0]) (sg := [(.aload_n 0, 0), (.aload_n 0, 0)]) (by decide +kernel) rfl ?_
          obtain ⟨_, o161, e160, m162, h⟩ := gOb_inv h
          refine Y.callI (yC.Vi (b := a0) (As := []) (st := [.ref a0]) (r := ("PartlisterModel", T_M, 9)) hV.1 cb_M_freePart lk_M_197 in_M_freePart rfl se_M_freePart (by decide +kernel) rfl rfl (Nat.le_of_ble_eq_true rfl) (by decide) e160 m162) (k_M_freePart hV G158 a0) h (fun v164 G163 _ h => ?_)
          refine Y.blk (pc' := 58) (L' := [some (.ref a0), some (.int a1), some (.int a2), some (.int a3), none]) (st' := [.int (-1), .int v164, .ref a0]) (sg := [(.iconst (-1), -1)]) (by decide +kernel) rfl ?_
          refine Y.ic_ne (off := 7) (tgt := 65) (by decide +kernel) (by decide) h (fun c217 h => ?_) (fun c217 h => ?_)
          · refine Y.blk (pc' := 62) (L' := [some (.ref a0), some (.int a1), some (.int a2), some (.int a3), none]) (st' := [.int (nI 1), .ref a0]) (sg := [(.iconst 1, nI 1)]) (by decide +kernel) rfl ?_
            refine Y.goto (off := 4) (tgt := 66) (by decide +kernel) (by decide) ?_
            refine Y.blk (pc' := 67) (L' := [some (.ref a0), some (.int a1), some (.int a2), some (.int a3), none]) (st' := [.int (nI 2), .int (nI 1), .ref a0]) (sg := [(.iconst 2, nI 2)]) (by decide +kernel) rfl ?_
            obtain ⟨_, o166, e165, m167, h⟩ := gOb_inv h
            refine Y.callI (yC.Vi (b := a0) (As := [.int (nI 1), .int (nI 2)]) (st := []) (r := ("PartlisterModel", T_M, 9)) hV.1 cb_M_refuse lk_M_36 in_M_refuse rfl se_M_refuse (by decide +kernel) rfl rfl (Nat.le_of_ble_eq_true rfl) (by decide) e165 m167) (k_M_refuse hV G163 a0 (nI 1) (nI 2)) h (fun v169 G168 _ h => ?_)
            refine Y.if_eq (off := 5) (tgt := 75) (by decide +kernel) (by decide) h (fun c190 h => ?_) (fun c190 h => ?_)
            · refine Y.blk (pc' := 76) (L' := [some (.ref a0), some (.int a1), some (.int a2), some (.int a3), none]) (st' := [.ref a0]) (sg := [(.aload_n 0, 0)]) (by decide +kernel) rfl ?_
              obtain ⟨_, o171, e170, m172, h⟩ := gOb_inv h
              refine Y.callI (yC.Vi (b := a0) (As := []) (st := []) (r := ("PartlisterModel", T_M, 9)) hV.1 cb_M_freePart lk_M_197 in_M_freePart rfl se_M_freePart (by decide +kernel) rfl rfl (Nat.le_of_ble_eq_true rfl) (by decide) e170 m172) (k_M_freePart hV G168 a0) h (fun v174 G173 _ h => ?_)
              refine Y.blk (pc' := 82) (L' := [some (.ref a0), some (.int a1), some (.int a2), some (.int a3), some (.int v174)]) (st' := [.ref a0]) (sg := [(.istore 4, 0), (.aload_n 0, 0)]) (by decide +kernel) rfl ?_
              refine Y.getA fl_M_18 (by decide +kernel) h (fun v175 h => ?_)
              refine Y.blk (pc' := 87) (L' := [some (.ref a0), some (.int a1), some (.int a2), some (.int a3), some (.int v174)]) (st' := [.int v174, .ref v175]) (sg := [(.iload 4, 0)]) (by decide +kernel) rfl ?_
              refine Y.new nc_M_16 (by decide) bk_MP (by decide +kernel) h (fun q176 G177 h => ?_)
              refine Y.blk (pc' := 91) (L' := [some (.ref a0), some (.int a1), some (.int a2), some (.int a3), some (.int v174)]) (st' := [.ref q176, .ref q176, .int v174, .ref v175]) (sg := [(.dup, 0)]) (by decide +kernel) rfl ?_
              refine Y.callN (yC.IN (b := q176) (As := []) (st := [.ref q176, .int v174, .ref v175]) hV.1 cb_MP_init lk_M_200 in_MP_init rfl rfl (by decide +kernel) rfl rfl (Nat.le_of_ble_eq_true rfl) (by decide)) (k_MP_init hV G177 q176) h (fun G179 _ h => ?_)
              refine Y.aast (t0 := 4) (r := ("PartlisterModel$Part", T_MP, 3)) (by decide +kernel) rfl rfl (by decide) h (fun G180 _ _ h => ?_)
              refine Y.blk (pc' := 96) (L' := [some (.ref a0), some (.int a1), some (.int a2), some (.int a3), some (.int v174)]) (st' := [.ref a0]) (sg := [(.aload_n 0, 0)]) (by decide +kernel) rfl ?_
              refine Y.getA fl_M_18 (by decide +kernel) h (fun v181 h => ?_)
              refine Y.blk (pc' := 101) (L' := [some (.ref a0), some (.int a1), some (.int a2), some (.int a3), some (.int v174)]) (st' := [.int v174, .ref v181]) (sg := [(.iload 4, 0)]) (by decide +kernel) rfl ?_
              refine Y.aald (t0 := 4) (by decide +kernel) rfl h (fun h => ?_) (fun v182 h => ?_)
              · refine Y.blk (pc' := 103) (L' := [some (.ref a0), some (.int a1), some (.int a2), some (.int a3), some (.int v174)]) (st' := [.int a1, .null]) (sg := [(.iload_n 1, 0)]) (by decide +kernel) rfl ?_
                cases h
              · refine Y.blk (pc' := 103) (L' := [some (.ref a0), some (.int a1), some (.int a2), some (.int a3), some (.int v174)]) (st' := [.int a1, .ref v182]) (sg := [(.iload_n 1, 0)]) (by decide +kernel) rfl ?_
                refine Y.putf fl_M_44 (by decide) rfl rfl (by decide +kernel) h (fun G183 _ _ h => ?_)
                refine Y.blk (pc' := 107) (L' := [some (.ref a0), some (.int a1), some (.int a2), some (.int a3), some (.int v174)]) (st' := [.ref a0]) (sg := [(.aload_n 0, 0)]) (by decide +kernel) rfl ?_
                refine Y.getA fl_M_18 (by decide +kernel) h (fun v184 h => ?_)
                refine Y.blk (pc' := 112) (L' := [some (.ref a0), some (.int a1), some (.int a2), some (.int a3), some (.int v174)]) (st' := [.int v174, .ref v184]) (sg := [(.iload 4, 0)]) (by decide +kernel) rfl ?_
                refine Y.aald (t0 := 4) (by decide +kernel) rfl h (fun h => ?_) (fun v185 h => ?_)
                · refine Y.blk (pc' := 114) (L' := [some (.ref a0), some (.int a1), some (.int a2), some (.int a3), some (.int v174)]) (st' := [.int a2, .null]) (sg := [(.iload_n 2, 0)]) (by decide +kernel) rfl ?_
                  cases h
                · refine Y.blk (pc' := 114) (L' := [some (.ref a0), some (.int a1), some (.int a2), some (.int a3), some (.int v174)]) (st' := [.int a2, .ref v185]) (sg := [(.iload_n 2, 0)]) (by decide +kernel) rfl ?_
                  refine Y.putf fl_M_51 (by decide) rfl rfl (by decide +kernel) h (fun G186 _ _ h => ?_)
                  refine Y.blk (pc' := 118) (L' := [some (.ref a0), some (.int a1), some (.int a2), some (.int a3), some (.int v174)]) (st' := [.ref a0]) (sg := [(.aload_n 0, 0)]) (by decide +kernel) rfl ?_
                  refine Y.getA fl_M_18 (by decide +kernel) h (fun v187 h => ?_)
                  refine Y.blk (pc' := 123) (L' := [some (.ref a0), some (.int a1), some (.int a2), some (.int a3), some (.int v174)]) (st' := [.int v174, .ref v187]) (sg := [(.iload 4, 0)]) (by decide +kernel) rfl ?_
                  refine Y.aald (t0 := 4) (by decide +kernel) rfl h (fun h => ?_) (fun v188 h => ?_)
                  · refine Y.blk (pc' := 127) (L' := [some (.ref a0), some (.int a1), some (.int a2), some (.int a3), some (.int v174)]) (st' := [.int (a3 - a2), .null]) (sg := [(.iload_n 3, 0), (.iload_n 2, 0), (.isub, 0)]) (by decide +kernel) rfl ?_
                    cases h
                  · refine Y.blk (pc' := 127) (L' := [some (.ref a0), some (.int a1), some (.int a2), some (.int a3), some (.int v174)]) (st' := [.int (a3 - a2), .ref v188]) (sg := [(.iload_n 3, 0), (.iload_n 2, 0), (.isub, 0)]) (by decide +kernel) rfl ?_
                    refine Y.putf fl_M_65 (by decide) rfl rfl (by decide +kernel) h (fun G189 _ _ h => ?_)
                    refine Y.blk (pc' := 132) (L' := [some (.ref a0), some (.int a1), some (.int a2), some (.int a3), some (.int v174)]) (st' := [.int v174]) (sg := [(.iload 4, 0)]) (by decide +kernel) rfl ?_
                    exact Y.iret rfl (by decide +kernel) h
            · refine Y.blk (pc' := 74) (L' := [some (.ref a0), some (.int a1), some (.int a2), some (.int a3), none]) (st' := [.int (nI 0)]) (sg := [(.iconst 0, nI 0)]) (by decide +kernel) rfl ?_
              exact Y.iret rfl (by decide +kernel) h
          · refine Y.blk (pc' := 67) (L' := [some (.ref a0), some (.int a1), some (.int a2), some (.int a3), none]) (st' := [.int (nI 2), .int (nI 0), .ref a0]) (sg := [(.iconst 0, nI 0), (.iconst 2, nI 2)]) (by decide +kernel) rfl ?_
            obtain ⟨_, o192, e191, m193, h⟩ := gOb_inv h
            refine Y.callI (yC.Vi (b := a0) (As := [.int (nI 0), .int (nI 2)]) (st := []) (r := ("PartlisterModel", T_M, 9)) hV.1 cb_M_refuse lk_M_36 in_M_refuse rfl se_M_refuse (by decide +kernel) rfl rfl (Nat.le_of_ble_eq_true rfl) (by decide) e191 m193) (k_M_refuse hV G163 a0 (nI 0) (nI 2)) h (fun v195 G194 _ h => ?_)
            refine Y.if_eq (off := 5) (tgt := 75) (by decide +kernel) (by decide) h (fun c216 h => ?_) (fun c216 h => ?_)
            · refine Y.blk (pc' := 76) (L' := [some (.ref a0), some (.int a1), some (.int a2), some (.int a3), none]) (st' := [.ref a0]) (sg := [(.aload_n 0, 0)]) (by decide +kernel) rfl ?_
              obtain ⟨_, o197, e196, m198, h⟩ := gOb_inv h
              refine Y.callI (yC.Vi (b := a0) (As := []) (st := []) (r := ("PartlisterModel", T_M, 9)) hV.1 cb_M_freePart lk_M_197 in_M_freePart rfl se_M_freePart (by decide +kernel) rfl rfl (Nat.le_of_ble_eq_true rfl) (by decide) e196 m198) (k_M_freePart hV G194 a0) h (fun v200 G199 _ h => ?_)
              refine Y.blk (pc' := 82) (L' := [some (.ref a0), some (.int a1), some (.int a2), some (.int a3), some (.int v200)]) (st' := [.ref a0]) (sg := [(.istore 4, 0), (.aload_n 0, 0)]) (by decide +kernel) rfl ?_
              refine Y.getA fl_M_18 (by decide +kernel) h (fun v201 h => ?_)
              refine Y.blk (pc' := 87) (L' := [some (.ref a0), some (.int a1), some (.int a2), some (.int a3), some (.int v200)]) (st' := [.int v200, .ref v201]) (sg := [(.iload 4, 0)]) (by decide +kernel) rfl ?_
              refine Y.new nc_M_16 (by decide) bk_MP (by decide +kernel) h (fun q202 G203 h => ?_)
              refine Y.blk (pc' := 91) (L' := [some (.ref a0), some (.int a1), some (.int a2), some (.int a3), some (.int v200)]) (st' := [.ref q202, .ref q202, .int v200, .ref v201]) (sg := [(.dup, 0)]) (by decide +kernel) rfl ?_
              refine Y.callN (yC.IN (b := q202) (As := []) (st := [.ref q202, .int v200, .ref v201]) hV.1 cb_MP_init lk_M_200 in_MP_init rfl rfl (by decide +kernel) rfl rfl (Nat.le_of_ble_eq_true rfl) (by decide)) (k_MP_init hV G203 q202) h (fun G205 _ h => ?_)
              refine Y.aast (t0 := 4) (r := ("PartlisterModel$Part", T_MP, 3)) (by decide +kernel) rfl rfl (by decide) h (fun G206 _ _ h => ?_)
              refine Y.blk (pc' := 96) (L' := [some (.ref a0), some (.int a1), some (.int a2), some (.int a3), some (.int v200)]) (st' := [.ref a0]) (sg := [(.aload_n 0, 0)]) (by decide +kernel) rfl ?_
              refine Y.getA fl_M_18 (by decide +kernel) h (fun v207 h => ?_)
              refine Y.blk (pc' := 101) (L' := [some (.ref a0), some (.int a1), some (.int a2), some (.int a3), some (.int v200)]) (st' := [.int v200, .ref v207]) (sg := [(.iload 4, 0)]) (by decide +kernel) rfl ?_
              refine Y.aald (t0 := 4) (by decide +kernel) rfl h (fun h => ?_) (fun v208 h => ?_)
              · refine Y.blk (pc' := 103) (L' := [some (.ref a0), some (.int a1), some (.int a2), some (.int a3), some (.int v200)]) (st' := [.int a1, .null]) (sg := [(.iload_n 1, 0)]) (by decide +kernel) rfl ?_
                cases h
              · refine Y.blk (pc' := 103) (L' := [some (.ref a0), some (.int a1), some (.int a2), some (.int a3), some (.int v200)]) (st' := [.int a1, .ref v208]) (sg := [(.iload_n 1, 0)]) (by decide +kernel) rfl ?_
                refine Y.putf fl_M_44 (by decide) rfl rfl (by decide +kernel) h (fun G209 _ _ h => ?_)
                refine Y.blk (pc' := 107) (L' := [some (.ref a0), some (.int a1), some (.int a2), some (.int a3), some (.int v200)]) (st' := [.ref a0]) (sg := [(.aload_n 0, 0)]) (by decide +kernel) rfl ?_
                refine Y.getA fl_M_18 (by decide +kernel) h (fun v210 h => ?_)
                refine Y.blk (pc' := 112) (L' := [some (.ref a0), some (.int a1), some (.int a2), some (.int a3), some (.int v200)]) (st' := [.int v200, .ref v210]) (sg := [(.iload 4, 0)]) (by decide +kernel) rfl ?_
                refine Y.aald (t0 := 4) (by decide +kernel) rfl h (fun h => ?_) (fun v211 h => ?_)
                · refine Y.blk (pc' := 114) (L' := [some (.ref a0), some (.int a1), some (.int a2), some (.int a3), some (.int v200)]) (st' := [.int a2, .null]) (sg := [(.iload_n 2, 0)]) (by decide +kernel) rfl ?_
                  cases h
                · refine Y.blk (pc' := 114) (L' := [some (.ref a0), some (.int a1), some (.int a2), some (.int a3), some (.int v200)]) (st' := [.int a2, .ref v211]) (sg := [(.iload_n 2, 0)]) (by decide +kernel) rfl ?_
                  refine Y.putf fl_M_51 (by decide) rfl rfl (by decide +kernel) h (fun G212 _ _ h => ?_)
                  refine Y.blk (pc' := 118) (L' := [some (.ref a0), some (.int a1), some (.int a2), some (.int a3), some (.int v200)]) (st' := [.ref a0]) (sg := [(.aload_n 0, 0)]) (by decide +kernel) rfl ?_
                  refine Y.getA fl_M_18 (by decide +kernel) h (fun v213 h => ?_)
                  refine Y.blk (pc' := 123) (L' := [some (.ref a0), some (.int a1), some (.int a2), some (.int a3), some (.int v200)]) (st' := [.int v200, .ref v213]) (sg := [(.iload 4, 0)]) (by decide +kernel) rfl ?_
                  refine Y.aald (t0 := 4) (by decide +kernel) rfl h (fun h => ?_) (fun v214 h => ?_)
                  · refine Y.blk (pc' := 127) (L' := [some (.ref a0), some (.int a1), some (.int a2), some (.int a3), some (.int v200)]) (st' := [.int (a3 - a2), .null]) (sg := [(.iload_n 3, 0), (.iload_n 2, 0), (.isub, 0)]) (by decide +kernel) rfl ?_
                    cases h
                  · refine Y.blk (pc' := 127) (L' := [some (.ref a0), some (.int a1), some (.int a2), some (.int a3), some (.int v200)]) (st' := [.int (a3 - a2), .ref v214]) (sg := [(.iload_n 3, 0), (.iload_n 2, 0), (.isub, 0)]) (by decide +kernel) rfl ?_
                    refine Y.putf fl_M_65 (by decide) rfl rfl (by decide +kernel) h (fun G215 _ _ h => ?_)
                    refine Y.blk (pc' := 132) (L' := [some (.ref a0), some (.int a1), some (.int a2), some (.int a3), some (.int v200)]) (st' := [.int v200]) (sg := [(.iload 4, 0)]) (by decide +kernel) rfl ?_
                    exact Y.iret rfl (by decide +kernel) h
            · refine Y.blk (pc' := 74) (L' := [some (.ref a0), some (.int a1), some (.int a2), some (.int a3), none]) (st' := [.int (nI 0)]) (sg := [(.iconst 0, nI 0)]) (by decide +kernel) rfl ?_
              exact Y.iret rfl (by decide +kernel) h
        · refine Y.blk (pc' := 74) (L' := [some (.ref a0), some (.int a1), some (.int a2), some (.int a3), none]) (st' := [.int (nI 0)]) (sg := [(.iconst 0, nI 0)]) (by decide +kernel) rfl ?_
          exact Y.iret rfl (by decide +kernel) h
  · refine Y.blk (pc' := 74) (L' := [some (.ref a0), some (.int a1), some (.int a2), some (.int a3), none]) (st' := [.int (nI 0)]) (sg := [(.iconst 0, nI 0)]) (by decide +kernel) rfl ?_
    exact Y.iret rfl (by decide +kernel) h

def f_M_previous (G : gH) (a0 : Nat) (a1 : Int32) : gR :=
  gOb G a0 6 fun o2 => bI (f_M_isNoCursor G a0 a1) fun v5 G4 => gOb G4 a0 6 fun o7 => bI (f_M_start G4 a0 v5 (nI 1)) fun v10 G9 => if v10 = 0 then (gFA G9 a0 6 3 fun v11 => gLdq G9 v11 105 a1 (none) fun v12 => gFI G9 v12 4 3 fun v13 => if v13 = 0 then (gFI G9 v12 4 1 fun v14 => if v14 = 0 then gOb G9 a0 6 fun o16 => bI (f_M_fault G9 a0 (-8)) fun v19 G18 => rI v19 G18
        else gFI G9 v12 4 1 fun v20 => gPut G9 v12 4 1 (.int (v20 - (nI 1))) fun G21 => gFI G21 v12 4 1 fun v22 => gPut G21 v12 4 2 (.int v22) fun G23 => gFI G23 v12 4 0 fun v24 => gFI G23 v12 4 2 fun v25 => gOb G23 a0 6 fun o27 => bA (f_M_at G23 a0 v24 v25) fun v30 G29 => gLd G29 v30 100 (nI 1) fun v31 => rI v31 G29)
      else gOb G9 a0 6 fun o34 => bI (f_M_fault G9 a0 (-9)) fun v37 G36 => rI v37 G36)
  else rI (nI 0) G9
theorem k_M_previous {l : Launch} {D : va_G} {B : Nat} {O : State → Heap → Prop} (hV : zG l D B O) (G : gH) (a0 : Nat) (a1 : Int32) : gMet (zVm l D B O) m_M_previous 13 [.ref a0, .int a1] G (f_M_previous G a0 a1) := by
  refine gMet.of (by decide +kernel) (Nat.le_of_ble_eq_true rfl) [some (.ref a0), some (.int a1), none] (fun ls h => zEn_ok (n := 3) h) ?_
  intro o Gf h
  unfold f_M_previous at h
  refine Y.blk (pc' := 3) (L' := [some (.ref a0), some (.int a1), none]) (st' := [.int a1, .ref a0, .ref a0]) (sg := [(.aload_n 0, 0), (.aload_n 0, 0), (.iload_n 1, 0)]) (by decide +kernel) rfl ?_
  obtain ⟨_, o2, e1, m3, h⟩ := gOb_inv h
  refine Y.callI (yC.Vi (b := a0) (As := [.int a1]) (st := [.ref a0]) (r := ("PartlisterModel", T_M, 9)) hV.1 cb_M_isNoCursor lk_M_214 in_M_isNoCursor rfl se_M_isNoCursor (by decide +kernel) rfl rfl (Nat.le_of_ble_eq_true rfl) (by decide) e1 m3) (k_M_isNoCursor hV G a0 a1) h (fun v5 G4 _ h => ?_)
  refine Y.blk (pc' := 7) (L' := [some (.ref a0), some (.int a1), none]) (st' := [.int (nI 1), .int v5, .ref a0]) (sg := [(.iconst 1, nI 1)]) (by decide +kernel) rfl ?_
  obtain ⟨_, o7, e6, m8, h⟩ := gOb_inv h
  refine Y.callI (yC.Vi (b := a0) (As := [.int v5, .int (nI 1)]) (st := []) (r := ("PartlisterModel", T_M, 9)) hV.1 cb_M_start lk_M_114 in_M_start rfl se_M_start (by decide +kernel) rfl rfl (Nat.le_of_ble_eq_true rfl) (by decide) e6 m8) (k_M_start hV G4 a0 v5 (nI 1)) h (fun v10 G9 _ h => ?_)
  refine Y.if_eq (off := 5) (tgt := 15) (by decide +kernel) (by decide) h (fun c39 h => ?_) (fun c39 h => ?_)
  · refine Y.blk (pc' := 16) (L' := [some (.ref a0), some (.int a1), none]) (st' := [.ref a0]) (sg := [(.aload_n 0, 0)]) (by decide +kernel) rfl ?_
    refine Y.getA fl_M_24 (by decide +kernel) h (fun v11 h => ?_)
    refine Y.blk (pc' := 20) (L' := [some (.ref a0), some (.int a1), none]) (st' := [.int a1, .ref v11]) (sg := [(.iload_n 1, 0)]) (by decide +kernel) rfl ?_
    refine Y.aald (t0 := 5) (by decide +kernel) rfl h (fun h => ?_) (fun v12 h => ?_)
    · refine Y.blk (pc' := 23) (L' := [some (.ref a0), some (.int a1), some (.null)]) (st' := [.null]) (sg := [(.astore_n 2, 0), (.aload_n 2, 0)]) (by decide +kernel) rfl ?_
      cases h
    · refine Y.blk (pc' := 23) (L' := [some (.ref a0), some (.int a1), some (.ref v12)]) (st' := [.ref v12]) (sg := [(.astore_n 2, 0), (.aload_n 2, 0)]) (by decide +kernel) rfl ?_
      refine Y.getI fl_M_99 (by decide +kernel) h (fun v13 h => ?_)
      refine Y.if_eq (off := 10) (tgt := 36) (by decide +kernel) (by decide) h (fun c38 h => ?_) (fun c38 h => ?_)
      · refine Y.blk (pc' := 37) (L' := [some (.ref a0), some (.int a1), some (.ref v12)]) (st' := [.ref v12]) (sg := [(.aload_n 2, 0)]) (by decide +kernel) rfl ?_
        refine Y.getI fl_M_208 (by decide +kernel) h (fun v14 h => ?_)
        refine Y.if_ne (off := 10) (tgt := 50) (by decide +kernel) (by decide) h (fun c32 h => ?_) (fun c32 h => ?_)
        · refine Y.blk (pc' := 46) (L' := [some (.ref a0), some (.int a1), some (.ref v12)]) (st' := [.int (-8), .ref a0]) (sg := [(.aload_n 0, 0), (.bipush (-8), -8)]) (by decide +kernel) rfl ?_
          obtain ⟨_, o16, e15, m17, h⟩ := gOb_inv h
          refine Y.callI (yC.Vi (b := a0) (As := [.int (-8)]) (st := []) (r := ("PartlisterModel", T_M, 9)) hV.1 cb_M_fault lk_M_217 in_M_fault rfl se_M_fault (by decide +kernel) rfl rfl (Nat.le_of_ble_eq_true rfl) (by decide) e15 m17) (k_M_fault hV G9 a0 (-8)) h (fun v19 G18 _ h => ?_)
          exact Y.iret rfl (by decide +kernel) h
        · refine Y.blk (pc' := 52) (L' := [some (.ref a0), some (.int a1), some (.ref v12)]) (st' := [.ref v12, .ref v12]) (sg := [(.aload_n 2, 0), (.dup, 0)]) (by decide +kernel) rfl ?_
          refine Y.getI fl_M_208 (by decide +kernel) h (fun v20 h => ?_)
          refine Y.blk (pc' := 57) (L' := [some (.ref a0), some (.int a1), some (.ref v12)]) (st' := [.int (v20 - (nI 1)), .ref v12]) (sg := [(.iconst 1, nI 1), (.isub, 0)]) (by decide +kernel) rfl ?_
          refine Y.putf fl_M_208 (by decide) rfl rfl (by decide +kernel) h (fun G21 _ _ h => ?_)
          refine Y.blk (pc' := 62) (L' := [some (.ref a0), some (.int a1), some (.ref v12)]) (st' := [.ref v12, .ref v12]) (sg := [(.aload_n 2, 0), (.aload_n 2, 0)]) (by decide +kernel) rfl ?_
          refine Y.getI fl_M_208 (by decide +kernel) h (fun v22 h => ?_)
          refine Y.putf fl_M_220 (by decide) rfl rfl (by decide +kernel) h (fun G23 _ _ h => ?_)
          refine Y.blk (pc' := 70) (L' := [some (.ref a0), some (.int a1), some (.ref v12)]) (st' := [.ref v12, .ref a0]) (sg := [(.aload_n 0, 0), (.aload_n 2, 0)]) (by decide +kernel) rfl ?_
          refine Y.getI fl_M_89 (by decide +kernel) h (fun v24 h => ?_)
          refine Y.blk (pc' := 74) (L' := [some (.ref a0), some (.int a1), some (.ref v12)]) (st' := [.ref v12, .int v24, .ref a0]) (sg := [(.aload_n 2, 0)]) (by decide +kernel) rfl ?_
          refine Y.getI fl_M_220 (by decide +kernel) h (fun v25 h => ?_)
          obtain ⟨_, o27, e26, m28, h⟩ := gOb_inv h
          refine Y.callA (yC.Vi (b := a0) (As := [.int v24, .int v25]) (st := []) (r := ("PartlisterModel", T_M, 9)) hV.1 cb_M_at lk_M_132 in_M_at rfl se_M_at (by decide +kernel) rfl rfl (Nat.le_of_ble_eq_true rfl) (by decide) e26 m28) (k_M_at hV G23 a0 v24 v25) h (fun v30 G29 _ h => ?_)
          refine Y.blk (pc' := 81) (L' := [some (.ref a0), some (.int a1), some (.ref v12)]) (st' := [.int (nI 1), .ref v30]) (sg := [(.iconst 1, nI 1)]) (by decide +kernel) rfl ?_
          refine Y.iald (t0 := 0) (by decide +kernel) rfl h (fun v31 h => ?_)
          exact Y.iret rfl (by decide +kernel) h
      · refine Y.blk (pc' := 32) (L' := [some (.ref a0), some (.int a1), some (.ref v12)]) (st' := [.int (-9), .ref a0]) (sg := [(.aload_n 0, 0), (.bipush (-9), -9)]) (by decide +kernel) rfl ?_
        obtain ⟨_, o34, e33, m35, h⟩ := gOb_inv h
        refine Y.callI (yC.Vi (b := a0) (As := [.int (-9)]) (st := []) (r := ("PartlisterModel", T_M, 9)) hV.1 cb_M_fault lk_M_217 in_M_fault rfl se_M_fault (by decide +kernel) rfl rfl (Nat.le_of_ble_eq_true rfl) (by decide) e33 m35) (k_M_fault hV G9 a0 (-9)) h (fun v37 G36 _ h => ?_)
        exact Y.iret rfl (by decide +kernel) h
  · refine Y.blk (pc' := 14) (L' := [some (.ref a0), some (.int a1), none]) (st' := [.int (nI 0)]) (sg := [(.iconst 0, nI 0)]) (by decide +kernel) rfl ?_
    exact Y.iret rfl (by decide +kernel) h
