def f_X_ofPart (G : gH) (a0 : Nat) (a1 : Int32) (a2 : Int32) : gR :=
  gOb G a0 3 fun o2 => bV (f_X_needPart G a0 a1) fun G3 => if a2 < 0 then gThrow "java/lang/IllegalArgumentException" G3
  else if a2 < (nI 4) then gFA G3 a0 3 0 fun v4 => gOb G3 v4 1 fun o6 => bI (f_I_worthOf G3 v4 a1 a2) fun v8 G7 => rI v8 G7
    else gThrow "java/lang/IllegalArgumentException" G3
theorem k_X_ofPart {l : Launch} {D : va_G} {B : Nat} {O : State → Heap → Prop} (hV : zG l D B O) (G : gH) (a0 : Nat) (a1 : Int32) (a2 : Int32) : gMet (zVm l D B O) m_X_ofPart 7 [.ref a0, .int a1, .int a2] G (f_X_ofPart G a0 a1 a2) := by
  refine gMet.of (by decide +kernel) (Nat.le_of_ble_eq_true rfl) [some (.ref a0), some (.int a1), some (.int a2)] (fun ls h => zEn_ok (n := 3) h) ?_
  intro o Gf h
  unfold f_X_ofPart at h
  refine Y.blk (pc' := 2) (L' := [some (.ref a0), some (.int a1), some (.int a2)]) (st' := [.int a1, .ref a0]) (sg := [(.aload_n 0, 0), (.iload_n 1, 0)]) (by decide +kernel) rfl ?_
  obtain ⟨o2, e1, h⟩ := gOb_inv h
  refine Y.callN (yC.Vi (b := a0) (As := [.int a1]) (st := []) (r := ("Partlister", T_X, 5)) hV.1 cb_X_needPart lk_X_142 in_X_needPart rfl se_X_needPart (by decide +kernel) rfl rfl (Nat.le_of_ble_eq_true rfl) (by decide) e1) (k_X_needPart hV G a0 a1) h (fun G3 _ h => ?_)
  refine Y.blk (pc' := 6) (L' := [some (.ref a0), some (.int a1), some (.int a2)]) (st' := [.int a2]) (sg := [(.iload_n 2, 0)]) (by decide +kernel) rfl ?_
  refine Y.if_lt (off := 8) (tgt := 14) (by decide +kernel) (by decide) h (fun c10 h => ?_) (fun c10 h => ?_)
  · exact Y.throwS (is := 236) (text := "what is not 0 to 3") (names := zNm) hV.1 (hV.2 _ _ _ (by decide +kernel)) (by decide +kernel) (by decide +kernel) ck_X_81 ini_IAE tw_X_85 tg_X_85 (by decide) (by decide) rfl (Nat.le_of_ble_eq_true rfl) (by decide +kernel) (by decide +kernel) (by decide +kernel) (by decide +kernel) (by decide +kernel) h
  · refine Y.blk (pc' := 11) (L' := [some (.ref a0), some (.int a1), some (.int a2)]) (st' := [.int (nI 4), .int a2]) (sg := [(.iload_n 2, 0), (.iconst 4, nI 4)]) (by decide +kernel) rfl ?_
    refine Y.ic_lt (off := 13) (tgt := 24) (by decide +kernel) (by decide) h (fun c9 h => ?_) (fun c9 h => ?_)
    · refine Y.blk (pc' := 25) (L' := [some (.ref a0), some (.int a1), some (.int a2)]) (st' := [.ref a0]) (sg := [(.aload_n 0, 0)]) (by decide +kernel) rfl ?_
      refine Y.getA fl_X_10 (by decide +kernel) h (fun v4 h => ?_)
      refine Y.blk (pc' := 30) (L' := [some (.ref a0), some (.int a1), some (.int a2)]) (st' := [.int a2, .int a1, .ref v4]) (sg := [(.iload_n 1, 0), (.iload_n 2, 0)]) (by decide +kernel) rfl ?_
      obtain ⟨o6, e5, h⟩ := gOb_inv h
      refine Y.callI (yC.Vi (b := v4) (As := [.int a1, .int a2]) (st := []) (r := ("Partlister$Lists", T_I, 7)) hV.1 cb_I_worthOf lk_X_238 in_I_worthOf rfl se_I_worthOf (by decide +kernel) rfl rfl (Nat.le_of_ble_eq_true rfl) (by decide) e5) (k_I_worthOf hV G3 v4 a1 a2) h (fun v8 G7 _ h => ?_)
      exact Y.iret rfl (by decide +kernel) h
    · exact Y.throwS (is := 236) (text := "what is not 0 to 3") (names := zNm) hV.1 (hV.2 _ _ _ (by decide +kernel)) (by decide +kernel) (by decide +kernel) ck_X_81 ini_IAE tw_X_85 tg_X_85 (by decide) (by decide) rfl (Nat.le_of_ble_eq_true rfl) (by decide +kernel) (by decide +kernel) (by decide +kernel) (by decide +kernel) (by decide +kernel) h

def f_X_pack (G : gH) (a0 : Nat) (a1 : Int32) (a2 : Int32) : gR :=
  gOb G a0 3 fun o2 => bV (f_X_needRow G a0 a1) fun G3 => gOb G3 a0 3 fun o5 => bI (f_X_endAround G3 a0 a1) fun v7 G6 => rI v7 G6
theorem k_X_pack {l : Launch} {D : va_G} {B : Nat} {O : State → Heap → Prop} (hV : zG l D B O) (G : gH) (a0 : Nat) (a1 : Int32) (a2 : Int32) : gMet (zVm l D B O) m_X_pack 7 [.ref a0, .int a1, .int a2] G (f_X_pack G a0 a1 a2) := by
  refine gMet.of (by decide +kernel) (Nat.le_of_ble_eq_true rfl) [some (.ref a0), some (.int a1), some (.int a2)] (fun ls h => zEn_ok (n := 3) h) ?_
  intro o Gf h
  unfold f_X_pack at h
  refine Y.blk (pc' := 2) (L' := [some (.ref a0), some (.int a1), some (.int a2)]) (st' := [.int a1, .ref a0]) (sg := [(.aload_n 0, 0), (.iload_n 1, 0)]) (by decide +kernel) rfl ?_
  obtain ⟨o2, e1, h⟩ := gOb_inv h
  refine Y.callN (yC.Vi (b := a0) (As := [.int a1]) (st := []) (r := ("Partlister", T_X, 5)) hV.1 cb_X_needRow lk_X_106 in_X_needRow rfl se_X_needRow (by decide +kernel) rfl rfl (Nat.le_of_ble_eq_true rfl) (by decide) e1) (k_X_needRow hV G a0 a1) h (fun G3 _ h => ?_)
  refine Y.blk (pc' := 7) (L' := [some (.ref a0), some (.int a1), some (.int a2)]) (st' := [.int a1, .ref a0]) (sg := [(.aload_n 0, 0), (.iload_n 1, 0)]) (by decide +kernel) rfl ?_
  obtain ⟨o5, e4, h⟩ := gOb_inv h
  refine Y.callI (yC.Vi (b := a0) (As := [.int a1]) (st := []) (r := ("Partlister", T_X, 5)) hV.1 cb_X_endAround lk_X_103 in_X_endAround rfl se_X_endAround (by decide +kernel) rfl rfl (Nat.le_of_ble_eq_true rfl) (by decide) e4) (k_X_endAround hV G3 a0 a1) h (fun v7 G6 _ h => ?_)
  exact Y.iret rfl (by decide +kernel) h

def f_I_freePart_L2 (K16 : gH → Int32 → gR) (K24 : gH → gR) : Nat → gH → Nat → Int32 → gR
  | 0, _, _, _ => none
  | n + 1, G, x0, x1 =>
    if (nI 6) ≤ x1 then K24 G
    else gOb G x0 1 fun o2 => bI (f_I_isThere G x0 x1) fun v4 G3 => if v4 = 0 then K16 G3 x1
      else f_I_freePart_L2 K16 K24 n G3 x0 (x1 + (nI 1))
def f_I_freePart (G : gH) (a0 : Nat) : gR :=
  f_I_freePart_L2 (fun G8 x7 => rI x7 G8) (fun G9 => rI (-1) G9) zFu G a0 (nI 2)
theorem k_I_freePart_L2 {l : Launch} {D : va_G} {B : Nat} {O : State → Heap → Prop} (hV : zG l D B O) {o : gO} {Gf : gH} (K16 : gH → Int32 → gR) (K24 : gH → gR) (hK16 : ∀ (G : gH) (x1 : Int32), K16 G x1 = some (o, Gf) → Y (zVm l D B O) m_I_freePart 3 o Gf 16 [none, some (.int x1)] [] G) (hK24 : ∀ (G : gH), K24 G  = some (o, Gf) → Y (zVm l D B O) m_I_freePart 3 o Gf 24 [none, none] [] G) : ∀ (n : Nat) (G : gH) (x0 : Nat) (x1 : Int32), f_I_freePart_L2 K16 K24 n G x0 x1 = some (o, Gf) → Y (zVm l D B O) m_I_freePart 3 o Gf 2 [some (.ref x0), some (.int x1)] [] G := by
  intro n
  induction n with
  | zero => intro G x0 x1 h; cases h
  | succ n ih =>
    intro G x0 x1 h
    unfold f_I_freePart_L2 at h
    refine Y.blk (pc' := 5) (L' := [some (.ref x0), some (.int x1)]) (st' := [.int (nI 6), .int x1]) (sg := [(.iload_n 1, 0), (.bipush 6, nI 6)]) (by decide +kernel) rfl ?_
    refine Y.ic_ge (off := 19) (tgt := 24) (by decide +kernel) (by decide) h (fun c6 h => ?_) (fun c6 h => ?_)
    · refine Y.less (L' := [none, none]) (zLe_none (zLe_none (zLe_nil))) ?_
      exact hK24 G  h
    · refine Y.blk (pc' := 10) (L' := [some (.ref x0), some (.int x1)]) (st' := [.int x1, .ref x0]) (sg := [(.aload_n 0, 0), (.iload_n 1, 0)]) (by decide +kernel) rfl ?_
      obtain ⟨o2, e1, h⟩ := gOb_inv h
      refine Y.callI (yC.Vi (b := x0) (As := [.int x1]) (st := []) (r := ("Partlister$Lists", T_I, 7)) hV.1 cb_I_isThere lk_I_86 in_I_isThere rfl se_I_isThere (by decide +kernel) rfl rfl (Nat.le_of_ble_eq_true rfl) (by decide) e1) (k_I_isThere hV G x0 x1) h (fun v4 G3 _ h => ?_)
      refine Y.if_ne (off := 5) (tgt := 18) (by decide +kernel) (by decide) h (fun c5 h => ?_) (fun c5 h => ?_)
      · refine Y.less (L' := [none, some (.int x1)]) (zLe_none (zLe_some (zLe_nil))) ?_
        exact hK16 G3 x1 h
      · refine Y.blk (pc' := 21) (L' := [some (.ref x0), some (.int (x1 + (nI 1)))]) (st' := []) (sg := [(.iinc 1 1, nI 1)]) (by decide +kernel) rfl ?_
        refine Y.goto (off := -19) (tgt := 2) (by decide +kernel) (by decide) ?_
        exact ih G3 x0 (x1 + (nI 1)) h
theorem k_I_freePart {l : Launch} {D : va_G} {B : Nat} {O : State → Heap → Prop} (hV : zG l D B O) (G : gH) (a0 : Nat) : gMet (zVm l D B O) m_I_freePart 3 [.ref a0] G (f_I_freePart G a0) := by
  refine gMet.of (by decide +kernel) (Nat.le_of_ble_eq_true rfl) [some (.ref a0), none] (fun ls h => zEn_ok (n := 2) h) ?_
  intro o Gf h
  unfold f_I_freePart at h
  refine Y.blk (pc' := 2) (L' := [some (.ref a0), some (.int (nI 2))]) (st' := []) (sg := [(.iconst 2, nI 2), (.istore_n 1, 0)]) (by decide +kernel) rfl ?_
  refine k_I_freePart_L2 hV _ _ ?_ ?_  zFu G a0 (nI 2) h
  · intro G8 x7 h
    refine Y.blk (pc' := 17) (L' := [none, some (.int x7)]) (st' := [.int x7]) (sg := [(.iload_n 1, 0)]) (by decide +kernel) rfl ?_
    exact Y.iret rfl (by decide +kernel) h
  · intro G9 h
    refine Y.blk (pc' := 25) (L' := [none, none]) (st' := [.int (-1)]) (sg := [(.iconst (-1), -1)]) (by decide +kernel) rfl ?_
    exact Y.iret rfl (by decide +kernel) h

def f_I_open (G : gH) (a0 : Nat) (a1 : Int32) (a2 : Int32) (a3 : Int32) (a4 : Int32) : gR :=
  gFA G a0 1 2 fun v1 => gOb G v1 2 fun o3 => bV (f_N_write G v1 a1 a2) fun G4 => gFA G4 a0 1 3 fun v5 => gOb G4 a0 1 fun o7 => bI (f_I_rowOf G4 a0 a2) fun v9 G8 => gOb G8 v5 2 fun o11 => bV (f_N_write G8 v5 a1 v9) fun G12 => gFA G12 a0 1 4 fun v13 => gFA G12 a0 1 4 fun v14 => gOb G12 v14 2 fun o16 => bI (f_N_read G12 v14 a2) fun v18 G17 => gOb G17 v13 2 fun o20 => bV (f_N_write G17 v13 a1 (v18 + a3)) fun G21 => gFA G21 a0 1 1 fun v22 => gOb G21 v22 2 fun o24 => bV (f_N_write G21 v22 a1 a4) fun G25 => rV G25
theorem k_I_open {l : Launch} {D : va_G} {B : Nat} {O : State → Heap → Prop} (hV : zG l D B O) (G : gH) (a0 : Nat) (a1 : Int32) (a2 : Int32) (a3 : Int32) (a4 : Int32) : gMet (zVm l D B O) m_I_open 3 [.ref a0, .int a1, .int a2, .int a3, .int a4] G (f_I_open G a0 a1 a2 a3 a4) := by
  refine gMet.of (by decide +kernel) (Nat.le_of_ble_eq_true rfl) [some (.ref a0), some (.int a1), some (.int a2), some (.int a3), some (.int a4)] (fun ls h => zEn_ok (n := 5) h) ?_
  intro o Gf h
  unfold f_I_open at h
  refine Y.blk (pc' := 1) (L' := [some (.ref a0), some (.int a1), some (.int a2), some (.int a3), some (.int a4)]) (st' := [.ref a0]) (sg := [(.aload_n 0, 0)]) (by decide +kernel) rfl ?_
  refine Y.getA fl_I_23 (by decide +kernel) h (fun v1 h => ?_)
  refine Y.blk (pc' := 6) (L' := [some (.ref a0), some (.int a1), some (.int a2), some (.int a3), some (.int a4)]) (st' := [.int a2, .int a1, .ref v1]) (sg := [(.iload_n 1, 0), (.iload_n 2, 0)]) (by decide +kernel) rfl ?_
  obtain ⟨o3, e2, h⟩ := gOb_inv h
  refine Y.callN (yC.Vi (b := v1) (As := [.int a1, .int a2]) (st := []) (r := ("Partlister$Numbers", T_N, 1)) hV.1 cb_N_write lk_I_35 in_N_write rfl se_N_write (by decide +kernel) rfl rfl (Nat.le_of_ble_eq_true rfl) (by decide) e2) (k_N_write hV G v1 a1 a2) h (fun G4 _ h => ?_)
  refine Y.blk (pc' := 10) (L' := [some (.ref a0), some (.int a1), some (.int a2), some (.int a3), some (.int a4)]) (st' := [.ref a0]) (sg := [(.aload_n 0, 0)]) (by decide +kernel) rfl ?_
  refine Y.getA fl_I_26 (by decide +kernel) h (fun v5 h => ?_)
  refine Y.blk (pc' := 16) (L' := [some (.ref a0), some (.int a1), some (.int a2), some (.int a3), some (.int a4)]) (st' := [.int a2, .ref a0, .int a1, .ref v5]) (sg := [(.iload_n 1, 0), (.aload_n 0, 0), (.iload_n 2, 0)]) (by decide +kernel) rfl ?_
  obtain ⟨o7, e6, h⟩ := gOb_inv h
  refine Y.callI (yC.Vi (b := a0) (As := [.int a2]) (st := [.int a1, .ref v5]) (r := ("Partlister$Lists", T_I, 7)) hV.1 cb_I_rowOf lk_I_56 in_I_rowOf rfl se_I_rowOf (by decide +kernel) rfl rfl (Nat.le_of_ble_eq_true rfl) (by decide) e6) (k_I_rowOf hV G4 a0 a2) h (fun v9 G8 _ h => ?_)
  obtain ⟨o11, e10, h⟩ := gOb_inv h
  refine Y.callN (yC.Vi (b := v5) (As := [.int a1, .int v9]) (st := []) (r := ("Partlister$Numbers", T_N, 1)) hV.1 cb_N_write lk_I_35 in_N_write rfl se_N_write (by decide +kernel) rfl rfl (Nat.le_of_ble_eq_true rfl) (by decide) e10) (k_N_write hV G8 v5 a1 v9) h (fun G12 _ h => ?_)
  refine Y.blk (pc' := 23) (L' := [some (.ref a0), some (.int a1), some (.int a2), some (.int a3), some (.int a4)]) (st' := [.ref a0]) (sg := [(.aload_n 0, 0)]) (by decide +kernel) rfl ?_
  refine Y.getA fl_I_29 (by decide +kernel) h (fun v13 h => ?_)
  refine Y.blk (pc' := 28) (L' := [some (.ref a0), some (.int a1), some (.int a2), some (.int a3), some (.int a4)]) (st' := [.ref a0, .int a1, .ref v13]) (sg := [(.iload_n 1, 0), (.aload_n 0, 0)]) (by decide +kernel) rfl ?_
  refine Y.getA fl_I_29 (by decide +kernel) h (fun v14 h => ?_)
  refine Y.blk (pc' := 32) (L' := [some (.ref a0), some (.int a1), some (.int a2), some (.int a3), some (.int a4)]) (st' := [.int a2, .ref v14, .int a1, .ref v13]) (sg := [(.iload_n 2, 0)]) (by decide +kernel) rfl ?_
  obtain ⟨o16, e15, h⟩ := gOb_inv h
  refine Y.callI (yC.Vi (b := v14) (As := [.int a2]) (st := [.int a1, .ref v13]) (r := ("Partlister$Numbers", T_N, 1)) hV.1 cb_N_read lk_I_39 in_N_read rfl se_N_read (by decide +kernel) rfl rfl (Nat.le_of_ble_eq_true rfl) (by decide) e15) (k_N_read hV G12 v14 a2) h (fun v18 G17 _ h => ?_)
  refine Y.blk (pc' := 37) (L' := [some (.ref a0), some (.int a1), some (.int a2), some (.int a3), some (.int a4)]) (st' := [.int (v18 + a3), .int a1, .ref v13]) (sg := [(.iload_n 3, 0), (.iadd, 0)]) (by decide +kernel) rfl ?_
  obtain ⟨o20, e19, h⟩ := gOb_inv h
  refine Y.callN (yC.Vi (b := v13) (As := [.int a1, .int (v18 + a3)]) (st := []) (r := ("Partlister$Numbers", T_N, 1)) hV.1 cb_N_write lk_I_35 in_N_write rfl se_N_write (by decide +kernel) rfl rfl (Nat.le_of_ble_eq_true rfl) (by decide) e19) (k_N_write hV G17 v13 a1 (v18 + a3)) h (fun G21 _ h => ?_)
  refine Y.blk (pc' := 41) (L' := [some (.ref a0), some (.int a1), some (.int a2), some (.int a3), some (.int a4)]) (st' := [.ref a0]) (sg := [(.aload_n 0, 0)]) (by decide +kernel) rfl ?_
  refine Y.getA fl_I_20 (by decide +kernel) h (fun v22 h => ?_)
  refine Y.blk (pc' := 47) (L' := [some (.ref a0), some (.int a1), some (.int a2), some (.int a3), some (.int a4)]) (st' := [.int a4, .int a1, .ref v22]) (sg := [(.iload_n 1, 0), (.iload 4, 0)]) (by decide +kernel) rfl ?_
  obtain ⟨o24, e23, h⟩ := gOb_inv h
  refine Y.callN (yC.Vi (b := v22) (As := [.int a1, .int a4]) (st := []) (r := ("Partlister$Numbers", T_N, 1)) hV.1 cb_N_write lk_I_35 in_N_write rfl se_N_write (by decide +kernel) rfl rfl (Nat.le_of_ble_eq_true rfl) (by decide) e23) (k_N_write hV G21 v22 a1 a4) h (fun G25 _ h => ?_)
  exact Y.vret rfl (by decide +kernel) h

def f_X_part (G : gH) (a0 : Nat) (a1 : Int32) (a2 : Int32) (a3 : Int32) : gR :=
  gOb G a0 3 fun o2 => bV (f_X_needList G a0 a1) fun G3 => gOb G3 a0 3 fun o5 => bV (f_X_needGap G3 a0 a1 a2) fun G6 => if a3 < a2 then gThrow "java/lang/IndexOutOfBoundsException" G6
  else gFA G6 a0 3 0 fun v7 => gOb G6 v7 1 fun o9 => bI (f_I_lengthOf G6 v7 a1) fun v11 G10 => if a3 ≤ v11 then (gFA G10 a0 3 0 fun v12 => gOb G10 v12 1 fun o14 => bI (f_I_freePart G10 v12) fun v16 G15 => if v16 = (-1) then gThrow "java/lang/IllegalStateException" G15
      else gFA G15 a0 3 0 fun v17 => gOb G15 v17 1 fun o19 => bV (f_I_open G15 v17 v16 a1 a2 (a3 - a2)) fun G20 => rI v16 G20)
    else gThrow "java/lang/IndexOutOfBoundsException" G10
theorem k_X_part {l : Launch} {D : va_G} {B : Nat} {O : State → Heap → Prop} (hV : zG l D B O) (G : gH) (a0 : Nat) (a1 : Int32) (a2 : Int32) (a3 : Int32) : gMet (zVm l D B O) m_X_part 7 [.ref a0, .int a1, .int a2, .int a3] G (f_X_part G a0 a1 a2 a3) := by
  refine gMet.of (by decide +kernel) (Nat.le_of_ble_eq_true rfl) [some (.ref a0), some (.int a1), some (.int a2), some (.int a3), none] (fun ls h => zEn_ok (n := 5) h) ?_
  intro o Gf h
  unfold f_X_part at h
  refine Y.blk (pc' := 2) (L' := [some (.ref a0), some (.int a1), some (.int a2), some (.int a3), none]) (st' := [.int a1, .ref a0]) (sg := [(.aload_n 0, 0), (.iload_n 1, 0)]) (by decide +kernel) rfl ?_
  obtain ⟨o2, e1, h⟩ := gOb_inv h
  refine Y.callN (yC.Vi (b := a0) (As := [.int a1]) (st := []) (r := ("Partlister", T_X, 5)) hV.1 cb_X_needList lk_X_23 in_X_needList rfl se_X_needList (by decide +kernel) rfl rfl (Nat.le_of_ble_eq_true rfl) (by decide) e1) (k_X_needList hV G a0 a1) h (fun G3 _ h => ?_)
  refine Y.blk (pc' := 8) (L' := [some (.ref a0), some (.int a1), some (.int a2), some (.int a3), none]) (st' := [.int a2, .int a1, .ref a0]) (sg := [(.aload_n 0, 0), (.iload_n 1, 0), (.iload_n 2, 0)]) (by decide +kernel) rfl ?_
  obtain ⟨o5, e4, h⟩ := gOb_inv h
  refine Y.callN (yC.Vi (b := a0) (As := [.int a1, .int a2]) (st := []) (r := ("Partlister", T_X, 5)) hV.1 cb_X_needGap lk_X_45 in_X_needGap rfl se_X_needGap (by decide +kernel) rfl rfl (Nat.le_of_ble_eq_true rfl) (by decide) e4) (k_X_needGap hV G3 a0 a1 a2) h (fun G6 _ h => ?_)
  refine Y.blk (pc' := 13) (L' := [some (.ref a0), some (.int a1), some (.int a2), some (.int a3), none]) (st' := [.int a2, .int a3]) (sg := [(.iload_n 3, 0), (.iload_n 2, 0)]) (by decide +kernel) rfl ?_
  refine Y.ic_lt (off := 15) (tgt := 28) (by decide +kernel) (by decide) h (fun c23 h => ?_) (fun c23 h => ?_)
  · exact Y.throwS (is := 127) (text := "to is not from to LENGTH") (names := zNm) hV.1 (hV.2 _ _ _ (by decide +kernel)) (by decide +kernel) (by decide +kernel) ck_X_125 ini_IOE tw_X_129 tg_X_129 (by decide) (by decide) rfl (Nat.le_of_ble_eq_true rfl) (by decide +kernel) (by decide +kernel) (by decide +kernel) (by decide +kernel) (by decide +kernel) h
  · refine Y.blk (pc' := 18) (L' := [some (.ref a0), some (.int a1), some (.int a2), some (.int a3), none]) (st' := [.ref a0, .int a3]) (sg := [(.iload_n 3, 0), (.aload_n 0, 0)]) (by decide +kernel) rfl ?_
    refine Y.getA fl_X_10 (by decide +kernel) h (fun v7 h => ?_)
    refine Y.blk (pc' := 22) (L' := [some (.ref a0), some (.int a1), some (.int a2), some (.int a3), none]) (st' := [.int a1, .ref v7, .int a3]) (sg := [(.iload_n 1, 0)]) (by decide +kernel) rfl ?_
    obtain ⟨o9, e8, h⟩ := gOb_inv h
    refine Y.callI (yC.Vi (b := v7) (As := [.int a1]) (st := [.int a3]) (r := ("Partlister$Lists", T_I, 7)) hV.1 cb_I_lengthOf lk_X_34 in_I_lengthOf rfl se_I_lengthOf (by decide +kernel) rfl rfl (Nat.le_of_ble_eq_true rfl) (by decide) e8) (k_I_lengthOf hV G6 v7 a1) h (fun v11 G10 _ h => ?_)
    refine Y.ic_le (off := 13) (tgt := 38) (by decide +kernel) (by decide) h (fun c22 h => ?_) (fun c22 h => ?_)
    · refine Y.blk (pc' := 39) (L' := [some (.ref a0), some (.int a1), some (.int a2), some (.int a3), none]) (st' := [.ref a0]) (sg := [(.aload_n 0, 0)]) (by decide +kernel) rfl ?_
      refine Y.getA fl_X_10 (by decide +kernel) h (fun v12 h => ?_)
      obtain ⟨o14, e13, h⟩ := gOb_inv h
      refine Y.callI (yC.Vi (b := v12) (As := []) (st := []) (r := ("Partlister$Lists", T_I, 7)) hV.1 cb_I_freePart lk_X_130 in_I_freePart rfl se_I_freePart (by decide +kernel) rfl rfl (Nat.le_of_ble_eq_true rfl) (by decide) e13) (k_I_freePart hV G10 v12) h (fun v16 G15 _ h => ?_)
      refine Y.blk (pc' := 50) (L' := [some (.ref a0), some (.int a1), some (.int a2), some (.int a3), some (.int v16)]) (st' := [.int (-1), .int v16]) (sg := [(.istore 4, 0), (.iload 4, 0), (.iconst (-1), -1)]) (by decide +kernel) rfl ?_
      refine Y.ic_ne (off := 13) (tgt := 63) (by decide +kernel) (by decide) h (fun c21 h => ?_) (fun c21 h => ?_)
      · exact Y.throwS (is := 136) (text := "there are four PARTS") (names := zNm) hV.1 (hV.2 _ _ _ (by decide +kernel)) (by decide +kernel) (by decide +kernel) ck_X_134 ini_ISE tw_X_138 tg_X_138 (by decide) (by decide) rfl (Nat.le_of_ble_eq_true rfl) (by decide +kernel) (by decide +kernel) (by decide +kernel) (by decide +kernel) (by decide +kernel) h
      · refine Y.blk (pc' := 64) (L' := [some (.ref a0), some (.int a1), some (.int a2), some (.int a3), some (.int v16)]) (st' := [.ref a0]) (sg := [(.aload_n 0, 0)]) (by decide +kernel) rfl ?_
        refine Y.getA fl_X_10 (by decide +kernel) h (fun v17 h => ?_)
        refine Y.blk (pc' := 74) (L' := [some (.ref a0), some (.int a1), some (.int a2), some (.int a3), some (.int v16)]) (st' := [.int (a3 - a2), .int a2, .int a1, .int v16, .ref v17]) (sg := [(.iload 4, 0), (.iload_n 1, 0), (.iload_n 2, 0), (.iload_n 3, 0), (.iload_n 2, 0), (.isub, 0)]) (by decide +kernel) rfl ?_
        obtain ⟨o19, e18, h⟩ := gOb_inv h
        refine Y.callN (yC.Vi (b := v17) (As := [.int v16, .int a1, .int a2, .int (a3 - a2)]) (st := []) (r := ("Partlister$Lists", T_I, 7)) hV.1 cb_I_open lk_X_139 in_I_open rfl se_I_open (by decide +kernel) rfl rfl (Nat.le_of_ble_eq_true rfl) (by decide) e18) (k_I_open hV G15 v17 v16 a1 a2 (a3 - a2)) h (fun G20 _ h => ?_)
        refine Y.blk (pc' := 79) (L' := [some (.ref a0), some (.int a1), some (.int a2), some (.int a3), some (.int v16)]) (st' := [.int v16]) (sg := [(.iload 4, 0)]) (by decide +kernel) rfl ?_
        exact Y.iret rfl (by decide +kernel) h
    · exact Y.throwS (is := 127) (text := "to is not from to LENGTH") (names := zNm) hV.1 (hV.2 _ _ _ (by decide +kernel)) (by decide +kernel) (by decide +kernel) ck_X_125 ini_IOE tw_X_129 tg_X_129 (by decide) (by decide) rfl (Nat.le_of_ble_eq_true rfl) (by decide +kernel) (by decide +kernel) (by decide +kernel) (by decide +kernel) (by decide +kernel) h

def f_X_previous (G : gH) (a0 : Nat) (a1 : Int32) : gR :=
  gOb G a0 3 fun o2 => bV (f_X_needCursor G a0 a1) fun G3 => gFA G3 a0 3 1 fun v4 => gOb G3 v4 0 fun o6 => bI (f_U_isStale G3 v4 a1) fun v8 G7 => if v8 = 0 then (gFA G7 a0 3 1 fun v9 => gOb G7 v9 0 fun o11 => bI (f_U_nextOf G7 v9 a1) fun v13 G12 => if 0 ≤ (v13 - (nI 1)) then gFA G12 a0 3 1 fun v14 => gOb G12 v14 0 fun o16 => bV (f_U_stand G12 v14 a1 (v13 - (nI 1)) (v13 - (nI 1))) fun G17 => gFA G17 a0 3 0 fun v18 => gFA G17 a0 3 1 fun v19 => gOb G17 v19 0 fun o21 => bI (f_U_listOf G17 v19 a1) fun v23 G22 => gOb G22 v18 1 fun o25 => bI (f_I_thingAt G22 v18 v23 (v13 - (nI 1))) fun v27 G26 => bI (f_X_tagOf G26 v27) fun v30 G29 => rI v30 G29
    else gOb G12 a0 3 fun o32 => bI (f_X_failWith G12 a0 (-8)) fun v34 G33 => rI v34 G33)
  else gOb G7 a0 3 fun o37 => bI (f_X_failWith G7 a0 (-9)) fun v39 G38 => rI v39 G38
theorem k_X_previous {l : Launch} {D : va_G} {B : Nat} {O : State → Heap → Prop} (hV : zG l D B O) (G : gH) (a0 : Nat) (a1 : Int32) : gMet (zVm l D B O) m_X_previous 7 [.ref a0, .int a1] G (f_X_previous G a0 a1) := by
  refine gMet.of (by decide +kernel) (Nat.le_of_ble_eq_true rfl) [some (.ref a0), some (.int a1), none] (fun ls h => zEn_ok (n := 3) h) ?_
  intro o Gf h
  unfold f_X_previous at h
  refine Y.blk (pc' := 2) (L' := [some (.ref a0), some (.int a1), none]) (st' := [.int a1, .ref a0]) (sg := [(.aload_n 0, 0), (.iload_n 1, 0)]) (by decide +kernel) rfl ?_
  obtain ⟨o2, e1, h⟩ := gOb_inv h
  refine Y.callN (yC.Vi (b := a0) (As := [.int a1]) (st := []) (r := ("Partlister", T_X, 5)) hV.1 cb_X_needCursor lk_X_167 in_X_needCursor rfl se_X_needCursor (by decide +kernel) rfl rfl (Nat.le_of_ble_eq_true rfl) (by decide) e1) (k_X_needCursor hV G a0 a1) h (fun G3 _ h => ?_)
  refine Y.blk (pc' := 6) (L' := [some (.ref a0), some (.int a1), none]) (st' := [.ref a0]) (sg := [(.aload_n 0, 0)]) (by decide +kernel) rfl ?_
  refine Y.getA fl_X_19 (by decide +kernel) h (fun v4 h => ?_)
  refine Y.blk (pc' := 10) (L' := [some (.ref a0), some (.int a1), none]) (st' := [.int a1, .ref v4]) (sg := [(.iload_n 1, 0)]) (by decide +kernel) rfl ?_
  obtain ⟨o6, e5, h⟩ := gOb_inv h
  refine Y.callI (yC.Vi (b := v4) (As := [.int a1]) (st := []) (r := ("Partlister$Cursors", T_U, 5)) hV.1 cb_U_isStale lk_X_170 in_U_isStale rfl se_U_isStale (by decide +kernel) rfl rfl (Nat.le_of_ble_eq_true rfl) (by decide) e5) (k_U_isStale hV G3 v4 a1) h (fun v8 G7 _ h => ?_)
  refine Y.if_eq (off := 10) (tgt := 23) (by decide +kernel) (by decide) h (fun c40 h => ?_) (fun c40 h => ?_)
  · refine Y.blk (pc' := 24) (L' := [some (.ref a0), some (.int a1), none]) (st' := [.ref a0]) (sg := [(.aload_n 0, 0)]) (by decide +kernel) rfl ?_
    refine Y.getA fl_X_19 (by decide +kernel) h (fun v9 h => ?_)
    refine Y.blk (pc' := 28) (L' := [some (.ref a0), some (.int a1), none]) (st' := [.int a1, .ref v9]) (sg := [(.iload_n 1, 0)]) (by decide +kernel) rfl ?_
    obtain ⟨o11, e10, h⟩ := gOb_inv h
    refine Y.callI (yC.Vi (b := v9) (As := [.int a1]) (st := []) (r := ("Partlister$Cursors", T_U, 5)) hV.1 cb_U_nextOf lk_X_176 in_U_nextOf rfl se_U_nextOf (by decide +kernel) rfl rfl (Nat.le_of_ble_eq_true rfl) (by decide) e10) (k_U_nextOf hV G7 v9 a1) h (fun v13 G12 _ h => ?_)
    refine Y.blk (pc' := 35) (L' := [some (.ref a0), some (.int a1), some (.int (v13 - (nI 1)))]) (st' := [.int (v13 - (nI 1))]) (sg := [(.iconst 1, nI 1), (.isub, 0), (.istore_n 2, 0), (.iload_n 2, 0)]) (by decide +kernel) rfl ?_
    refine Y.if_ge (off := 10) (tgt := 45) (by decide +kernel) (by decide) h (fun c35 h => ?_) (fun c35 h => ?_)
    · refine Y.blk (pc' := 46) (L' := [some (.ref a0), some (.int a1), some (.int (v13 - (nI 1)))]) (st' := [.ref a0]) (sg := [(.aload_n 0, 0)]) (by decide +kernel) rfl ?_
      refine Y.getA fl_X_19 (by decide +kernel) h (fun v14 h => ?_)
      refine Y.blk (pc' := 52) (L' := [some (.ref a0), some (.int a1), some (.int (v13 - (nI 1)))]) (st' := [.int (v13 - (nI 1)), .int (v13 - (nI 1)), .int a1, .ref v14]) (sg := [(.iload_n 1, 0), (.iload_n 2, 0), (.iload_n 2, 0)]) (by decide +kernel) rfl ?_
      obtain ⟨o16, e15, h⟩ := gOb_inv h
      refine Y.callN (yC.Vi (b := v14) (As := [.int a1, .int (v13 - (nI 1)), .int (v13 - (nI 1))]) (st := []) (r := ("Partlister$Cursors", T_U, 5)) hV.1 cb_U_stand lk_X_179 in_U_stand rfl se_U_stand (by decide +kernel) rfl rfl (Nat.le_of_ble_eq_true rfl) (by decide) e15) (k_U_stand hV G12 v14 a1 (v13 - (nI 1)) (v13 - (nI 1))) h (fun G17 _ h => ?_)
      refine Y.blk (pc' := 56) (L' := [some (.ref a0), some (.int a1), some (.int (v13 - (nI 1)))]) (st' := [.ref a0]) (sg := [(.aload_n 0, 0)]) (by decide +kernel) rfl ?_
      refine Y.getA fl_X_10 (by decide +kernel) h (fun v18 h => ?_)
      refine Y.blk (pc' := 60) (L' := [some (.ref a0), some (.int a1), some (.int (v13 - (nI 1)))]) (st' := [.ref a0, .ref v18]) (sg := [(.aload_n 0, 0)]) (by decide +kernel) rfl ?_
      refine Y.getA fl_X_19 (by decide +kernel) h (fun v19 h => ?_)
      refine Y.blk (pc' := 64) (L' := [some (.ref a0), some (.int a1), some (.int (v13 - (nI 1)))]) (st' := [.int a1, .ref v19, .ref v18]) (sg := [(.iload_n 1, 0)]) (by decide +kernel) rfl ?_
      obtain ⟨o21, e20, h⟩ := gOb_inv h
      refine Y.callI (yC.Vi (b := v19) (As := [.int a1]) (st := [.ref v18]) (r := ("Partlister$Cursors", T_U, 5)) hV.1 cb_U_listOf lk_X_152 in_U_listOf rfl se_U_listOf (by decide +kernel) rfl rfl (Nat.le_of_ble_eq_true rfl) (by decide) e20) (k_U_listOf hV G17 v19 a1) h (fun v23 G22 _ h => ?_)
      refine Y.blk (pc' := 68) (L' := [some (.ref a0), some (.int a1), some (.int (v13 - (nI 1)))]) (st' := [.int (v13 - (nI 1)), .int v23, .ref v18]) (sg := [(.iload_n 2, 0)]) (by decide +kernel) rfl ?_
      obtain ⟨o25, e24, h⟩ := gOb_inv h
      refine Y.callI (yC.Vi (b := v18) (As := [.int v23, .int (v13 - (nI 1))]) (st := []) (r := ("Partlister$Lists", T_I, 7)) hV.1 cb_I_thingAt lk_X_94 in_I_thingAt rfl se_I_thingAt (by decide +kernel) rfl rfl (Nat.le_of_ble_eq_true rfl) (by decide) e24) (k_I_thingAt hV G22 v18 v23 (v13 - (nI 1))) h (fun v27 G26 _ h => ?_)
      refine Y.callI (yC.S (As := [.int v27]) (st := []) hV.1 cb_X_tagOf lk_X_48 st_X_tagOf (by decide +kernel) rfl rfl (Nat.le_of_ble_eq_true rfl) (by decide)) (k_X_tagOf hV G26 v27) h (fun v30 G29 _ h => ?_)
      exact Y.iret rfl (by decide +kernel) h
    · refine Y.blk (pc' := 41) (L' := [some (.ref a0), some (.int a1), some (.int (v13 - (nI 1)))]) (st' := [.int (-8), .ref a0]) (sg := [(.aload_n 0, 0), (.bipush (-8), -8)]) (by decide +kernel) rfl ?_
      obtain ⟨o32, e31, h⟩ := gOb_inv h
      refine Y.callI (yC.Vi (b := a0) (As := [.int (-8)]) (st := []) (r := ("Partlister", T_X, 5)) hV.1 cb_X_failWith lk_X_173 in_X_failWith rfl se_X_failWith (by decide +kernel) rfl rfl (Nat.le_of_ble_eq_true rfl) (by decide) e31) (k_X_failWith hV G12 a0 (-8)) h (fun v34 G33 _ h => ?_)
      exact Y.iret rfl (by decide +kernel) h
  · refine Y.blk (pc' := 19) (L' := [some (.ref a0), some (.int a1), none]) (st' := [.int (-9), .ref a0]) (sg := [(.aload_n 0, 0), (.bipush (-9), -9)]) (by decide +kernel) rfl ?_
    obtain ⟨o37, e36, h⟩ := gOb_inv h
    refine Y.callI (yC.Vi (b := a0) (As := [.int (-9)]) (st := []) (r := ("Partlister", T_X, 5)) hV.1 cb_X_failWith lk_X_173 in_X_failWith rfl se_X_failWith (by decide +kernel) rfl rfl (Nat.le_of_ble_eq_true rfl) (by decide) e36) (k_X_failWith hV G7 a0 (-9)) h (fun v39 G38 _ h => ?_)
    exact Y.iret rfl (by decide +kernel) h

def f_X_put (G : gH) (a0 : Nat) (a1 : Int32) (a2 : Int32) : gR :=
  gOb G a0 3 fun o2 => bV (f_X_needCursor G a0 a1) fun G3 => gOb G3 a0 3 fun o5 => bV (f_X_needKey G3 a0 a2) fun G6 => gFA G6 a0 3 1 fun v7 => gOb G6 v7 0 fun o9 => bI (f_U_isStale G6 v7 a1) fun v11 G10 => if v11 = 0 then (gFA G10 a0 3 1 fun v12 => gOb G10 v12 0 fun o14 => bI (f_U_lastOf G10 v12 a1) fun v16 G15 => if v16 = (-1) then gOb G15 a0 3 fun o18 => bI (f_X_failWith G15 a0 (-7)) fun v20 G19 => rI v20 G19
    else gOb G15 a0 3 fun o22 => bI (f_X_make G15 a0 a2) fun v24 G23 => gFA G23 a0 3 0 fun v25 => gFA G23 a0 3 1 fun v26 => gOb G23 v26 0 fun o28 => bI (f_U_listOf G23 v26 a1) fun v30 G29 => gOb G29 v25 1 fun o32 => bV (f_I_write G29 v25 v30 v16 v24) fun G33 => bI (f_X_tagOf G33 v24) fun v36 G35 => rI v36 G35)
  else gOb G10 a0 3 fun o39 => bI (f_X_failWith G10 a0 (-9)) fun v41 G40 => rI v41 G40
theorem k_X_put {l : Launch} {D : va_G} {B : Nat} {O : State → Heap → Prop} (hV : zG l D B O) (G : gH) (a0 : Nat) (a1 : Int32) (a2 : Int32) : gMet (zVm l D B O) m_X_put 7 [.ref a0, .int a1, .int a2] G (f_X_put G a0 a1 a2) := by
  refine gMet.of (by decide +kernel) (Nat.le_of_ble_eq_true rfl) [some (.ref a0), some (.int a1), some (.int a2), none, none] (fun ls h => zEn_ok (n := 5) h) ?_
  intro o Gf h
  unfold f_X_put at h
  refine Y.blk (pc' := 2) (L' := [some (.ref a0), some (.int a1), some (.int a2), none, none]) (st' := [.int a1, .ref a0]) (sg := [(.aload_n 0, 0), (.iload_n 1, 0)]) (by decide +kernel) rfl ?_
  obtain ⟨o2, e1, h⟩ := gOb_inv h
  refine Y.callN (yC.Vi (b := a0) (As := [.int a1]) (st := []) (r := ("Partlister", T_X, 5)) hV.1 cb_X_needCursor lk_X_167 in_X_needCursor rfl se_X_needCursor (by decide +kernel) rfl rfl (Nat.le_of_ble_eq_true rfl) (by decide) e1) (k_X_needCursor hV G a0 a1) h (fun G3 _ h => ?_)
  refine Y.blk (pc' := 7) (L' := [some (.ref a0), some (.int a1), some (.int a2), none, none]) (st' := [.int a2, .ref a0]) (sg := [(.aload_n 0, 0), (.iload_n 2, 0)]) (by decide +kernel) rfl ?_
  obtain ⟨o5, e4, h⟩ := gOb_inv h
  refine Y.callN (yC.Vi (b := a0) (As := [.int a2]) (st := []) (r := ("Partlister", T_X, 5)) hV.1 cb_X_needKey lk_X_27 in_X_needKey rfl se_X_needKey (by decide +kernel) rfl rfl (Nat.le_of_ble_eq_true rfl) (by decide) e4) (k_X_needKey hV G3 a0 a2) h (fun G6 _ h => ?_)
  refine Y.blk (pc' := 11) (L' := [some (.ref a0), some (.int a1), some (.int a2), none, none]) (st' := [.ref a0]) (sg := [(.aload_n 0, 0)]) (by decide +kernel) rfl ?_
  refine Y.getA fl_X_19 (by decide +kernel) h (fun v7 h => ?_)
  refine Y.blk (pc' := 15) (L' := [some (.ref a0), some (.int a1), some (.int a2), none, none]) (st' := [.int a1, .ref v7]) (sg := [(.iload_n 1, 0)]) (by decide +kernel) rfl ?_
  obtain ⟨o9, e8, h⟩ := gOb_inv h
  refine Y.callI (yC.Vi (b := v7) (As := [.int a1]) (st := []) (r := ("Partlister$Cursors", T_U, 5)) hV.1 cb_U_isStale lk_X_170 in_U_isStale rfl se_U_isStale (by decide +kernel) rfl rfl (Nat.le_of_ble_eq_true rfl) (by decide) e8) (k_U_isStale hV G6 v7 a1) h (fun v11 G10 _ h => ?_)
  refine Y.if_eq (off := 10) (tgt := 28) (by decide +kernel) (by decide) h (fun c42 h => ?_) (fun c42 h => ?_)
  · refine Y.blk (pc' := 29) (L' := [some (.ref a0), some (.int a1), some (.int a2), none, none]) (st' := [.ref a0]) (sg := [(.aload_n 0, 0)]) (by decide +kernel) rfl ?_
    refine Y.getA fl_X_19 (by decide +kernel) h (fun v12 h => ?_)
    refine Y.blk (pc' := 33) (L' := [some (.ref a0), some (.int a1), some (.int a2), none, none]) (st' := [.int a1, .ref v12]) (sg := [(.iload_n 1, 0)]) (by decide +kernel) rfl ?_
    obtain ⟨o14, e13, h⟩ := gOb_inv h
    refine Y.callI (yC.Vi (b := v12) (As := [.int a1]) (st := []) (r := ("Partlister$Cursors", T_U, 5)) hV.1 cb_U_lastOf lk_X_182 in_U_lastOf rfl se_U_lastOf (by decide +kernel) rfl rfl (Nat.le_of_ble_eq_true rfl) (by decide) e13) (k_U_lastOf hV G10 v12 a1) h (fun v16 G15 _ h => ?_)
    refine Y.blk (pc' := 39) (L' := [some (.ref a0), some (.int a1), some (.int a2), some (.int v16), none]) (st' := [.int (-1), .int v16]) (sg := [(.istore_n 3, 0), (.iload_n 3, 0), (.iconst (-1), -1)]) (by decide +kernel) rfl ?_
    refine Y.ic_ne (off := 10) (tgt := 49) (by decide +kernel) (by decide) h (fun c37 h => ?_) (fun c37 h => ?_)
    · refine Y.blk (pc' := 45) (L' := [some (.ref a0), some (.int a1), some (.int a2), some (.int v16), none]) (st' := [.int (-7), .ref a0]) (sg := [(.aload_n 0, 0), (.bipush (-7), -7)]) (by decide +kernel) rfl ?_
      obtain ⟨o18, e17, h⟩ := gOb_inv h
      refine Y.callI (yC.Vi (b := a0) (As := [.int (-7)]) (st := []) (r := ("Partlister", T_X, 5)) hV.1 cb_X_failWith lk_X_173 in_X_failWith rfl se_X_failWith (by decide +kernel) rfl rfl (Nat.le_of_ble_eq_true rfl) (by decide) e17) (k_X_failWith hV G15 a0 (-7)) h (fun v20 G19 _ h => ?_)
      exact Y.iret rfl (by decide +kernel) h
    · refine Y.blk (pc' := 51) (L' := [some (.ref a0), some (.int a1), some (.int a2), some (.int v16), none]) (st' := [.int a2, .ref a0]) (sg := [(.aload_n 0, 0), (.iload_n 2, 0)]) (by decide +kernel) rfl ?_
      obtain ⟨o22, e21, h⟩ := gOb_inv h
      refine Y.callI (yC.Vi (b := a0) (As := [.int a2]) (st := []) (r := ("Partlister", T_X, 5)) hV.1 cb_X_make lk_X_38 in_X_make rfl se_X_make (by decide +kernel) rfl rfl (Nat.le_of_ble_eq_true rfl) (by decide) e21) (k_X_make hV G15 a0 a2) h (fun v24 G23 _ h => ?_)
      refine Y.blk (pc' := 57) (L' := [some (.ref a0), some (.int a1), some (.int a2), some (.int v16), some (.int v24)]) (st' := [.ref a0]) (sg := [(.istore 4, 0), (.aload_n 0, 0)]) (by decide +kernel) rfl ?_
      refine Y.getA fl_X_10 (by decide +kernel) h (fun v25 h => ?_)
      refine Y.blk (pc' := 61) (L' := [some (.ref a0), some (.int a1), some (.int a2), some (.int v16), some (.int v24)]) (st' := [.ref a0, .ref v25]) (sg := [(.aload_n 0, 0)]) (by decide +kernel) rfl ?_
      refine Y.getA fl_X_19 (by decide +kernel) h (fun v26 h => ?_)
      refine Y.blk (pc' := 65) (L' := [some (.ref a0), some (.int a1), some (.int a2), some (.int v16), some (.int v24)]) (st' := [.int a1, .ref v26, .ref v25]) (sg := [(.iload_n 1, 0)]) (by decide +kernel) rfl ?_
      obtain ⟨o28, e27, h⟩ := gOb_inv h
      refine Y.callI (yC.Vi (b := v26) (As := [.int a1]) (st := [.ref v25]) (r := ("Partlister$Cursors", T_U, 5)) hV.1 cb_U_listOf lk_X_152 in_U_listOf rfl se_U_listOf (by decide +kernel) rfl rfl (Nat.le_of_ble_eq_true rfl) (by decide) e27) (k_U_listOf hV G23 v26 a1) h (fun v30 G29 _ h => ?_)
      refine Y.blk (pc' := 71) (L' := [some (.ref a0), some (.int a1), some (.int a2), some (.int v16), some (.int v24)]) (st' := [.int v24, .int v16, .int v30, .ref v25]) (sg := [(.iload_n 3, 0), (.iload 4, 0)]) (by decide +kernel) rfl ?_
      obtain ⟨o32, e31, h⟩ := gOb_inv h
      refine Y.callN (yC.Vi (b := v25) (As := [.int v30, .int v16, .int v24]) (st := []) (r := ("Partlister$Lists", T_I, 7)) hV.1 cb_I_write lk_X_65 in_I_write rfl se_I_write (by decide +kernel) rfl rfl (Nat.le_of_ble_eq_true rfl) (by decide) e31) (k_I_write hV G29 v25 v30 v16 v24) h (fun G33 _ h => ?_)
      refine Y.blk (pc' := 76) (L' := [some (.ref a0), some (.int a1), some (.int a2), some (.int v16), some (.int v24)]) (st' := [.int v24]) (sg := [(.iload 4, 0)]) (by decide +kernel) rfl ?_
      refine Y.callI (yC.S (As := [.int v24]) (st := []) hV.1 cb_X_tagOf lk_X_48 st_X_tagOf (by decide +kernel) rfl rfl (Nat.le_of_ble_eq_true rfl) (by decide)) (k_X_tagOf hV G33 v24) h (fun v36 G35 _ h => ?_)
      exact Y.iret rfl (by decide +kernel) h
  · refine Y.blk (pc' := 24) (L' := [some (.ref a0), some (.int a1), some (.int a2), none, none]) (st' := [.int (-9), .ref a0]) (sg := [(.aload_n 0, 0), (.bipush (-9), -9)]) (by decide +kernel) rfl ?_
    obtain ⟨o39, e38, h⟩ := gOb_inv h
    refine Y.callI (yC.Vi (b := a0) (As := [.int (-9)]) (st := []) (r := ("Partlister", T_X, 5)) hV.1 cb_X_failWith lk_X_173 in_X_failWith rfl se_X_failWith (by decide +kernel) rfl rfl (Nat.le_of_ble_eq_true rfl) (by decide) e38) (k_X_failWith hV G10 a0 (-9)) h (fun v41 G40 _ h => ?_)
    exact Y.iret rfl (by decide +kernel) h

def f_X_remove (G : gH) (a0 : Nat) (a1 : Int32) (a2 : Int32) : gR :=
  gOb G a0 3 fun o2 => bV (f_X_needList G a0 a1) fun G3 => gOb G3 a0 3 fun o5 => bV (f_X_needKey G3 a0 a2) fun G6 => gFA G6 a0 3 0 fun v7 => gOb G6 v7 1 fun o9 => bI (f_I_firstOf G6 v7 a1 a2) fun v11 G10 => if v11 = (-1) then rZ (nI 0) G10
  else gOb G10 a0 3 fun o13 => bI (f_X_takeOut G10 a0 a1 v11 (-1)) fun v15 G14 => rZ (nI 1) G14
theorem k_X_remove {l : Launch} {D : va_G} {B : Nat} {O : State → Heap → Prop} (hV : zG l D B O) (G : gH) (a0 : Nat) (a1 : Int32) (a2 : Int32) : gMet (zVm l D B O) m_X_remove 7 [.ref a0, .int a1, .int a2] G (f_X_remove G a0 a1 a2) := by
  refine gMet.of (by decide +kernel) (Nat.le_of_ble_eq_true rfl) [some (.ref a0), some (.int a1), some (.int a2), none] (fun ls h => zEn_ok (n := 4) h) ?_
  intro o Gf h
  unfold f_X_remove at h
  refine Y.blk (pc' := 2) (L' := [some (.ref a0), some (.int a1), some (.int a2), none]) (st' := [.int a1, .ref a0]) (sg := [(.aload_n 0, 0), (.iload_n 1, 0)]) (by decide +kernel) rfl ?_
  obtain ⟨o2, e1, h⟩ := gOb_inv h
  refine Y.callN (yC.Vi (b := a0) (As := [.int a1]) (st := []) (r := ("Partlister", T_X, 5)) hV.1 cb_X_needList lk_X_23 in_X_needList rfl se_X_needList (by decide +kernel) rfl rfl (Nat.le_of_ble_eq_true rfl) (by decide) e1) (k_X_needList hV G a0 a1) h (fun G3 _ h => ?_)
  refine Y.blk (pc' := 7) (L' := [some (.ref a0), some (.int a1), some (.int a2), none]) (st' := [.int a2, .ref a0]) (sg := [(.aload_n 0, 0), (.iload_n 2, 0)]) (by decide +kernel) rfl ?_
  obtain ⟨o5, e4, h⟩ := gOb_inv h
  refine Y.callN (yC.Vi (b := a0) (As := [.int a2]) (st := []) (r := ("Partlister", T_X, 5)) hV.1 cb_X_needKey lk_X_27 in_X_needKey rfl se_X_needKey (by decide +kernel) rfl rfl (Nat.le_of_ble_eq_true rfl) (by decide) e4) (k_X_needKey hV G3 a0 a2) h (fun G6 _ h => ?_)
  refine Y.blk (pc' := 11) (L' := [some (.ref a0), some (.int a1), some (.int a2), none]) (st' := [.ref a0]) (sg := [(.aload_n 0, 0)]) (by decide +kernel) rfl ?_
  refine Y.getA fl_X_10 (by decide +kernel) h (fun v7 h => ?_)
  refine Y.blk (pc' := 16) (L' := [some (.ref a0), some (.int a1), some (.int a2), none]) (st' := [.int a2, .int a1, .ref v7]) (sg := [(.iload_n 1, 0), (.iload_n 2, 0)]) (by decide +kernel) rfl ?_
  obtain ⟨o9, e8, h⟩ := gOb_inv h
  refine Y.callI (yC.Vi (b := v7) (As := [.int a1, .int a2]) (st := []) (r := ("Partlister$Lists", T_I, 7)) hV.1 cb_I_firstOf lk_X_72 in_I_firstOf rfl se_I_firstOf (by decide +kernel) rfl rfl (Nat.le_of_ble_eq_true rfl) (by decide) e8) (k_I_firstOf hV G6 v7 a1 a2) h (fun v11 G10 _ h => ?_)
  refine Y.blk (pc' := 22) (L' := [some (.ref a0), some (.int a1), some (.int a2), some (.int v11)]) (st' := [.int (-1), .int v11]) (sg := [(.istore_n 3, 0), (.iload_n 3, 0), (.iconst (-1), -1)]) (by decide +kernel) rfl ?_
  refine Y.ic_ne (off := 5) (tgt := 27) (by decide +kernel) (by decide) h (fun c16 h => ?_) (fun c16 h => ?_)
  · refine Y.blk (pc' := 26) (L' := [some (.ref a0), some (.int a1), some (.int a2), some (.int v11)]) (st' := [.int (nI 0)]) (sg := [(.iconst 0, nI 0)]) (by decide +kernel) rfl ?_
    exact Y.zret rfl (by decide +kernel) h
  · refine Y.blk (pc' := 31) (L' := [some (.ref a0), some (.int a1), some (.int a2), some (.int v11)]) (st' := [.int (-1), .int v11, .int a1, .ref a0]) (sg := [(.aload_n 0, 0), (.iload_n 1, 0), (.iload_n 3, 0), (.iconst (-1), -1)]) (by decide +kernel) rfl ?_
    obtain ⟨o13, e12, h⟩ := gOb_inv h
    refine Y.callI (yC.Vi (b := a0) (As := [.int a1, .int v11, .int (-1)]) (st := []) (r := ("Partlister", T_X, 5)) hV.1 cb_X_takeOut lk_X_69 in_X_takeOut rfl se_X_takeOut (by decide +kernel) rfl rfl (Nat.le_of_ble_eq_true rfl) (by decide) e12) (k_X_takeOut hV G10 a0 a1 v11 (-1)) h (fun v15 G14 _ h => ?_)
    refine Y.blk (pc' := 36) (L' := [some (.ref a0), some (.int a1), some (.int a2), some (.int v11)]) (st' := [.int (nI 1)]) (sg := [(.pop, 0), (.iconst 1, nI 1)]) (by decide +kernel) rfl ?_
    exact Y.zret rfl (by decide +kernel) h

def f_X_removeAll (G : gH) (a0 : Nat) (a1 : Int32) (a2 : Int32) : gR :=
  gOb G a0 3 fun o2 => bV (f_X_needList G a0 a1) fun G3 => gOb G3 a0 3 fun o5 => bV (f_X_needList G3 a0 a2) fun G6 => gOb G6 a0 3 fun o8 => bV (f_X_needOtherRow G6 a0 a1 a2) fun G9 => gFA G9 a0 3 0 fun v10 => gOb G9 v10 1 fun o12 => bI (f_I_keysOf G9 v10 a2) fun v14 G13 => gOb G13 a0 3 fun o16 => bI (f_X_takeOutAll G13 a0 a1 v14) fun v18 G17 => rI v18 G17
theorem k_X_removeAll {l : Launch} {D : va_G} {B : Nat} {O : State → Heap → Prop} (hV : zG l D B O) (G : gH) (a0 : Nat) (a1 : Int32) (a2 : Int32) : gMet (zVm l D B O) m_X_removeAll 7 [.ref a0, .int a1, .int a2] G (f_X_removeAll G a0 a1 a2) := by
  refine gMet.of (by decide +kernel) (Nat.le_of_ble_eq_true rfl) [some (.ref a0), some (.int a1), some (.int a2)] (fun ls h => zEn_ok (n := 3) h) ?_
  intro o Gf h
  unfold f_X_removeAll at h
  refine Y.blk (pc' := 2) (L' := [some (.ref a0), some (.int a1), some (.int a2)]) (st' := [.int a1, .ref a0]) (sg := [(.aload_n 0, 0), (.iload_n 1, 0)]) (by decide +kernel) rfl ?_
  obtain ⟨o2, e1, h⟩ := gOb_inv h
  refine Y.callN (yC.Vi (b := a0) (As := [.int a1]) (st := []) (r := ("Partlister", T_X, 5)) hV.1 cb_X_needList lk_X_23 in_X_needList rfl se_X_needList (by decide +kernel) rfl rfl (Nat.le_of_ble_eq_true rfl) (by decide) e1) (k_X_needList hV G a0 a1) h (fun G3 _ h => ?_)
  refine Y.blk (pc' := 7) (L' := [some (.ref a0), some (.int a1), some (.int a2)]) (st' := [.int a2, .ref a0]) (sg := [(.aload_n 0, 0), (.iload_n 2, 0)]) (by decide +kernel) rfl ?_
  obtain ⟨o5, e4, h⟩ := gOb_inv h
  refine Y.callN (yC.Vi (b := a0) (As := [.int a2]) (st := []) (r := ("Partlister", T_X, 5)) hV.1 cb_X_needList lk_X_23 in_X_needList rfl se_X_needList (by decide +kernel) rfl rfl (Nat.le_of_ble_eq_true rfl) (by decide) e4) (k_X_needList hV G3 a0 a2) h (fun G6 _ h => ?_)
  refine Y.blk (pc' := 13) (L' := [some (.ref a0), some (.int a1), some (.int a2)]) (st' := [.int a2, .int a1, .ref a0]) (sg := [(.aload_n 0, 0), (.iload_n 1, 0), (.iload_n 2, 0)]) (by decide +kernel) rfl ?_
  obtain ⟨o8, e7, h⟩ := gOb_inv h
  refine Y.callN (yC.Vi (b := a0) (As := [.int a1, .int a2]) (st := []) (r := ("Partlister", T_X, 5)) hV.1 cb_X_needOtherRow lk_X_51 in_X_needOtherRow rfl se_X_needOtherRow (by decide +kernel) rfl rfl (Nat.le_of_ble_eq_true rfl) (by decide) e7) (k_X_needOtherRow hV G6 a0 a1 a2) h (fun G9 _ h => ?_)
  refine Y.blk (pc' := 19) (L' := [some (.ref a0), some (.int a1), some (.int a2)]) (st' := [.ref a0, .int a1, .ref a0]) (sg := [(.aload_n 0, 0), (.iload_n 1, 0), (.aload_n 0, 0)]) (by decide +kernel) rfl ?_
  refine Y.getA fl_X_10 (by decide +kernel) h (fun v10 h => ?_)
  refine Y.blk (pc' := 23) (L' := [some (.ref a0), some (.int a1), some (.int a2)]) (st' := [.int a2, .ref v10, .int a1, .ref a0]) (sg := [(.iload_n 2, 0)]) (by decide +kernel) rfl ?_
  obtain ⟨o12, e11, h⟩ := gOb_inv h
  refine Y.callI (yC.Vi (b := v10) (As := [.int a2]) (st := [.int a1, .ref a0]) (r := ("Partlister$Lists", T_I, 7)) hV.1 cb_I_keysOf lk_X_75 in_I_keysOf rfl se_I_keysOf (by decide +kernel) rfl rfl (Nat.le_of_ble_eq_true rfl) (by decide) e11) (k_I_keysOf hV G9 v10 a2) h (fun v14 G13 _ h => ?_)
  obtain ⟨o16, e15, h⟩ := gOb_inv h
  refine Y.callI (yC.Vi (b := a0) (As := [.int a1, .int v14]) (st := []) (r := ("Partlister", T_X, 5)) hV.1 cb_X_takeOutAll lk_X_78 in_X_takeOutAll rfl se_X_takeOutAll (by decide +kernel) rfl rfl (Nat.le_of_ble_eq_true rfl) (by decide) e15) (k_X_takeOutAll hV G13 a0 a1 v14) h (fun v18 G17 _ h => ?_)
  exact Y.iret rfl (by decide +kernel) h

def f_X_removeAt (G : gH) (a0 : Nat) (a1 : Int32) (a2 : Int32) : gR :=
  gOb G a0 3 fun o2 => bV (f_X_needList G a0 a1) fun G3 => gOb G3 a0 3 fun o5 => bV (f_X_needPlace G3 a0 a1 a2) fun G6 => gOb G6 a0 3 fun o8 => bI (f_X_takeOut G6 a0 a1 a2 (-1)) fun v10 G9 => bI (f_X_tagOf G9 v10) fun v13 G12 => rI v13 G12
theorem k_X_removeAt {l : Launch} {D : va_G} {B : Nat} {O : State → Heap → Prop} (hV : zG l D B O) (G : gH) (a0 : Nat) (a1 : Int32) (a2 : Int32) : gMet (zVm l D B O) m_X_removeAt 7 [.ref a0, .int a1, .int a2] G (f_X_removeAt G a0 a1 a2) := by
  refine gMet.of (by decide +kernel) (Nat.le_of_ble_eq_true rfl) [some (.ref a0), some (.int a1), some (.int a2)] (fun ls h => zEn_ok (n := 3) h) ?_
  intro o Gf h
  unfold f_X_removeAt at h
  refine Y.blk (pc' := 2) (L' := [some (.ref a0), some (.int a1), some (.int a2)]) (st' := [.int a1, .ref a0]) (sg := [(.aload_n 0, 0), (.iload_n 1, 0)]) (by decide +kernel) rfl ?_
  obtain ⟨o2, e1, h⟩ := gOb_inv h
  refine Y.callN (yC.Vi (b := a0) (As := [.int a1]) (st := []) (r := ("Partlister", T_X, 5)) hV.1 cb_X_needList lk_X_23 in_X_needList rfl se_X_needList (by decide +kernel) rfl rfl (Nat.le_of_ble_eq_true rfl) (by decide) e1) (k_X_needList hV G a0 a1) h (fun G3 _ h => ?_)
  refine Y.blk (pc' := 8) (L' := [some (.ref a0), some (.int a1), some (.int a2)]) (st' := [.int a2, .int a1, .ref a0]) (sg := [(.aload_n 0, 0), (.iload_n 1, 0), (.iload_n 2, 0)]) (by decide +kernel) rfl ?_
  obtain ⟨o5, e4, h⟩ := gOb_inv h
  refine Y.callN (yC.Vi (b := a0) (As := [.int a1, .int a2]) (st := []) (r := ("Partlister", T_X, 5)) hV.1 cb_X_needPlace lk_X_58 in_X_needPlace rfl se_X_needPlace (by decide +kernel) rfl rfl (Nat.le_of_ble_eq_true rfl) (by decide) e4) (k_X_needPlace hV G3 a0 a1 a2) h (fun G6 _ h => ?_)
  refine Y.blk (pc' := 15) (L' := [some (.ref a0), some (.int a1), some (.int a2)]) (st' := [.int (-1), .int a2, .int a1, .ref a0]) (sg := [(.aload_n 0, 0), (.iload_n 1, 0), (.iload_n 2, 0), (.iconst (-1), -1)]) (by decide +kernel) rfl ?_
  obtain ⟨o8, e7, h⟩ := gOb_inv h
  refine Y.callI (yC.Vi (b := a0) (As := [.int a1, .int a2, .int (-1)]) (st := []) (r := ("Partlister", T_X, 5)) hV.1 cb_X_takeOut lk_X_69 in_X_takeOut rfl se_X_takeOut (by decide +kernel) rfl rfl (Nat.le_of_ble_eq_true rfl) (by decide) e7) (k_X_takeOut hV G6 a0 a1 a2 (-1)) h (fun v10 G9 _ h => ?_)
  refine Y.callI (yC.S (As := [.int v10]) (st := []) hV.1 cb_X_tagOf lk_X_48 st_X_tagOf (by decide +kernel) rfl rfl (Nat.le_of_ble_eq_true rfl) (by decide)) (k_X_tagOf hV G9 v10) h (fun v13 G12 _ h => ?_)
  exact Y.iret rfl (by decide +kernel) h

def f_X_removeIf_L51 (K85 : gH → Nat → Int32 → Int32 → gR) : Nat → gH → Nat → Int32 → Int32 → Int32 → Int32 → Int32 → gR
  | 0, _, _, _, _, _, _, _ => none
  | n + 1, G, x0, x1, x2, x3, x4, x5 =>
    if (nI 31) ≤ x5 then K85 G x0 x1 x4
    else gRem x5 x2 fun v4 => if v4 = x3 then f_X_removeIf_L51 K85 n G x0 x1 x2 x3 (x4 ||| ((nI 1) <<< (x5 &&& 31))) (x5 + (nI 1))
      else f_X_removeIf_L51 K85 n G x0 x1 x2 x3 (x4 ||| (nI 0)) (x5 + (nI 1))
def f_X_removeIf (G : gH) (a0 : Nat) (a1 : Int32) (a2 : Int32) (a3 : Int32) : gR :=
  gOb G a0 3 fun o2 => bV (f_X_needList G a0 a1) fun G3 => if a2 < (nI 1) then gThrow "java/lang/IllegalArgumentException" G3
  else if a2 ≤ (nI 9) then (if a3 < 0 then gThrow "java/lang/IllegalArgumentException" G3
      else if a3 < a2 then f_X_removeIf_L51 (fun G10 x7 x8 x9 => gOb G10 x7 3 fun o12 => bI (f_X_takeOutAll G10 x7 x8 x9) fun v14 G13 => rI v14 G13) zFu G3 a0 a1 a2 a3 (nI 0) (nI 0)
        else gThrow "java/lang/IllegalArgumentException" G3)
    else gThrow "java/lang/IllegalArgumentException" G3
theorem k_X_removeIf_L51 {l : Launch} {D : va_G} {B : Nat} {O : State → Heap → Prop} (hV : zG l D B O) {o : gO} {Gf : gH} (K85 : gH → Nat → Int32 → Int32 → gR) (hK85 : ∀ (G : gH) (x0 : Nat) (x1 : Int32) (x4 : Int32), K85 G x0 x1 x4 = some (o, Gf) → Y (zVm l D B O) m_X_removeIf 7 o Gf 85 [some (.ref x0), some (.int x1), none, none, some (.int x4), none] [] G) : ∀ (n : Nat) (G : gH) (x0 : Nat) (x1 : Int32) (x2 : Int32) (x3 : Int32) (x4 : Int32) (x5 : Int32), f_X_removeIf_L51 K85 n G x0 x1 x2 x3 x4 x5 = some (o, Gf) → Y (zVm l D B O) m_X_removeIf 7 o Gf 51 [some (.ref x0), some (.int x1), some (.int x2), some (.int x3), some (.int x4), some (.int x5)] [] G := by
  intro n
  induction n with
  | zero => intro G x0 x1 x2 x3 x4 x5 h; cases h
  | succ n ih =>
    intro G x0 x1 x2 x3 x4 x5 h
    unfold f_X_removeIf_L51 at h
    refine Y.blk (pc' := 55) (L' := [some (.ref x0), some (.int x1), some (.int x2), some (.int x3), some (.int x4), some (.int x5)]) (st' := [.int (nI 31), .int x5]) (sg := [(.iload 5, 0), (.bipush 31, nI 31)]) (by decide +kernel) rfl ?_
    refine Y.ic_ge (off := 30) (tgt := 85) (by decide +kernel) (by decide) h (fun c6 h => ?_) (fun c6 h => ?_)
    · refine Y.less (L' := [some (.ref x0), some (.int x1), none, none, some (.int x4), none]) (zLe_some (zLe_some (zLe_none (zLe_none (zLe_some (zLe_none (zLe_nil))))))) ?_
      exact hK85 G x0 x1 x4 h
    · refine Y.blk (pc' := 63) (L' := [some (.ref x0), some (.int x1), some (.int x2), some (.int x3), some (.int x4), some (.int x5)]) (st' := [.int x2, .int x5, .int x4]) (sg := [(.iload 4, 0), (.iload 5, 0), (.iload_n 2, 0)]) (by decide +kernel) rfl ?_
      refine Y.irem (by decide +kernel) h (fun v4 h => ?_)
      refine Y.blk (pc' := 65) (L' := [some (.ref x0), some (.int x1), some (.int x2), some (.int x3), some (.int x4), some (.int x5)]) (st' := [.int x3, .int v4, .int x4]) (sg := [(.iload_n 3, 0)]) (by decide +kernel) rfl ?_
      refine Y.ic_ne (off := 10) (tgt := 75) (by decide +kernel) (by decide) h (fun c5 h => ?_) (fun c5 h => ?_)
      · refine Y.blk (pc' := 72) (L' := [some (.ref x0), some (.int x1), some (.int x2), some (.int x3), some (.int x4), some (.int x5)]) (st' := [.int ((nI 1) <<< (x5 &&& 31)), .int x4]) (sg := [(.iconst 1, nI 1), (.iload 5, 0), (.ishl, 0)]) (by decide +kernel) rfl ?_
        refine Y.goto (off := 4) (tgt := 76) (by decide +kernel) (by decide) ?_
        refine Y.blk (pc' := 82) (L' := [some (.ref x0), some (.int x1), some (.int x2), some (.int x3), some (.int (x4 ||| ((nI 1) <<< (x5 &&& 31)))), some (.int (x5 + (nI 1)))]) (st' := []) (sg := [(.ior, 0), (.istore 4, 0), (.iinc 5 1, nI 1)]) (by decide +kernel) rfl ?_
        refine Y.goto (off := -31) (tgt := 51) (by decide +kernel) (by decide) ?_
        exact ih G x0 x1 x2 x3 (x4 ||| ((nI 1) <<< (x5 &&& 31))) (x5 + (nI 1)) h
      · refine Y.blk (pc' := 82) (L' := [some (.ref x0), some (.int x1), some (.int x2), some (.int x3), some (.int (x4 ||| (nI 0))), some (.int (x5 + (nI 1)))]) (st' := []) (sg := [(.iconst 0, nI 0), (.ior, 0), (.istore 4, 0), (.iinc 5 1, nI 1)]) (by decide +kernel) rfl ?_
        refine Y.goto (off := -31) (tgt := 51) (by decide +kernel) (by decide) ?_
        exact ih G x0 x1 x2 x3 (x4 ||| (nI 0)) (x5 + (nI 1)) h
theorem k_X_removeIf {l : Launch} {D : va_G} {B : Nat} {O : State → Heap → Prop} (hV : zG l D B O) (G : gH) (a0 : Nat) (a1 : Int32) (a2 : Int32) (a3 : Int32) : gMet (zVm l D B O) m_X_removeIf 7 [.ref a0, .int a1, .int a2, .int a3] G (f_X_removeIf G a0 a1 a2 a3) := by
  refine gMet.of (by decide +kernel) (Nat.le_of_ble_eq_true rfl) [some (.ref a0), some (.int a1), some (.int a2), some (.int a3), none, none] (fun ls h => zEn_ok (n := 6) h) ?_
  intro o Gf h
  unfold f_X_removeIf at h
  refine Y.blk (pc' := 2) (L' := [some (.ref a0), some (.int a1), some (.int a2), some (.int a3), none, none]) (st' := [.int a1, .ref a0]) (sg := [(.aload_n 0, 0), (.iload_n 1, 0)]) (by decide +kernel) rfl ?_
  obtain ⟨o2, e1, h⟩ := gOb_inv h
  refine Y.callN (yC.Vi (b := a0) (As := [.int a1]) (st := []) (r := ("Partlister", T_X, 5)) hV.1 cb_X_needList lk_X_23 in_X_needList rfl se_X_needList (by decide +kernel) rfl rfl (Nat.le_of_ble_eq_true rfl) (by decide) e1) (k_X_needList hV G a0 a1) h (fun G3 _ h => ?_)
  refine Y.blk (pc' := 7) (L' := [some (.ref a0), some (.int a1), some (.int a2), some (.int a3), none, none]) (st' := [.int (nI 1), .int a2]) (sg := [(.iload_n 2, 0), (.iconst 1, nI 1)]) (by decide +kernel) rfl ?_
  refine Y.ic_lt (off := 9) (tgt := 16) (by decide +kernel) (by decide) h (fun c18 h => ?_) (fun c18 h => ?_)
  · exact Y.throwS (is := 83) (text := "by is not 1 to 9") (names := zNm) hV.1 (hV.2 _ _ _ (by decide +kernel)) (by decide +kernel) (by decide +kernel) ck_X_81 ini_IAE tw_X_85 tg_X_85 (by decide) (by decide) rfl (Nat.le_of_ble_eq_true rfl) (by decide +kernel) (by decide +kernel) (by decide +kernel) (by decide +kernel) (by decide +kernel) h
  · refine Y.blk (pc' := 13) (L' := [some (.ref a0), some (.int a1), some (.int a2), some (.int a3), none, none]) (st' := [.int (nI 9), .int a2]) (sg := [(.iload_n 2, 0), (.bipush 9, nI 9)]) (by decide +kernel) rfl ?_
    refine Y.ic_le (off := 13) (tgt := 26) (by decide +kernel) (by decide) h (fun c17 h => ?_) (fun c17 h => ?_)
    · refine Y.blk (pc' := 27) (L' := [some (.ref a0), some (.int a1), some (.int a2), some (.int a3), none, none]) (st' := [.int a3]) (sg := [(.iload_n 3, 0)]) (by decide +kernel) rfl ?_
      refine Y.if_lt (off := 8) (tgt := 35) (by decide +kernel) (by decide) h (fun c16 h => ?_) (fun c16 h => ?_)
      · exact Y.throwS (is := 88) (text := "rest is not 0 to by - 1") (names := zNm) hV.1 (hV.2 _ _ _ (by decide +kernel)) (by decide +kernel) (by decide +kernel) ck_X_81 ini_IAE tw_X_85 tg_X_85 (by decide) (by decide) rfl (Nat.le_of_ble_eq_true rfl) (by decide +kernel) (by decide +kernel) (by decide +kernel) (by decide +kernel) (by decide +kernel) h
      · refine Y.blk (pc' := 32) (L' := [some (.ref a0), some (.int a1), some (.int a2), some (.int a3), none, none]) (st' := [.int a2, .int a3]) (sg := [(.iload_n 3, 0), (.iload_n 2, 0)]) (by decide +kernel) rfl ?_
        refine Y.ic_lt (off := 13) (tgt := 45) (by decide +kernel) (by decide) h (fun c15 h => ?_) (fun c15 h => ?_)
        · refine Y.blk (pc' := 51) (L' := [some (.ref a0), some (.int a1), some (.int a2), some (.int a3), some (.int (nI 0)), some (.int (nI 0))]) (st' := []) (sg := [(.iconst 0, nI 0), (.istore 4, 0), (.iconst 0, nI 0), (.istore 5, 0)]) (by decide +kernel) rfl ?_
          refine k_X_removeIf_L51 hV _ ?_  zFu G3 a0 a1 a2 a3 (nI 0) (nI 0) h
          · intro G10 x7 x8 x9 h
            refine Y.blk (pc' := 89) (L' := [some (.ref x7), some (.int x8), none, none, some (.int x9), none]) (st' := [.int x9, .int x8, .ref x7]) (sg := [(.aload_n 0, 0), (.iload_n 1, 0), (.iload 4, 0)]) (by decide +kernel) rfl ?_
            obtain ⟨o12, e11, h⟩ := gOb_inv h
            refine Y.callI (yC.Vi (b := x7) (As := [.int x8, .int x9]) (st := []) (r := ("Partlister", T_X, 5)) hV.1 cb_X_takeOutAll lk_X_78 in_X_takeOutAll rfl se_X_takeOutAll (by decide +kernel) rfl rfl (Nat.le_of_ble_eq_true rfl) (by decide) e11) (k_X_takeOutAll hV G10 x7 x8 x9) h (fun v14 G13 _ h => ?_)
            exact Y.iret rfl (by decide +kernel) h
        · exact Y.throwS (is := 88) (text := "rest is not 0 to by - 1") (names := zNm) hV.1 (hV.2 _ _ _ (by decide +kernel)) (by decide +kernel) (by decide +kernel) ck_X_81 ini_IAE tw_X_85 tg_X_85 (by decide) (by decide) rfl (Nat.le_of_ble_eq_true rfl) (by decide +kernel) (by decide +kernel) (by decide +kernel) (by decide +kernel) (by decide +kernel) h
    · exact Y.throwS (is := 83) (text := "by is not 1 to 9") (names := zNm) hV.1 (hV.2 _ _ _ (by decide +kernel)) (by decide +kernel) (by decide +kernel) ck_X_81 ini_IAE tw_X_85 tg_X_85 (by decide) (by decide) rfl (Nat.le_of_ble_eq_true rfl) (by decide +kernel) (by decide +kernel) (by decide +kernel) (by decide +kernel) (by decide +kernel) h

def f_X_replaceAll_L58 (K113 : gH → Nat → Int32 → Int32 → gR) : Nat → gH → Nat → Int32 → Int32 → Int32 → Int32 → Int32 → gR
  | 0, _, _, _, _, _, _, _ => none
  | n + 1, G, x0, x1, x2, x3, x4, x5 =>
    if x4 ≤ x5 then K113 G x0 x1 x4
    else gFA G x0 3 0 fun v9 => gOb G v9 1 fun o11 => bI (f_I_thingAt G v9 x1 x5) fun v13 G12 => gFA G12 x0 3 0 fun v14 => bI (f_X_tagOf G12 v13) fun v17 G16 => bI (f_X_keyOf G16 v13) fun v20 G19 => gRem ((v20 * x2) + x3) (nI 31) fun v21 => bI (f_X_thingOf G19 v17 v21) fun v24 G23 => gOb G23 v14 1 fun o26 => bV (f_I_write G23 v14 x1 x5 v24) fun G27 => f_X_replaceAll_L58 K113 n G27 x0 x1 x2 x3 x4 (x5 + (nI 1))
def f_X_replaceAll (G : gH) (a0 : Nat) (a1 : Int32) (a2 : Int32) (a3 : Int32) : gR :=
  gOb G a0 3 fun o2 => bV (f_X_needList G a0 a1) fun G3 => if a2 < 0 then gThrow "java/lang/IllegalArgumentException" G3
  else if a2 < (nI 31) then (if a3 < 0 then gThrow "java/lang/IllegalArgumentException" G3
      else if a3 < (nI 31) then gFA G3 a0 3 0 fun v4 => gOb G3 v4 1 fun o6 => bI (f_I_lengthOf G3 v4 a1) fun v8 G7 => f_X_replaceAll_L58 (fun G32 x29 x30 x31 => gOb G32 x29 3 fun o34 => bI (f_X_endAround G32 x29 x30) fun v36 G35 => rI x31 G35) zFu G7 a0 a1 a2 a3 v8 (nI 0)
        else gThrow "java/lang/IllegalArgumentException" G3)
    else gThrow "java/lang/IllegalArgumentException" G3
theorem k_X_replaceAll_L58 {l : Launch} {D : va_G} {B : Nat} {O : State → Heap → Prop} (hV : zG l D B O) {o : gO} {Gf : gH} (K113 : gH → Nat → Int32 → Int32 → gR) (hK113 : ∀ (G : gH) (x0 : Nat) (x1 : Int32) (x4 : Int32), K113 G x0 x1 x4 = some (o, Gf) → Y (zVm l D B O) m_X_replaceAll 7 o Gf 113 [some (.ref x0), some (.int x1), none, none, some (.int x4), none, none] [] G) : ∀ (n : Nat) (G : gH) (x0 : Nat) (x1 : Int32) (x2 : Int32) (x3 : Int32) (x4 : Int32) (x5 : Int32), f_X_replaceAll_L58 K113 n G x0 x1 x2 x3 x4 x5 = some (o, Gf) → Y (zVm l D B O) m_X_replaceAll 7 o Gf 58 [some (.ref x0), some (.int x1), some (.int x2), some (.int x3), some (.int x4), some (.int x5), none] [] G := by
  intro n
  induction n with
  | zero => intro G x0 x1 x2 x3 x4 x5 h; cases h
  | succ n ih =>
    intro G x0 x1 x2 x3 x4 x5 h
    unfold f_X_replaceAll_L58 at h
    refine Y.blk (pc' := 62) (L' := [some (.ref x0), some (.int x1), some (.int x2), some (.int x3), some (.int x4), some (.int x5), none]) (st' := [.int x4, .int x5]) (sg := [(.iload 5, 0), (.iload 4, 0)]) (by decide +kernel) rfl ?_
    refine Y.ic_ge (off := 51) (tgt := 113) (by decide +kernel) (by decide) h (fun c28 h => ?_) (fun c28 h => ?_)
    · refine Y.less (L' := [some (.ref x0), some (.int x1), none, none, some (.int x4), none, none]) (zLe_some (zLe_some (zLe_none (zLe_none (zLe_some (zLe_none (zLe_some (zLe_nil)))))))) ?_
      exact hK113 G x0 x1 x4 h
    · refine Y.blk (pc' := 66) (L' := [some (.ref x0), some (.int x1), some (.int x2), some (.int x3), some (.int x4), some (.int x5), none]) (st' := [.ref x0]) (sg := [(.aload_n 0, 0)]) (by decide +kernel) rfl ?_
      refine Y.getA fl_X_10 (by decide +kernel) h (fun v9 h => ?_)
      refine Y.blk (pc' := 72) (L' := [some (.ref x0), some (.int x1), some (.int x2), some (.int x3), some (.int x4), some (.int x5), none]) (st' := [.int x5, .int x1, .ref v9]) (sg := [(.iload_n 1, 0), (.iload 5, 0)]) (by decide +kernel) rfl ?_
      obtain ⟨o11, e10, h⟩ := gOb_inv h
      refine Y.callI (yC.Vi (b := v9) (As := [.int x1, .int x5]) (st := []) (r := ("Partlister$Lists", T_I, 7)) hV.1 cb_I_thingAt lk_X_94 in_I_thingAt rfl se_I_thingAt (by decide +kernel) rfl rfl (Nat.le_of_ble_eq_true rfl) (by decide) e10) (k_I_thingAt hV G v9 x1 x5) h (fun v13 G12 _ h => ?_)
      refine Y.blk (pc' := 78) (L' := [some (.ref x0), some (.int x1), some (.int x2), some (.int x3), some (.int x4), some (.int x5), some (.int v13)]) (st' := [.ref x0]) (sg := [(.istore 6, 0), (.aload_n 0, 0)]) (by decide +kernel) rfl ?_
      refine Y.getA fl_X_10 (by decide +kernel) h (fun v14 h => ?_)
      refine Y.blk (pc' := 86) (L' := [some (.ref x0), some (.int x1), some (.int x2), some (.int x3), some (.int x4), some (.int x5), some (.int v13)]) (st' := [.int v13, .int x5, .int x1, .ref v14]) (sg := [(.iload_n 1, 0), (.iload 5, 0), (.iload 6, 0)]) (by decide +kernel) rfl ?_
      refine Y.callI (yC.S (As := [.int v13]) (st := [.int x5, .int x1, .ref v14]) hV.1 cb_X_tagOf lk_X_48 st_X_tagOf (by decide +kernel) rfl rfl (Nat.le_of_ble_eq_true rfl) (by decide)) (k_X_tagOf hV G12 v13) h (fun v17 G16 _ h => ?_)
      refine Y.blk (pc' := 91) (L' := [some (.ref x0), some (.int x1), some (.int x2), some (.int x3), some (.int x4), some (.int x5), some (.int v13)]) (st' := [.int v13, .int v17, .int x5, .int x1, .ref v14]) (sg := [(.iload 6, 0)]) (by decide +kernel) rfl ?_
      refine Y.callI (yC.S (As := [.int v13]) (st := [.int v17, .int x5, .int x1, .ref v14]) hV.1 cb_X_keyOf lk_X_97 st_X_keyOf (by decide +kernel) rfl rfl (Nat.le_of_ble_eq_true rfl) (by decide)) (k_X_keyOf hV G16 v13) h (fun v20 G19 _ h => ?_)
      refine Y.blk (pc' := 100) (L' := [some (.ref x0), some (.int x1), some (.int x2), some (.int x3), some (.int x4), some (.int x5), some (.int v13)]) (st' := [.int (nI 31), .int ((v20 * x2) + x3), .int v17, .int x5, .int x1, .ref v14]) (sg := [(.iload_n 2, 0), (.imul, 0), (.iload_n 3, 0), (.iadd, 0), (.bipush 31, nI 31)]) (by decide +kernel) rfl ?_
      refine Y.irem (by decide +kernel) h (fun v21 h => ?_)
      refine Y.callI (yC.S (As := [.int v17, .int v21]) (st := [.int x5, .int x1, .ref v14]) hV.1 cb_X_thingOf lk_X_100 st_X_thingOf (by decide +kernel) rfl rfl (Nat.le_of_ble_eq_true rfl) (by decide)) (k_X_thingOf hV G19 v17 v21) h (fun v24 G23 _ h => ?_)
      obtain ⟨o26, e25, h⟩ := gOb_inv h
      refine Y.callN (yC.Vi (b := v14) (As := [.int x1, .int x5, .int v24]) (st := []) (r := ("Partlister$Lists", T_I, 7)) hV.1 cb_I_write lk_X_65 in_I_write rfl se_I_write (by decide +kernel) rfl rfl (Nat.le_of_ble_eq_true rfl) (by decide) e25) (k_I_write hV G23 v14 x1 x5 v24) h (fun G27 _ h => ?_)
      refine Y.blk (pc' := 110) (L' := [some (.ref x0), some (.int x1), some (.int x2), some (.int x3), some (.int x4), some (.int (x5 + (nI 1))), some (.int v13)]) (st' := []) (sg := [(.iinc 5 1, nI 1)]) (by decide +kernel) rfl ?_
      refine Y.goto (off := -52) (tgt := 58) (by decide +kernel) (by decide) ?_
      refine Y.less (L' := [some (.ref x0), some (.int x1), some (.int x2), some (.int x3), some (.int x4), some (.int (x5 + (nI 1))), none]) (zLe_some (zLe_some (zLe_some (zLe_some (zLe_some (zLe_some (zLe_none (zLe_nil)))))))) ?_
      exact ih G27 x0 x1 x2 x3 x4 (x5 + (nI 1)) h
theorem k_X_replaceAll {l : Launch} {D : va_G} {B : Nat} {O : State → Heap → Prop} (hV : zG l D B O) (G : gH) (a0 : Nat) (a1 : Int32) (a2 : Int32) (a3 : Int32) : gMet (zVm l D B O) m_X_replaceAll 7 [.ref a0, .int a1, .int a2, .int a3] G (f_X_replaceAll G a0 a1 a2 a3) := by
  refine gMet.of (by decide +kernel) (Nat.le_of_ble_eq_true rfl) [some (.ref a0), some (.int a1), some (.int a2), some (.int a3), none, none, none] (fun ls h => zEn_ok (n := 7) h) ?_
  intro o Gf h
  unfold f_X_replaceAll at h
  refine Y.blk (pc' := 2) (L' := [some (.ref a0), some (.int a1), some (.int a2), some (.int a3), none, none, none]) (st' := [.int a1, .ref a0]) (sg := [(.aload_n 0, 0), (.iload_n 1, 0)]) (by decide +kernel) rfl ?_
  obtain ⟨o2, e1, h⟩ := gOb_inv h
  refine Y.callN (yC.Vi (b := a0) (As := [.int a1]) (st := []) (r := ("Partlister", T_X, 5)) hV.1 cb_X_needList lk_X_23 in_X_needList rfl se_X_needList (by decide +kernel) rfl rfl (Nat.le_of_ble_eq_true rfl) (by decide) e1) (k_X_needList hV G a0 a1) h (fun G3 _ h => ?_)
  refine Y.blk (pc' := 6) (L' := [some (.ref a0), some (.int a1), some (.int a2), some (.int a3), none, none, none]) (st' := [.int a2]) (sg := [(.iload_n 2, 0)]) (by decide +kernel) rfl ?_
  refine Y.if_lt (off := 9) (tgt := 15) (by decide +kernel) (by decide) h (fun c40 h => ?_) (fun c40 h => ?_)
  · exact Y.throwS (is := 90) (text := "times is not 0 to 30") (names := zNm) hV.1 (hV.2 _ _ _ (by decide +kernel)) (by decide +kernel) (by decide +kernel) ck_X_81 ini_IAE tw_X_85 tg_X_85 (by decide) (by decide) rfl (Nat.le_of_ble_eq_true rfl) (by decide +kernel) (by decide +kernel) (by decide +kernel) (by decide +kernel) (by decide +kernel) h
  · refine Y.blk (pc' := 12) (L' := [some (.ref a0), some (.int a1), some (.int a2), some (.int a3), none, none, none]) (st' := [.int (nI 31), .int a2]) (sg := [(.iload_n 2, 0), (.bipush 31, nI 31)]) (by decide +kernel) rfl ?_
    refine Y.ic_lt (off := 13) (tgt := 25) (by decide +kernel) (by decide) h (fun c39 h => ?_) (fun c39 h => ?_)
    · refine Y.blk (pc' := 26) (L' := [some (.ref a0), some (.int a1), some (.int a2), some (.int a3), none, none, none]) (st' := [.int a3]) (sg := [(.iload_n 3, 0)]) (by decide +kernel) rfl ?_
      refine Y.if_lt (off := 9) (tgt := 35) (by decide +kernel) (by decide) h (fun c38 h => ?_) (fun c38 h => ?_)
      · exact Y.throwS (is := 92) (text := "more is not 0 to 30") (names := zNm) hV.1 (hV.2 _ _ _ (by decide +kernel)) (by decide +kernel) (by decide +kernel) ck_X_81 ini_IAE tw_X_85 tg_X_85 (by decide) (by decide) rfl (Nat.le_of_ble_eq_true rfl) (by decide +kernel) (by decide +kernel) (by decide +kernel) (by decide +kernel) (by decide +kernel) h
      · refine Y.blk (pc' := 32) (L' := [some (.ref a0), some (.int a1), some (.int a2), some (.int a3), none, none, none]) (st' := [.int (nI 31), .int a3]) (sg := [(.iload_n 3, 0), (.bipush 31, nI 31)]) (by decide +kernel) rfl ?_
        refine Y.ic_lt (off := 13) (tgt := 45) (by decide +kernel) (by decide) h (fun c37 h => ?_) (fun c37 h => ?_)
        · refine Y.blk (pc' := 46) (L' := [some (.ref a0), some (.int a1), some (.int a2), some (.int a3), none, none, none]) (st' := [.ref a0]) (sg := [(.aload_n 0, 0)]) (by decide +kernel) rfl ?_
          refine Y.getA fl_X_10 (by decide +kernel) h (fun v4 h => ?_)
          refine Y.blk (pc' := 50) (L' := [some (.ref a0), some (.int a1), some (.int a2), some (.int a3), none, none, none]) (st' := [.int a1, .ref v4]) (sg := [(.iload_n 1, 0)]) (by decide +kernel) rfl ?_
          obtain ⟨o6, e5, h⟩ := gOb_inv h
          refine Y.callI (yC.Vi (b := v4) (As := [.int a1]) (st := []) (r := ("Partlister$Lists", T_I, 7)) hV.1 cb_I_lengthOf lk_X_34 in_I_lengthOf rfl se_I_lengthOf (by decide +kernel) rfl rfl (Nat.le_of_ble_eq_true rfl) (by decide) e5) (k_I_lengthOf hV G3 v4 a1) h (fun v8 G7 _ h => ?_)
          refine Y.blk (pc' := 58) (L' := [some (.ref a0), some (.int a1), some (.int a2), some (.int a3), some (.int v8), some (.int (nI 0)), none]) (st' := []) (sg := [(.istore 4, 0), (.iconst 0, nI 0), (.istore 5, 0)]) (by decide +kernel) rfl ?_
          refine k_X_replaceAll_L58 hV _ ?_  zFu G7 a0 a1 a2 a3 v8 (nI 0) h
          · intro G32 x29 x30 x31 h
            refine Y.blk (pc' := 115) (L' := [some (.ref x29), some (.int x30), none, none, some (.int x31), none, none]) (st' := [.int x30, .ref x29]) (sg := [(.aload_n 0, 0), (.iload_n 1, 0)]) (by decide +kernel) rfl ?_
            obtain ⟨o34, e33, h⟩ := gOb_inv h
            refine Y.callI (yC.Vi (b := x29) (As := [.int x30]) (st := []) (r := ("Partlister", T_X, 5)) hV.1 cb_X_endAround lk_X_103 in_X_endAround rfl se_X_endAround (by decide +kernel) rfl rfl (Nat.le_of_ble_eq_true rfl) (by decide) e33) (k_X_endAround hV G32 x29 x30) h (fun v36 G35 _ h => ?_)
            refine Y.blk (pc' := 121) (L' := [some (.ref x29), some (.int x30), none, none, some (.int x31), none, none]) (st' := [.int x31]) (sg := [(.pop, 0), (.iload 4, 0)]) (by decide +kernel) rfl ?_
            exact Y.iret rfl (by decide +kernel) h
        · exact Y.throwS (is := 92) (text := "more is not 0 to 30") (names := zNm) hV.1 (hV.2 _ _ _ (by decide +kernel)) (by decide +kernel) (by decide +kernel) ck_X_81 ini_IAE tw_X_85 tg_X_85 (by decide) (by decide) rfl (Nat.le_of_ble_eq_true rfl) (by decide +kernel) (by decide +kernel) (by decide +kernel) (by decide +kernel) (by decide +kernel) h
    · exact Y.throwS (is := 90) (text := "times is not 0 to 30") (names := zNm) hV.1 (hV.2 _ _ _ (by decide +kernel)) (by decide +kernel) (by decide +kernel) ck_X_81 ini_IAE tw_X_85 tg_X_85 (by decide) (by decide) rfl (Nat.le_of_ble_eq_true rfl) (by decide +kernel) (by decide +kernel) (by decide +kernel) (by decide +kernel) (by decide +kernel) h

def f_X_retainAll (G : gH) (a0 : Nat) (a1 : Int32) (a2 : Int32) : gR :=
  gOb G a0 3 fun o2 => bV (f_X_needList G a0 a1) fun G3 => gOb G3 a0 3 fun o5 => bV (f_X_needList G3 a0 a2) fun G6 => gOb G6 a0 3 fun o8 => bV (f_X_needOtherRow G6 a0 a1 a2) fun G9 => gFA G9 a0 3 0 fun v10 => gOb G9 v10 1 fun o12 => bI (f_I_keysOf G9 v10 a2) fun v14 G13 => gOb G13 a0 3 fun o16 => bI (f_X_takeOutAll G13 a0 a1 (v14 ^^^ (-1))) fun v18 G17 => rI v18 G17
theorem k_X_retainAll {l : Launch} {D : va_G} {B : Nat} {O : State → Heap → Prop} (hV : zG l D B O) (G : gH) (a0 : Nat) (a1 : Int32) (a2 : Int32) : gMet (zVm l D B O) m_X_retainAll 7 [.ref a0, .int a1, .int a2] G (f_X_retainAll G a0 a1 a2) := by
  refine gMet.of (by decide +kernel) (Nat.le_of_ble_eq_true rfl) [some (.ref a0), some (.int a1), some (.int a2)] (fun ls h => zEn_ok (n := 3) h) ?_
  intro o Gf h
  unfold f_X_retainAll at h
  refine Y.blk (pc' := 2) (L' := [some (.ref a0), some (.int a1), some (.int a2)]) (st' := [.int a1, .ref a0]) (sg := [(.aload_n 0, 0), (.iload_n 1, 0)]) (by decide +kernel) rfl ?_
  obtain ⟨o2, e1, h⟩ := gOb_inv h
  refine Y.callN (yC.Vi (b := a0) (As := [.int a1]) (st := []) (r := ("Partlister", T_X, 5)) hV.1 cb_X_needList lk_X_23 in_X_needList rfl se_X_needList (by decide +kernel) rfl rfl (Nat.le_of_ble_eq_true rfl) (by decide) e1) (k_X_needList hV G a0 a1) h (fun G3 _ h => ?_)
  refine Y.blk (pc' := 7) (L' := [some (.ref a0), some (.int a1), some (.int a2)]) (st' := [.int a2, .ref a0]) (sg := [(.aload_n 0, 0), (.iload_n 2, 0)]) (by decide +kernel) rfl ?_
  obtain ⟨o5, e4, h⟩ := gOb_inv h
  refine Y.callN (yC.Vi (b := a0) (As := [.int a2]) (st := []) (r := ("Partlister", T_X, 5)) hV.1 cb_X_needList lk_X_23 in_X_needList rfl se_X_needList (by decide +kernel) rfl rfl (Nat.le_of_ble_eq_true rfl) (by decide) e4) (k_X_needList hV G3 a0 a2) h (fun G6 _ h => ?_)
  refine Y.blk (pc' := 13) (L' := [some (.ref a0), some (.int a1), some (.int a2)]) (st' := [.int a2, .int a1, .ref a0]) (sg := [(.aload_n 0, 0), (.iload_n 1, 0), (.iload_n 2, 0)]) (by decide +kernel) rfl ?_
  obtain ⟨o8, e7, h⟩ := gOb_inv h
  refine Y.callN (yC.Vi (b := a0) (As := [.int a1, .int a2]) (st := []) (r := ("Partlister", T_X, 5)) hV.1 cb_X_needOtherRow lk_X_51 in_X_needOtherRow rfl se_X_needOtherRow (by decide +kernel) rfl rfl (Nat.le_of_ble_eq_true rfl) (by decide) e7) (k_X_needOtherRow hV G6 a0 a1 a2) h (fun G9 _ h => ?_)
  refine Y.blk (pc' := 19) (L' := [some (.ref a0), some (.int a1), some (.int a2)]) (st' := [.ref a0, .int a1, .ref a0]) (sg := [(.aload_n 0, 0), (.iload_n 1, 0), (.aload_n 0, 0)]) (by decide +kernel) rfl ?_
  refine Y.getA fl_X_10 (by decide +kernel) h (fun v10 h => ?_)
  refine Y.blk (pc' := 23) (L' := [some (.ref a0), some (.int a1), some (.int a2)]) (st' := [.int a2, .ref v10, .int a1, .ref a0]) (sg := [(.iload_n 2, 0)]) (by decide +kernel) rfl ?_
  obtain ⟨o12, e11, h⟩ := gOb_inv h
  refine Y.callI (yC.Vi (b := v10) (As := [.int a2]) (st := [.int a1, .ref a0]) (r := ("Partlister$Lists", T_I, 7)) hV.1 cb_I_keysOf lk_X_75 in_I_keysOf rfl se_I_keysOf (by decide +kernel) rfl rfl (Nat.le_of_ble_eq_true rfl) (by decide) e11) (k_I_keysOf hV G9 v10 a2) h (fun v14 G13 _ h => ?_)
  refine Y.blk (pc' := 28) (L' := [some (.ref a0), some (.int a1), some (.int a2)]) (st' := [.int (v14 ^^^ (-1)), .int a1, .ref a0]) (sg := [(.iconst (-1), -1), (.ixor, 0)]) (by decide +kernel) rfl ?_
  obtain ⟨o16, e15, h⟩ := gOb_inv h
  refine Y.callI (yC.Vi (b := a0) (As := [.int a1, .int (v14 ^^^ (-1))]) (st := []) (r := ("Partlister", T_X, 5)) hV.1 cb_X_takeOutAll lk_X_78 in_X_takeOutAll rfl se_X_takeOutAll (by decide +kernel) rfl rfl (Nat.le_of_ble_eq_true rfl) (by decide) e15) (k_X_takeOutAll hV G13 a0 a1 (v14 ^^^ (-1))) h (fun v18 G17 _ h => ?_)
  exact Y.iret rfl (by decide +kernel) h
