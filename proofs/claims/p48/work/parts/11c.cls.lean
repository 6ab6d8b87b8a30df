def f_X_endAround_L11 (K39 : gH → Int32 → gR) : Nat → gH → Nat → Int32 → Int32 → Int32 → gR
  | 0, _, _, _, _, _ => none
  | n + 1, G, x0, x1, x2, x3 =>
    if (nI 3) ≤ x3 then K39 G x2
    else gOb G x0 3 fun o7 => bI (f_X_isOnRowOf G x0 x3 x1) fun v9 G8 => if v9 = 0 then f_X_endAround_L11 K39 n G8 x0 x1 x2 (x3 + (nI 1))
      else gFA G8 x0 3 1 fun v10 => gOb G8 v10 0 fun o12 => bV (f_U_finish G8 v10 x3) fun G13 => f_X_endAround_L11 K39 n G13 x0 x1 x2 (x3 + (nI 1))
def f_X_endAround (G : gH) (a0 : Nat) (a1 : Int32) : gR :=
  gFA G a0 3 0 fun v1 => gOb G v1 1 fun o3 => bI (f_I_endOthers G v1 a1) fun v5 G4 => f_X_endAround_L11 (fun G17 x16 => rI x16 G17) zFu G4 a0 a1 v5 (nI 0)
theorem k_X_endAround_L11 {l : Launch} {D : va_G} {B : Nat} {O : State → Heap → Prop} (hV : zG l D B O) {o : gO} {Gf : gH} (K39 : gH → Int32 → gR) (hK39 : ∀ (G : gH) (x2 : Int32), K39 G x2 = some (o, Gf) → Y (zVm l D B O) m_X_endAround 5 o Gf 39 [none, none, some (.int x2), none] [] G) : ∀ (n : Nat) (G : gH) (x0 : Nat) (x1 : Int32) (x2 : Int32) (x3 : Int32), f_X_endAround_L11 K39 n G x0 x1 x2 x3 = some (o, Gf) → Y (zVm l D B O) m_X_endAround 5 o Gf 11 [some (.ref x0), some (.int x1), some (.int x2), some (.int x3)] [] G := by
  intro n
  induction n with
  | zero => intro G x0 x1 x2 x3 h; cases h
  | succ n ih =>
    intro G x0 x1 x2 x3 h
    unfold f_X_endAround_L11 at h
    refine Y.blk (pc' := 13) (L' := [some (.ref x0), some (.int x1), some (.int x2), some (.int x3)]) (st' := [.int (nI 3), .int x3]) (sg := [(.iload_n 3, 0), (.iconst 3, nI 3)]) (by decide +kernel) rfl ?_
    refine Y.ic_ge (off := 26) (tgt := 39) (by decide +kernel) (by decide) h (fun c15 h => ?_) (fun c15 h => ?_)
    · refine Y.less (L' := [none, none, some (.int x2), none]) (zLe_none (zLe_none (zLe_some (zLe_none (zLe_nil))))) ?_
      exact hK39 G x2 h
    · refine Y.blk (pc' := 19) (L' := [some (.ref x0), some (.int x1), some (.int x2), some (.int x3)]) (st' := [.int x1, .int x3, .ref x0]) (sg := [(.aload_n 0, 0), (.iload_n 3, 0), (.iload_n 1, 0)]) (by decide +kernel) rfl ?_
      obtain ⟨o7, e6, h⟩ := gOb_inv h
      refine Y.callI (yC.Vi (b := x0) (As := [.int x3, .int x1]) (st := []) (r := ("Partlister", T_X, 5)) hV.1 cb_X_isOnRowOf lk_X_293 in_X_isOnRowOf rfl se_X_isOnRowOf (by decide +kernel) rfl rfl (Nat.le_of_ble_eq_true rfl) (by decide) e6) (k_X_isOnRowOf hV G x0 x3 x1) h (fun v9 G8 _ h => ?_)
      refine Y.if_eq (off := 11) (tgt := 33) (by decide +kernel) (by decide) h (fun c14 h => ?_) (fun c14 h => ?_)
      · refine Y.blk (pc' := 36) (L' := [some (.ref x0), some (.int x1), some (.int x2), some (.int (x3 + (nI 1)))]) (st' := []) (sg := [(.iinc 3 1, nI 1)]) (by decide +kernel) rfl ?_
        refine Y.goto (off := -25) (tgt := 11) (by decide +kernel) (by decide) ?_
        exact ih G8 x0 x1 x2 (x3 + (nI 1)) h
      · refine Y.blk (pc' := 26) (L' := [some (.ref x0), some (.int x1), some (.int x2), some (.int x3)]) (st' := [.ref x0]) (sg := [(.aload_n 0, 0)]) (by decide +kernel) rfl ?_
        refine Y.getA fl_X_19 (by decide +kernel) h (fun v10 h => ?_)
        refine Y.blk (pc' := 30) (L' := [some (.ref x0), some (.int x1), some (.int x2), some (.int x3)]) (st' := [.int x3, .ref v10]) (sg := [(.iload_n 3, 0)]) (by decide +kernel) rfl ?_
        obtain ⟨o12, e11, h⟩ := gOb_inv h
        refine Y.callN (yC.Vi (b := v10) (As := [.int x3]) (st := []) (r := ("Partlister$Cursors", T_U, 5)) hV.1 cb_U_finish lk_X_156 in_U_finish rfl se_U_finish (by decide +kernel) rfl rfl (Nat.le_of_ble_eq_true rfl) (by decide) e11) (k_U_finish hV G8 v10 x3) h (fun G13 _ h => ?_)
        refine Y.blk (pc' := 36) (L' := [some (.ref x0), some (.int x1), some (.int x2), some (.int (x3 + (nI 1)))]) (st' := []) (sg := [(.iinc 3 1, nI 1)]) (by decide +kernel) rfl ?_
        refine Y.goto (off := -25) (tgt := 11) (by decide +kernel) (by decide) ?_
        exact ih G13 x0 x1 x2 (x3 + (nI 1)) h
theorem k_X_endAround {l : Launch} {D : va_G} {B : Nat} {O : State → Heap → Prop} (hV : zG l D B O) (G : gH) (a0 : Nat) (a1 : Int32) : gMet (zVm l D B O) m_X_endAround 5 [.ref a0, .int a1] G (f_X_endAround G a0 a1) := by
  refine gMet.of (by decide +kernel) (Nat.le_of_ble_eq_true rfl) [some (.ref a0), some (.int a1), none, none] (fun ls h => zEn_ok (n := 4) h) ?_
  intro o Gf h
  unfold f_X_endAround at h
  refine Y.blk (pc' := 1) (L' := [some (.ref a0), some (.int a1), none, none]) (st' := [.ref a0]) (sg := [(.aload_n 0, 0)]) (by decide +kernel) rfl ?_
  refine Y.getA fl_X_10 (by decide +kernel) h (fun v1 h => ?_)
  refine Y.blk (pc' := 5) (L' := [some (.ref a0), some (.int a1), none, none]) (st' := [.int a1, .ref v1]) (sg := [(.iload_n 1, 0)]) (by decide +kernel) rfl ?_
  obtain ⟨o3, e2, h⟩ := gOb_inv h
  refine Y.callI (yC.Vi (b := v1) (As := [.int a1]) (st := []) (r := ("Partlister$Lists", T_I, 7)) hV.1 cb_I_endOthers lk_X_290 in_I_endOthers rfl se_I_endOthers (by decide +kernel) rfl rfl (Nat.le_of_ble_eq_true rfl) (by decide) e2) (k_I_endOthers hV G v1 a1) h (fun v5 G4 _ h => ?_)
  refine Y.blk (pc' := 11) (L' := [some (.ref a0), some (.int a1), some (.int v5), some (.int (nI 0))]) (st' := []) (sg := [(.istore_n 2, 0), (.iconst 0, nI 0), (.istore_n 3, 0)]) (by decide +kernel) rfl ?_
  refine k_X_endAround_L11 hV _ ?_  zFu G4 a0 a1 v5 (nI 0) h
  · intro G17 x16 h
    refine Y.blk (pc' := 40) (L' := [none, none, some (.int x16), none]) (st' := [.int x16]) (sg := [(.iload_n 2, 0)]) (by decide +kernel) rfl ?_
    exact Y.iret rfl (by decide +kernel) h

def f_X_needRow (G : gH) (a0 : Nat) (a1 : Int32) : gR :=
  if a1 < 0 then gThrow "java/lang/IndexOutOfBoundsException" G
  else if a1 < (nI 2) then rV G
    else gThrow "java/lang/IndexOutOfBoundsException" G
theorem k_X_needRow {l : Launch} {D : va_G} {B : Nat} {O : State → Heap → Prop} (hV : zG l D B O) (G : gH) (a0 : Nat) (a1 : Int32) : gMet (zVm l D B O) m_X_needRow 6 [.ref a0, .int a1] G (f_X_needRow G a0 a1) := by
  refine gMet.of (by decide +kernel) (Nat.le_of_ble_eq_true rfl) [some (.ref a0), some (.int a1)] (fun ls h => zEn_ok (n := 2) h) ?_
  intro o Gf h
  unfold f_X_needRow at h
  refine Y.blk (pc' := 1) (L' := [some (.ref a0), some (.int a1)]) (st' := [.int a1]) (sg := [(.iload_n 1, 0)]) (by decide +kernel) rfl ?_
  refine Y.if_lt (off := 8) (tgt := 9) (by decide +kernel) (by decide) h (fun c2 h => ?_) (fun c2 h => ?_)
  · exact Y.throwSW (is := 331) (text := "row is not 0 or 1") (names := zNm) hV.1 (hV.2 _ _ _ (by decide +kernel)) (by decide +kernel) (by decide +kernel) ck_X_125 ini_IOE tw_X_129 tg_X_129 (by decide) (by decide) rfl (Nat.le_of_ble_eq_true rfl) (by decide +kernel) (by decide +kernel) (by decide +kernel) (by decide +kernel) (by decide +kernel) h
  · refine Y.blk (pc' := 6) (L' := [some (.ref a0), some (.int a1)]) (st' := [.int (nI 2), .int a1]) (sg := [(.iload_n 1, 0), (.iconst 2, nI 2)]) (by decide +kernel) rfl ?_
    refine Y.ic_lt (off := 14) (tgt := 20) (by decide +kernel) (by decide) h (fun c1 h => ?_) (fun c1 h => ?_)
    · exact Y.vret rfl (by decide +kernel) h
    · exact Y.throwSW (is := 331) (text := "row is not 0 or 1") (names := zNm) hV.1 (hV.2 _ _ _ (by decide +kernel)) (by decide +kernel) (by decide +kernel) ck_X_125 ini_IOE tw_X_129 tg_X_129 (by decide) (by decide) rfl (Nat.le_of_ble_eq_true rfl) (by decide +kernel) (by decide +kernel) (by decide +kernel) (by decide +kernel) (by decide +kernel) h

def f_I_copyToRow_L9 (K35 : gH → Nat → Int32 → Int32 → gR) : Nat → gH → Nat → Int32 → Int32 → Int32 → Int32 → gR
  | 0, _, _, _, _, _, _ => none
  | n + 1, G, x0, x1, x2, x3, x4 =>
    if x3 ≤ x4 then K35 G x0 x1 x3
    else gOb G x0 1 fun o6 => bI (f_I_thingAt G x0 x2 x4) fun v8 G7 => gOb G7 x0 1 fun o10 => bV (f_I_write G7 x0 x1 x4 v8) fun G11 => f_I_copyToRow_L9 K35 n G11 x0 x1 x2 x3 (x4 + (nI 1))
def f_I_copyToRow (G : gH) (a0 : Nat) (a1 : Int32) (a2 : Int32) : gR :=
  gOb G a0 1 fun o2 => bI (f_I_lengthOf G a0 a2) fun v4 G3 => f_I_copyToRow_L9 (fun G16 x13 x14 x15 => gFA G16 x13 1 1 fun v17 => gOb G16 v17 2 fun o19 => bV (f_N_write G16 v17 x14 x15) fun G20 => rV G20) zFu G3 a0 a1 a2 v4 (nI 0)
theorem k_I_copyToRow_L9 {l : Launch} {D : va_G} {B : Nat} {O : State → Heap → Prop} (hV : zG l D B O) {o : gO} {Gf : gH} (K35 : gH → Nat → Int32 → Int32 → gR) (hK35 : ∀ (G : gH) (x0 : Nat) (x1 : Int32) (x3 : Int32), K35 G x0 x1 x3 = some (o, Gf) → Y (zVm l D B O) m_I_copyToRow 4 o Gf 35 [some (.ref x0), some (.int x1), none, some (.int x3), none] [] G) : ∀ (n : Nat) (G : gH) (x0 : Nat) (x1 : Int32) (x2 : Int32) (x3 : Int32) (x4 : Int32), f_I_copyToRow_L9 K35 n G x0 x1 x2 x3 x4 = some (o, Gf) → Y (zVm l D B O) m_I_copyToRow 4 o Gf 9 [some (.ref x0), some (.int x1), some (.int x2), some (.int x3), some (.int x4)] [] G := by
  intro n
  induction n with
  | zero => intro G x0 x1 x2 x3 x4 h; cases h
  | succ n ih =>
    intro G x0 x1 x2 x3 x4 h
    unfold f_I_copyToRow_L9 at h
    refine Y.blk (pc' := 12) (L' := [some (.ref x0), some (.int x1), some (.int x2), some (.int x3), some (.int x4)]) (st' := [.int x3, .int x4]) (sg := [(.iload 4, 0), (.iload_n 3, 0)]) (by decide +kernel) rfl ?_
    refine Y.ic_ge (off := 23) (tgt := 35) (by decide +kernel) (by decide) h (fun c12 h => ?_) (fun c12 h => ?_)
    · refine Y.less (L' := [some (.ref x0), some (.int x1), none, some (.int x3), none]) (zLe_some (zLe_some (zLe_none (zLe_some (zLe_none (zLe_nil)))))) ?_
      exact hK35 G x0 x1 x3 h
    · refine Y.blk (pc' := 23) (L' := [some (.ref x0), some (.int x1), some (.int x2), some (.int x3), some (.int x4)]) (st' := [.int x4, .int x2, .ref x0, .int x4, .int x1, .ref x0]) (sg := [(.aload_n 0, 0), (.iload_n 1, 0), (.iload 4, 0), (.aload_n 0, 0), (.iload_n 2, 0), (.iload 4, 0)]) (by decide +kernel) rfl ?_
      obtain ⟨o6, e5, h⟩ := gOb_inv h
      refine Y.callI (yC.Vi (b := x0) (As := [.int x2, .int x4]) (st := [.int x4, .int x1, .ref x0]) (r := ("Partlister$Lists", T_I, 7)) hV.1 cb_I_thingAt lk_I_50 in_I_thingAt rfl se_I_thingAt (by decide +kernel) rfl rfl (Nat.le_of_ble_eq_true rfl) (by decide) e5) (k_I_thingAt hV G x0 x2 x4) h (fun v8 G7 _ h => ?_)
      obtain ⟨o10, e9, h⟩ := gOb_inv h
      refine Y.callN (yC.Vi (b := x0) (As := [.int x1, .int x4, .int v8]) (st := []) (r := ("Partlister$Lists", T_I, 7)) hV.1 cb_I_write lk_I_53 in_I_write rfl se_I_write (by decide +kernel) rfl rfl (Nat.le_of_ble_eq_true rfl) (by decide) e9) (k_I_write hV G7 x0 x1 x4 v8) h (fun G11 _ h => ?_)
      refine Y.blk (pc' := 32) (L' := [some (.ref x0), some (.int x1), some (.int x2), some (.int x3), some (.int (x4 + (nI 1)))]) (st' := []) (sg := [(.iinc 4 1, nI 1)]) (by decide +kernel) rfl ?_
      refine Y.goto (off := -23) (tgt := 9) (by decide +kernel) (by decide) ?_
      exact ih G11 x0 x1 x2 x3 (x4 + (nI 1)) h
theorem k_I_copyToRow {l : Launch} {D : va_G} {B : Nat} {O : State → Heap → Prop} (hV : zG l D B O) (G : gH) (a0 : Nat) (a1 : Int32) (a2 : Int32) : gMet (zVm l D B O) m_I_copyToRow 4 [.ref a0, .int a1, .int a2] G (f_I_copyToRow G a0 a1 a2) := by
  refine gMet.of (by decide +kernel) (Nat.le_of_ble_eq_true rfl) [some (.ref a0), some (.int a1), some (.int a2), none, none] (fun ls h => zEn_ok (n := 5) h) ?_
  intro o Gf h
  unfold f_I_copyToRow at h
  refine Y.blk (pc' := 2) (L' := [some (.ref a0), some (.int a1), some (.int a2), none, none]) (st' := [.int a2, .ref a0]) (sg := [(.aload_n 0, 0), (.iload_n 2, 0)]) (by decide +kernel) rfl ?_
  obtain ⟨o2, e1, h⟩ := gOb_inv h
  refine Y.callI (yC.Vi (b := a0) (As := [.int a2]) (st := []) (r := ("Partlister$Lists", T_I, 7)) hV.1 cb_I_lengthOf lk_I_59 in_I_lengthOf rfl se_I_lengthOf (by decide +kernel) rfl rfl (Nat.le_of_ble_eq_true rfl) (by decide) e1) (k_I_lengthOf hV G a0 a2) h (fun v4 G3 _ h => ?_)
  refine Y.blk (pc' := 9) (L' := [some (.ref a0), some (.int a1), some (.int a2), some (.int v4), some (.int (nI 0))]) (st' := []) (sg := [(.istore_n 3, 0), (.iconst 0, nI 0), (.istore 4, 0)]) (by decide +kernel) rfl ?_
  refine k_I_copyToRow_L9 hV _ ?_  zFu G3 a0 a1 a2 v4 (nI 0) h
  · intro G16 x13 x14 x15 h
    refine Y.blk (pc' := 36) (L' := [some (.ref x13), some (.int x14), none, some (.int x15), none]) (st' := [.ref x13]) (sg := [(.aload_n 0, 0)]) (by decide +kernel) rfl ?_
    refine Y.getA fl_I_20 (by decide +kernel) h (fun v17 h => ?_)
    refine Y.blk (pc' := 41) (L' := [some (.ref x13), some (.int x14), none, some (.int x15), none]) (st' := [.int x15, .int x14, .ref v17]) (sg := [(.iload_n 1, 0), (.iload_n 3, 0)]) (by decide +kernel) rfl ?_
    obtain ⟨o19, e18, h⟩ := gOb_inv h
    refine Y.callN (yC.Vi (b := v17) (As := [.int x14, .int x15]) (st := []) (r := ("Partlister$Numbers", T_N, 1)) hV.1 cb_N_write lk_I_35 in_N_write rfl se_N_write (by decide +kernel) rfl rfl (Nat.le_of_ble_eq_true rfl) (by decide) e18) (k_N_write hV G16 v17 x14 x15) h (fun G20 _ h => ?_)
    exact Y.vret rfl (by decide +kernel) h

def f_X_assign (G : gH) (a0 : Nat) (a1 : Int32) (a2 : Int32) : gR :=
  gOb G a0 3 fun o2 => bV (f_X_needRow G a0 a1) fun G3 => gOb G3 a0 3 fun o5 => bV (f_X_needList G3 a0 a2) fun G6 => gFA G6 a0 3 0 fun v7 => gOb G6 v7 1 fun o9 => bI (f_I_lengthOf G6 v7 a1) fun v11 G10 => gFA G10 a0 3 0 fun v12 => gOb G10 v12 1 fun o14 => bV (f_I_copyToRow G10 v12 a1 a2) fun G15 => gOb G15 a0 3 fun o17 => bI (f_X_endAround G15 a0 a1) fun v19 G18 => rI v11 G18
theorem k_X_assign {l : Launch} {D : va_G} {B : Nat} {O : State → Heap → Prop} (hV : zG l D B O) (G : gH) (a0 : Nat) (a1 : Int32) (a2 : Int32) : gMet (zVm l D B O) m_X_assign 7 [.ref a0, .int a1, .int a2] G (f_X_assign G a0 a1 a2) := by
  refine gMet.of (by decide +kernel) (Nat.le_of_ble_eq_true rfl) [some (.ref a0), some (.int a1), some (.int a2), none] (fun ls h => zEn_ok (n := 4) h) ?_
  intro o Gf h
  unfold f_X_assign at h
  refine Y.blk (pc' := 2) (L' := [some (.ref a0), some (.int a1), some (.int a2), none]) (st' := [.int a1, .ref a0]) (sg := [(.aload_n 0, 0), (.iload_n 1, 0)]) (by decide +kernel) rfl ?_
  obtain ⟨o2, e1, h⟩ := gOb_inv h
  refine Y.callN (yC.Vi (b := a0) (As := [.int a1]) (st := []) (r := ("Partlister", T_X, 5)) hV.1 cb_X_needRow lk_X_106 in_X_needRow rfl se_X_needRow (by decide +kernel) rfl rfl (Nat.le_of_ble_eq_true rfl) (by decide) e1) (k_X_needRow hV G a0 a1) h (fun G3 _ h => ?_)
  refine Y.blk (pc' := 7) (L' := [some (.ref a0), some (.int a1), some (.int a2), none]) (st' := [.int a2, .ref a0]) (sg := [(.aload_n 0, 0), (.iload_n 2, 0)]) (by decide +kernel) rfl ?_
  obtain ⟨o5, e4, h⟩ := gOb_inv h
  refine Y.callN (yC.Vi (b := a0) (As := [.int a2]) (st := []) (r := ("Partlister", T_X, 5)) hV.1 cb_X_needList lk_X_23 in_X_needList rfl se_X_needList (by decide +kernel) rfl rfl (Nat.le_of_ble_eq_true rfl) (by decide) e4) (k_X_needList hV G3 a0 a2) h (fun G6 _ h => ?_)
  refine Y.blk (pc' := 11) (L' := [some (.ref a0), some (.int a1), some (.int a2), none]) (st' := [.ref a0]) (sg := [(.aload_n 0, 0)]) (by decide +kernel) rfl ?_
  refine Y.getA fl_X_10 (by decide +kernel) h (fun v7 h => ?_)
  refine Y.blk (pc' := 15) (L' := [some (.ref a0), some (.int a1), some (.int a2), none]) (st' := [.int a1, .ref v7]) (sg := [(.iload_n 1, 0)]) (by decide +kernel) rfl ?_
  obtain ⟨o9, e8, h⟩ := gOb_inv h
  refine Y.callI (yC.Vi (b := v7) (As := [.int a1]) (st := []) (r := ("Partlister$Lists", T_I, 7)) hV.1 cb_I_lengthOf lk_X_34 in_I_lengthOf rfl se_I_lengthOf (by decide +kernel) rfl rfl (Nat.le_of_ble_eq_true rfl) (by decide) e8) (k_I_lengthOf hV G6 v7 a1) h (fun v11 G10 _ h => ?_)
  refine Y.blk (pc' := 20) (L' := [some (.ref a0), some (.int a1), some (.int a2), some (.int v11)]) (st' := [.ref a0]) (sg := [(.istore_n 3, 0), (.aload_n 0, 0)]) (by decide +kernel) rfl ?_
  refine Y.getA fl_X_10 (by decide +kernel) h (fun v12 h => ?_)
  refine Y.blk (pc' := 25) (L' := [some (.ref a0), some (.int a1), some (.int a2), some (.int v11)]) (st' := [.int a2, .int a1, .ref v12]) (sg := [(.iload_n 1, 0), (.iload_n 2, 0)]) (by decide +kernel) rfl ?_
  obtain ⟨o14, e13, h⟩ := gOb_inv h
  refine Y.callN (yC.Vi (b := v12) (As := [.int a1, .int a2]) (st := []) (r := ("Partlister$Lists", T_I, 7)) hV.1 cb_I_copyToRow lk_X_109 in_I_copyToRow rfl se_I_copyToRow (by decide +kernel) rfl rfl (Nat.le_of_ble_eq_true rfl) (by decide) e13) (k_I_copyToRow hV G10 v12 a1 a2) h (fun G15 _ h => ?_)
  refine Y.blk (pc' := 30) (L' := [some (.ref a0), some (.int a1), some (.int a2), some (.int v11)]) (st' := [.int a1, .ref a0]) (sg := [(.aload_n 0, 0), (.iload_n 1, 0)]) (by decide +kernel) rfl ?_
  obtain ⟨o17, e16, h⟩ := gOb_inv h
  refine Y.callI (yC.Vi (b := a0) (As := [.int a1]) (st := []) (r := ("Partlister", T_X, 5)) hV.1 cb_X_endAround lk_X_103 in_X_endAround rfl se_X_endAround (by decide +kernel) rfl rfl (Nat.le_of_ble_eq_true rfl) (by decide) e16) (k_X_endAround hV G15 a0 a1) h (fun v19 G18 _ h => ?_)
  refine Y.blk (pc' := 35) (L' := [some (.ref a0), some (.int a1), some (.int a2), some (.int v11)]) (st' := [.int v11]) (sg := [(.pop, 0), (.iload_n 3, 0)]) (by decide +kernel) rfl ?_
  exact Y.iret rfl (by decide +kernel) h

def f_I_sweepOut_L41 (K107 : gH → Nat → Int32 → Int32 → Int32 → gR) : Nat → gH → Nat → Int32 → Int32 → Int32 → Int32 → Int32 → Int32 → Int32 → gR
  | 0, _, _, _, _, _, _, _, _, _ => none
  | n + 1, G, x0, x1, x2, x3, x5, x6, x7, x8 =>
    if x6 ≤ x8 then K107 G x0 x1 x6 x7
    else gOb G x0 1 fun o19 => bI (f_I_thingAt G x0 x3 x8) fun v21 G20 => if x5 ≤ x8 then (if (nI 0) = 0 then gOb G20 x0 1 fun o23 => bV (f_I_write G20 x0 x3 x7 v21) fun G24 => f_I_sweepOut_L41 K107 n G24 x0 x1 x2 x3 x5 x6 (x7 + (nI 1)) (x8 + (nI 1))
        else f_I_sweepOut_L41 K107 n G20 x0 x1 x2 x3 x5 x6 x7 (x8 + (nI 1)))
      else bI (f_X_keyOf G20 v21) fun v28 G27 => if ((x2 >>> (v28 &&& 31)) &&& (nI 1)) = (nI 1) then (if (nI 1) = 0 then gOb G27 x0 1 fun o30 => bV (f_I_write G27 x0 x3 x7 v21) fun G31 => f_I_sweepOut_L41 K107 n G31 x0 x1 x2 x3 x5 x6 (x7 + (nI 1)) (x8 + (nI 1))
          else f_I_sweepOut_L41 K107 n G27 x0 x1 x2 x3 x5 x6 x7 (x8 + (nI 1)))
        else if (nI 0) = 0 then gOb G27 x0 1 fun o34 => bV (f_I_write G27 x0 x3 x7 v21) fun G35 => f_I_sweepOut_L41 K107 n G35 x0 x1 x2 x3 x5 x6 (x7 + (nI 1)) (x8 + (nI 1))
          else f_I_sweepOut_L41 K107 n G27 x0 x1 x2 x3 x5 x6 x7 (x8 + (nI 1))
def f_I_sweepOut (G : gH) (a0 : Nat) (a1 : Int32) (a2 : Int32) : gR :=
  gOb G a0 1 fun o2 => bI (f_I_rowOf G a0 a1) fun v4 G3 => gFA G3 a0 1 4 fun v5 => gOb G3 v5 2 fun o7 => bI (f_N_read G3 v5 a1) fun v9 G8 => gOb G8 a0 1 fun o11 => bI (f_I_lengthOf G8 a0 a1) fun v13 G12 => gOb G12 a0 1 fun o15 => bI (f_I_lengthOf G12 a0 v4) fun v17 G16 => f_I_sweepOut_L41 (fun G44 x40 x41 x42 x43 => gOb G44 x40 1 fun o46 => bV (f_I_lengthen G44 x40 x41 (x43 - x42)) fun G47 => rI (x42 - x43) G47) zFu G16 a0 a1 a2 v4 (v9 + v13) v17 v9 v9
theorem k_I_sweepOut_L41 {l : Launch} {D : va_G} {B : Nat} {O : State → Heap → Prop} (hV : zG l D B O) {o : gO} {Gf : gH} (K107 : gH → Nat → Int32 → Int32 → Int32 → gR) (hK107 : ∀ (G : gH) (x0 : Nat) (x1 : Int32) (x6 : Int32) (x7 : Int32), K107 G x0 x1 x6 x7 = some (o, Gf) → Y (zVm l D B O) m_I_sweepOut 4 o Gf 107 [some (.ref x0), some (.int x1), none, none, none, none, some (.int x6), some (.int x7), none, none, none] [] G) : ∀ (n : Nat) (G : gH) (x0 : Nat) (x1 : Int32) (x2 : Int32) (x3 : Int32) (x5 : Int32) (x6 : Int32) (x7 : Int32) (x8 : Int32), f_I_sweepOut_L41 K107 n G x0 x1 x2 x3 x5 x6 x7 x8 = some (o, Gf) → Y (zVm l D B O) m_I_sweepOut 4 o Gf 41 [some (.ref x0), some (.int x1), some (.int x2), some (.int x3), none, some (.int x5), some (.int x6), some (.int x7), some (.int x8), none, none] [] G := by
  intro n
  induction n with
  | zero => intro G x0 x1 x2 x3 x5 x6 x7 x8 h; cases h
  | succ n ih =>
    intro G x0 x1 x2 x3 x5 x6 x7 x8 h
    unfold f_I_sweepOut_L41 at h
    refine Y.blk (pc' := 45) (L' := [some (.ref x0), some (.int x1), some (.int x2), some (.int x3), none, some (.int x5), some (.int x6), some (.int x7), some (.int x8), none, none]) (st' := [.int x6, .int x8]) (sg := [(.iload 8, 0), (.iload 6, 0)]) (by decide +kernel) rfl ?_
    refine Y.ic_ge (off := 62) (tgt := 107) (by decide +kernel) (by decide) h (fun c39 h => ?_) (fun c39 h => ?_)
    · refine Y.less (L' := [some (.ref x0), some (.int x1), none, none, none, none, some (.int x6), some (.int x7), none, none, none]) (zLe_some (zLe_some (zLe_none (zLe_none (zLe_some (zLe_none (zLe_some (zLe_some (zLe_none (zLe_some (zLe_some (zLe_nil)))))))))))) ?_
      exact hK107 G x0 x1 x6 x7 h
    · refine Y.blk (pc' := 52) (L' := [some (.ref x0), some (.int x1), some (.int x2), some (.int x3), none, some (.int x5), some (.int x6), some (.int x7), some (.int x8), none, none]) (st' := [.int x8, .int x3, .ref x0]) (sg := [(.aload_n 0, 0), (.iload_n 3, 0), (.iload 8, 0)]) (by decide +kernel) rfl ?_
      obtain ⟨o19, e18, h⟩ := gOb_inv h
      refine Y.callI (yC.Vi (b := x0) (As := [.int x3, .int x8]) (st := []) (r := ("Partlister$Lists", T_I, 7)) hV.1 cb_I_thingAt lk_I_50 in_I_thingAt rfl se_I_thingAt (by decide +kernel) rfl rfl (Nat.le_of_ble_eq_true rfl) (by decide) e18) (k_I_thingAt hV G x0 x3 x8) h (fun v21 G20 _ h => ?_)
      refine Y.blk (pc' := 61) (L' := [some (.ref x0), some (.int x1), some (.int x2), some (.int x3), none, some (.int x5), some (.int x6), some (.int x7), some (.int x8), some (.int v21), none]) (st' := [.int x5, .int x8]) (sg := [(.istore 9, 0), (.iload 8, 0), (.iload 5, 0)]) (by decide +kernel) rfl ?_
      refine Y.ic_ge (off := 20) (tgt := 81) (by decide +kernel) (by decide) h (fun c38 h => ?_) (fun c38 h => ?_)
      · refine Y.blk (pc' := 86) (L' := [some (.ref x0), some (.int x1), some (.int x2), some (.int x3), none, some (.int x5), some (.int x6), some (.int x7), some (.int x8), some (.int v21), some (.int (nI 0))]) (st' := [.int (nI 0)]) (sg := [(.iconst 0, nI 0), (.istore 10, 0), (.iload 10, 0)]) (by decide +kernel) rfl ?_
        refine Y.if_ne (off := 15) (tgt := 101) (by decide +kernel) (by decide) h (fun c25 h => ?_) (fun c25 h => ?_)
        · refine Y.blk (pc' := 95) (L' := [some (.ref x0), some (.int x1), some (.int x2), some (.int x3), none, some (.int x5), some (.int x6), some (.int x7), some (.int x8), some (.int v21), some (.int (nI 0))]) (st' := [.int v21, .int x7, .int x3, .ref x0]) (sg := [(.aload_n 0, 0), (.iload_n 3, 0), (.iload 7, 0), (.iload 9, 0)]) (by decide +kernel) rfl ?_
          obtain ⟨o23, e22, h⟩ := gOb_inv h
          refine Y.callN (yC.Vi (b := x0) (As := [.int x3, .int x7, .int v21]) (st := []) (r := ("Partlister$Lists", T_I, 7)) hV.1 cb_I_write lk_I_53 in_I_write rfl se_I_write (by decide +kernel) rfl rfl (Nat.le_of_ble_eq_true rfl) (by decide) e22) (k_I_write hV G20 x0 x3 x7 v21) h (fun G24 _ h => ?_)
          refine Y.blk (pc' := 104) (L' := [some (.ref x0), some (.int x1), some (.int x2), some (.int x3), none, some (.int x5), some (.int x6), some (.int (x7 + (nI 1))), some (.int (x8 + (nI 1))), some (.int v21), some (.int (nI 0))]) (st' := []) (sg := [(.iinc 7 1, nI 1), (.iinc 8 1, nI 1)]) (by decide +kernel) rfl ?_
          refine Y.goto (off := -63) (tgt := 41) (by decide +kernel) (by decide) ?_
          refine Y.less (L' := [some (.ref x0), some (.int x1), some (.int x2), some (.int x3), none, some (.int x5), some (.int x6), some (.int (x7 + (nI 1))), some (.int (x8 + (nI 1))), none, none]) (zLe_some (zLe_some (zLe_some (zLe_some (zLe_some (zLe_some (zLe_some (zLe_some (zLe_some (zLe_none (zLe_none (zLe_nil)))))))))))) ?_
          exact ih G24 x0 x1 x2 x3 x5 x6 (x7 + (nI 1)) (x8 + (nI 1)) h
        · refine Y.blk (pc' := 104) (L' := [some (.ref x0), some (.int x1), some (.int x2), some (.int x3), none, some (.int x5), some (.int x6), some (.int x7), some (.int (x8 + (nI 1))), some (.int v21), some (.int (nI 0))]) (st' := []) (sg := [(.iinc 8 1, nI 1)]) (by decide +kernel) rfl ?_
          refine Y.goto (off := -63) (tgt := 41) (by decide +kernel) (by decide) ?_
          refine Y.less (L' := [some (.ref x0), some (.int x1), some (.int x2), some (.int x3), none, some (.int x5), some (.int x6), some (.int x7), some (.int (x8 + (nI 1))), none, none]) (zLe_some (zLe_some (zLe_some (zLe_some (zLe_some (zLe_some (zLe_some (zLe_some (zLe_some (zLe_none (zLe_none (zLe_nil)))))))))))) ?_
          exact ih G20 x0 x1 x2 x3 x5 x6 x7 (x8 + (nI 1)) h
      · refine Y.blk (pc' := 67) (L' := [some (.ref x0), some (.int x1), some (.int x2), some (.int x3), none, some (.int x5), some (.int x6), some (.int x7), some (.int x8), some (.int v21), none]) (st' := [.int v21, .int x2]) (sg := [(.iload_n 2, 0), (.iload 9, 0)]) (by decide +kernel) rfl ?_
        refine Y.callI (yC.SN (As := [.int v21]) (st := [.int x2]) hV.1 cb_X_keyOf lk_I_47 st_X_keyOf (by decide +kernel) rfl rfl (Nat.le_of_ble_eq_true rfl) (by decide)) (k_X_keyOf hV G20 v21) h (fun v28 G27 _ h => ?_)
        refine Y.blk (pc' := 74) (L' := [some (.ref x0), some (.int x1), some (.int x2), some (.int x3), none, some (.int x5), some (.int x6), some (.int x7), some (.int x8), some (.int v21), none]) (st' := [.int (nI 1), .int ((x2 >>> (v28 &&& 31)) &&& (nI 1))]) (sg := [(.ishr, 0), (.iconst 1, nI 1), (.iand, 0), (.iconst 1, nI 1)]) (by decide +kernel) rfl ?_
        refine Y.ic_ne (off := 7) (tgt := 81) (by decide +kernel) (by decide) h (fun c37 h => ?_) (fun c37 h => ?_)
        · refine Y.blk (pc' := 78) (L' := [some (.ref x0), some (.int x1), some (.int x2), some (.int x3), none, some (.int x5), some (.int x6), some (.int x7), some (.int x8), some (.int v21), none]) (st' := [.int (nI 1)]) (sg := [(.iconst 1, nI 1)]) (by decide +kernel) rfl ?_
          refine Y.goto (off := 4) (tgt := 82) (by decide +kernel) (by decide) ?_
          refine Y.blk (pc' := 86) (L' := [some (.ref x0), some (.int x1), some (.int x2), some (.int x3), none, some (.int x5), some (.int x6), some (.int x7), some (.int x8), some (.int v21), some (.int (nI 1))]) (st' := [.int (nI 1)]) (sg := [(.istore 10, 0), (.iload 10, 0)]) (by decide +kernel) rfl ?_
          refine Y.if_ne (off := 15) (tgt := 101) (by decide +kernel) (by decide) h (fun c32 h => ?_) (fun c32 h => ?_)
          · refine Y.blk (pc' := 95) (L' := [some (.ref x0), some (.int x1), some (.int x2), some (.int x3), none, some (.int x5), some (.int x6), some (.int x7), some (.int x8), some (.int v21), some (.int (nI 1))]) (st' := [.int v21, .int x7, .int x3, .ref x0]) (sg := [(.aload_n 0, 0), (.iload_n 3, 0), (.iload 7, 0), (.iload 9, 0)]) (by decide +kernel) rfl ?_
            obtain ⟨o30, e29, h⟩ := gOb_inv h
            refine Y.callN (yC.Vi (b := x0) (As := [.int x3, .int x7, .int v21]) (st := []) (r := ("Partlister$Lists", T_I, 7)) hV.1 cb_I_write lk_I_53 in_I_write rfl se_I_write (by decide +kernel) rfl rfl (Nat.le_of_ble_eq_true rfl) (by decide) e29) (k_I_write hV G27 x0 x3 x7 v21) h (fun G31 _ h => ?_)
            refine Y.blk (pc' := 104) (L' := [some (.ref x0), some (.int x1), some (.int x2), some (.int x3), none, some (.int x5), some (.int x6), some (.int (x7 + (nI 1))), some (.int (x8 + (nI 1))), some (.int v21), some (.int (nI 1))]) (st' := []) (sg := [(.iinc 7 1, nI 1), (.iinc 8 1, nI 1)]) (by decide +kernel) rfl ?_
            refine Y.goto (off := -63) (tgt := 41) (by decide +kernel) (by decide) ?_
            refine Y.less (L' := [some (.ref x0), some (.int x1), some (.int x2), some (.int x3), none, some (.int x5), some (.int x6), some (.int (x7 + (nI 1))), some (.int (x8 + (nI 1))), none, none]) (zLe_some (zLe_some (zLe_some (zLe_some (zLe_some (zLe_some (zLe_some (zLe_some (zLe_some (zLe_none (zLe_none (zLe_nil)))))))))))) ?_
            exact ih G31 x0 x1 x2 x3 x5 x6 (x7 + (nI 1)) (x8 + (nI 1)) h
          · refine Y.blk (pc' := 104) (L' := [some (.ref x0), some (.int x1), some (.int x2), some (.int x3), none, some (.int x5), some (.int x6), some (.int x7), some (.int (x8 + (nI 1))), some (.int v21), some (.int (nI 1))]) (st' := []) (sg := [(.iinc 8 1, nI 1)]) (by decide +kernel) rfl ?_
            refine Y.goto (off := -63) (tgt := 41) (by decide +kernel) (by decide) ?_
            refine Y.less (L' := [some (.ref x0), some (.int x1), some (.int x2), some (.int x3), none, some (.int x5), some (.int x6), some (.int x7), some (.int (x8 + (nI 1))), none, none]) (zLe_some (zLe_some (zLe_some (zLe_some (zLe_some (zLe_some (zLe_some (zLe_some (zLe_some (zLe_none (zLe_none (zLe_nil)))))))))))) ?_
            exact ih G27 x0 x1 x2 x3 x5 x6 x7 (x8 + (nI 1)) h
        · refine Y.blk (pc' := 86) (L' := [some (.ref x0), some (.int x1), some (.int x2), some (.int x3), none, some (.int x5), some (.int x6), some (.int x7), some (.int x8), some (.int v21), some (.int (nI 0))]) (st' := [.int (nI 0)]) (sg := [(.iconst 0, nI 0), (.istore 10, 0), (.iload 10, 0)]) (by decide +kernel) rfl ?_
          refine Y.if_ne (off := 15) (tgt := 101) (by decide +kernel) (by decide) h (fun c36 h => ?_) (fun c36 h => ?_)
          · refine Y.blk (pc' := 95) (L' := [some (.ref x0), some (.int x1), some (.int x2), some (.int x3), none, some (.int x5), some (.int x6), some (.int x7), some (.int x8), some (.int v21), some (.int (nI 0))]) (st' := [.int v21, .int x7, .int x3, .ref x0]) (sg := [(.aload_n 0, 0), (.iload_n 3, 0), (.iload 7, 0), (.iload 9, 0)]) (by decide +kernel) rfl ?_
            obtain ⟨o34, e33, h⟩ := gOb_inv h
            refine Y.callN (yC.Vi (b := x0) (As := [.int x3, .int x7, .int v21]) (st := []) (r := ("Partlister$Lists", T_I, 7)) hV.1 cb_I_write lk_I_53 in_I_write rfl se_I_write (by decide +kernel) rfl rfl (Nat.le_of_ble_eq_true rfl) (by decide) e33) (k_I_write hV G27 x0 x3 x7 v21) h (fun G35 _ h => ?_)
            refine Y.blk (pc' := 104) (L' := [some (.ref x0), some (.int x1), some (.int x2), some (.int x3), none, some (.int x5), some (.int x6), some (.int (x7 + (nI 1))), some (.int (x8 + (nI 1))), some (.int v21), some (.int (nI 0))]) (st' := []) (sg := [(.iinc 7 1, nI 1), (.iinc 8 1, nI 1)]) (by decide +kernel) rfl ?_
            refine Y.goto (off := -63) (tgt := 41) (by decide +kernel) (by decide) ?_
            refine Y.less (L' := [some (.ref x0), some (.int x1), some (.int x2), some (.int x3), none, some (.int x5), some (.int x6), some (.int (x7 + (nI 1))), some (.int (x8 + (nI 1))), none, none]) (zLe_some (zLe_some (zLe_some (zLe_some (zLe_some (zLe_some (zLe_some (zLe_some (zLe_some (zLe_none (zLe_none (zLe_nil)))))))))))) ?_
            exact ih G35 x0 x1 x2 x3 x5 x6 (x7 + (nI 1)) (x8 + (nI 1)) h
          · refine Y.blk (pc' := 104) (L' := [some (.ref x0), some (.int x1), some (.int x2), some (.int x3), none, some (.int x5), some (.int x6), some (.int x7), some (.int (x8 + (nI 1))), some (.int v21), some (.int (nI 0))]) (st' := []) (sg := [(.iinc 8 1, nI 1)]) (by decide +kernel) rfl ?_
            refine Y.goto (off := -63) (tgt := 41) (by decide +kernel) (by decide) ?_
            refine Y.less (L' := [some (.ref x0), some (.int x1), some (.int x2), some (.int x3), none, some (.int x5), some (.int x6), some (.int x7), some (.int (x8 + (nI 1))), none, none]) (zLe_some (zLe_some (zLe_some (zLe_some (zLe_some (zLe_some (zLe_some (zLe_some (zLe_some (zLe_none (zLe_none (zLe_nil)))))))))))) ?_
            exact ih G27 x0 x1 x2 x3 x5 x6 x7 (x8 + (nI 1)) h
theorem k_I_sweepOut {l : Launch} {D : va_G} {B : Nat} {O : State → Heap → Prop} (hV : zG l D B O) (G : gH) (a0 : Nat) (a1 : Int32) (a2 : Int32) : gMet (zVm l D B O) m_I_sweepOut 4 [.ref a0, .int a1, .int a2] G (f_I_sweepOut G a0 a1 a2) := by
  refine gMet.of (by decide +kernel) (Nat.le_of_ble_eq_true rfl) [some (.ref a0), some (.int a1), some (.int a2), none, none, none, none, none, none, none, none] (fun ls h => zEn_ok (n := 11) h) ?_
  intro o Gf h
  unfold f_I_sweepOut at h
  refine Y.blk (pc' := 2) (L' := [some (.ref a0), some (.int a1), some (.int a2), none, none, none, none, none, none, none, none]) (st' := [.int a1, .ref a0]) (sg := [(.aload_n 0, 0), (.iload_n 1, 0)]) (by decide +kernel) rfl ?_
  obtain ⟨o2, e1, h⟩ := gOb_inv h
  refine Y.callI (yC.Vi (b := a0) (As := [.int a1]) (st := []) (r := ("Partlister$Lists", T_I, 7)) hV.1 cb_I_rowOf lk_I_56 in_I_rowOf rfl se_I_rowOf (by decide +kernel) rfl rfl (Nat.le_of_ble_eq_true rfl) (by decide) e1) (k_I_rowOf hV G a0 a1) h (fun v4 G3 _ h => ?_)
  refine Y.blk (pc' := 7) (L' := [some (.ref a0), some (.int a1), some (.int a2), some (.int v4), none, none, none, none, none, none, none]) (st' := [.ref a0]) (sg := [(.istore_n 3, 0), (.aload_n 0, 0)]) (by decide +kernel) rfl ?_
  refine Y.getA fl_I_29 (by decide +kernel) h (fun v5 h => ?_)
  refine Y.blk (pc' := 11) (L' := [some (.ref a0), some (.int a1), some (.int a2), some (.int v4), none, none, none, none, none, none, none]) (st' := [.int a1, .ref v5]) (sg := [(.iload_n 1, 0)]) (by decide +kernel) rfl ?_
  obtain ⟨o7, e6, h⟩ := gOb_inv h
  refine Y.callI (yC.Vi (b := v5) (As := [.int a1]) (st := []) (r := ("Partlister$Numbers", T_N, 1)) hV.1 cb_N_read lk_I_39 in_N_read rfl se_N_read (by decide +kernel) rfl rfl (Nat.le_of_ble_eq_true rfl) (by decide) e6) (k_N_read hV G3 v5 a1) h (fun v9 G8 _ h => ?_)
  refine Y.blk (pc' := 20) (L' := [some (.ref a0), some (.int a1), some (.int a2), some (.int v4), some (.int v9), none, none, none, none, none, none]) (st' := [.int a1, .ref a0, .int v9]) (sg := [(.istore 4, 0), (.iload 4, 0), (.aload_n 0, 0), (.iload_n 1, 0)]) (by decide +kernel) rfl ?_
  obtain ⟨o11, e10, h⟩ := gOb_inv h
  refine Y.callI (yC.Vi (b := a0) (As := [.int a1]) (st := [.int v9]) (r := ("Partlister$Lists", T_I, 7)) hV.1 cb_I_lengthOf lk_I_59 in_I_lengthOf rfl se_I_lengthOf (by decide +kernel) rfl rfl (Nat.le_of_ble_eq_true rfl) (by decide) e10) (k_I_lengthOf hV G8 a0 a1) h (fun v13 G12 _ h => ?_)
  refine Y.blk (pc' := 28) (L' := [some (.ref a0), some (.int a1), some (.int a2), some (.int v4), some (.int v9), some (.int (v9 + v13)), none, none, none, none, none]) (st' := [.int v4, .ref a0]) (sg := [(.iadd, 0), (.istore 5, 0), (.aload_n 0, 0), (.iload_n 3, 0)]) (by decide +kernel) rfl ?_
  obtain ⟨o15, e14, h⟩ := gOb_inv h
  refine Y.callI (yC.Vi (b := a0) (As := [.int v4]) (st := []) (r := ("Partlister$Lists", T_I, 7)) hV.1 cb_I_lengthOf lk_I_59 in_I_lengthOf rfl se_I_lengthOf (by decide +kernel) rfl rfl (Nat.le_of_ble_eq_true rfl) (by decide) e14) (k_I_lengthOf hV G12 a0 v4) h (fun v17 G16 _ h => ?_)
  refine Y.blk (pc' := 41) (L' := [some (.ref a0), some (.int a1), some (.int a2), some (.int v4), some (.int v9), some (.int (v9 + v13)), some (.int v17), some (.int v9), some (.int v9), none, none]) (st' := []) (sg := [(.istore 6, 0), (.iload 4, 0), (.istore 7, 0), (.iload 4, 0), (.istore 8, 0)]) (by decide +kernel) rfl ?_
  refine Y.less (L' := [some (.ref a0), some (.int a1), some (.int a2), some (.int v4), none, some (.int (v9 + v13)), some (.int v17), some (.int v9), some (.int v9), none, none]) (zLe_some (zLe_some (zLe_some (zLe_some (zLe_none (zLe_some (zLe_some (zLe_some (zLe_some (zLe_some (zLe_some (zLe_nil)))))))))))) ?_
  refine k_I_sweepOut_L41 hV _ ?_  zFu G16 a0 a1 a2 v4 (v9 + v13) v17 v9 v9 h
  · intro G44 x40 x41 x42 x43 h
    refine Y.blk (pc' := 114) (L' := [some (.ref x40), some (.int x41), none, none, none, none, some (.int x42), some (.int x43), none, none, none]) (st' := [.int (x43 - x42), .int x41, .ref x40]) (sg := [(.aload_n 0, 0), (.iload_n 1, 0), (.iload 7, 0), (.iload 6, 0), (.isub, 0)]) (by decide +kernel) rfl ?_
    obtain ⟨o46, e45, h⟩ := gOb_inv h
    refine Y.callN (yC.Vi (b := x40) (As := [.int x41, .int (x43 - x42)]) (st := []) (r := ("Partlister$Lists", T_I, 7)) hV.1 cb_I_lengthen lk_I_62 in_I_lengthen rfl se_I_lengthen (by decide +kernel) rfl rfl (Nat.le_of_ble_eq_true rfl) (by decide) e45) (k_I_lengthen hV G44 x40 x41 (x43 - x42)) h (fun G47 _ h => ?_)
    refine Y.blk (pc' := 122) (L' := [some (.ref x40), some (.int x41), none, none, none, none, some (.int x42), some (.int x43), none, none, none]) (st' := [.int (x42 - x43)]) (sg := [(.iload 6, 0), (.iload 7, 0), (.isub, 0)]) (by decide +kernel) rfl ?_
    exact Y.iret rfl (by decide +kernel) h

def f_X_takeOutAll (G : gH) (a0 : Nat) (a1 : Int32) (a2 : Int32) : gR :=
  gFA G a0 3 0 fun v1 => gOb G v1 1 fun o3 => bI (f_I_sweepOut G v1 a1 a2) fun v5 G4 => if v5 ≤ 0 then rI v5 G4
  else gOb G4 a0 3 fun o7 => bV (f_X_endByLength G4 a0 a1 (-1)) fun G8 => rI v5 G8
theorem k_X_takeOutAll {l : Launch} {D : va_G} {B : Nat} {O : State → Heap → Prop} (hV : zG l D B O) (G : gH) (a0 : Nat) (a1 : Int32) (a2 : Int32) : gMet (zVm l D B O) m_X_takeOutAll 6 [.ref a0, .int a1, .int a2] G (f_X_takeOutAll G a0 a1 a2) := by
  refine gMet.of (by decide +kernel) (Nat.le_of_ble_eq_true rfl) [some (.ref a0), some (.int a1), some (.int a2), none] (fun ls h => zEn_ok (n := 4) h) ?_
  intro o Gf h
  unfold f_X_takeOutAll at h
  refine Y.blk (pc' := 1) (L' := [some (.ref a0), some (.int a1), some (.int a2), none]) (st' := [.ref a0]) (sg := [(.aload_n 0, 0)]) (by decide +kernel) rfl ?_
  refine Y.getA fl_X_10 (by decide +kernel) h (fun v1 h => ?_)
  refine Y.blk (pc' := 6) (L' := [some (.ref a0), some (.int a1), some (.int a2), none]) (st' := [.int a2, .int a1, .ref v1]) (sg := [(.iload_n 1, 0), (.iload_n 2, 0)]) (by decide +kernel) rfl ?_
  obtain ⟨o3, e2, h⟩ := gOb_inv h
  refine Y.callI (yC.Vi (b := v1) (As := [.int a1, .int a2]) (st := []) (r := ("Partlister$Lists", T_I, 7)) hV.1 cb_I_sweepOut lk_X_287 in_I_sweepOut rfl se_I_sweepOut (by decide +kernel) rfl rfl (Nat.le_of_ble_eq_true rfl) (by decide) e2) (k_I_sweepOut hV G v1 a1 a2) h (fun v5 G4 _ h => ?_)
  refine Y.blk (pc' := 11) (L' := [some (.ref a0), some (.int a1), some (.int a2), some (.int v5)]) (st' := [.int v5]) (sg := [(.istore_n 3, 0), (.iload_n 3, 0)]) (by decide +kernel) rfl ?_
  refine Y.if_le (off := 9) (tgt := 20) (by decide +kernel) (by decide) h (fun c9 h => ?_) (fun c9 h => ?_)
  · refine Y.blk (pc' := 21) (L' := [some (.ref a0), some (.int a1), some (.int a2), some (.int v5)]) (st' := [.int v5]) (sg := [(.iload_n 3, 0)]) (by decide +kernel) rfl ?_
    exact Y.iret rfl (by decide +kernel) h
  · refine Y.blk (pc' := 17) (L' := [some (.ref a0), some (.int a1), some (.int a2), some (.int v5)]) (st' := [.int (-1), .int a1, .ref a0]) (sg := [(.aload_n 0, 0), (.iload_n 1, 0), (.iconst (-1), -1)]) (by decide +kernel) rfl ?_
    obtain ⟨o7, e6, h⟩ := gOb_inv h
    refine Y.callN (yC.Vi (b := a0) (As := [.int a1, .int (-1)]) (st := []) (r := ("Partlister", T_X, 5)) hV.1 cb_X_endByLength lk_X_281 in_X_endByLength rfl se_X_endByLength (by decide +kernel) rfl rfl (Nat.le_of_ble_eq_true rfl) (by decide) e6) (k_X_endByLength hV G4 a0 a1 (-1)) h (fun G8 _ h => ?_)
    refine Y.blk (pc' := 21) (L' := [some (.ref a0), some (.int a1), some (.int a2), some (.int v5)]) (st' := [.int v5]) (sg := [(.iload_n 3, 0)]) (by decide +kernel) rfl ?_
    exact Y.iret rfl (by decide +kernel) h

def f_X_clear (G : gH) (a0 : Nat) (a1 : Int32) : gR :=
  gOb G a0 3 fun o2 => bV (f_X_needList G a0 a1) fun G3 => gOb G3 a0 3 fun o5 => bI (f_X_takeOutAll G3 a0 a1 (-1)) fun v7 G6 => rI v7 G6
theorem k_X_clear {l : Launch} {D : va_G} {B : Nat} {O : State → Heap → Prop} (hV : zG l D B O) (G : gH) (a0 : Nat) (a1 : Int32) : gMet (zVm l D B O) m_X_clear 7 [.ref a0, .int a1] G (f_X_clear G a0 a1) := by
  refine gMet.of (by decide +kernel) (Nat.le_of_ble_eq_true rfl) [some (.ref a0), some (.int a1)] (fun ls h => zEn_ok (n := 2) h) ?_
  intro o Gf h
  unfold f_X_clear at h
  refine Y.blk (pc' := 2) (L' := [some (.ref a0), some (.int a1)]) (st' := [.int a1, .ref a0]) (sg := [(.aload_n 0, 0), (.iload_n 1, 0)]) (by decide +kernel) rfl ?_
  obtain ⟨o2, e1, h⟩ := gOb_inv h
  refine Y.callN (yC.Vi (b := a0) (As := [.int a1]) (st := []) (r := ("Partlister", T_X, 5)) hV.1 cb_X_needList lk_X_23 in_X_needList rfl se_X_needList (by decide +kernel) rfl rfl (Nat.le_of_ble_eq_true rfl) (by decide) e1) (k_X_needList hV G a0 a1) h (fun G3 _ h => ?_)
  refine Y.blk (pc' := 8) (L' := [some (.ref a0), some (.int a1)]) (st' := [.int (-1), .int a1, .ref a0]) (sg := [(.aload_n 0, 0), (.iload_n 1, 0), (.iconst (-1), -1)]) (by decide +kernel) rfl ?_
  obtain ⟨o5, e4, h⟩ := gOb_inv h
  refine Y.callI (yC.Vi (b := a0) (As := [.int a1, .int (-1)]) (st := []) (r := ("Partlister", T_X, 5)) hV.1 cb_X_takeOutAll lk_X_78 in_X_takeOutAll rfl se_X_takeOutAll (by decide +kernel) rfl rfl (Nat.le_of_ble_eq_true rfl) (by decide) e4) (k_X_takeOutAll hV G3 a0 a1 (-1)) h (fun v7 G6 _ h => ?_)
  exact Y.iret rfl (by decide +kernel) h

def f_X_needPart (G : gH) (a0 : Nat) (a1 : Int32) : gR :=
  if a1 < (nI 2) then gThrow "java/lang/IndexOutOfBoundsException" G
  else gFA G a0 3 0 fun v1 => gOb G v1 1 fun o3 => bI (f_I_isThere G v1 a1) fun v5 G4 => if v5 = 0 then gThrow "java/lang/IndexOutOfBoundsException" G4
    else rV G4
theorem k_X_needPart {l : Launch} {D : va_G} {B : Nat} {O : State → Heap → Prop} (hV : zG l D B O) (G : gH) (a0 : Nat) (a1 : Int32) : gMet (zVm l D B O) m_X_needPart 6 [.ref a0, .int a1] G (f_X_needPart G a0 a1) := by
  refine gMet.of (by decide +kernel) (Nat.le_of_ble_eq_true rfl) [some (.ref a0), some (.int a1)] (fun ls h => zEn_ok (n := 2) h) ?_
  intro o Gf h
  unfold f_X_needPart at h
  refine Y.blk (pc' := 2) (L' := [some (.ref a0), some (.int a1)]) (st' := [.int (nI 2), .int a1]) (sg := [(.iload_n 1, 0), (.iconst 2, nI 2)]) (by decide +kernel) rfl ?_
  refine Y.ic_lt (off := 14) (tgt := 16) (by decide +kernel) (by decide) h (fun c7 h => ?_) (fun c7 h => ?_)
  · exact Y.throwSW (is := 333) (text := "there is no such PART") (names := zNm) hV.1 (hV.2 _ _ _ (by decide +kernel)) (by decide +kernel) (by decide +kernel) ck_X_125 ini_IOE tw_X_129 tg_X_129 (by decide) (by decide) rfl (Nat.le_of_ble_eq_true rfl) (by decide +kernel) (by decide +kernel) (by decide +kernel) (by decide +kernel) (by decide +kernel) h
  · refine Y.blk (pc' := 6) (L' := [some (.ref a0), some (.int a1)]) (st' := [.ref a0]) (sg := [(.aload_n 0, 0)]) (by decide +kernel) rfl ?_
    refine Y.getA fl_X_10 (by decide +kernel) h (fun v1 h => ?_)
    refine Y.blk (pc' := 10) (L' := [some (.ref a0), some (.int a1)]) (st' := [.int a1, .ref v1]) (sg := [(.iload_n 1, 0)]) (by decide +kernel) rfl ?_
    obtain ⟨o3, e2, h⟩ := gOb_inv h
    refine Y.callI (yC.Vi (b := v1) (As := [.int a1]) (st := []) (r := ("Partlister$Lists", T_I, 7)) hV.1 cb_I_isThere lk_X_155 in_I_isThere rfl se_I_isThere (by decide +kernel) rfl rfl (Nat.le_of_ble_eq_true rfl) (by decide) e2) (k_I_isThere hV G v1 a1) h (fun v5 G4 _ h => ?_)
    refine Y.if_ne (off := 14) (tgt := 27) (by decide +kernel) (by decide) h (fun c6 h => ?_) (fun c6 h => ?_)
    · exact Y.throwSW (is := 333) (text := "there is no such PART") (names := zNm) hV.1 (hV.2 _ _ _ (by decide +kernel)) (by decide +kernel) (by decide +kernel) ck_X_125 ini_IOE tw_X_129 tg_X_129 (by decide) (by decide) rfl (Nat.le_of_ble_eq_true rfl) (by decide +kernel) (by decide +kernel) (by decide +kernel) (by decide +kernel) (by decide +kernel) h
    · exact Y.vret rfl (by decide +kernel) h

def f_I_endWithin_L4 (K41 : gH → Int32 → gR) : Nat → gH → Nat → Int32 → Int32 → Int32 → gR
  | 0, _, _, _, _, _ => none
  | n + 1, G, x0, x1, x2, x3 =>
    if (nI 6) ≤ x3 then K41 G x2
    else gOb G x0 1 fun o2 => bI (f_I_isThere G x0 x3) fun v4 G3 => if v4 = 0 then f_I_endWithin_L4 K41 n G3 x0 x1 x2 (x3 + (nI 1))
      else gOb G3 x0 1 fun o6 => bI (f_I_isWithin G3 x0 x3 x1) fun v8 G7 => if v8 = 0 then f_I_endWithin_L4 K41 n G7 x0 x1 x2 (x3 + (nI 1))
        else gOb G7 x0 1 fun o10 => bV (f_I_finish G7 x0 x3) fun G11 => f_I_endWithin_L4 K41 n G11 x0 x1 (x2 + (nI 1)) (x3 + (nI 1))
def f_I_endWithin (G : gH) (a0 : Nat) (a1 : Int32) : gR :=
  f_I_endWithin_L4 (fun G16 x15 => rI x15 G16) zFu G a0 a1 (nI 0) (nI 2)
theorem k_I_endWithin_L4 {l : Launch} {D : va_G} {B : Nat} {O : State → Heap → Prop} (hV : zG l D B O) {o : gO} {Gf : gH} (K41 : gH → Int32 → gR) (hK41 : ∀ (G : gH) (x2 : Int32), K41 G x2 = some (o, Gf) → Y (zVm l D B O) m_I_endWithin 3 o Gf 41 [none, none, some (.int x2), none] [] G) : ∀ (n : Nat) (G : gH) (x0 : Nat) (x1 : Int32) (x2 : Int32) (x3 : Int32), f_I_endWithin_L4 K41 n G x0 x1 x2 x3 = some (o, Gf) → Y (zVm l D B O) m_I_endWithin 3 o Gf 4 [some (.ref x0), some (.int x1), some (.int x2), some (.int x3)] [] G := by
  intro n
  induction n with
  | zero => intro G x0 x1 x2 x3 h; cases h
  | succ n ih =>
    intro G x0 x1 x2 x3 h
    unfold f_I_endWithin_L4 at h
    refine Y.blk (pc' := 7) (L' := [some (.ref x0), some (.int x1), some (.int x2), some (.int x3)]) (st' := [.int (nI 6), .int x3]) (sg := [(.iload_n 3, 0), (.bipush 6, nI 6)]) (by decide +kernel) rfl ?_
    refine Y.ic_ge (off := 34) (tgt := 41) (by decide +kernel) (by decide) h (fun c14 h => ?_) (fun c14 h => ?_)
    · refine Y.less (L' := [none, none, some (.int x2), none]) (zLe_none (zLe_none (zLe_some (zLe_none (zLe_nil))))) ?_
      exact hK41 G x2 h
    · refine Y.blk (pc' := 12) (L' := [some (.ref x0), some (.int x1), some (.int x2), some (.int x3)]) (st' := [.int x3, .ref x0]) (sg := [(.aload_n 0, 0), (.iload_n 3, 0)]) (by decide +kernel) rfl ?_
      obtain ⟨o2, e1, h⟩ := gOb_inv h
      refine Y.callI (yC.Vi (b := x0) (As := [.int x3]) (st := []) (r := ("Partlister$Lists", T_I, 7)) hV.1 cb_I_isThere lk_I_86 in_I_isThere rfl se_I_isThere (by decide +kernel) rfl rfl (Nat.le_of_ble_eq_true rfl) (by decide) e1) (k_I_isThere hV G x0 x3) h (fun v4 G3 _ h => ?_)
      refine Y.if_eq (off := 20) (tgt := 35) (by decide +kernel) (by decide) h (fun c13 h => ?_) (fun c13 h => ?_)
      · refine Y.blk (pc' := 38) (L' := [some (.ref x0), some (.int x1), some (.int x2), some (.int (x3 + (nI 1)))]) (st' := []) (sg := [(.iinc 3 1, nI 1)]) (by decide +kernel) rfl ?_
        refine Y.goto (off := -34) (tgt := 4) (by decide +kernel) (by decide) ?_
        exact ih G3 x0 x1 x2 (x3 + (nI 1)) h
      · refine Y.blk (pc' := 21) (L' := [some (.ref x0), some (.int x1), some (.int x2), some (.int x3)]) (st' := [.int x1, .int x3, .ref x0]) (sg := [(.aload_n 0, 0), (.iload_n 3, 0), (.iload_n 1, 0)]) (by decide +kernel) rfl ?_
        obtain ⟨o6, e5, h⟩ := gOb_inv h
        refine Y.callI (yC.Vi (b := x0) (As := [.int x3, .int x1]) (st := []) (r := ("Partlister$Lists", T_I, 7)) hV.1 cb_I_isWithin lk_I_90 in_I_isWithin rfl se_I_isWithin (by decide +kernel) rfl rfl (Nat.le_of_ble_eq_true rfl) (by decide) e5) (k_I_isWithin hV G3 x0 x3 x1) h (fun v8 G7 _ h => ?_)
        refine Y.if_eq (off := 11) (tgt := 35) (by decide +kernel) (by decide) h (fun c12 h => ?_) (fun c12 h => ?_)
        · refine Y.blk (pc' := 38) (L' := [some (.ref x0), some (.int x1), some (.int x2), some (.int (x3 + (nI 1)))]) (st' := []) (sg := [(.iinc 3 1, nI 1)]) (by decide +kernel) rfl ?_
          refine Y.goto (off := -34) (tgt := 4) (by decide +kernel) (by decide) ?_
          exact ih G7 x0 x1 x2 (x3 + (nI 1)) h
        · refine Y.blk (pc' := 29) (L' := [some (.ref x0), some (.int x1), some (.int x2), some (.int x3)]) (st' := [.int x3, .ref x0]) (sg := [(.aload_n 0, 0), (.iload_n 3, 0)]) (by decide +kernel) rfl ?_
          obtain ⟨o10, e9, h⟩ := gOb_inv h
          refine Y.callN (yC.Vi (b := x0) (As := [.int x3]) (st := []) (r := ("Partlister$Lists", T_I, 7)) hV.1 cb_I_finish lk_I_94 in_I_finish rfl se_I_finish (by decide +kernel) rfl rfl (Nat.le_of_ble_eq_true rfl) (by decide) e9) (k_I_finish hV G7 x0 x3) h (fun G11 _ h => ?_)
          refine Y.blk (pc' := 38) (L' := [some (.ref x0), some (.int x1), some (.int (x2 + (nI 1))), some (.int (x3 + (nI 1)))]) (st' := []) (sg := [(.iinc 2 1, nI 1), (.iinc 3 1, nI 1)]) (by decide +kernel) rfl ?_
          refine Y.goto (off := -34) (tgt := 4) (by decide +kernel) (by decide) ?_
          exact ih G11 x0 x1 (x2 + (nI 1)) (x3 + (nI 1)) h
theorem k_I_endWithin {l : Launch} {D : va_G} {B : Nat} {O : State → Heap → Prop} (hV : zG l D B O) (G : gH) (a0 : Nat) (a1 : Int32) : gMet (zVm l D B O) m_I_endWithin 3 [.ref a0, .int a1] G (f_I_endWithin G a0 a1) := by
  refine gMet.of (by decide +kernel) (Nat.le_of_ble_eq_true rfl) [some (.ref a0), some (.int a1), none, none] (fun ls h => zEn_ok (n := 4) h) ?_
  intro o Gf h
  unfold f_I_endWithin at h
  refine Y.blk (pc' := 4) (L' := [some (.ref a0), some (.int a1), some (.int (nI 0)), some (.int (nI 2))]) (st' := []) (sg := [(.iconst 0, nI 0), (.istore_n 2, 0), (.iconst 2, nI 2), (.istore_n 3, 0)]) (by decide +kernel) rfl ?_
  refine k_I_endWithin_L4 hV _ ?_  zFu G a0 a1 (nI 0) (nI 2) h
  · intro G16 x15 h
    refine Y.blk (pc' := 42) (L' := [none, none, some (.int x15), none]) (st' := [.int x15]) (sg := [(.iload_n 2, 0)]) (by decide +kernel) rfl ?_
    exact Y.iret rfl (by decide +kernel) h

def f_X_close_L16 (K64 : gH → Int32 → gR) : Nat → gH → Nat → Int32 → Int32 → gR
  | 0, _, _, _, _ => none
  | n + 1, G, x0, x2, x3 =>
    if (nI 3) ≤ x3 then K64 G x2
    else gFA G x0 3 1 fun v9 => gOb G v9 0 fun o11 => bI (f_U_isThere G v9 x3) fun v13 G12 => if v13 = 0 then f_X_close_L16 K64 n G12 x0 x2 (x3 + (nI 1))
      else gFA G12 x0 3 0 fun v14 => gFA G12 x0 3 1 fun v15 => gOb G12 v15 0 fun o17 => bI (f_U_listOf G12 v15 x3) fun v19 G18 => gOb G18 v14 1 fun o21 => bI (f_I_isThere G18 v14 v19) fun v23 G22 => if v23 = 0 then gFA G22 x0 3 1 fun v24 => gOb G22 v24 0 fun o26 => bV (f_U_finish G22 v24 x3) fun G27 => f_X_close_L16 K64 n G27 x0 x2 (x3 + (nI 1))
        else f_X_close_L16 K64 n G22 x0 x2 (x3 + (nI 1))
def f_X_close (G : gH) (a0 : Nat) (a1 : Int32) : gR :=
  gOb G a0 3 fun o2 => bV (f_X_needPart G a0 a1) fun G3 => gFA G3 a0 3 0 fun v4 => gOb G3 v4 1 fun o6 => bI (f_I_endWithin G3 v4 a1) fun v8 G7 => f_X_close_L16 (fun G32 x31 => rI x31 G32) zFu G7 a0 v8 (nI 0)
theorem k_X_close_L16 {l : Launch} {D : va_G} {B : Nat} {O : State → Heap → Prop} (hV : zG l D B O) {o : gO} {Gf : gH} (K64 : gH → Int32 → gR) (hK64 : ∀ (G : gH) (x2 : Int32), K64 G x2 = some (o, Gf) → Y (zVm l D B O) m_X_close 7 o Gf 64 [none, none, some (.int x2), none] [] G) : ∀ (n : Nat) (G : gH) (x0 : Nat) (x2 : Int32) (x3 : Int32), f_X_close_L16 K64 n G x0 x2 x3 = some (o, Gf) → Y (zVm l D B O) m_X_close 7 o Gf 16 [some (.ref x0), none, some (.int x2), some (.int x3)] [] G := by
  intro n
  induction n with
  | zero => intro G x0 x2 x3 h; cases h
  | succ n ih =>
    intro G x0 x2 x3 h
    unfold f_X_close_L16 at h
    refine Y.blk (pc' := 18) (L' := [some (.ref x0), none, some (.int x2), some (.int x3)]) (st' := [.int (nI 3), .int x3]) (sg := [(.iload_n 3, 0), (.iconst 3, nI 3)]) (by decide +kernel) rfl ?_
    refine Y.ic_ge (off := 46) (tgt := 64) (by decide +kernel) (by decide) h (fun c30 h => ?_) (fun c30 h => ?_)
    · refine Y.less (L' := [none, none, some (.int x2), none]) (zLe_none (zLe_some (zLe_some (zLe_none (zLe_nil))))) ?_
      exact hK64 G x2 h
    · refine Y.blk (pc' := 22) (L' := [some (.ref x0), none, some (.int x2), some (.int x3)]) (st' := [.ref x0]) (sg := [(.aload_n 0, 0)]) (by decide +kernel) rfl ?_
      refine Y.getA fl_X_19 (by decide +kernel) h (fun v9 h => ?_)
      refine Y.blk (pc' := 26) (L' := [some (.ref x0), none, some (.int x2), some (.int x3)]) (st' := [.int x3, .ref v9]) (sg := [(.iload_n 3, 0)]) (by decide +kernel) rfl ?_
      obtain ⟨o11, e10, h⟩ := gOb_inv h
      refine Y.callI (yC.Vi (b := v9) (As := [.int x3]) (st := []) (r := ("Partlister$Cursors", T_U, 5)) hV.1 cb_U_isThere lk_X_148 in_U_isThere rfl se_U_isThere (by decide +kernel) rfl rfl (Nat.le_of_ble_eq_true rfl) (by decide) e10) (k_U_isThere hV G v9 x3) h (fun v13 G12 _ h => ?_)
      refine Y.if_eq (off := 29) (tgt := 58) (by decide +kernel) (by decide) h (fun c29 h => ?_) (fun c29 h => ?_)
      · refine Y.blk (pc' := 61) (L' := [some (.ref x0), none, some (.int x2), some (.int (x3 + (nI 1)))]) (st' := []) (sg := [(.iinc 3 1, nI 1)]) (by decide +kernel) rfl ?_
        refine Y.goto (off := -45) (tgt := 16) (by decide +kernel) (by decide) ?_
        exact ih G12 x0 x2 (x3 + (nI 1)) h
      · refine Y.blk (pc' := 33) (L' := [some (.ref x0), none, some (.int x2), some (.int x3)]) (st' := [.ref x0]) (sg := [(.aload_n 0, 0)]) (by decide +kernel) rfl ?_
        refine Y.getA fl_X_10 (by decide +kernel) h (fun v14 h => ?_)
        refine Y.blk (pc' := 37) (L' := [some (.ref x0), none, some (.int x2), some (.int x3)]) (st' := [.ref x0, .ref v14]) (sg := [(.aload_n 0, 0)]) (by decide +kernel) rfl ?_
        refine Y.getA fl_X_19 (by decide +kernel) h (fun v15 h => ?_)
        refine Y.blk (pc' := 41) (L' := [some (.ref x0), none, some (.int x2), some (.int x3)]) (st' := [.int x3, .ref v15, .ref v14]) (sg := [(.iload_n 3, 0)]) (by decide +kernel) rfl ?_
        obtain ⟨o17, e16, h⟩ := gOb_inv h
        refine Y.callI (yC.Vi (b := v15) (As := [.int x3]) (st := [.ref v14]) (r := ("Partlister$Cursors", T_U, 5)) hV.1 cb_U_listOf lk_X_152 in_U_listOf rfl se_U_listOf (by decide +kernel) rfl rfl (Nat.le_of_ble_eq_true rfl) (by decide) e16) (k_U_listOf hV G12 v15 x3) h (fun v19 G18 _ h => ?_)
        obtain ⟨o21, e20, h⟩ := gOb_inv h
        refine Y.callI (yC.Vi (b := v14) (As := [.int v19]) (st := []) (r := ("Partlister$Lists", T_I, 7)) hV.1 cb_I_isThere lk_X_155 in_I_isThere rfl se_I_isThere (by decide +kernel) rfl rfl (Nat.le_of_ble_eq_true rfl) (by decide) e20) (k_I_isThere hV G18 v14 v19) h (fun v23 G22 _ h => ?_)
        refine Y.if_ne (off := 11) (tgt := 58) (by decide +kernel) (by decide) h (fun c28 h => ?_) (fun c28 h => ?_)
        · refine Y.blk (pc' := 51) (L' := [some (.ref x0), none, some (.int x2), some (.int x3)]) (st' := [.ref x0]) (sg := [(.aload_n 0, 0)]) (by decide +kernel) rfl ?_
          refine Y.getA fl_X_19 (by decide +kernel) h (fun v24 h => ?_)
          refine Y.blk (pc' := 55) (L' := [some (.ref x0), none, some (.int x2), some (.int x3)]) (st' := [.int x3, .ref v24]) (sg := [(.iload_n 3, 0)]) (by decide +kernel) rfl ?_
          obtain ⟨o26, e25, h⟩ := gOb_inv h
          refine Y.callN (yC.Vi (b := v24) (As := [.int x3]) (st := []) (r := ("Partlister$Cursors", T_U, 5)) hV.1 cb_U_finish lk_X_156 in_U_finish rfl se_U_finish (by decide +kernel) rfl rfl (Nat.le_of_ble_eq_true rfl) (by decide) e25) (k_U_finish hV G22 v24 x3) h (fun G27 _ h => ?_)
          refine Y.blk (pc' := 61) (L' := [some (.ref x0), none, some (.int x2), some (.int (x3 + (nI 1)))]) (st' := []) (sg := [(.iinc 3 1, nI 1)]) (by decide +kernel) rfl ?_
          refine Y.goto (off := -45) (tgt := 16) (by decide +kernel) (by decide) ?_
          exact ih G27 x0 x2 (x3 + (nI 1)) h
        · refine Y.blk (pc' := 61) (L' := [some (.ref x0), none, some (.int x2), some (.int (x3 + (nI 1)))]) (st' := []) (sg := [(.iinc 3 1, nI 1)]) (by decide +kernel) rfl ?_
          refine Y.goto (off := -45) (tgt := 16) (by decide +kernel) (by decide) ?_
          exact ih G22 x0 x2 (x3 + (nI 1)) h
theorem k_X_close {l : Launch} {D : va_G} {B : Nat} {O : State → Heap → Prop} (hV : zG l D B O) (G : gH) (a0 : Nat) (a1 : Int32) : gMet (zVm l D B O) m_X_close 7 [.ref a0, .int a1] G (f_X_close G a0 a1) := by
  refine gMet.of (by decide +kernel) (Nat.le_of_ble_eq_true rfl) [some (.ref a0), some (.int a1), none, none] (fun ls h => zEn_ok (n := 4) h) ?_
  intro o Gf h
  unfold f_X_close at h
  refine Y.blk (pc' := 2) (L' := [some (.ref a0), some (.int a1), none, none]) (st' := [.int a1, .ref a0]) (sg := [(.aload_n 0, 0), (.iload_n 1, 0)]) (by decide +kernel) rfl ?_
  obtain ⟨o2, e1, h⟩ := gOb_inv h
  refine Y.callN (yC.Vi (b := a0) (As := [.int a1]) (st := []) (r := ("Partlister", T_X, 5)) hV.1 cb_X_needPart lk_X_142 in_X_needPart rfl se_X_needPart (by decide +kernel) rfl rfl (Nat.le_of_ble_eq_true rfl) (by decide) e1) (k_X_needPart hV G a0 a1) h (fun G3 _ h => ?_)
  refine Y.blk (pc' := 6) (L' := [some (.ref a0), some (.int a1), none, none]) (st' := [.ref a0]) (sg := [(.aload_n 0, 0)]) (by decide +kernel) rfl ?_
  refine Y.getA fl_X_10 (by decide +kernel) h (fun v4 h => ?_)
  refine Y.blk (pc' := 10) (L' := [some (.ref a0), some (.int a1), none, none]) (st' := [.int a1, .ref v4]) (sg := [(.iload_n 1, 0)]) (by decide +kernel) rfl ?_
  obtain ⟨o6, e5, h⟩ := gOb_inv h
  refine Y.callI (yC.Vi (b := v4) (As := [.int a1]) (st := []) (r := ("Partlister$Lists", T_I, 7)) hV.1 cb_I_endWithin lk_X_145 in_I_endWithin rfl se_I_endWithin (by decide +kernel) rfl rfl (Nat.le_of_ble_eq_true rfl) (by decide) e5) (k_I_endWithin hV G3 v4 a1) h (fun v8 G7 _ h => ?_)
  refine Y.blk (pc' := 16) (L' := [some (.ref a0), some (.int a1), some (.int v8), some (.int (nI 0))]) (st' := []) (sg := [(.istore_n 2, 0), (.iconst 0, nI 0), (.istore_n 3, 0)]) (by decide +kernel) rfl ?_
  refine Y.less (L' := [some (.ref a0), none, some (.int v8), some (.int (nI 0))]) (zLe_some (zLe_none (zLe_some (zLe_some (zLe_nil))))) ?_
  refine k_X_close_L16 hV _ ?_  zFu G7 a0 v8 (nI 0) h
  · intro G32 x31 h
    refine Y.blk (pc' := 65) (L' := [none, none, some (.int x31), none]) (st' := [.int x31]) (sg := [(.iload_n 2, 0)]) (by decide +kernel) rfl ?_
    exact Y.iret rfl (by decide +kernel) h

def f_X_countDigits_L9 (K33 : gH → Int32 → gR) : Nat → gH → Int32 → Int32 → Int32 → gR
  | 0, _, _, _, _ => none
  | n + 1, G, x1, x2, x3 =>
    if (nI 10) ≤ x3 then K33 G x1
    else if x2 ≤ 0 then K33 G x1
      else gDiv x2 (nI 10) fun v2 => f_X_countDigits_L9 K33 n G (x1 + (nI 1)) v2 (x3 + (nI 1))
def f_X_countDigits (G : gH) (a0 : Int32) : gR :=
  gDiv a0 (nI 10) fun v1 => f_X_countDigits_L9 (fun G6 x5 => rI x5 G6) zFu G (nI 1) v1 (nI 1)
theorem k_X_countDigits_L9 {l : Launch} {D : va_G} {B : Nat} {O : State → Heap → Prop} (hV : zG l D B O) {o : gO} {Gf : gH} (K33 : gH → Int32 → gR) (hK33 : ∀ (G : gH) (x1 : Int32), K33 G x1 = some (o, Gf) → Y (zVm l D B O) m_X_countDigits 1 o Gf 33 [none, some (.int x1), none, none] [] G) : ∀ (n : Nat) (G : gH) (x1 : Int32) (x2 : Int32) (x3 : Int32), f_X_countDigits_L9 K33 n G x1 x2 x3 = some (o, Gf) → Y (zVm l D B O) m_X_countDigits 1 o Gf 9 [none, some (.int x1), some (.int x2), some (.int x3)] [] G := by
  intro n
  induction n with
  | zero => intro G x1 x2 x3 h; cases h
  | succ n ih =>
    intro G x1 x2 x3 h
    unfold f_X_countDigits_L9 at h
    refine Y.blk (pc' := 12) (L' := [none, some (.int x1), some (.int x2), some (.int x3)]) (st' := [.int (nI 10), .int x3]) (sg := [(.iload_n 3, 0), (.bipush 10, nI 10)]) (by decide +kernel) rfl ?_
    refine Y.ic_ge (off := 21) (tgt := 33) (by decide +kernel) (by decide) h (fun c4 h => ?_) (fun c4 h => ?_)
    · refine Y.less (L' := [none, some (.int x1), none, none]) (zLe_some (zLe_some (zLe_none (zLe_none (zLe_nil))))) ?_
      exact hK33 G x1 h
    · refine Y.blk (pc' := 16) (L' := [none, some (.int x1), some (.int x2), some (.int x3)]) (st' := [.int x2]) (sg := [(.iload_n 2, 0)]) (by decide +kernel) rfl ?_
      refine Y.if_le (off := 17) (tgt := 33) (by decide +kernel) (by decide) h (fun c3 h => ?_) (fun c3 h => ?_)
      · refine Y.less (L' := [none, some (.int x1), none, none]) (zLe_some (zLe_some (zLe_none (zLe_none (zLe_nil))))) ?_
        exact hK33 G x1 h
      · refine Y.blk (pc' := 25) (L' := [none, some (.int (x1 + (nI 1))), some (.int x2), some (.int x3)]) (st' := [.int (nI 10), .int x2]) (sg := [(.iinc 1 1, nI 1), (.iload_n 2, 0), (.bipush 10, nI 10)]) (by decide +kernel) rfl ?_
        refine Y.idiv (by decide +kernel) h (fun v2 h => ?_)
        refine Y.blk (pc' := 30) (L' := [none, some (.int (x1 + (nI 1))), some (.int v2), some (.int (x3 + (nI 1)))]) (st' := []) (sg := [(.istore_n 2, 0), (.iinc 3 1, nI 1)]) (by decide +kernel) rfl ?_
        refine Y.goto (off := -21) (tgt := 9) (by decide +kernel) (by decide) ?_
        exact ih G (x1 + (nI 1)) v2 (x3 + (nI 1)) h
theorem k_X_countDigits {l : Launch} {D : va_G} {B : Nat} {O : State → Heap → Prop} (hV : zG l D B O) (G : gH) (a0 : Int32) : gMet (zVm l D B O) m_X_countDigits 1 [.int a0] G (f_X_countDigits G a0) := by
  refine gMet.of (by decide +kernel) (Nat.le_of_ble_eq_true rfl) [some (.int a0), none, none, none] (fun ls h => zEn_ok (n := 4) h) ?_
  intro o Gf h
  unfold f_X_countDigits at h
  refine Y.blk (pc' := 5) (L' := [some (.int a0), some (.int (nI 1)), none, none]) (st' := [.int (nI 10), .int a0]) (sg := [(.iconst 1, nI 1), (.istore_n 1, 0), (.iload_n 0, 0), (.bipush 10, nI 10)]) (by decide +kernel) rfl ?_
  refine Y.idiv (by decide +kernel) h (fun v1 h => ?_)
  refine Y.blk (pc' := 9) (L' := [some (.int a0), some (.int (nI 1)), some (.int v1), some (.int (nI 1))]) (st' := []) (sg := [(.istore_n 2, 0), (.iconst 1, nI 1), (.istore_n 3, 0)]) (by decide +kernel) rfl ?_
  refine Y.less (L' := [none, some (.int (nI 1)), some (.int v1), some (.int (nI 1))]) (zLe_none (zLe_some (zLe_some (zLe_some (zLe_nil))))) ?_
  refine k_X_countDigits_L9 hV _ ?_  zFu G (nI 1) v1 (nI 1) h
  · intro G6 x5 h
    refine Y.blk (pc' := 34) (L' := [none, some (.int x5), none, none]) (st' := [.int x5]) (sg := [(.iload_n 1, 0)]) (by decide +kernel) rfl ?_
    exact Y.iret rfl (by decide +kernel) h

def f_X_countSigns_L22 (K68 : gH → Int32 → gR) : Nat → gH → Nat → Int32 → Int32 → Int32 → Int32 → gR
  | 0, _, _, _, _, _, _ => none
  | n + 1, G, x0, x1, x2, x3, x4 =>
    if x2 ≤ x4 then K68 G x3
    else gFA G x0 3 0 fun v6 => gOb G v6 1 fun o8 => bI (f_I_thingAt G v6 x1 x4) fun v10 G9 => bI (f_X_keyOf G9 v10) fun v13 G12 => bI (f_X_countDigits G12 v13) fun v16 G15 => bI (f_X_tagOf G15 v10) fun v19 G18 => bI (f_X_countDigits G18 v19) fun v22 G21 => f_X_countSigns_L22 K68 n G21 x0 x1 x2 (x3 + ((v16 + (nI 1)) + v22)) (x4 + (nI 1))
def f_X_countSigns (G : gH) (a0 : Nat) (a1 : Int32) : gR :=
  gFA G a0 3 0 fun v1 => gOb G v1 1 fun o3 => bI (f_I_lengthOf G v1 a1) fun v5 G4 => if v5 = 0 then rI (nI 1) G4
  else f_X_countSigns_L22 (fun G25 x24 => rI x24 G25) zFu G4 a0 a1 v5 (v5 - (nI 1)) (nI 0)
theorem k_X_countSigns_L22 {l : Launch} {D : va_G} {B : Nat} {O : State → Heap → Prop} (hV : zG l D B O) {o : gO} {Gf : gH} (K68 : gH → Int32 → gR) (hK68 : ∀ (G : gH) (x3 : Int32), K68 G x3 = some (o, Gf) → Y (zVm l D B O) m_X_countSigns 4 o Gf 68 [none, none, none, some (.int x3), none, none] [] G) : ∀ (n : Nat) (G : gH) (x0 : Nat) (x1 : Int32) (x2 : Int32) (x3 : Int32) (x4 : Int32), f_X_countSigns_L22 K68 n G x0 x1 x2 x3 x4 = some (o, Gf) → Y (zVm l D B O) m_X_countSigns 4 o Gf 22 [some (.ref x0), some (.int x1), some (.int x2), some (.int x3), some (.int x4), none] [] G := by
  intro n
  induction n with
  | zero => intro G x0 x1 x2 x3 x4 h; cases h
  | succ n ih =>
    intro G x0 x1 x2 x3 x4 h
    unfold f_X_countSigns_L22 at h
    refine Y.blk (pc' := 25) (L' := [some (.ref x0), some (.int x1), some (.int x2), some (.int x3), some (.int x4), none]) (st' := [.int x2, .int x4]) (sg := [(.iload 4, 0), (.iload_n 2, 0)]) (by decide +kernel) rfl ?_
    refine Y.ic_ge (off := 43) (tgt := 68) (by decide +kernel) (by decide) h (fun c23 h => ?_) (fun c23 h => ?_)
    · refine Y.less (L' := [none, none, none, some (.int x3), none, none]) (zLe_none (zLe_none (zLe_none (zLe_some (zLe_none (zLe_some (zLe_nil))))))) ?_
      exact hK68 G x3 h
    · refine Y.blk (pc' := 29) (L' := [some (.ref x0), some (.int x1), some (.int x2), some (.int x3), some (.int x4), none]) (st' := [.ref x0]) (sg := [(.aload_n 0, 0)]) (by decide +kernel) rfl ?_
      refine Y.getA fl_X_10 (by decide +kernel) h (fun v6 h => ?_)
      refine Y.blk (pc' := 35) (L' := [some (.ref x0), some (.int x1), some (.int x2), some (.int x3), some (.int x4), none]) (st' := [.int x4, .int x1, .ref v6]) (sg := [(.iload_n 1, 0), (.iload 4, 0)]) (by decide +kernel) rfl ?_
      obtain ⟨o8, e7, h⟩ := gOb_inv h
      refine Y.callI (yC.Vi (b := v6) (As := [.int x1, .int x4]) (st := []) (r := ("Partlister$Lists", T_I, 7)) hV.1 cb_I_thingAt lk_X_94 in_I_thingAt rfl se_I_thingAt (by decide +kernel) rfl rfl (Nat.le_of_ble_eq_true rfl) (by decide) e7) (k_I_thingAt hV G v6 x1 x4) h (fun v10 G9 _ h => ?_)
      refine Y.blk (pc' := 43) (L' := [some (.ref x0), some (.int x1), some (.int x2), some (.int x3), some (.int x4), some (.int v10)]) (st' := [.int v10, .int x3]) (sg := [(.istore 5, 0), (.iload_n 3, 0), (.iload 5, 0)]) (by decide +kernel) rfl ?_
      refine Y.callI (yC.S (As := [.int v10]) (st := [.int x3]) hV.1 cb_X_keyOf lk_X_97 st_X_keyOf (by decide +kernel) rfl rfl (Nat.le_of_ble_eq_true rfl) (by decide)) (k_X_keyOf hV G9 v10) h (fun v13 G12 _ h => ?_)
      refine Y.callI (yC.S (As := [.int v13]) (st := [.int x3]) hV.1 cb_X_countDigits lk_X_326 st_X_countDigits (by decide +kernel) rfl rfl (Nat.le_of_ble_eq_true rfl) (by decide)) (k_X_countDigits hV G12 v13) h (fun v16 G15 _ h => ?_)
      refine Y.blk (pc' := 53) (L' := [some (.ref x0), some (.int x1), some (.int x2), some (.int x3), some (.int x4), some (.int v10)]) (st' := [.int v10, .int (v16 + (nI 1)), .int x3]) (sg := [(.iconst 1, nI 1), (.iadd, 0), (.iload 5, 0)]) (by decide +kernel) rfl ?_
      refine Y.callI (yC.S (As := [.int v10]) (st := [.int (v16 + (nI 1)), .int x3]) hV.1 cb_X_tagOf lk_X_48 st_X_tagOf (by decide +kernel) rfl rfl (Nat.le_of_ble_eq_true rfl) (by decide)) (k_X_tagOf hV G15 v10) h (fun v19 G18 _ h => ?_)
      refine Y.callI (yC.S (As := [.int v19]) (st := [.int (v16 + (nI 1)), .int x3]) hV.1 cb_X_countDigits lk_X_326 st_X_countDigits (by decide +kernel) rfl rfl (Nat.le_of_ble_eq_true rfl) (by decide)) (k_X_countDigits hV G18 v19) h (fun v22 G21 _ h => ?_)
      refine Y.blk (pc' := 65) (L' := [some (.ref x0), some (.int x1), some (.int x2), some (.int (x3 + ((v16 + (nI 1)) + v22))), some (.int (x4 + (nI 1))), some (.int v10)]) (st' := []) (sg := [(.iadd, 0), (.iadd, 0), (.istore_n 3, 0), (.iinc 4 1, nI 1)]) (by decide +kernel) rfl ?_
      refine Y.goto (off := -43) (tgt := 22) (by decide +kernel) (by decide) ?_
      refine Y.less (L' := [some (.ref x0), some (.int x1), some (.int x2), some (.int (x3 + ((v16 + (nI 1)) + v22))), some (.int (x4 + (nI 1))), none]) (zLe_some (zLe_some (zLe_some (zLe_some (zLe_some (zLe_none (zLe_nil))))))) ?_
      exact ih G21 x0 x1 x2 (x3 + ((v16 + (nI 1)) + v22)) (x4 + (nI 1)) h
theorem k_X_countSigns {l : Launch} {D : va_G} {B : Nat} {O : State → Heap → Prop} (hV : zG l D B O) (G : gH) (a0 : Nat) (a1 : Int32) : gMet (zVm l D B O) m_X_countSigns 4 [.ref a0, .int a1] G (f_X_countSigns G a0 a1) := by
  refine gMet.of (by decide +kernel) (Nat.le_of_ble_eq_true rfl) [some (.ref a0), some (.int a1), none, none, none, none] (fun ls h => zEn_ok (n := 6) h) ?_
  intro o Gf h
  unfold f_X_countSigns at h
  refine Y.blk (pc' := 1) (L' := [some (.ref a0), some (.int a1), none, none, none, none]) (st' := [.ref a0]) (sg := [(.aload_n 0, 0)]) (by decide +kernel) rfl ?_
  refine Y.getA fl_X_10 (by decide +kernel) h (fun v1 h => ?_)
  refine Y.blk (pc' := 5) (L' := [some (.ref a0), some (.int a1), none, none, none, none]) (st' := [.int a1, .ref v1]) (sg := [(.iload_n 1, 0)]) (by decide +kernel) rfl ?_
  obtain ⟨o3, e2, h⟩ := gOb_inv h
  refine Y.callI (yC.Vi (b := v1) (As := [.int a1]) (st := []) (r := ("Partlister$Lists", T_I, 7)) hV.1 cb_I_lengthOf lk_X_34 in_I_lengthOf rfl se_I_lengthOf (by decide +kernel) rfl rfl (Nat.le_of_ble_eq_true rfl) (by decide) e2) (k_I_lengthOf hV G v1 a1) h (fun v5 G4 _ h => ?_)
  refine Y.blk (pc' := 10) (L' := [some (.ref a0), some (.int a1), some (.int v5), none, none, none]) (st' := [.int v5]) (sg := [(.istore_n 2, 0), (.iload_n 2, 0)]) (by decide +kernel) rfl ?_
  refine Y.if_ne (off := 5) (tgt := 15) (by decide +kernel) (by decide) h (fun c26 h => ?_) (fun c26 h => ?_)
  · refine Y.blk (pc' := 14) (L' := [some (.ref a0), some (.int a1), some (.int v5), none, none, none]) (st' := [.int (nI 1)]) (sg := [(.iconst 1, nI 1)]) (by decide +kernel) rfl ?_
    exact Y.iret rfl (by decide +kernel) h
  · refine Y.blk (pc' := 22) (L' := [some (.ref a0), some (.int a1), some (.int v5), some (.int (v5 - (nI 1))), some (.int (nI 0)), none]) (st' := []) (sg := [(.iload_n 2, 0), (.iconst 1, nI 1), (.isub, 0), (.istore_n 3, 0), (.iconst 0, nI 0), (.istore 4, 0)]) (by decide +kernel) rfl ?_
    refine k_X_countSigns_L22 hV _ ?_  zFu G4 a0 a1 v5 (v5 - (nI 1)) (nI 0) h
    · intro G25 x24 h
      refine Y.blk (pc' := 69) (L' := [none, none, none, some (.int x24), none, none]) (st' := [.int x24]) (sg := [(.iload_n 3, 0)]) (by decide +kernel) rfl ?_
      exact Y.iret rfl (by decide +kernel) h

def f_U_freeCursor_L2 (K15 : gH → Int32 → gR) (K23 : gH → gR) : Nat → gH → Nat → Int32 → gR
  | 0, _, _, _ => none
  | n + 1, G, x0, x1 =>
    if (nI 3) ≤ x1 then K23 G
    else gOb G x0 0 fun o2 => bI (f_U_isThere G x0 x1) fun v4 G3 => if v4 = 0 then K15 G3 x1
      else f_U_freeCursor_L2 K15 K23 n G3 x0 (x1 + (nI 1))
def f_U_freeCursor (G : gH) (a0 : Nat) : gR :=
  f_U_freeCursor_L2 (fun G8 x7 => rI x7 G8) (fun G9 => rI (-1) G9) zFu G a0 (nI 0)
theorem k_U_freeCursor_L2 {l : Launch} {D : va_G} {B : Nat} {O : State → Heap → Prop} (hV : zG l D B O) {o : gO} {Gf : gH} (K15 : gH → Int32 → gR) (K23 : gH → gR) (hK15 : ∀ (G : gH) (x1 : Int32), K15 G x1 = some (o, Gf) → Y (zVm l D B O) m_U_freeCursor 4 o Gf 15 [none, some (.int x1)] [] G) (hK23 : ∀ (G : gH), K23 G  = some (o, Gf) → Y (zVm l D B O) m_U_freeCursor 4 o Gf 23 [none, none] [] G) : ∀ (n : Nat) (G : gH) (x0 : Nat) (x1 : Int32), f_U_freeCursor_L2 K15 K23 n G x0 x1 = some (o, Gf) → Y (zVm l D B O) m_U_freeCursor 4 o Gf 2 [some (.ref x0), some (.int x1)] [] G := by
  intro n
  induction n with
  | zero => intro G x0 x1 h; cases h
  | succ n ih =>
    intro G x0 x1 h
    unfold f_U_freeCursor_L2 at h
    refine Y.blk (pc' := 4) (L' := [some (.ref x0), some (.int x1)]) (st' := [.int (nI 3), .int x1]) (sg := [(.iload_n 1, 0), (.iconst 3, nI 3)]) (by decide +kernel) rfl ?_
    refine Y.ic_ge (off := 19) (tgt := 23) (by decide +kernel) (by decide) h (fun c6 h => ?_) (fun c6 h => ?_)
    · refine Y.less (L' := [none, none]) (zLe_none (zLe_none (zLe_nil))) ?_
      exact hK23 G  h
    · refine Y.blk (pc' := 9) (L' := [some (.ref x0), some (.int x1)]) (st' := [.int x1, .ref x0]) (sg := [(.aload_n 0, 0), (.iload_n 1, 0)]) (by decide +kernel) rfl ?_
      obtain ⟨o2, e1, h⟩ := gOb_inv h
      refine Y.callI (yC.Vi (b := x0) (As := [.int x1]) (st := []) (r := ("Partlister$Cursors", T_U, 5)) hV.1 cb_U_isThere lk_U_37 in_U_isThere rfl se_U_isThere (by decide +kernel) rfl rfl (Nat.le_of_ble_eq_true rfl) (by decide) e1) (k_U_isThere hV G x0 x1) h (fun v4 G3 _ h => ?_)
      refine Y.if_ne (off := 5) (tgt := 17) (by decide +kernel) (by decide) h (fun c5 h => ?_) (fun c5 h => ?_)
      · refine Y.less (L' := [none, some (.int x1)]) (zLe_none (zLe_some (zLe_nil))) ?_
        exact hK15 G3 x1 h
      · refine Y.blk (pc' := 20) (L' := [some (.ref x0), some (.int (x1 + (nI 1)))]) (st' := []) (sg := [(.iinc 1 1, nI 1)]) (by decide +kernel) rfl ?_
        refine Y.goto (off := -18) (tgt := 2) (by decide +kernel) (by decide) ?_
        exact ih G3 x0 (x1 + (nI 1)) h
theorem k_U_freeCursor {l : Launch} {D : va_G} {B : Nat} {O : State → Heap → Prop} (hV : zG l D B O) (G : gH) (a0 : Nat) : gMet (zVm l D B O) m_U_freeCursor 4 [.ref a0] G (f_U_freeCursor G a0) := by
  refine gMet.of (by decide +kernel) (Nat.le_of_ble_eq_true rfl) [some (.ref a0), none] (fun ls h => zEn_ok (n := 2) h) ?_
  intro o Gf h
  unfold f_U_freeCursor at h
  refine Y.blk (pc' := 2) (L' := [some (.ref a0), some (.int (nI 0))]) (st' := []) (sg := [(.iconst 0, nI 0), (.istore_n 1, 0)]) (by decide +kernel) rfl ?_
  refine k_U_freeCursor_L2 hV _ _ ?_ ?_  zFu G a0 (nI 0) h
  · intro G8 x7 h
    refine Y.blk (pc' := 16) (L' := [none, some (.int x7)]) (st' := [.int x7]) (sg := [(.iload_n 1, 0)]) (by decide +kernel) rfl ?_
    exact Y.iret rfl (by decide +kernel) h
  · intro G9 h
    refine Y.blk (pc' := 24) (L' := [none, none]) (st' := [.int (-1)]) (sg := [(.iconst (-1), -1)]) (by decide +kernel) rfl ?_
    exact Y.iret rfl (by decide +kernel) h
