def f_X_areApart (G : gH) (a0 : Nat) (a1 : Int32) (a2 : Int32) : gR :=
  gOb G a0 3 fun o2 => bV (f_X_needList G a0 a1) fun G4 => gOb G4 a0 3 fun o6 => bV (f_X_needList G4 a0 a2) fun G8 => gFA G8 a0 3 0 fun v9 => gOb G8 v9 1 fun o11 => bI (f_I_shareNoKey G8 v9 a1 a2) fun v14 G13 => rZ v14 G13
theorem k_X_areApart {l : Launch} {D : va_G} {B : Nat} {O : State → Heap → Prop} (hV : zG l D B O) (G : gH) (a0 : Nat) (a1 : Int32) (a2 : Int32) : gMet (zVm l D B O) m_X_areApart 7 [.ref a0, .int a1, .int a2] G (f_X_areApart G a0 a1 a2) := by
  refine gMet.of (by decide +kernel) (Nat.le_of_ble_eq_true rfl) [some (.ref a0), some (.int a1), some (.int a2)] (fun ls h => zEn_ok (n := 3) h) ?_
  intro o Gf h
  unfold f_X_areApart at h
  refine Y.blk (pc' := 2) (L' := [some (.ref a0), some (.int a1), some (.int a2)]) (st' := [.int a1, .ref a0]) (sg := [(.aload_n 0, 0), (.iload_n 1, 0)]) (by decide +kernel) rfl ?_
  obtain ⟨_, o2, e1, m3, h⟩ := gOb_inv h
  refine Y.callN (yC.Vi (b := a0) (As := [.int a1]) (st := []) (r := ("Partlister", T_X, 5)) hV.1 cb_X_needList lk_X_23 in_X_needList rfl se_X_needList (by decide +kernel) rfl rfl (Nat.le_of_ble_eq_true rfl) (by decide) e1 m3) (k_X_needList hV G a0 a1) h (fun G4 _ h => ?_)
  refine Y.blk (pc' := 7) (L' := [some (.ref a0), some (.int a1), some (.int a2)]) (st' := [.int a2, .ref a0]) (sg := [(.aload_n 0, 0), (.iload_n 2, 0)]) (by decide +kernel) rfl ?_
  obtain ⟨_, o6, e5, m7, h⟩ := gOb_inv h
  refine Y.callN (yC.Vi (b := a0) (As := [.int a2]) (st := []) (r := ("Partlister", T_X, 5)) hV.1 cb_X_needList lk_X_23 in_X_needList rfl se_X_needList (by decide +kernel) rfl rfl (Nat.le_of_ble_eq_true rfl) (by decide) e5 m7) (k_X_needList hV G4 a0 a2) h (fun G8 _ h => ?_)
  refine Y.blk (pc' := 11) (L' := [some (.ref a0), some (.int a1), some (.int a2)]) (st' := [.ref a0]) (sg := [(.aload_n 0, 0)]) (by decide +kernel) rfl ?_
  refine Y.getA fl_X_10 (by decide +kernel) h (fun v9 h => ?_)
  refine Y.blk (pc' := 16) (L' := [some (.ref a0), some (.int a1), some (.int a2)]) (st' := [.int a2, .int a1, .ref v9]) (sg := [(.iload_n 1, 0), (.iload_n 2, 0)]) (by decide +kernel) rfl ?_
  obtain ⟨_, o11, e10, m12, h⟩ := gOb_inv h
  refine Y.callI (yC.Vi (b := v9) (As := [.int a1, .int a2]) (st := []) (r := ("Partlister$Lists", T_I, 7)) hV.1 cb_I_shareNoKey lk_X_196 in_I_shareNoKey rfl se_I_shareNoKey (by decide +kernel) rfl rfl (Nat.le_of_ble_eq_true rfl) (by decide) e10 m12) (k_I_shareNoKey hV G8 v9 a1 a2) h (fun v14 G13 _ h => ?_)
  exact Y.zret rfl (by decide +kernel) h

def f_X_endAround_L11 (K39 : gH → Int32 → gR) : Nat → gH → Nat → Int32 → Int32 → Int32 → gR
  | 0, _, _, _, _, _ => none
  | n + 1, G, x0, x1, x2, x3 =>
    if (nI 3) ≤ x3 then K39 G x2
    else gOb G x0 3 fun o8 => bI (f_X_isOnRowOf G x0 x3 x1) fun v11 G10 => if v11 = 0 then f_X_endAround_L11 K39 n G10 x0 x1 x2 (x3 + (nI 1))
      else gFA G10 x0 3 1 fun v12 => gOb G10 v12 0 fun o14 => bV (f_U_finish G10 v12 x3) fun G16 => f_X_endAround_L11 K39 n G16 x0 x1 x2 (x3 + (nI 1))
def f_X_endAround (G : gH) (a0 : Nat) (a1 : Int32) : gR :=
  gFA G a0 3 0 fun v1 => gOb G v1 1 fun o3 => bI (f_I_endOthers G v1 a1) fun v6 G5 => f_X_endAround_L11 (fun G20 x19 => rI x19 G20) zFu G5 a0 a1 v6 (nI 0)
theorem k_X_endAround_L11 {l : Launch} {D : va_G} {B : Nat} {O : State → Heap → Prop} (hV : zG l D B O) {o : gO} {Gf : gH} (K39 : gH → Int32 → gR) (hK39 : ∀ (G : gH) (x2 : Int32), K39 G x2 = some (o, Gf) → Y (zVm l D B O) m_X_endAround 5 o Gf 39 [none, none, some (.int x2), none] [] G) : ∀ (n : Nat) (G : gH) (x0 : Nat) (x1 : Int32) (x2 : Int32) (x3 : Int32), f_X_endAround_L11 K39 n G x0 x1 x2 x3 = some (o, Gf) → Y (zVm l D B O) m_X_endAround 5 o Gf 11 [some (.ref x0), some (.int x1), some (.int x2), some (.int x3)] [] G := by
  intro n
  induction n with
  | zero => intro G x0 x1 x2 x3 h; cases h
  | succ n ih =>
    intro G x0 x1 x2 x3 h
    unfold f_X_endAround_L11 at h
    refine Y.blk (pc' := 13) (L' := [some (.ref x0), some (.int x1), some (.int x2), some (.int x3)]) (st' := [.int (nI 3), .int x3]) (sg := [(.iload_n 3, 0), (.iconst 3, nI 3)]) (by decide +kernel) rfl ?_
    refine Y.ic_ge (off := 26) (tgt := 39) (by decide +kernel) (by decide) h (fun c18 h => ?_) (fun c18 h => ?_)
    · refine Y.less (L' := [none, none, some (.int x2), none]) (zLe_none (zLe_none (zLe_some (zLe_none (zLe_nil))))) ?_
      exact hK39 G x2 h
    · refine Y.blk (pc' := 19) (L' := [some (.ref x0), some (.int x1), some (.int x2), some (.int x3)]) (st' := [.int x1, .int x3, .ref x0]) (sg := [(.aload_n 0, 0), (.iload_n 3, 0), (.iload_n 1, 0)]) (by decide +kernel) rfl ?_
      obtain ⟨_, o8, e7, m9, h⟩ := gOb_inv h
      refine Y.callI (yC.Vi (b := x0) (As := [.int x3, .int x1]) (st := []) (r := ("Partlister", T_X, 5)) hV.1 cb_X_isOnRowOf lk_X_293 in_X_isOnRowOf rfl se_X_isOnRowOf (by decide +kernel) rfl rfl (Nat.le_of_ble_eq_true rfl) (by decide) e7 m9) (k_X_isOnRowOf hV G x0 x3 x1) h (fun v11 G10 _ h => ?_)
      refine Y.if_eq (off := 11) (tgt := 33) (by decide +kernel) (by decide) h (fun c17 h => ?_) (fun c17 h => ?_)
      · refine Y.blk (pc' := 36) (L' := [some (.ref x0), some (.int x1), some (.int x2), some (.int (x3 + (nI 1)))]) (st' := []) (sg := [(.iinc 3 1, nI 1)]) (by decide +kernel) rfl ?_
        refine Y.goto (off := -25) (tgt := 11) (by decide +kernel) (by decide) ?_
        exact ih G10 x0 x1 x2 (x3 + (nI 1)) h
      · refine Y.blk (pc' := 26) (L' := [some (.ref x0), some (.int x1), some (.int x2), some (.int x3)]) (st' := [.ref x0]) (sg := [(.aload_n 0, 0)]) (by decide +kernel) rfl ?_
        refine Y.getA fl_X_19 (by decide +kernel) h (fun v12 h => ?_)
        refine Y.blk (pc' := 30) (L' := [some (.ref x0), some (.int x1), some (.int x2), some (.int x3)]) (st' := [.int x3, .ref v12]) (sg := [(.iload_n 3, 0)]) (by decide +kernel) rfl ?_
        obtain ⟨_, o14, e13, m15, h⟩ := gOb_inv h
        refine Y.callN (yC.Vi (b := v12) (As := [.int x3]) (st := []) (r := ("Partlister$Cursors", T_U, 5)) hV.1 cb_U_finish lk_X_156 in_U_finish rfl se_U_finish (by decide +kernel) rfl rfl (Nat.le_of_ble_eq_true rfl) (by decide) e13 m15) (k_U_finish hV G10 v12 x3) h (fun G16 _ h => ?_)
        refine Y.blk (pc' := 36) (L' := [some (.ref x0), some (.int x1), some (.int x2), some (.int (x3 + (nI 1)))]) (st' := []) (sg := [(.iinc 3 1, nI 1)]) (by decide +kernel) rfl ?_
        refine Y.goto (off := -25) (tgt := 11) (by decide +kernel) (by decide) ?_
        exact ih G16 x0 x1 x2 (x3 + (nI 1)) h
theorem k_X_endAround {l : Launch} {D : va_G} {B : Nat} {O : State → Heap → Prop} (hV : zG l D B O) (G : gH) (a0 : Nat) (a1 : Int32) : gMet (zVm l D B O) m_X_endAround 5 [.ref a0, .int a1] G (f_X_endAround G a0 a1) := by
  refine gMet.of (by decide +kernel) (Nat.le_of_ble_eq_true rfl) [some (.ref a0), some (.int a1), none, none] (fun ls h => zEn_ok (n := 4) h) ?_
  intro o Gf h
  unfold f_X_endAround at h
  refine Y.blk (pc' := 1) (L' := [some (.ref a0), some (.int a1), none, none]) (st' := [.ref a0]) (sg := [(.aload_n 0, 0)]) (by decide +kernel) rfl ?_
  refine Y.getA fl_X_10 (by decide +kernel) h (fun v1 h => ?_)
  refine Y.blk (pc' := 5) (L' := [some (.ref a0), some (.int a1), none, none]) (st' := [.int a1, .ref v1]) (sg := [(.iload_n 1, 0)]) (by decide +kernel) rfl ?_
  obtain ⟨_, o3, e2, m4, h⟩ := gOb_inv h
  refine Y.callI (yC.Vi (b := v1) (As := [.int a1]) (st := []) (r := ("Partlister$Lists", T_I, 7)) hV.1 cb_I_endOthers lk_X_290 in_I_endOthers rfl se_I_endOthers (by decide +kernel) rfl rfl (Nat.le_of_ble_eq_true rfl) (by decide) e2 m4) (k_I_endOthers hV G v1 a1) h (fun v6 G5 _ h => ?_)
  refine Y.blk (pc' := 11) (L' := [some (.ref a0), some (.int a1), some (.int v6), some (.int (nI 0))]) (st' := []) (sg := [(.istore_n 2, 0), (.iconst 0, nI 0), (.istore_n 3, 0)]) (by decide +kernel) rfl ?_
  refine k_X_endAround_L11 hV _ ?_  zFu G5 a0 a1 v6 (nI 0) h
  · intro G20 x19 h
    refine Y.blk (pc' := 40) (L' := [none, none, some (.int x19), none]) (st' := [.int x19]) (sg := [(.iload_n 2, 0)]) (by decide +kernel) rfl ?_
    exact Y.iret rfl (by decide +kernel) h

def f_X_needRow (G : gH) (a0 : Nat) (a1 : Int32) : gR :=
  if a1 < 0 then gThrow "java/lang/IndexOutOfBoundsException" G
  else if a1 < (nI 2) then rV G
    else gThrow "java/lang/IndexOutOfBoundsException" G
theorem k_X_needRow {l : Launch} {D : va_G} {B : Nat} {O : State → Heap → Prop} (hV : zG l D B O) (G : gH) (a0 : Nat) (a1 : Int32) : gMet (zVm l D B O) m_X_needRow 6 [.ref a0, .int a1] G (f_X_needRow G a0 a1) := by
  refine gMet.of (by decide +kernel) (Nat.le_of_ble_eq_true rfl) [some (.ref a0), some (.int a1)] (fun ls h => zEn_ok (n := 2) h) ?_
  intro o Gf h
  unfold f_X_needRow at h
  refine Y.blk (pc' := 1) (L' := [some (.ref a0), some (.int a1)]) (st' := [.int a1]) (sg := [(.iload_n 1, 0)]) (by decide +kernel) rfl ?_
  refine Y.if_lt (off := 8) (tgt := 9) (by decide +kernel) (by decide) h (fun c2 h => ?_) (fun c2 h => ?_)
  · exact Y.throwSW (is := 331) (text := "row is not 0 or 1") (names := zNm) hV.1 (hV.2 _ _ _ (by decide +kernel)) (by decide +kernel) (by decide +kernel) ck_X_125 ini_IOE tw_X_129 tg_X_129 (by decide) (by decide) rfl (Nat.le_of_ble_eq_true rfl) (by decide +kernel) (by decide +kernel) (by decide +kernel) (by decide +kernel) (by decide +kernel) h
  · refine Y.blk (pc' := 6) (L' := [some (.ref a0), some (.int a1)]) (st' := [.int (nI 2), .int a1]) (sg := [(.iload_n 1, 0), (.iconst 2, nI 2)]) (by decide +kernel) rfl ?_
    refine Y.ic_lt (off := 14) (tgt := 20) (by decide +kernel) (by decide) h (fun c1 h => ?_) (fun c1 h => ?_)
    · exact Y.vret rfl (by decide +kernel) h
    · exact Y.throwSW (is := 331) (text := "row is not 0 or 1") (names := zNm) hV.1 (hV.2 _ _ _ (by decide +kernel)) (by decide +kernel) (by decide +kernel) ck_X_125 ini_IOE tw_X_129 tg_X_129 (by decide) (by decide) rfl (Nat.le_of_ble_eq_true rfl) (by decide +kernel) (by decide +kernel) (by decide +kernel) (by decide +kernel) (by decide +kernel) h

def f_I_copyToRow_L9 (K35 : gH → Nat → Int32 → Int32 → gR) : Nat → gH → Nat → Int32 → Int32 → Int32 → Int32 → gR
  | 0, _, _, _, _, _, _ => none
  | n + 1, G, x0, x1, x2, x3, x4 =>
    if x3 ≤ x4 then K35 G x0 x1 x3
    else gOb G x0 1 fun o7 => bI (f_I_thingAt G x0 x2 x4) fun v10 G9 => gOb G9 x0 1 fun o12 => bV (f_I_write G9 x0 x1 x4 v10) fun G14 => f_I_copyToRow_L9 K35 n G14 x0 x1 x2 x3 (x4 + (nI 1))
def f_I_copyToRow (G : gH) (a0 : Nat) (a1 : Int32) (a2 : Int32) : gR :=
  gOb G a0 1 fun o2 => bI (f_I_lengthOf G a0 a2) fun v5 G4 => f_I_copyToRow_L9 (fun G19 x16 x17 x18 => gFA G19 x16 1 1 fun v20 => gOb G19 v20 2 fun o22 => bV (f_N_write G19 v20 x17 x18) fun G24 => rV G24) zFu G4 a0 a1 a2 v5 (nI 0)
theorem k_I_copyToRow_L9 {l : Launch} {D : va_G} {B : Nat} {O : State → Heap → Prop} (hV : zG l D B O) {o : gO} {Gf : gH} (K35 : gH → Nat → Int32 → Int32 → gR) (hK35 : ∀ (G : gH) (x0 : Nat) (x1 : Int32) (x3 : Int32), K35 G x0 x1 x3 = some (o, Gf) → Y (zVm l D B O) m_I_copyToRow 4 o Gf 35 [some (.ref x0), some (.int x1), none, some (.int x3), none] [] G) : ∀ (n : Nat) (G : gH) (x0 : Nat) (x1 : Int32) (x2 : Int32) (x3 : Int32) (x4 : Int32), f_I_copyToRow_L9 K35 n G x0 x1 x2 x3 x4 = some (o, Gf) → Y (zVm l D B O) m_I_copyToRow 4 o Gf 9 [some (.ref x0), some (.int x1), some (.int x2), some (.int x3), some (.int x4)] [] G := by
  intro n
  induction n with
  | zero => intro G x0 x1 x2 x3 x4 h; cases h
  | succ n ih =>
    intro G x0 x1 x2 x3 x4 h
    unfold f_I_copyToRow_L9 at h
    refine Y.blk (pc' := 12) (L' := [some (.ref x0), some (.int x1), some (.int x2), some (.int x3), some (.int x4)]) (st' := [.int x3, .int x4]) (sg := [(.iload 4, 0), (.iload_n 3, 0)]) (by decide +kernel) rfl ?_
    refine Y.ic_ge (off := 23) (tgt := 35) (by decide +kernel) (by decide) h (fun c15 h => ?_) (fun c15 h => ?_)
    · refine Y.less (L' := [some (.ref x0), some (.int x1), none, some (.int x3), none]) (zLe_some (zLe_some (zLe_none (zLe_some (zLe_none (zLe_nil)))))) ?_
      exact hK35 G x0 x1 x3 h
    · refine Y.blk (pc' := 23) (L' := [some (.ref x0), some (.int x1), some (.int x2), some (.int x3), some (.int x4)]) (st' := [.int x4, .int x2, .ref x0, .int x4, .int x1, .ref x0]) (sg := [(.aload_n 0, 0), (.iload_n 1, 0), (.iload 4, 0), (.aload_n 0, 0), (.iload_n 2, 0), (.iload 4, 0)]) (by decide +kernel) rfl ?_
      obtain ⟨_, o7, e6, m8, h⟩ := gOb_inv h
      refine Y.callI (yC.Vi (b := x0) (As := [.int x2, .int x4]) (st := [.int x4, .int x1, .ref x0]) (r := ("Partlister$Lists", T_I, 7)) hV.1 cb_I_thingAt lk_I_50 in_I_thingAt rfl se_I_thingAt (by decide +kernel) rfl rfl (Nat.le_of_ble_eq_true rfl) (by decide) e6 m8) (k_I_thingAt hV G x0 x2 x4) h (fun v10 G9 _ h => ?_)
      obtain ⟨_, o12, e11, m13, h⟩ := gOb_inv h
      refine Y.callN (yC.Vi (b := x0) (As := [.int x1, .int x4, .int v10]) (st := []) (r := ("Partlister$Lists", T_I, 7)) hV.1 cb_I_write lk_I_53 in_I_write rfl se_I_write (by decide +kernel) rfl rfl (Nat.le_of_ble_eq_true rfl) (by decide) e11 m13) (k_I_write hV G9 x0 x1 x4 v10) h (fun G14 _ h => ?_)
      refine Y.blk (pc' := 32) (L' := [some (.ref x0), some (.int x1), some (.int x2), some (.int x3), some (.int (x4 + (nI 1)))]) (st' := []) (sg := [(.iinc 4 1, nI 1)]) (by decide +kernel) rfl ?_
      refine Y.goto (off := -23) (tgt := 9) (by decide +kernel) (by decide) ?_
      exact ih G14 x0 x1 x2 x3 (x4 + (nI 1)) h
theorem k_I_copyToRow {l : Launch} {D : va_G} {B : Nat} {O : State → Heap → Prop} (hV : zG l D B O) (G : gH) (a0 : Nat) (a1 : Int32) (a2 : Int32) : gMet (zVm l D B O) m_I_copyToRow 4 [.ref a0, .int a1, .int a2] G (f_I_copyToRow G a0 a1 a2) := by
  refine gMet.of (by decide +kernel) (Nat.le_of_ble_eq_true rfl) [some (.ref a0), some (.int a1), some (.int a2), none, none] (fun ls h => zEn_ok (n := 5) h) ?_
  intro o Gf h
  unfold f_I_copyToRow at h
  refine Y.blk (pc' := 2) (L' := [some (.ref a0), some (.int a1), some (.int a2), none, none]) (st' := [.int a2, .ref a0]) (sg := [(.aload_n 0, 0), (.iload_n 2, 0)]) (by decide +kernel) rfl ?_
  obtain ⟨_, o2, e1, m3, h⟩ := gOb_inv h
  refine Y.callI (yC.Vi (b := a0) (As := [.int a2]) (st := []) (r := ("Partlister$Lists", T_I, 7)) hV.1 cb_I_lengthOf lk_I_59 in_I_lengthOf rfl se_I_lengthOf (by decide +kernel) rfl rfl (Nat.le_of_ble_eq_true rfl) (by decide) e1 m3) (k_I_lengthOf hV G a0 a2) h (fun v5 G4 _ h => ?_)
  refine Y.blk (pc' := 9) (L' := [some (.ref a0), some (.int a1), some (.int a2), some (.int v5), some (.int (nI 0))]) (st' := []) (sg := [(.istore_n 3, 0), (.iconst 0, nI 0), (.istore 4, 0)]) (by decide +kernel) rfl ?_
  refine k_I_copyToRow_L9 hV _ ?_  zFu G4 a0 a1 a2 v5 (nI 0) h
  · intro G19 x16 x17 x18 h
    refine Y.blk (pc' := 36) (L' := [some (.ref x16), some (.int x17), none, some (.int x18), none]) (st' := [.ref x16]) (sg := [(.aload_n 0, 0)]) (by decide +kernel) rfl ?_
    refine Y.getA fl_I_20 (by decide +kernel) h (fun v20 h => ?_)
    refine Y.blk (pc' := 41) (L' := [some (.ref x16), some (.int x17), none, some (.int x18), none]) (st' := [.int x18, .int x17, .ref v20]) (sg := [(.iload_n 1, 0), (.iload_n 3, 0)]) (by decide +kernel) rfl ?_
    obtain ⟨_, o22, e21, m23, h⟩ := gOb_inv h
    refine Y.callN (yC.Vi (b := v20) (As := [.int x17, .int x18]) (st := []) (r := ("Partlister$Numbers", T_N, 1)) hV.1 cb_N_write lk_I_35 in_N_write rfl se_N_write (by decide +kernel) rfl rfl (Nat.le_of_ble_eq_true rfl) (by decide) e21 m23) (k_N_write hV G19 v20 x17 x18) h (fun G24 _ h => ?_)
    exact Y.vret rfl (by decide +kernel) h

def f_X_assign (G : gH) (a0 : Nat) (a1 : Int32) (a2 : Int32) : gR :=
  gOb G a0 3 fun o2 => bV (f_X_needRow G a0 a1) fun G4 => gOb G4 a0 3 fun o6 => bV (f_X_needList G4 a0 a2) fun G8 => gFA G8 a0 3 0 fun v9 => gOb G8 v9 1 fun o11 => bI (f_I_lengthOf G8 v9 a1) fun v14 G13 => gFA G13 a0 3 0 fun v15 => gOb G13 v15 1 fun o17 => bV (f_I_copyToRow G13 v15 a1 a2) fun G19 => gOb G19 a0 3 fun o21 => bI (f_X_endAround G19 a0 a1) fun v24 G23 => rI v14 G23
theorem k_X_assign {l : Launch} {D : va_G} {B : Nat} {O : State → Heap → Prop} (hV : zG l D B O) (G : gH) (a0 : Nat) (a1 : Int32) (a2 : Int32) : gMet (zVm l D B O) m_X_assign 7 [.ref a0, .int a1, .int a2] G (f_X_assign G a0 a1 a2) := by
  refine gMet.of (by decide +kernel) (Nat.le_of_ble_eq_true rfl) [some (.ref a0), some (.int a1), some (.int a2), none] (fun ls h => zEn_ok (n := 4) h) ?_
  intro o Gf h
  unfold f_X_assign at h
  refine Y.blk (pc' := 2) (L' := [some (.ref a0), some (.int a1), some (.int a2), none]) (st' := [.int a1, .ref a0]) (sg := [(.aload_n 0, 0), (.iload_n 1, 0)]) (by decide +kernel) rfl ?_
  obtain ⟨_, o2, e1, m3, h⟩ := gOb_inv h
  refine Y.callN (yC.Vi (b := a0) (As := [.int a1]) (st := []) (r := ("Partlister", T_X, 5)) hV.1 cb_X_needRow lk_X_106 in_X_needRow rfl se_X_needRow (by decide +kernel) rfl rfl (Nat.le_of_ble_eq_true rfl) (by decide) e1 m3) (k_X_needRow hV G a0 a1) h (fun G4 _ h => ?_)
  refine Y.blk (pc' := 7) (L' := [some (.ref a0), some (.int a1), some (.int a2), none]) (st' := [.int a2, .ref a0]) (sg := [(.aload_n 0, 0), (.iload_n 2, 0)]) (by decide +kernel) rfl ?_
  obtain ⟨_, o6, e5, m7, h⟩ := gOb_inv h
  refine Y.callN (yC.Vi (b := a0) (As := [.int a2]) (st := []) (r := ("Partlister", T_X, 5)) hV.1 cb_X_needList lk_X_23 in_X_needList rfl se_X_needList (by decide +kernel) rfl rfl (Nat.le_of_ble_eq_true rfl) (by decide) e5 m7) (k_X_needList hV G4 a0 a2) h (fun G8 _ h => ?_)
  refine Y.blk (pc' := 11) (L' := [some (.ref a0), some (.int a1), some (.int a2), none]) (st' := [.ref a0]) (sg := [(.aload_n 0, 0)]) (by decide +kernel) rfl ?_
  refine Y.getA fl_X_10 (by decide +kernel) h (fun v9 h => ?_)
  refine Y.blk (pc' := 15) (L' := [some (.ref a0), some (.int a1), some (.int a2), none]) (st' := [.int a1, .ref v9]) (sg := [(.iload_n 1, 0)]) (by decide +kernel) rfl ?_
  obtain ⟨_, o11, e10, m12, h⟩ := gOb_inv h
  refine Y.callI (yC.Vi (b := v9) (As := [.int a1]) (st := []) (r := ("Partlister$Lists", T_I, 7)) hV.1 cb_I_lengthOf lk_X_34 in_I_lengthOf rfl se_I_lengthOf (by decide +kernel) rfl rfl (Nat.le_of_ble_eq_true rfl) (by decide) e10 m12) (k_I_lengthOf hV G8 v9 a1) h (fun v14 G13 _ h => ?_)
  refine Y.blk (pc' := 20) (L' := [some (.ref a0), some (.int a1), some (.int a2), some (.int v14)]) (st' := [.ref a0]) (sg := [(.istore_n 3, 0), (.aload_n 0, 0)]) (by decide +kernel) rfl ?_
  refine Y.getA fl_X_10 (by decide +kernel) h (fun v15 h => ?_)
  refine Y.blk (pc' := 25) (L' := [some (.ref a0), some (.int a1), some (.int a2), some (.int v14)]) (st' := [.int a2, .int a1, .ref v15]) (sg := [(.iload_n 1, 0), (.iload_n 2, 0)]) (by decide +kernel) rfl ?_
  obtain ⟨_, o17, e16, m18, h⟩ := gOb_inv h
  refine Y.callN (yC.Vi (b := v15) (As := [.int a1, .int a2]) (st := []) (r := ("Partlister$Lists", T_I, 7)) hV.1 cb_I_copyToRow lk_X_109 in_I_copyToRow rfl se_I_copyToRow (by decide +kernel) rfl rfl (Nat.le_of_ble_eq_true rfl) (by decide) e16 m18) (k_I_copyToRow hV G13 v15 a1 a2) h (fun G19 _ h => ?_)
  refine Y.blk (pc' := 30) (L' := [some (.ref a0), some (.int a1), some (.int a2), some (.int v14)]) (st' := [.int a1, .ref a0]) (sg := [(.aload_n 0, 0), (.iload_n 1, 0)]) (by decide +kernel) rfl ?_
  obtain ⟨_, o21, e20, m22, h⟩ := gOb_inv h
  refine Y.callI (yC.Vi (b := a0) (As := [.int a1]) (st := []) (r := ("Partlister", T_X, 5)) hV.1 cb_X_endAround lk_X_103 in_X_endAround rfl se_X_endAround (by decide +kernel) rfl rfl (Nat.le_of_ble_eq_true rfl) (by decide) e20 m22) (k_X_endAround hV G19 a0 a1) h (fun v24 G23 _ h => ?_)
  refine Y.blk (pc' := 35) (L' := [some (.ref a0), some (.int a1), some (.int a2), some (.int v14)]) (st' := [.int v14]) (sg := [(.pop, 0), (.iload_n 3, 0)]) (by decide +kernel) rfl ?_
  exact Y.iret rfl (by decide +kernel) h

def f_I_sweepOut_L41 (K107 : gH → Nat → Int32 → Int32 → Int32 → gR) : Nat → gH → Nat → Int32 → Int32 → Int32 → Int32 → Int32 → Int32 → Int32 → gR
  | 0, _, _, _, _, _, _, _, _, _ => none
  | n + 1, G, x0, x1, x2, x3, x5, x6, x7, x8 =>
    if x6 ≤ x8 then K107 G x0 x1 x6 x7
    else gOb G x0 1 fun o23 => bI (f_I_thingAt G x0 x3 x8) fun v26 G25 => if x5 ≤ x8 then (if (nI 0) = 0 then gOb G25 x0 1 fun o28 => bV (f_I_write G25 x0 x3 x7 v26) fun G30 => f_I_sweepOut_L41 K107 n G30 x0 x1 x2 x3 x5 x6 (x7 + (nI 1)) (x8 + (nI 1))
        else f_I_sweepOut_L41 K107 n G25 x0 x1 x2 x3 x5 x6 x7 (x8 + (nI 1)))
      else bI (f_X_keyOf G25 v26) fun v34 G33 => if ((x2 >>> (v34 &&& 31)) &&& (nI 1)) = (nI 1) then (if (nI 1) = 0 then gOb G33 x0 1 fun o36 => bV (f_I_write G33 x0 x3 x7 v26) fun G38 => f_I_sweepOut_L41 K107 n G38 x0 x1 x2 x3 x5 x6 (x7 + (nI 1)) (x8 + (nI 1))
          else f_I_sweepOut_L41 K107 n G33 x0 x1 x2 x3 x5 x6 x7 (x8 + (nI 1)))
        else if (nI 0) = 0 then gOb G33 x0 1 fun o41 => bV (f_I_write G33 x0 x3 x7 v26) fun G43 => f_I_sweepOut_L41 K107 n G43 x0 x1 x2 x3 x5 x6 (x7 + (nI 1)) (x8 + (nI 1))
          else f_I_sweepOut_L41 K107 n G33 x0 x1 x2 x3 x5 x6 x7 (x8 + (nI 1))
def f_I_sweepOut (G : gH) (a0 : Nat) (a1 : Int32) (a2 : Int32) : gR :=
  gOb G a0 1 fun o2 => bI (f_I_rowOf G a0 a1) fun v5 G4 => gFA G4 a0 1 4 fun v6 => gOb G4 v6 2 fun o8 => bI (f_N_read G4 v6 a1) fun v11 G10 => gOb G10 a0 1 fun o13 => bI (f_I_lengthOf G10 a0 a1) fun v16 G15 => gOb G15 a0 1 fun o18 => bI (f_I_lengthOf G15 a0 v5) fun v21 G20 => f_I_sweepOut_L41 (fun G52 x48 x49 x50 x51 => gOb G52 x48 1 fun o54 => bV (f_I_lengthen G52 x48 x49 (x51 - x50)) fun G56 => rI (x50 - x51) G56) zFu G20 a0 a1 a2 v5 (v11 + v16) v21 v11 v11
theorem k_I_sweepOut_L41 {l : Launch} {D : va_G} {B : Nat} {O : State → Heap → Prop} (hV : zG l D B O) {o : gO} {Gf : gH} (K107 : gH → Nat → Int32 → Int32 → Int32 → gR) (hK107 : ∀ (G : gH) (x0 : Nat) (x1 : Int32) (x6 : Int32) (x7 : Int32), K107 G x0 x1 x6 x7 = some (o, Gf) → Y (zVm l D B O) m_I_sweepOut 4 o Gf 107 [some (.ref x0), some (.int x1), none, none, none, none, some (.int x6), some (.int x7), none, none, none] [] G) : ∀ (n : Nat) (G : gH) (x0 : Nat) (x1 : Int32) (x2 : Int32) (x3 : Int32) (x5 : Int32) (x6 : Int32) (x7 : Int32) (x8 : Int32), f_I_sweepOut_L41 K107 n G x0 x1 x2 x3 x5 x6 x7 x8 = some (o, Gf) → Y (zVm l D B O) m_I_sweepOut 4 o Gf 41 [some (.ref x0), some (.int x1), some (.int x2), some (.int x3), none, some (.int x5), some (.int x6), some (.int x7), some (.int x8), none, none] [] G := by
  intro n
  induction n with
  | zero => intro G x0 x1 x2 x3 x5 x6 x7 x8 h; cases h
  | succ n ih =>
    intro G x0 x1 x2 x3 x5 x6 x7 x8 h
    unfold f_I_sweepOut_L41 at h
    refine Y.blk (pc' := 45) (L' := [some (.ref x0), some (.int x1), some (.int x2), some (.int x3), none, some (.int x5), some (.int x6), some (.int x7), some (.int x8), none, none]) (st' := [.int x6, .int x8]) (sg := [(.iload 8, 0), (.iload 6, 0)]) (by decide +kernel) rfl ?_
    refine Y.ic_ge (off := 62) (tgt := 107) (by decide +kernel) (by decide) h (fun c47 h => ?_) (fun c47 h => ?_)
    · refine Y.less (L' := [some (.ref x0), some (.int x1), none, none, none, none, some (.int x6), some (.int x7), none, none, none]) (zLe_some (zLe_some (zLe_none (zLe_none (zLe_some (zLe_none (zLe_some (zLe_some (zLe_none (zLe_some (zLe_some (zLe_nil)))))))))))) ?_
      exact hK107 G x0 x1 x6 x7 h
    · refine Y.blk (pc' := 52) (L' := [some (.ref x0), some (.int x1), some (.int x2), some (.int x3), none, some (.int x5), some (.int x6), some (.int x7), some (.int x8), none, none]) (st' := [.int x8, .int x3, .ref x0]) (sg := [(.aload_n 0, 0), (.iload_n 3, 0), (.iload 8, 0)]) (by decide +kernel) rfl ?_
      obtain ⟨_, o23, e22, m24, h⟩ := gOb_inv h
      refine Y.callI (yC.Vi (b := x0) (As := [.int x3, .int x8]) (st := []) (r := ("Partlister$Lists", T_I, 7)) hV.1 cb_I_thingAt lk_I_50 in_I_thingAt rfl se_I_thingAt (by decide +kernel) rfl rfl (Nat.le_of_ble_eq_true rfl) (by decide) e22 m24) (k_I_thingAt hV G x0 x3 x8) h (fun v26 G25 _ h => ?_)
      refine Y.blk (pc' := 61) (L' := [some (.ref x0), some (.int x1), some (.int x2), some (.int x3), none, some (.int x5), some (.int x6), some (.int x7), some (.int x8), some (.int v26), none]) (st' := [.int x5, .int x8]) (sg := [(.istore 9, 0), (.iload 8, 0), (.iload 5, 0)]) (by decide +kernel) rfl ?_
      refine Y.ic_ge (off := 20) (tgt := 81) (by decide +kernel) (by decide) h (fun c46 h => ?_) (fun c46 h => ?_)
      · refine Y.blk (pc' := 86) (L' := [some (.ref x0), some (.int x1), some (.int x2), some (.int x3), none, some (.int x5), some (.int x6), some (.int x7), some (.int x8), some (.int v26), some (.int (nI 0))]) (st' := [.int (nI 0)]) (sg := [(.iconst 0, nI 0), (.istore 10, 0), (.iload 10, 0)]) (by decide +kernel) rfl ?_
        refine Y.if_ne (off := 15) (tgt := 101) (by decide +kernel) (by decide) h (fun c31 h => ?_) (fun c31 h => ?_)
        · refine Y.blk (pc' := 95) (L' := [some (.ref x0), some (.int x1), some (.int x2), some (.int x3), none, some (.int x5), some (.int x6), some (.int x7), some (.int x8), some (.int v26), some (.int (nI 0))]) (st' := [.int v26, .int x7, .int x3, .ref x0]) (sg := [(.aload_n 0, 0), (.iload_n 3, 0), (.iload 7, 0), (.iload 9, 0)]) (by decide +kernel) rfl ?_
          obtain ⟨_, o28, e27, m29, h⟩ := gOb_inv h
          refine Y.callN (yC.Vi (b := x0) (As := [.int x3, .int x7, .int v26]) (st := []) (r := ("Partlister$Lists", T_I, 7)) hV.1 cb_I_write lk_I_53 in_I_write rfl se_I_write (by decide +kernel) rfl rfl (Nat.le_of_ble_eq_true rfl) (by decide) e27 m29) (k_I_write hV G25 x0 x3 x7 v26) h (fun G30 _ h => ?_)
          refine Y.blk (pc' := 104) (L' := [some (.ref x0), some (.int x1), some (.int x2), some (.int x3), none, some (.int x5), some (.int x6), some (.int (x7 + (nI 1))), some (.int (x8 + (nI 1))), some (.int v26), some (.int (nI 0))]) (st' := []) (sg := [(.iinc 7 1, nI 1), (.iinc 8 1, nI 1)]) (by decide +kernel) rfl ?_
          refine Y.goto (off := -63) (tgt := 41) (by decide +kernel) (by decide) ?_
          refine Y.less (L' := [some (.ref x0), some (.int x1), some (.int x2), some (.int x3), none, some (.int x5), some (.int x6), some (.int (x7 + (nI 1))), some (.int (x8 + (nI 1))), none, none]) (zLe_some (zLe_some (zLe_some (zLe_some (zLe_some (zLe_some (zLe_some (zLe_some (zLe_some (zLe_none (zLe_none (zLe_nil)))))))))))) ?_
          exact ih G30 x0 x1 x2 x3 x5 x6 (x7 + (nI 1)) (x8 + (nI 1)) h
        · refine Y.blk (pc' := 104) (L' := [some (.ref x0), some (.int x1), some (.int x2), some (.int x3), none, some (.int x5), some (.int x6), some (.int x7), some (.int (x8 + (nI 1))), some (.int v26), some (.int (nI 0))]) (st' := []) (sg := [(.iinc 8 1, nI 1)]) (by decide +kernel) rfl ?_
          refine Y.goto (off := -63) (tgt := 41) (by decide +kernel) (by decide) ?_
          refine Y.less (L' := [some (.ref x0), some (.int x1), some (.int x2), some (.int x3), none, some (.int x5), some (.int x6), some (.int x7), some (.int (x8 + (nI 1))), none, none]) (zLe_some (zLe_some (zLe_some (zLe_some (zLe_some (zLe_some (zLe_some (zLe_some (zLe_some (zLe_none (zLe_none (zLe_nil)))))))))))) ?_
          exact ih G25 x0 x1 x2 x3 x5 x6 x7 (x8 + (nI 1)) h
      · refine Y.blk (pc' := 67) (L' := [some (.ref x0), some (.int x1), some (.int x2), some (.int x3), none, some (.int x5), some (.int x6), some (.int x7), some (.int x8), some (.int v26), none]) (st' := [.int v26, .int x2]) (sg := [(.iload_n 2, 0), (.iload 9, 0)]) (by decide +kernel) rfl ?_
        refine Y.callI (yC.SN (As := [.int v26]) (st := [.int x2]) hV.1 cb_X_keyOf lk_I_47 st_X_keyOf (by decide +kernel) rfl rfl (Nat.le_of_ble_eq_true rfl) (by decide)) (k_X_keyOf hV G25 v26) h (fun v34 G33 _ h => ?_)
        refine Y.blk (pc' := 74) (L' := [some (.ref x0), some (.int x1), some (.int x2), some (.int x3), none, some (.int x5), some (.int x6), some (.int x7), some (.int x8), some (.int v26), none]) (st' := [.int (nI 1), .int ((x2 >>> (v34 &&& 31)) &&& (nI 1))]) (sg := [(.ishr, 0), (.iconst 1, nI 1), (.iand, 0), (.iconst 1, nI 1)]) (by decide +kernel) rfl ?_
        refine Y.ic_ne (off := 7) (tgt := 81) (by decide +kernel) (by decide) h (fun c45 h => ?_) (fun c45 h => ?_)
        · refine Y.blk (pc' := 78) (L' := [some (.ref x0), some (.int x1), some (.int x2), some (.int x3), none, some (.int x5), some (.int x6), some (.int x7), some (.int x8), some (.int v26), none]) (st' := [.int (nI 1)]) (sg := [(.iconst 1, nI 1)]) (by decide +kernel) rfl ?_
          refine Y.goto (off := 4) (tgt := 82) (by decide +kernel) (by decide) ?_
          refine Y.blk (pc' := 86) (L' := [some (.ref x0), some (.int x1), some (.int x2), some (.int x3), none, some (.int x5), some (.int x6), some (.int x7), some (.int x8), some (.int v26), some (.int (nI 1))]) (st' := [.int (nI 1)]) (sg := [(.istore 10, 0), (.iload 10, 0)]) (by decide +kernel) rfl ?_
          refine Y.if_ne (off := 15) (tgt := 101) (by decide +kernel) (by decide) h (fun c39 h => ?_) (fun c39 h => ?_)
          · refine Y.blk (pc' := 95) (L' := [some (.ref x0), some (.int x1), some (.int x2), some (.int x3), none, some (.int x5), some (.int x6), some (.int x7), some (.int x8), some (.int v26), some (.int (nI 1))]) (st' := [.int v26, .int x7, .int x3, .ref x0]) (sg := [(.aload_n 0, 0), (.iload_n 3, 0), (.iload 7, 0), (.iload 9, 0)]) (by decide +kernel) rfl ?_
            obtain ⟨_, o36, e35, m37, h⟩ := gOb_inv h
            refine Y.callN (yC.Vi (b := x0) (As := [.int x3, .int x7, .int v26]) (st := []) (r := ("Partlister$Lists", T_I, 7)) hV.1 cb_I_write lk_I_53 in_I_write rfl se_I_write (by decide +kernel) rfl rfl (Nat.le_of_ble_eq_true rfl) (by decide) e35 m37) (k_I_write hV G33 x0 x3 x7 v26) h (fun G38 _ h => ?_)
            refine Y.blk (pc' := 104) (L' := [some (.ref x0), some (.int x1), some (.int x2), some (.int x3), none, some (.int x5), some (.int x6), some (.int (x7 + (nI 1))), some (.int (x8 + (nI 1))), some (.int v26), some (.int (nI 1))]) (st' := []) (sg := [(.iinc 7 1, nI 1), (.iinc 8 1, nI 1)]) (by decide +kernel) rfl ?_
            refine Y.goto (off := -63) (tgt := 41) (by decide +kernel) (by decide) ?_
            refine Y.less (L' := [some (.ref x0), some (.int x1), some (.int x2), some (.int x3), none, some (.int x5), some (.int x6), some (.int (x7 + (nI 1))), some (.int (x8 + (nI 1))), none, none]) (zLe_some (zLe_some (zLe_some (zLe_some (zLe_some (zLe_some (zLe_some (zLe_some (zLe_some (zLe_none (zLe_none (zLe_nil)))))))))))) ?_
            exact ih G38 x0 x1 x2 x3 x5 x6 (x7 + (nI 1)) (x8 + (nI 1)) h
          · refine Y.blk (pc' := 104) (L' := [some (.ref x0), some (.int x1), some (.int x2), some (.int x3), none, some (.int x5), some (.int x6), some (.int x7), some (.int (x8 + (nI 1))), some (.int v26), some (.int (nI 1))]) (st' := []) (sg := [(.iinc 8 1, nI 1)]) (by decide +kernel) rfl ?_
            refine Y.goto (off := -63) (tgt := 41) (by decide +kernel) (by decide) ?_
            refine Y.less (L' := [some (.ref x0), some (.int x1), some (.int x2), some (.int x3), none, some (.int x5), some (.int x6), some (.int x7), some (.int (x8 + (nI 1))), none, none]) (zLe_some (zLe_some (zLe_some (zLe_some (zLe_some (zLe_some (zLe_some (zLe_some (zLe_some (zLe_none (zLe_none (zLe_nil)))))))))))) ?_
            exact ih G33 x0 x1 x2 x3 x5 x6 x7 (x8 + (nI 1)) h
        · refine Y.blk (pc' := 86) (L' := [some (.ref x0), some (.int x1), some (.int x2), some (.int x3), none, some (.int x5), some (.int x6), some (.int x7), some (.int x8), some (.int v26), some (.int (nI 0))]) (st' := [.int (nI 0)]) (sg := [(.iconst 0, nI 0), (.istore 10, 0), (.iload 10, 0)]) (by decide +kernel) rfl ?_
          refine Y.if_ne (off := 15) (tgt := 101) (by decide +kernel) (by decide) h (fun c44 h => ?_) (fun c44 h => ?_)
          · refine Y.blk (pc' := 95) (L' := [some (.ref x0), some (.int x1), some (.int x2), some (.int x3), none, some (.int x5), some (.int x6), some (.int x7), some (.int x8), some (.int v26), some (.int (nI 0))]) (st' := [.int v26, .int x7, .int x3, .ref x0]) (sg := [(.aload_n 0, 0), (.iload_n 3, 0), (.iload 7, 0), (.iload 9, 0)]) (by decide +kernel) rfl ?_
            obtain ⟨_, o41, e40, m42, h⟩ := gOb_inv h
            refine Y.callN (yC.Vi (b := x0) (As := [.int x3, .int x7, .int v26]) (st := []) (r := ("Partlister$Lists", T_I, 7)) hV.1 cb_I_write lk_I_53 in_I_write rfl se_I_write (by decide +kernel) rfl rfl (Nat.le_of_ble_eq_true rfl) (by decide) e40 m42) (k_I_write hV G33 x0 x3 x7 v26) h (fun G43 _ h => ?_)
            refine Y.blk (pc' := 104) (L' := [some (.ref x0), some (.int x1), some (.int x2), some (.int x3), none, some (.int x5), some (.int x6), some (.int (x7 + (nI 1))), some (.int (x8 + (nI 1))), some (.int v26), some (.int (nI 0))]) (st' := []) (sg := [(.iinc 7 1, nI 1), (.iinc 8 1, nI 1)]) (by decide +kernel) rfl ?_
            refine Y.goto (off := -63) (tgt := 41) (by decide +kernel) (by decide) ?_
            refine Y.less (L' := [some (.ref x0), some (.int x1), some (.int x2), some (.int x3), none, some (.int x5), some (.int x6), some (.int (x7 + (nI 1))), some (.int (x8 + (nI 1))), none, none]) (zLe_some (zLe_some (zLe_some (zLe_some (zLe_some (zLe_some (zLe_some (zLe_some (zLe_some (zLe_none (zLe_none (zLe_nil)))))))))))) ?_
            exact ih G43 x0 x1 x2 x3 x5 x6 (x7 + (nI 1)) (x8 + (nI 1)) h
          · refine Y.blk (pc' := 104) (L' := [some (.ref x0), some (.int x1), some (.int x2), some (.int x3), none, some (.int x5), some (.int x6), some (.int x7), some (.int (x8 + (nI 1))), some (.int v26), some (.int (nI 0))]) (st' := []) (sg := [(.iinc 8 1, nI 1)]) (by decide +kernel) rfl ?_
            refine Y.goto (off := -63) (tgt := 41) (by decide +kernel) (by decide) ?_
            refine Y.less (L' := [some (.ref x0), some (.int x1), some (.int x2), some (.int x3), none, some (.int x5), some (.int x6), some (.int x7), some (.int (x8 + (nI 1))), none, none]) (zLe_some (zLe_some (zLe_some (zLe_some (zLe_some (zLe_some (zLe_some (zLe_some (zLe_some (zLe_none (zLe_none (zLe_nil)))))))))))) ?_
            exact ih G33 x0 x1 x2 x3 x5 x6 x7 (x8 + (nI 1)) h
theorem k_I_sweepOut {l : Launch} {D : va_G} {B : Nat} {O : State → Heap → Prop} (hV : zG l D B O) (G : gH) (a0 : Nat) (a1 : Int32) (a2 : Int32) : gMet (zVm l D B O) m_I_sweepOut 4 [.ref a0, .int a1, .int a2] G (f_I_sweepOut G a0 a1 a2) := by
  refine gMet.of (by decide +kernel) (Nat.le_of_ble_eq_true rfl) [some (.ref a0), some (.int a1), some (.int a2), none, none, none, none, none, none, none, none] (fun ls h => zEn_ok (n := 11) h) ?_
  intro o Gf h
  unfold f_I_sweepOut at h
  refine Y.blk (pc' := 2) (L' := [some (.ref a0), some (.int a1), some (.int a2), none, none, none, none, none, none, none, none]) (st' := [.int a1, .ref a0]) (sg := [(.aload_n 0, 0), (.iload_n 1, 0)]) (by decide +kernel) rfl ?_
  obtain ⟨_, o2, e1, m3, h⟩ := gOb_inv h
  refine Y.callI (yC.Vi (b := a0) (As := [.int a1]) (st := []) (r := ("Partlister$Lists", T_I, 7)) hV.1 cb_I_rowOf lk_I_56 in_I_rowOf rfl se_I_rowOf (by decide +kernel) rfl rfl (Nat.le_of_ble_eq_true rfl) (by decide) e1 m3) (k_I_rowOf hV G a0 a1) h (fun v5 G4 _ h => ?_)
  refine Y.blk (pc' := 7) (L' := [some (.ref a0), some (.int a1), some (.int a2), some (.int v5), none, none, none, none, none, none, none]) (st' := [.ref a0]) (sg := [(.istore_n 3, 0), (.aload_n 0, 0)]) (by decide +kernel) rfl ?_
  refine Y.getA fl_I_29 (by decide +kernel) h (fun v6 h => ?_)
  refine Y.blk (pc' := 11) (L' := [some (.ref a0), some (.int a1), some (.int a2), some (.int v5), none, none, none, none, none, none, none]) (st' := [.int a1, .ref v6]) (sg := [(.iload_n 1, 0)]) (by decide +kernel) rfl ?_
  obtain ⟨_, o8, e7, m9, h⟩ := gOb_inv h
  refine Y.callI (yC.Vi (b := v6) (As := [.int a1]) (st := []) (r := ("Partlister$Numbers", T_N, 1)) hV.1 cb_N_read lk_I_39 in_N_read rfl se_N_read (by decide +kernel) rfl rfl (Nat.le_of_ble_eq_true rfl) (by decide) e7 m9) (k_N_read hV G4 v6 a1) h (fun v11 G10 _ h => ?_)
  refine Y.blk (pc' := 20) (L' := [some (.ref a0), some (.int a1), some (.int a2), some (.int v5), some (.int v11), none, none, none, none, none, none]) (st' := [.int a1, .ref a0, .int v11]) (sg := [(.istore 4, 0), (.iload 4, 0), (.aload_n 0, 0), (.iload_n 1, 0)]) (by decide +kernel) rfl ?_
  obtain ⟨_, o13, e12, m14, h⟩ := gOb_inv h
  refine Y.callI (yC.Vi (b := a0) (As := [.int a1]) (st := [.int v11]) (r := ("Partlister$Lists", T_I, 7)) hV.1 cb_I_lengthOf lk_I_59 in_I_lengthOf rfl se_I_lengthOf (by decide +kernel) rfl rfl (Nat.le_of_ble_eq_true rfl) (by decide) e12 m14) (k_I_lengthOf hV G10 a0 a1) h (fun v16 G15 _ h => ?_)
  refine Y.blk (pc' := 28) (L' := [some (.ref a0), some (.int a1), some (.int a2), some (.int v5), some (.int v11), some (.int (v11 + v16)), none, none, none, none, none]) (st' := [.int v5, .ref a0]) (sg := [(.iadd, 0), (.istore 5, 0), (.aload_n 0, 0), (.iload_n 3, 0)]) (by decide +kernel) rfl ?_
  obtain ⟨_, o18, e17, m19, h⟩ := gOb_inv h
  refine Y.callI (yC.Vi (b := a0) (As := [.int v5]) (st := []) (r := ("Partlister$Lists", T_I, 7)) hV.1 cb_I_lengthOf lk_I_59 in_I_lengthOf rfl se_I_lengthOf (by decide +kernel) rfl rfl (Nat.le_of_ble_eq_true rfl) (by decide) e17 m19) (k_I_lengthOf hV G15 a0 v5) h (fun v21 G20 _ h => ?_)
  refine Y.blk (pc' := 41) (L' := [some (.ref a0), some (.int a1), some (.int a2), some (.int v5), some (.int v11), some (.int (v11 + v16)), some (.int v21), some (.int v11), some (.int v11), none, none]) (st' := []) (sg := [(.istore 6, 0), (.iload 4, 0), (.istore 7, 0), (.iload 4, 0), (.istore 8, 0)]) (by decide +kernel) rfl ?_
  refine Y.less (L' := [some (.ref a0), some (.int a1), some (.int a2), some (.int v5), none, some (.int (v11 + v16)), some (.int v21), some (.int v11), some (.int v11), none, none]) (zLe_some (zLe_some (zLe_some (zLe_some (zLe_none (zLe_some (zLe_some (zLe_some (zLe_some (zLe_some (zLe_some (zLe_nil)))))))))))) ?_
  refine k_I_sweepOut_L41 hV _ ?_  zFu G20 a0 a1 a2 v5 (v11 + v16) v21 v11 v11 h
  · intro G52 x48 x49 x50 x51 h
    refine Y.blk (pc' := 114) (L' := [some (.ref x48), some (.int x49), none, none, none, none, some (.int x50), some (.int x51), none, none, none]) (st' := [.int (x51 - x50), .int x49, .ref x48]) (sg := [(.aload_n 0, 0), (.iload_n 1, 0), (.iload 7, 0), (.iload 6, 0), (.isub, 0)]) (by decide +kernel) rfl ?_
    obtain ⟨_, o54, e53, m55, h⟩ := gOb_inv h
    refine Y.callN (yC.Vi (b := x48) (As := [.int x49, .int (x51 - x50)]) (st := []) (r := ("Partlister$Lists", T_I, 7)) hV.1 cb_I_lengthen lk_I_62 in_I_lengthen rfl se_I_lengthen (by decide +kernel) rfl rfl (Nat.le_of_ble_eq_true rfl) (by decide) e53 m55) (k_I_lengthen hV G52 x48 x49 (x51 - x50)) h (fun G56 _ h => ?_)
    refine Y.blk (pc' := 122) (L' := [some (.ref x48), some (.int x49), none, none, none, none, some (.int x50), some (.int x51), none, none, none]) (st' := [.int (x50 - x51)]) (sg := [(.iload 6, 0), (.iload 7, 0), (.isub, 0)]) (by decide +kernel) rfl ?_
    exact Y.iret rfl (by decide +kernel) h

def f_X_takeOutAll (G : gH) (a0 : Nat) (a1 : Int32) (a2 : Int32) : gR :=
  gFA G a0 3 0 fun v1 => gOb G v1 1 fun o3 => bI (f_I_sweepOut G v1 a1 a2) fun v6 G5 => if v6 ≤ 0 then rI v6 G5
  else gOb G5 a0 3 fun o8 => bV (f_X_endByLength G5 a0 a1 (-1)) fun G10 => rI v6 G10
theorem k_X_takeOutAll {l : Launch} {D : va_G} {B : Nat} {O : State → Heap → Prop} (hV : zG l D B O) (G : gH) (a0 : Nat) (a1 : Int32) (a2 : Int32) : gMet (zVm l D B O) m_X_takeOutAll 6 [.ref a0, .int a1, .int a2] G (f_X_takeOutAll G a0 a1 a2) := by
  refine gMet.of (by decide +kernel) (Nat.le_of_ble_eq_true rfl) [some (.ref a0), some (.int a1), some (.int a2), none] (fun ls h => zEn_ok (n := 4) h) ?_
  intro o Gf h
  unfold f_X_takeOutAll at h
  refine Y.blk (pc' := 1) (L' := [some (.ref a0), some (.int a1), some (.int a2), none]) (st' := [.ref a0]) (sg := [(.aload_n 0, 0)]) (by decide +kernel) rfl ?_
  refine Y.getA fl_X_10 (by decide +kernel) h (fun v1 h => ?_)
  refine Y.blk (pc' := 6) (L' := [some (.ref a0), some (.int a1), some (.int a2), none]) (st' := [.int a2, .int a1, .ref v1]) (sg := [(.iload_n 1, 0), (.iload_n 2, 0)]) (by decide +kernel) rfl ?_
  obtain ⟨_, o3, e2, m4, h⟩ := gOb_inv h
  refine Y.callI (yC.Vi (b := v1) (As := [.int a1, .int a2]) (st := []) (r := ("Partlister$Lists", T_I, 7)) hV.1 cb_I_sweepOut lk_X_287 in_I_sweepOut rfl se_I_sweepOut (by decide +kernel) rfl rfl (Nat.le_of_ble_eq_true rfl) (by decide) e2 m4) (k_I_sweepOut hV G v1 a1 a2) h (fun v6 G5 _ h => ?_)
  refine Y.blk (pc' := 11) (L' := [some (.ref a0), some (.int a1), some (.int a2), some (.int v6)]) (st' := [.int v6]) (sg := [(.istore_n 3, 0), (.iload_n 3, 0)]) (by decide +kernel) rfl ?_
  refine Y.if_le (off := 9) (tgt := 20) (by decide +kernel) (by decide) h (fun c11 h => ?_) (fun c11 h => ?_)
  · refine Y.blk (pc' := 21) (L' := [some (.ref a0), some (.int a1), some (.int a2), some (.int v6)]) (st' := [.int v6]) (sg := [(.iload_n 3, 0)]) (by decide +kernel) rfl ?_
    exact Y.iret rfl (by decide +kernel) h
  · refine Y.blk (pc' := 17) (L' := [some (.ref a0), some (.int a1), some (.int a2), some (.int v6)]) (st' := [.int (-1), .int a1, .ref a0]) (sg := [(.aload_n 0, 0), (.iload_n 1, 0), (.iconst (-1), -1)]) (by decide +kernel) rfl ?_
    obtain ⟨_, o8, e7, m9, h⟩ := gOb_inv h
    refine Y.callN (yC.Vi (b := a0) (As := [.int a1, .int (-1)]) (st := []) (r := ("Partlister", T_X, 5)) hV.1 cb_X_endByLength lk_X_281 in_X_endByLength rfl se_X_endByLength (by decide +kernel) rfl rfl (Nat.le_of_ble_eq_true rfl) (by decide) e7 m9) (k_X_endByLength hV G5 a0 a1 (-1)) h (fun G10 _ h => ?_)
    refine Y.blk (pc' := 21) (L' := [some (.ref a0), some (.int a1), some (.int a2), some (.int v6)]) (st' := [.int v6]) (sg := [(.iload_n 3, 0)]) (by decide +kernel) rfl ?_
    exact Y.iret rfl (by decide +kernel) h

def f_X_clear (G : gH) (a0 : Nat) (a1 : Int32) : gR :=
  gOb G a0 3 fun o2 => bV (f_X_needList G a0 a1) fun G4 => gOb G4 a0 3 fun o6 => bI (f_X_takeOutAll G4 a0 a1 (-1)) fun v9 G8 => rI v9 G8
theorem k_X_clear {l : Launch} {D : va_G} {B : Nat} {O : State → Heap → Prop} (hV : zG l D B O) (G : gH) (a0 : Nat) (a1 : Int32) : gMet (zVm l D B O) m_X_clear 7 [.ref a0, .int a1] G (f_X_clear G a0 a1) := by
  refine gMet.of (by decide +kernel) (Nat.le_of_ble_eq_true rfl) [some (.ref a0), some (.int a1)] (fun ls h => zEn_ok (n := 2) h) ?_
  intro o Gf h
  unfold f_X_clear at h
  refine Y.blk (pc' := 2) (L' := [some (.ref a0), some (.int a1)]) (st' := [.int a1, .ref a0]) (sg := [(.aload_n 0, 0), (.iload_n 1, 0)]) (by decide +kernel) rfl ?_
  obtain ⟨_, o2, e1, m3, h⟩ := gOb_inv h
  refine Y.callN (yC.Vi (b := a0) (As := [.int a1]) (st := []) (r := ("Partlister", T_X, 5)) hV.1 cb_X_needList lk_X_23 in_X_needList rfl se_X_needList (by decide +kernel) rfl rfl (Nat.le_of_ble_eq_true rfl) (by decide) e1 m3) (k_X_needList hV G a0 a1) h (fun G4 _ h => ?_)
  refine Y.blk (pc' := 8) (L' := [some (.ref a0), some (.int a1)]) (st' := [.int (-1), .int a1, .ref a0]) (sg := [(.aload_n 0, 0), (.iload_n 1, 0), (.iconst (-1), -1)]) (by decide +kernel) rfl ?_
  obtain ⟨_, o6, e5, m7, h⟩ := gOb_inv h
  refine Y.callI (yC.Vi (b := a0) (As := [.int a1, .int (-1)]) (st := []) (r := ("Partlister", T_X, 5)) hV.1 cb_X_takeOutAll lk_X_78 in_X_takeOutAll rfl se_X_takeOutAll (by decide +kernel) rfl rfl (Nat.le_of_ble_eq_true rfl) (by decide) e5 m7) (k_X_takeOutAll hV G4 a0 a1 (-1)) h (fun v9 G8 _ h => ?_)
  exact Y.iret rfl (by decide +kernel) h

def f_X_needPart (G : gH) (a0 : Nat) (a1 : Int32) : gR :=
  if a1 < (nI 2) then gThrow "java/lang/IndexOutOfBoundsException" G
  else gFA G a0 3 0 fun v1 => gOb G v1 1 fun o3 => bI (f_I_isThere G v1 a1) fun v6 G5 => if v6 = 0 then gThrow "java/lang/IndexOutOfBoundsException" G5
    else rV G5
theorem k_X_needPart {l : Launch} {D : va_G} {B : Nat} {O : State → Heap → Prop} (hV : zG l D B O) (G : gH) (a0 : Nat) (a1 : Int32) : gMet (zVm l D B O) m_X_needPart 6 [.ref a0, .int a1] G (f_X_needPart G a0 a1) := by
  refine gMet.of (by decide +kernel) (Nat.le_of_ble_eq_true rfl) [some (.ref a0), some (.int a1)] (fun ls h => zEn_ok (n := 2) h) ?_
  intro o Gf h
  unfold f_X_needPart at h
  refine Y.blk (pc' := 2) (L' := [some (.ref a0), some (.int a1)]) (st' := [.int (nI 2), .int a1]) (sg := [(.iload_n 1, 0), (.iconst 2, nI 2)]) (by decide +kernel) rfl ?_
  refine Y.ic_lt (off := 14) (tgt := 16) (by decide +kernel) (by decide) h (fun c8 h => ?_) (fun c8 h => ?_)
  · exact Y.throwSW (is := 333) (text := "there is no such PART") (names := zNm) hV.1 (hV.2 _ _ _ (by decide +kernel)) (by decide +kernel) (by decide +kernel) ck_X_125 ini_IOE tw_X_129 tg_X_129 (by decide) (by decide) rfl (Nat.le_of_ble_eq_true rfl) (by decide +kernel) (by decide +kernel) (by decide +kernel) (by decide +kernel) (by decide +kernel) h
  · refine Y.blk (pc' := 6) (L' := [some (.ref a0), some (.int a1)]) (st' := [.ref a0]) (sg := [(.aload_n 0, 0)]) (by decide +kernel) rfl ?_
    refine Y.getA fl_X_10 (by decide +kernel) h (fun v1 h => ?_)
    refine Y.blk (pc' := 10) (L' := [some (.ref a0), some (.int a1)]) (st' := [.int a1, .ref v1]) (sg := [(.iload_n 1, 0)]) (by decide +kernel) rfl ?_
    obtain ⟨_, o3, e2, m4, h⟩ := gOb_inv h
    refine Y.callI (yC.Vi (b := v1) (As := [.int a1]) (st := []) (r := ("Partlister$Lists", T_I, 7)) hV.1 cb_I_isThere lk_X_155 in_I_isThere rfl se_I_isThere (by decide +kernel) rfl rfl (Nat.le_of_ble_eq_true rfl) (by decide) e2 m4) (k_I_isThere hV G v1 a1) h (fun v6 G5 _ h => ?_)
    refine Y.if_ne (off := 14) (tgt := 27) (by decide +kernel) (by decide) h (fun c7 h => ?_) (fun c7 h => ?_)
    · exact Y.throwSW (is := 333) (text := "there is no such PART") (names := zNm) hV.1 (hV.2 _ _ _ (by decide +kernel)) (by decide +kernel) (by decide +kernel) ck_X_125 ini_IOE tw_X_129 tg_X_129 (by decide) (by decide) rfl (Nat.le_of_ble_eq_true rfl) (by decide +kernel) (by decide +kernel) (by decide +kernel) (by decide +kernel) (by decide +kernel) h
    · exact Y.vret rfl (by decide +kernel) h

def f_I_endWithin_L4 (K41 : gH → Int32 → gR) : Nat → gH → Nat → Int32 → Int32 → Int32 → gR
  | 0, _, _, _, _, _ => none
  | n + 1, G, x0, x1, x2, x3 =>
    if (nI 6) ≤ x3 then K41 G x2
    else gOb G x0 1 fun o2 => bI (f_I_isThere G x0 x3) fun v5 G4 => if v5 = 0 then f_I_endWithin_L4 K41 n G4 x0 x1 x2 (x3 + (nI 1))
      else gOb G4 x0 1 fun o7 => bI (f_I_isWithin G4 x0 x3 x1) fun v10 G9 => if v10 = 0 then f_I_endWithin_L4 K41 n G9 x0 x1 x2 (x3 + (nI 1))
        else gOb G9 x0 1 fun o12 => bV (f_I_finish G9 x0 x3) fun G14 => f_I_endWithin_L4 K41 n G14 x0 x1 (x2 + (nI 1)) (x3 + (nI 1))
def f_I_endWithin (G : gH) (a0 : Nat) (a1 : Int32) : gR :=
  f_I_endWithin_L4 (fun G19 x18 => rI x18 G19) zFu G a0 a1 (nI 0) (nI 2)
theorem k_I_endWithin_L4 {l : Launch} {D : va_G} {B : Nat} {O : State → Heap → Prop} (hV : zG l D B O) {o : gO} {Gf : gH} (K41 : gH → Int32 → gR) (hK41 : ∀ (G : gH) (x2 : Int32), K41 G x2 = some (o, Gf) → Y (zVm l D B O) m_I_endWithin 3 o Gf 41 [none, none, some (.int x2), none] [] G) : ∀ (n : Nat) (G : gH) (x0 : Nat) (x1 : Int32) (x2 : Int32) (x3 : Int32), f_I_endWithin_L4 K41 n G x0 x1 x2 x3 = some (o, Gf) → Y (zVm l D B O) m_I_endWithin 3 o Gf 4 [some (.ref x0), some (.int x1), some (.int x2), some (.int x3)] [] G := by
  intro n
  induction n with
  | zero => intro G x0 x1 x2 x3 h; cases h
  | succ n ih =>
    intro G x0 x1 x2 x3 h
    unfold f_I_endWithin_L4 at h
    refine Y.blk (pc' := 7) (L' := [some (.ref x0), some (.int x1), some (.int x2), some (.int x3)]) (st' := [.int (nI 6), .int x3]) (sg := [(.iload_n 3, 0), (.bipush 6, nI 6)]) (by decide +kernel) rfl ?_
    refine Y.ic_ge (off := 34) (tgt := 41) (by decide +kernel) (by decide) h (fun c17 h => ?_) (fun c17 h => ?_)
    · refine Y.less (L' := [none, none, some (.int x2), none]) (zLe_none (zLe_none (zLe_some (zLe_none (zLe_nil))))) ?_
      exact hK41 G x2 h
    · refine Y.blk (pc' := 12) (L' := [some (.ref x0), some (.int x1), some (.int x2), some (.int x3)]) (st' := [.int x3, .ref x0]) (sg := [(.aload_n 0, 0), (.iload_n 3, 0)]) (by decide +kernel) rfl ?_
      obtain ⟨_, o2, e1, m3, h⟩ := gOb_inv h
      refine Y.callI (yC.Vi (b := x0) (As := [.int x3]) (st := []) (r := ("Partlister$Lists", T_I, 7)) hV.1 cb_I_isThere lk_I_86 in_I_isThere rfl se_I_isThere (by decide +kernel) rfl rfl (Nat.le_of_ble_eq_true rfl) (by decide) e1 m3) (k_I_isThere hV G x0 x3) h (fun v5 G4 _ h => ?_)
      refine Y.if_eq (off := 20) (tgt := 35) (by decide +kernel) (by decide) h (fun c16 h => ?_) (fun c16 h => ?_)
      · refine Y.blk (pc' := 38) (L' := [some (.ref x0), some (.int x1), some (.int x2), some (.int (x3 + (nI 1)))]) (st' := []) (sg := [(.iinc 3 1, nI 1)]) (by decide +kernel) rfl ?_
        refine Y.goto (off := -34) (tgt := 4) (by decide +kernel) (by decide) ?_
        exact ih G4 x0 x1 x2 (x3 + (nI 1)) h
      · refine Y.blk (pc' := 21) (L' := [some (.ref x0), some (.int x1), some (.int x2), some (.int x3)]) (st' := [.int x1, .int x3, .ref x0]) (sg := [(.aload_n 0, 0), (.iload_n 3, 0), (.iload_n 1, 0)]) (by decide +kernel) rfl ?_
        obtain ⟨_, o7, e6, m8, h⟩ := gOb_inv h
        refine Y.callI (yC.Vi (b := x0) (As := [.int x3, .int x1]) (st := []) (r := ("Partlister$Lists", T_I, 7)) hV.1 cb_I_isWithin lk_I_90 in_I_isWithin rfl se_I_isWithin (by decide +kernel) rfl rfl (Nat.le_of_ble_eq_true rfl) (by decide) e6 m8) (k_I_isWithin hV G4 x0 x3 x1) h (fun v10 G9 _ h => ?_)
        refine Y.if_eq (off := 11) (tgt := 35) (by decide +kernel) (by decide) h (fun c15 h => ?_) (fun c15 h => ?_)
        · refine Y.blk (pc' := 38) (L' := [some (.ref x0), some (.int x1), some (.int x2), some (.int (x3 + (nI 1)))]) (st' := []) (sg := [(.iinc 3 1, nI 1)]) (by decide +kernel) rfl ?_
          refine Y.goto (off := -34) (tgt := 4) (by decide +kernel) (by decide) ?_
          exact ih G9 x0 x1 x2 (x3 + (nI 1)) h
        · refine Y.blk (pc' := 29) (L' := [some (.ref x0), some (.int x1), some (.int x2), some (.int x3)]) (st' := [.int x3, .ref x0]) (sg := [(.aload_n 0, 0), (.iload_n 3, 0)]) (by decide +kernel) rfl ?_
          obtain ⟨_, o12, e11, m13, h⟩ := gOb_inv h
          refine Y.callN (yC.Vi (b := x0) (As := [.int x3]) (st := []) (r := ("Partlister$Lists", T_I, 7)) hV.1 cb_I_finish lk_I_94 in_I_finish rfl se_I_finish (by decide +kernel) rfl rfl (Nat.le_of_ble_eq_true rfl) (by decide) e11 m13) (k_I_finish hV G9 x0 x3) h (fun G14 _ h => ?_)
          refine Y.blk (pc' := 38) (L' := [some (.ref x0), some (.int x1), some (.int (x2 + (nI 1))), some (.int (x3 + (nI 1)))]) (st' := []) (sg := [(.iinc 2 1, nI 1), (.iinc 3 1, nI 1)]) (by decide +kernel) rfl ?_
          refine Y.goto (off := -34) (tgt := 4) (by decide +kernel) (by decide) ?_
          exact ih G14 x0 x1 (x2 + (nI 1)) (x3 + (nI 1)) h
theorem k_I_endWithin {l : Launch} {D : va_G} {B : Nat} {O : State → Heap → Prop} (hV : zG l D B O) (G : gH) (a0 : Nat) (a1 : Int32) : gMet (zVm l D B O) m_I_endWithin 3 [.ref a0, .int a1] G (f_I_endWithin G a0 a1) := by
  refine gMet.of (by decide +kernel) (Nat.le_of_ble_eq_true rfl) [some (.ref a0), some (.int a1), none, none] (fun ls h => zEn_ok (n := 4) h) ?_
  intro o Gf h
  unfold f_I_endWithin at h
  refine Y.blk (pc' := 4) (L' := [some (.ref a0), some (.int a1), some (.int (nI 0)), some (.int (nI 2))]) (st' := []) (sg := [(.iconst 0, nI 0), (.istore_n 2, 0), (.iconst 2, nI 2), (.istore_n 3, 0)]) (by decide +kernel) rfl ?_
  refine k_I_endWithin_L4 hV _ ?_  zFu G a0 a1 (nI 0) (nI 2) h
  · intro G19 x18 h
    refine Y.blk (pc' := 42) (L' := [none, none, some (.int x18), none]) (st' := [.int x18]) (sg := [(.iload_n 2, 0)]) (by decide +kernel) rfl ?_
    exact Y.iret rfl (by decide +kernel) h

def f_X_close_L16 (K64 : gH → Int32 → gR) : Nat → gH → Nat → Int32 → Int32 → gR
  | 0, _, _, _, _ => none
  | n + 1, G, x0, x2, x3 =>
    if (nI 3) ≤ x3 then K64 G x2
    else gFA G x0 3 1 fun v11 => gOb G v11 0 fun o13 => bI (f_U_isThere G v11 x3) fun v16 G15 => if v16 = 0 then f_X_close_L16 K64 n G15 x0 x2 (x3 + (nI 1))
      else gFA G15 x0 3 0 fun v17 => gFA G15 x0 3 1 fun v18 => gOb G15 v18 0 fun o20 => bI (f_U_listOf G15 v18 x3) fun v23 G22 => gOb G22 v17 1 fun o25 => bI (f_I_isThere G22 v17 v23) fun v28 G27 => if v28 = 0 then gFA G27 x0 3 1 fun v29 => gOb G27 v29 0 fun o31 => bV (f_U_finish G27 v29 x3) fun G33 => f_X_close_L16 K64 n G33 x0 x2 (x3 + (nI 1))
        else f_X_close_L16 K64 n G27 x0 x2 (x3 + (nI 1))
def f_X_close (G : gH) (a0 : Nat) (a1 : Int32) : gR :=
  gOb G a0 3 fun o2 => bV (f_X_needPart G a0 a1) fun G4 => gFA G4 a0 3 0 fun v5 => gOb G4 v5 1 fun o7 => bI (f_I_endWithin G4 v5 a1) fun v10 G9 => f_X_close_L16 (fun G38 x37 => rI x37 G38) zFu G9 a0 v10 (nI 0)
theorem k_X_close_L16 {l : Launch} {D : va_G} {B : Nat} {O : State → Heap → Prop} (hV : zG l D B O) {o : gO} {Gf : gH} (K64 : gH → Int32 → gR) (hK64 : ∀ (G : gH) (x2 : Int32), K64 G x2 = some (o, Gf) → Y (zVm l D B O) m_X_close 7 o Gf 64 [none, none, some (.int x2), none] [] G) : ∀ (n : Nat) (G : gH) (x0 : Nat) (x2 : Int32) (x3 : Int32), f_X_close_L16 K64 n G x0 x2 x3 = some (o, Gf) → Y (zVm l D B O) m_X_close 7 o Gf 16 [some (.ref x0), none, some (.int x2), some (.int x3)] [] G := by
  intro n
  induction n with
  | zero => intro G x0 x2 x3 h; cases h
  | succ n ih =>
    intro G x0 x2 x3 h
    unfold f_X_close_L16 at h
    refine Y.blk (pc' := 18) (L' := [some (.ref x0), none, some (.int x2), some (.int x3)]) (st' := [.int (nI 3), .int x3]) (sg := [(.iload_n 3, 0), (.iconst 3, nI 3)]) (by decide +kernel) rfl ?_
    refine Y.ic_ge (off := 46) (tgt := 64) (by decide +kernel) (by decide) h (fun c36 h => ?_) (fun c36 h => ?_)
    · refine Y.less (L' := [none, none, some (.int x2), none]) (zLe_none (zLe_some (zLe_some (zLe_none (zLe_nil))))) ?_
      exact hK64 G x2 h
    · refine Y.blk (pc' := 22) (L' := [some (.ref x0), none, some (.int x2), some (.int x3)]) (st' := [.ref x0]) (sg := [(.aload_n 0, 0)]) (by decide +kernel) rfl ?_
      refine Y.getA fl_X_19 (by decide +kernel) h (fun v11 h => ?_)
      refine Y.blk (pc' := 26) (L' := [some (.ref x0), none, some (.int x2), some (.int x3)]) (st' := [.int x3, .ref v11]) (sg := [(.iload_n 3, 0)]) (by decide +kernel) rfl ?_
      obtain ⟨_, o13, e12, m14, h⟩ := gOb_inv h
      refine Y.callI (yC.Vi (b := v11) (As := [.int x3]) (st := []) (r := ("Partlister$Cursors", T_U, 5)) hV.1 cb_U_isThere lk_X_148 in_U_isThere rfl se_U_isThere (by decide +kernel) rfl rfl (Nat.le_of_ble_eq_true rfl) (by decide) e12 m14) (k_U_isThere hV G v11 x3) h (fun v16 G15 _ h => ?_)
      refine Y.if_eq (off := 29) (tgt := 58) (by decide +kernel) (by decide) h (fun c35 h => ?_) (fun c35 h => ?_)
      · refine Y.blk (pc' := 61) (L' := [some (.ref x0), none, some (.int x2), some (.int (x3 + (nI 1)))]) (st' := []) (sg := [(.iinc 3 1, nI 1)]) (by decide +kernel) rfl ?_
        refine Y.goto (off := -45) (tgt := 16) (by decide +kernel) (by decide) ?_
        exact ih G15 x0 x2 (x3 + (nI 1)) h
      · refine Y.blk (pc' := 33) (L' := [some (.ref x0), none, some (.int x2), some (.int x3)]) (st' := [.ref x0]) (sg := [(.aload_n 0, 0)]) (by decide +kernel) rfl ?_
        refine Y.getA fl_X_10 (by decide +kernel) h (fun v17 h => ?_)
        refine Y.blk (pc' := 37) (L' := [some (.ref x0), none, some (.int x2), some (.int x3)]) (st' := [.ref x0, .ref v17]) (sg := [(.aload_n 0, 0)]) (by decide +kernel) rfl ?_
        refine Y.getA fl_X_19 (by decide +kernel) h (fun v18 h => ?_)
        refine Y.blk (pc' := 41) (L' := [some (.ref x0), none, some (.int x2), some (.int x3)]) (st' := [.int x3, .ref v18, .ref v17]) (sg := [(.iload_n 3, 0)]) (by decide +kernel) rfl ?_
        obtain ⟨_, o20, e19, m21, h⟩ := gOb_inv h
        refine Y.callI (yC.Vi (b := v18) (As := [.int x3]) (st := [.ref v17]) (r := ("Partlister$Cursors", T_U, 5)) hV.1 cb_U_listOf lk_X_152 in_U_listOf rfl se_U_listOf (by decide +kernel) rfl rfl (Nat.le_of_ble_eq_true rfl) (by decide) e19 m21) (k_U_listOf hV G15 v18 x3) h (fun v23 G22 _ h => ?_)
        obtain ⟨_, o25, e24, m26, h⟩ := gOb_inv h
        refine Y.callI (yC.Vi (b := v17) (As := [.int v23]) (st := []) (r := ("Partlister$Lists", T_I, 7)) hV.1 cb_I_isThere lk_X_155 in_I_isThere rfl se_I_isThere (by decide +kernel) rfl rfl (Nat.le_of_ble_eq_true rfl) (by decide) e24 m26) (k_I_isThere hV G22 v17 v23) h (fun v28 G27 _ h => ?_)
        refine Y.if_ne (off := 11) (tgt := 58) (by decide +kernel) (by decide) h (fun c34 h => ?_) (fun c34 h => ?_)
        · refine Y.blk (pc' := 51) (L' := [some (.ref x0), none, some (.int x2), some (.int x3)]) (st' := [.ref x0]) (sg := [(.aload_n 0, 0)]) (by decide +kernel) rfl ?_
          refine Y.getA fl_X_19 (by decide +kernel) h (fun v29 h => ?_)
          refine Y.blk (pc' := 55) (L' := [some (.ref x0), none, some (.int x2), some (.int x3)]) (st' := [.int x3, .ref v29]) (sg := [(.iload_n 3, 0)]) (by decide +kernel) rfl ?_
          obtain ⟨_, o31, e30, m32, h⟩ := gOb_inv h
          refine Y.callN (yC.Vi (b := v29) (As := [.int x3]) (st := []) (r := ("Partlister$Cursors", T_U, 5)) hV.1 cb_U_finish lk_X_156 in_U_finish rfl se_U_finish (by decide +kernel) rfl rfl (Nat.le_of_ble_eq_true rfl) (by decide) e30 m32) (k_U_finish hV G27 v29 x3) h (fun G33 _ h => ?_)
          refine Y.blk (pc' := 61) (L' := [some (.ref x0), none, some (.int x2), some (.int (x3 + (nI 1)))]) (st' := []) (sg := [(.iinc 3 1, nI 1)]) (by decide +kernel) rfl ?_
          refine Y.goto (off := -45) (tgt := 16) (by decide +kernel) (by decide) ?_
          exact ih G33 x0 x2 (x3 + (nI 1)) h
        · refine Y.blk (pc' := 61) (L' := [some (.ref x0), none, some (.int x2), some (.int (x3 + (nI 1)))]) (st' := []) (sg := [(.iinc 3 1, nI 1)]) (by decide +kernel) rfl ?_
          refine Y.goto (off := -45) (tgt := 16) (by decide +kernel) (by decide) ?_
          exact ih G27 x0 x2 (x3 + (nI 1)) h
theorem k_X_close {l : Launch} {D : va_G} {B : Nat} {O : State → Heap → Prop} (hV : zG l D B O) (G : gH) (a0 : Nat) (a1 : Int32) : gMet (zVm l D B O) m_X_close 7 [.ref a0, .int a1] G (f_X_close G a0 a1) := by
  refine gMet.of (by decide +kernel) (Nat.le_of_ble_eq_true rfl) [some (.ref a0), some (.int a1), none, none] (fun ls h => zEn_ok (n := 4) h) ?_
  intro o Gf h
  unfold f_X_close at h
  refine Y.blk (pc' := 2) (L' := [some (.ref a0), some (.int a1), none, none]) (st' := [.int a1, .ref a0]) (sg := [(.aload_n 0, 0), (.iload_n 1, 0)]) (by decide +kernel) rfl ?_
  obtain ⟨_, o2, e1, m3, h⟩ := gOb_inv h
  refine Y.callN (yC.Vi (b := a0) (As := [.int a1]) (st := []) (r := ("Partlister", T_X, 5)) hV.1 cb_X_needPart lk_X_142 in_X_needPart rfl se_X_needPart (by decide +kernel) rfl rfl (Nat.le_of_ble_eq_true rfl) (by decide) e1 m3) (k_X_needPart hV G a0 a1) h (fun G4 _ h => ?_)
  refine Y.blk (pc' := 6) (L' := [some (.ref a0), some (.int a1), none, none]) (st' := [.ref a0]) (sg := [(.aload_n 0, 0)]) (by decide +kernel) rfl ?_
  refine Y.getA fl_X_10 (by decide +kernel) h (fun v5 h => ?_)
  refine Y.blk (pc' := 10) (L' := [some (.ref a0), some (.int a1), none, none]) (st' := [.int a1, .ref v5]) (sg := [(.iload_n 1, 0)]) (by decide +kernel) rfl ?_
  obtain ⟨_, o7, e6, m8, h⟩ := gOb_inv h
  refine Y.callI (yC.Vi (b := v5) (As := [.int a1]) (st := []) (r := ("Partlister$Lists", T_I, 7)) hV.1 cb_I_endWithin lk_X_145 in_I_endWithin rfl se_I_endWithin (by decide +kernel) rfl rfl (Nat.le_of_ble_eq_true rfl) (by decide) e6 m8) (k_I_endWithin hV G4 v5 a1) h (fun v10 G9 _ h => ?_)
  refine Y.blk (pc' := 16) (L' := [some (.ref a0), some (.int a1), some (.int v10), some (.int (nI 0))]) (st' := []) (sg := [(.istore_n 2, 0), (.iconst 0, nI 0), (.istore_n 3, 0)]) (by decide +kernel) rfl ?_
  refine Y.less (L' := [some (.ref a0), none, some (.int v10), some (.int (nI 0))]) (zLe_some (zLe_none (zLe_some (zLe_some (zLe_nil))))) ?_
  refine k_X_close_L16 hV _ ?_  zFu G9 a0 v10 (nI 0) h
  · intro G38 x37 h
    refine Y.blk (pc' := 65) (L' := [none, none, some (.int x37), none]) (st' := [.int x37]) (sg := [(.iload_n 2, 0)]) (by decide +kernel) rfl ?_
    exact Y.iret rfl (by decide +kernel) h

def f_X_countDigits_L9 (K33 : gH → Int32 → gR) : Nat → gH → Int32 → Int32 → Int32 → gR
  | 0, _, _, _, _ => none
  | n + 1, G, x1, x2, x3 =>
    if (nI 10) ≤ x3 then K33 G x1
    else if x2 ≤ 0 then K33 G x1
      else gDiv x2 (nI 10) fun v2 => f_X_countDigits_L9 K33 n G (x1 + (nI 1)) v2 (x3 + (nI 1))
def f_X_countDigits (G : gH) (a0 : Int32) : gR :=
  gDiv a0 (nI 10) fun v1 => f_X_countDigits_L9 (fun G6 x5 => rI x5 G6) zFu G (nI 1) v1 (nI 1)
theorem k_X_countDigits_L9 {l : Launch} {D : va_G} {B : Nat} {O : State → Heap → Prop} (hV : zG l D B O) {o : gO} {Gf : gH} (K33 : gH → Int32 → gR) (hK33 : ∀ (G : gH) (x1 : Int32), K33 G x1 = some (o, Gf) → Y (zVm l D B O) m_X_countDigits 1 o Gf 33 [none, some (.int x1), none, none] [] G) : ∀ (n : Nat) (G : gH) (x1 : Int32) (x2 : Int32) (x3 : Int32), f_X_countDigits_L9 K33 n G x1 x2 x3 = some (o, Gf) → Y (zVm l D B O) m_X_countDigits 1 o Gf 9 [none, some (.int x1), some (.int x2), some (.int x3)] [] G := by
  intro n
  induction n with
  | zero => intro G x1 x2 x3 h; cases h
  | succ n ih =>
    intro G x1 x2 x3 h
    unfold f_X_countDigits_L9 at h
    refine Y.blk (pc' := 12) (L' := [none, some (.int x1), some (.int x2), some (.int x3)]) (st' := [.int (nI 10), .int x3]) (sg := [(.iload_n 3, 0), (.bipush 10, nI 10)]) (by decide +kernel) rfl ?_
    refine Y.ic_ge (off := 21) (tgt := 33) (by decide +kernel) (by decide) h (fun c4 h => ?_) (fun c4 h => ?_)
    · refine Y.less (L' := [none, some (.int x1), none, none]) (zLe_some (zLe_some (zLe_none (zLe_none (zLe_nil))))) ?_
      exact hK33 G x1 h
    · refine Y.blk (pc' := 16) (L' := [none, some (.int x1), some (.int x2), some (.int x3)]) (st' := [.int x2]) (sg := [(.iload_n 2, 0)]) (by decide +kernel) rfl ?_
      refine Y.if_le (off := 17) (tgt := 33) (by decide +kernel) (by decide) h (fun c3 h => ?_) (fun c3 h => ?_)
      · refine Y.less (L' := [none, some (.int x1), none, none]) (zLe_some (zLe_some (zLe_none (zLe_none (zLe_nil))))) ?_
        exact hK33 G x1 h
      · refine Y.blk (pc' := 25) (L' := [none, some (.int (x1 + (nI 1))), some (.int x2), some (.int x3)]) (st' := [.int (nI 10), .int x2]) (sg := [(.iinc 1 1, nI 1), (.iload_n 2, 0), (.bipush 10, nI 10)]) (by decide +kernel) rfl ?_
        refine Y.idiv (by decide +kernel) h (fun v2 h => ?_)
        refine Y.blk (pc' := 30) (L' := [none, some (.int (x1 + (nI 1))), some (.int v2), some (.int (x3 + (nI 1)))]) (st' := []) (sg := [(.istore_n 2, 0), (.iinc 3 1, nI 1)]) (by decide +kernel) rfl ?_
        refine Y.goto (off := -21) (tgt := 9) (by decide +kernel) (by decide) ?_
        exact ih G (x1 + (nI 1)) v2 (x3 + (nI 1)) h
theorem k_X_countDigits {l : Launch} {D : va_G} {B : Nat} {O : State → Heap → Prop} (hV : zG l D B O) (G : gH) (a0 : Int32) : gMet (zVm l D B O) m_X_countDigits 1 [.int a0] G (f_X_countDigits G a0) := by
  refine gMet.of (by decide +kernel) (Nat.le_of_ble_eq_true rfl) [some (.int a0), none, none, none] (fun ls h => zEn_ok (n := 4) h) ?_
  intro o Gf h
  unfold f_X_countDigits at h
  refine Y.blk (pc' := 5) (L' := [some (.int a0), some (.int (nI 1)), none, none]) (st' := [.int (nI 10), .int a0]) (sg := [(.iconst 1, nI 1), (.istore_n 1, 0), (.iload_n 0, 0), (.bipush 10, nI 10)]) (by decide +kernel) rfl ?_
  refine Y.idiv (by decide +kernel) h (fun v1 h => ?_)
  refine Y.blk (pc' := 9) (L' := [some (.int a0), some (.int (nI 1)), some (.int v1), some (.int (nI 1))]) (st' := []) (sg := [(.istore_n 2, 0), (.iconst 1, nI 1), (.istore_n 3, 0)]) (by decide +kernel) rfl ?_
  refine Y.less (L' := [none, some (.int (nI 1)), some (.int v1), some (.int (nI 1))]) (zLe_none (zLe_some (zLe_some (zLe_some (zLe_nil))))) ?_
  refine k_X_countDigits_L9 hV _ ?_  zFu G (nI 1) v1 (nI 1) h
  · intro G6 x5 h
    refine Y.blk (pc' := 34) (L' := [none, some (.int x5), none, none]) (st' := [.int x5]) (sg := [(.iload_n 1, 0)]) (by decide +kernel) rfl ?_
    exact Y.iret rfl (by decide +kernel) h

def f_X_countSigns_L22 (K68 : gH → Int32 → gR) : Nat → gH → Nat → Int32 → Int32 → Int32 → Int32 → gR
  | 0, _, _, _, _, _, _ => none
  | n + 1, G, x0, x1, x2, x3, x4 =>
    if x2 ≤ x4 then K68 G x3
    else gFA G x0 3 0 fun v7 => gOb G v7 1 fun o9 => bI (f_I_thingAt G v7 x1 x4) fun v12 G11 => bI (f_X_keyOf G11 v12) fun v15 G14 => bI (f_X_countDigits G14 v15) fun v18 G17 => bI (f_X_tagOf G17 v12) fun v21 G20 => bI (f_X_countDigits G20 v21) fun v24 G23 => f_X_countSigns_L22 K68 n G23 x0 x1 x2 (x3 + ((v18 + (nI 1)) + v24)) (x4 + (nI 1))
def f_X_countSigns (G : gH) (a0 : Nat) (a1 : Int32) : gR :=
  gFA G a0 3 0 fun v1 => gOb G v1 1 fun o3 => bI (f_I_lengthOf G v1 a1) fun v6 G5 => if v6 = 0 then rI (nI 1) G5
  else f_X_countSigns_L22 (fun G27 x26 => rI x26 G27) zFu G5 a0 a1 v6 (v6 - (nI 1)) (nI 0)
theorem k_X_countSigns_L22 {l : Launch} {D : va_G} {B : Nat} {O : State → Heap → Prop} (hV : zG l D B O) {o : gO} {Gf : gH} (K68 : gH → Int32 → gR) (hK68 : ∀ (G : gH) (x3 : Int32), K68 G x3 = some (o, Gf) → Y (zVm l D B O) m_X_countSigns 4 o Gf 68 [none, none, none, some (.int x3), none, none] [] G) : ∀ (n : Nat) (G : gH) (x0 : Nat) (x1 : Int32) (x2 : Int32) (x3 : Int32) (x4 : Int32), f_X_countSigns_L22 K68 n G x0 x1 x2 x3 x4 = some (o, Gf) → Y (zVm l D B O) m_X_countSigns 4 o Gf 22 [some (.ref x0), some (.int x1), some (.int x2), some (.int x3), some (.int x4), none] [] G := by
  intro n
  induction n with
  | zero => intro G x0 x1 x2 x3 x4 h; cases h
  | succ n ih =>
    intro G x0 x1 x2 x3 x4 h
    unfold f_X_countSigns_L22 at h
    refine Y.blk (pc' := 25) (L' := [some (.ref x0), some (.int x1), some (.int x2), some (.int x3), some (.int x4), none]) (st' := [.int x2, .int x4]) (sg := [(.iload 4, 0), (.iload_n 2, 0)]) (by decide +kernel) rfl ?_
    refine Y.ic_ge (off := 43) (tgt := 68) (by decide +kernel) (by decide) h (fun c25 h => ?_) (fun c25 h => ?_)
    · refine Y.less (L' := [none, none, none, some (.int x3), none, none]) (zLe_none (zLe_none (zLe_none (zLe_some (zLe_none (zLe_some (zLe_nil))))))) ?_
      exact hK68 G x3 h
    · refine Y.blk (pc' := 29) (L' := [some (.ref x0), some (.int x1), some (.int x2), some (.int x3), some (.int x4), none]) (st' := [.ref x0]) (sg := [(.aload_n 0, 0)]) (by decide +kernel) rfl ?_
      refine Y.getA fl_X_10 (by decide +kernel) h (fun v7 h => ?_)
      refine Y.blk (pc' := 35) (L' := [some (.ref x0), some (.int x1), some (.int x2), some (.int x3), some (.int x4), none]) (st' := [.int x4, .int x1, .ref v7]) (sg := [(.iload_n 1, 0), (.iload 4, 0)]) (by decide +kernel) rfl ?_
      obtain ⟨_, o9, e8, m10, h⟩ := gOb_inv h
      refine Y.callI (yC.Vi (b := v7) (As := [.int x1, .int x4]) (st := []) (r := ("Partlister$Lists", T_I, 7)) hV.1 cb_I_thingAt lk_X_94 in_I_thingAt rfl se_I_thingAt (by decide +kernel) rfl rfl (Nat.le_of_ble_eq_true rfl) (by decide) e8 m10) (k_I_thingAt hV G v7 x1 x4) h (fun v12 G11 _ h => ?_)
      refine Y.blk (pc' := 43) (L' := [some (.ref x0), some (.int x1), some (.int x2), some (.int x3), some (.int x4), some (.int v12)]) (st' := [.int v12, .int x3]) (sg := [(.istore 5, 0), (.iload_n 3, 0), (.iload 5, 0)]) (by decide +kernel) rfl ?_
      refine Y.callI (yC.S (As := [.int v12]) (st := [.int x3]) hV.1 cb_X_keyOf lk_X_97 st_X_keyOf (by decide +kernel) rfl rfl (Nat.le_of_ble_eq_true rfl) (by decide)) (k_X_keyOf hV G11 v12) h (fun v15 G14 _ h => ?_)
      refine Y.callI (yC.S (As := [.int v15]) (st := [.int x3]) hV.1 cb_X_countDigits lk_X_326 st_X_countDigits (by decide +kernel) rfl rfl (Nat.le_of_ble_eq_true rfl) (by decide)) (k_X_countDigits hV G14 v15) h (fun v18 G17 _ h => ?_)
      refine Y.blk (pc' := 53) (L' := [some (.ref x0), some (.int x1), some (.int x2), some (.int x3), some (.int x4), some (.int v12)]) (st' := [.int v12, .int (v18 + (nI 1)), .int x3]) (sg := [(.iconst 1, nI 1), (.iadd, 0), (.iload 5, 0)]) (by decide +kernel) rfl ?_
      refine Y.callI (yC.S (As := [.int v12]) (st := [.int (v18 + (nI 1)), .int x3]) hV.1 cb_X_tagOf lk_X_48 st_X_tagOf (by decide +kernel) rfl rfl (Nat.le_of_ble_eq_true rfl) (by decide)) (k_X_tagOf hV G17 v12) h (fun v21 G20 _ h => ?_)
      refine Y.callI (yC.S (As := [.int v21]) (st := [.int (v18 + (nI 1)), .int x3]) hV.1 cb_X_countDigits lk_X_326 st_X_countDigits (by decide +kernel) rfl rfl (Nat.le_of_ble_eq_true rfl) (by decide)) (k_X_countDigits hV G20 v21) h (fun v24 G23 _ h => ?_)
      refine Y.blk (pc' := 65) (L' := [some (.ref x0), some (.int x1), some (.int x2), some (.int (x3 + ((v18 + (nI 1)) + v24))), some (.int (x4 + (nI 1))), some (.int v12)]) (st' := []) (sg := [(.iadd, 0), (.iadd, 0), (.istore_n 3, 0), (.iinc 4 1, nI 1)]) (by decide +kernel) rfl ?_
      refine Y.goto (off := -43) (tgt := 22) (by decide +kernel) (by decide) ?_
      refine Y.less (L' := [some (.ref x0), some (.int x1), some (.int x2), some (.int (x3 + ((v18 + (nI 1)) + v24))), some (.int (x4 + (nI 1))), none]) (zLe_some (zLe_some (zLe_some (zLe_some (zLe_some (zLe_none (zLe_nil))))))) ?_
      exact ih G23 x0 x1 x2 (x3 + ((v18 + (nI 1)) + v24)) (x4 + (nI 1)) h
theorem k_X_countSigns {l : Launch} {D : va_G} {B : Nat} {O : State → Heap → Prop} (hV : zG l D B O) (G : gH) (a0 : Nat) (a1 : Int32) : gMet (zVm l D B O) m_X_countSigns 4 [.ref a0, .int a1] G (f_X_countSigns G a0 a1) := by
  refine gMet.of (by decide +kernel) (Nat.le_of_ble_eq_true rfl) [some (.ref a0), some (.int a1), none, none, none, none] (fun ls h => zEn_ok (n := 6) h) ?_
  intro o Gf h
  unfold f_X_countSigns at h
  refine Y.blk (pc' := 1) (L' := [some (.ref a0), some (.int a1), none, none, none, none]) (st' := [.ref a0]) (sg := [(.aload_n 0, 0)]) (by decide +kernel) rfl ?_
  refine Y.getA fl_X_10 (by decide +kernel) h (fun v1 h => ?_)
  refine Y.blk (pc' := 5) (L' := [some (.ref a0), some (.int a1), none, none, none, none]) (st' := [.int a1, .ref v1]) (sg := [(.iload_n 1, 0)]) (by decide +kernel) rfl ?_
  obtain ⟨_, o3, e2, m4, h⟩ := gOb_inv h
  refine Y.callI (yC.Vi (b := v1) (As := [.int a1]) (st := []) (r := ("Partlister$Lists", T_I, 7)) hV.1 cb_I_lengthOf lk_X_34 in_I_lengthOf rfl se_I_lengthOf (by decide +kernel) rfl rfl (Nat.le_of_ble_eq_true rfl) (by decide) e2 m4) (k_I_lengthOf hV G v1 a1) h (fun v6 G5 _ h => ?_)
  refine Y.blk (pc' := 10) (L' := [some (.ref a0), some (.int a1), some (.int v6), none, none, none]) (st' := [.int v6]) (sg := [(.istore_n 2, 0), (.iload_n 2, 0)]) (by decide +kernel) rfl ?_
  refine Y.if_ne (off := 5) (tgt := 15) (by decide +kernel) (by decide) h (fun c28 h => ?_) (fun c28 h => ?_)
  · refine Y.blk (pc' := 14) (L' := [some (.ref a0), some (.int a1), some (.int v6), none, none, none]) (st' := [.int (nI 1)]) (sg := [(.iconst 1, nI 1)]) (by decide +kernel) rfl ?_
    exact Y.iret rfl (by decide +kernel) h
  · refine Y.blk (pc' := 22) (L' := [some (.ref a0), some (.int a1), some (.int v6), some (.int (v6 - (nI 1))), some (.int (nI 0)), none]) (st' := []) (sg := [(.iload_n 2, 0), (.iconst 1, nI 1), (.isub, 0), (.istore_n 3, 0), (.iconst 0, nI 0), (.istore 4, 0)]) (by decide +kernel) rfl ?_
    refine k_X_countSigns_L22 hV _ ?_  zFu G5 a0 a1 v6 (v6 - (nI 1)) (nI 0) h
    · intro G27 x26 h
      refine Y.blk (pc' := 69) (L' := [none, none, none, some (.int x26), none, none]) (st' := [.int x26]) (sg := [(.iload_n 3, 0)]) (by decide +kernel) rfl ?_
      exact Y.iret rfl (by decide +kernel) h
