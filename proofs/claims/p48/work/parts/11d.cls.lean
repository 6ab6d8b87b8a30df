def f_U_stand (G : gH) (a0 : Nat) (a1 : Int32) (a2 : Int32) (a3 : Int32) : gR :=
  gFA G a0 0 2 fun v1 => gOb G v1 2 fun o3 => bV (f_N_write G v1 a1 a2) fun G4 => gFA G4 a0 0 3 fun v5 => gOb G4 v5 2 fun o7 => bV (f_N_write G4 v5 a1 a3) fun G8 => rV G8
theorem k_U_stand {l : Launch} {D : va_G} {B : Nat} {O : State → Heap → Prop} (hV : zG l D B O) (G : gH) (a0 : Nat) (a1 : Int32) (a2 : Int32) (a3 : Int32) : gMet (zVm l D B O) m_U_stand 2 [.ref a0, .int a1, .int a2, .int a3] G (f_U_stand G a0 a1 a2 a3) := by
  refine gMet.of (by decide +kernel) (Nat.le_of_ble_eq_true rfl) [some (.ref a0), some (.int a1), some (.int a2), some (.int a3)] (fun ls h => zEn_ok (n := 4) h) ?_
  intro o Gf h
  unfold f_U_stand at h
  refine Y.blk (pc' := 1) (L' := [some (.ref a0), some (.int a1), some (.int a2), some (.int a3)]) (st' := [.ref a0]) (sg := [(.aload_n 0, 0)]) (by decide +kernel) rfl ?_
  refine Y.getA fl_U_23 (by decide +kernel) h (fun v1 h => ?_)
  refine Y.blk (pc' := 6) (L' := [some (.ref a0), some (.int a1), some (.int a2), some (.int a3)]) (st' := [.int a2, .int a1, .ref v1]) (sg := [(.iload_n 1, 0), (.iload_n 2, 0)]) (by decide +kernel) rfl ?_
  obtain ⟨o3, e2, h⟩ := gOb_inv h
  refine Y.callN (yC.Vi (b := v1) (As := [.int a1, .int a2]) (st := []) (r := ("Partlister$Numbers", T_N, 1)) hV.1 cb_N_write lk_U_40 in_N_write rfl se_N_write (by decide +kernel) rfl rfl (Nat.le_of_ble_eq_true rfl) (by decide) e2) (k_N_write hV G v1 a1 a2) h (fun G4 _ h => ?_)
  refine Y.blk (pc' := 10) (L' := [some (.ref a0), some (.int a1), some (.int a2), some (.int a3)]) (st' := [.ref a0]) (sg := [(.aload_n 0, 0)]) (by decide +kernel) rfl ?_
  refine Y.getA fl_U_26 (by decide +kernel) h (fun v5 h => ?_)
  refine Y.blk (pc' := 15) (L' := [some (.ref a0), some (.int a1), some (.int a2), some (.int a3)]) (st' := [.int a3, .int a1, .ref v5]) (sg := [(.iload_n 1, 0), (.iload_n 3, 0)]) (by decide +kernel) rfl ?_
  obtain ⟨o7, e6, h⟩ := gOb_inv h
  refine Y.callN (yC.Vi (b := v5) (As := [.int a1, .int a3]) (st := []) (r := ("Partlister$Numbers", T_N, 1)) hV.1 cb_N_write lk_U_40 in_N_write rfl se_N_write (by decide +kernel) rfl rfl (Nat.le_of_ble_eq_true rfl) (by decide) e6) (k_N_write hV G4 v5 a1 a3) h (fun G8 _ h => ?_)
  exact Y.vret rfl (by decide +kernel) h

def f_U_start (G : gH) (a0 : Nat) (a1 : Int32) (a2 : Int32) (a3 : Int32) : gR :=
  gFA G a0 0 0 fun v1 => gOb G v1 2 fun o3 => bV (f_N_write G v1 a1 (nI 1)) fun G4 => gFA G4 a0 0 1 fun v5 => gOb G4 v5 2 fun o7 => bV (f_N_write G4 v5 a1 a2) fun G8 => gOb G8 a0 0 fun o10 => bV (f_U_stand G8 a0 a1 a3 (-1)) fun G11 => rV G11
theorem k_U_start {l : Launch} {D : va_G} {B : Nat} {O : State → Heap → Prop} (hV : zG l D B O) (G : gH) (a0 : Nat) (a1 : Int32) (a2 : Int32) (a3 : Int32) : gMet (zVm l D B O) m_U_start 3 [.ref a0, .int a1, .int a2, .int a3] G (f_U_start G a0 a1 a2 a3) := by
  refine gMet.of (by decide +kernel) (Nat.le_of_ble_eq_true rfl) [some (.ref a0), some (.int a1), some (.int a2), some (.int a3)] (fun ls h => zEn_ok (n := 4) h) ?_
  intro o Gf h
  unfold f_U_start at h
  refine Y.blk (pc' := 1) (L' := [some (.ref a0), some (.int a1), some (.int a2), some (.int a3)]) (st' := [.ref a0]) (sg := [(.aload_n 0, 0)]) (by decide +kernel) rfl ?_
  refine Y.getA fl_U_14 (by decide +kernel) h (fun v1 h => ?_)
  refine Y.blk (pc' := 6) (L' := [some (.ref a0), some (.int a1), some (.int a2), some (.int a3)]) (st' := [.int (nI 1), .int a1, .ref v1]) (sg := [(.iload_n 1, 0), (.iconst 1, nI 1)]) (by decide +kernel) rfl ?_
  obtain ⟨o3, e2, h⟩ := gOb_inv h
  refine Y.callN (yC.Vi (b := v1) (As := [.int a1, .int (nI 1)]) (st := []) (r := ("Partlister$Numbers", T_N, 1)) hV.1 cb_N_write lk_U_40 in_N_write rfl se_N_write (by decide +kernel) rfl rfl (Nat.le_of_ble_eq_true rfl) (by decide) e2) (k_N_write hV G v1 a1 (nI 1)) h (fun G4 _ h => ?_)
  refine Y.blk (pc' := 10) (L' := [some (.ref a0), some (.int a1), some (.int a2), some (.int a3)]) (st' := [.ref a0]) (sg := [(.aload_n 0, 0)]) (by decide +kernel) rfl ?_
  refine Y.getA fl_U_20 (by decide +kernel) h (fun v5 h => ?_)
  refine Y.blk (pc' := 15) (L' := [some (.ref a0), some (.int a1), some (.int a2), some (.int a3)]) (st' := [.int a2, .int a1, .ref v5]) (sg := [(.iload_n 1, 0), (.iload_n 2, 0)]) (by decide +kernel) rfl ?_
  obtain ⟨o7, e6, h⟩ := gOb_inv h
  refine Y.callN (yC.Vi (b := v5) (As := [.int a1, .int a2]) (st := []) (r := ("Partlister$Numbers", T_N, 1)) hV.1 cb_N_write lk_U_40 in_N_write rfl se_N_write (by decide +kernel) rfl rfl (Nat.le_of_ble_eq_true rfl) (by decide) e6) (k_N_write hV G4 v5 a1 a2) h (fun G8 _ h => ?_)
  refine Y.blk (pc' := 22) (L' := [some (.ref a0), some (.int a1), some (.int a2), some (.int a3)]) (st' := [.int (-1), .int a3, .int a1, .ref a0]) (sg := [(.aload_n 0, 0), (.iload_n 1, 0), (.iload_n 3, 0), (.iconst (-1), -1)]) (by decide +kernel) rfl ?_
  obtain ⟨o10, e9, h⟩ := gOb_inv h
  refine Y.callN (yC.Vi (b := a0) (As := [.int a1, .int a3, .int (-1)]) (st := []) (r := ("Partlister$Cursors", T_U, 5)) hV.1 cb_U_stand lk_U_44 in_U_stand rfl se_U_stand (by decide +kernel) rfl rfl (Nat.le_of_ble_eq_true rfl) (by decide) e9) (k_U_stand hV G8 a0 a1 a3 (-1)) h (fun G11 _ h => ?_)
  exact Y.vret rfl (by decide +kernel) h

def f_X_cursor (G : gH) (a0 : Nat) (a1 : Int32) (a2 : Int32) : gR :=
  gOb G a0 3 fun o2 => bV (f_X_needList G a0 a1) fun G3 => gOb G3 a0 3 fun o5 => bV (f_X_needGap G3 a0 a1 a2) fun G6 => gFA G6 a0 3 1 fun v7 => gOb G6 v7 0 fun o9 => bI (f_U_freeCursor G6 v7) fun v11 G10 => if v11 = (-1) then gThrow "java/lang/IllegalStateException" G10
  else gFA G10 a0 3 1 fun v12 => gOb G10 v12 0 fun o14 => bV (f_U_start G10 v12 v11 a1 a2) fun G15 => rI v11 G15
theorem k_X_cursor {l : Launch} {D : va_G} {B : Nat} {O : State → Heap → Prop} (hV : zG l D B O) (G : gH) (a0 : Nat) (a1 : Int32) (a2 : Int32) : gMet (zVm l D B O) m_X_cursor 7 [.ref a0, .int a1, .int a2] G (f_X_cursor G a0 a1 a2) := by
  refine gMet.of (by decide +kernel) (Nat.le_of_ble_eq_true rfl) [some (.ref a0), some (.int a1), some (.int a2), none] (fun ls h => zEn_ok (n := 4) h) ?_
  intro o Gf h
  unfold f_X_cursor at h
  refine Y.blk (pc' := 2) (L' := [some (.ref a0), some (.int a1), some (.int a2), none]) (st' := [.int a1, .ref a0]) (sg := [(.aload_n 0, 0), (.iload_n 1, 0)]) (by decide +kernel) rfl ?_
  obtain ⟨o2, e1, h⟩ := gOb_inv h
  refine Y.callN (yC.Vi (b := a0) (As := [.int a1]) (st := []) (r := ("Partlister", T_X, 5)) hV.1 cb_X_needList lk_X_23 in_X_needList rfl se_X_needList (by decide +kernel) rfl rfl (Nat.le_of_ble_eq_true rfl) (by decide) e1) (k_X_needList hV G a0 a1) h (fun G3 _ h => ?_)
  refine Y.blk (pc' := 8) (L' := [some (.ref a0), some (.int a1), some (.int a2), none]) (st' := [.int a2, .int a1, .ref a0]) (sg := [(.aload_n 0, 0), (.iload_n 1, 0), (.iload_n 2, 0)]) (by decide +kernel) rfl ?_
  obtain ⟨o5, e4, h⟩ := gOb_inv h
  refine Y.callN (yC.Vi (b := a0) (As := [.int a1, .int a2]) (st := []) (r := ("Partlister", T_X, 5)) hV.1 cb_X_needGap lk_X_45 in_X_needGap rfl se_X_needGap (by decide +kernel) rfl rfl (Nat.le_of_ble_eq_true rfl) (by decide) e4) (k_X_needGap hV G3 a0 a1 a2) h (fun G6 _ h => ?_)
  refine Y.blk (pc' := 12) (L' := [some (.ref a0), some (.int a1), some (.int a2), none]) (st' := [.ref a0]) (sg := [(.aload_n 0, 0)]) (by decide +kernel) rfl ?_
  refine Y.getA fl_X_19 (by decide +kernel) h (fun v7 h => ?_)
  obtain ⟨o9, e8, h⟩ := gOb_inv h
  refine Y.callI (yC.Vi (b := v7) (As := []) (st := []) (r := ("Partlister$Cursors", T_U, 5)) hV.1 cb_U_freeCursor lk_X_159 in_U_freeCursor rfl se_U_freeCursor (by decide +kernel) rfl rfl (Nat.le_of_ble_eq_true rfl) (by decide) e8) (k_U_freeCursor hV G6 v7) h (fun v11 G10 _ h => ?_)
  refine Y.blk (pc' := 21) (L' := [some (.ref a0), some (.int a1), some (.int a2), some (.int v11)]) (st' := [.int (-1), .int v11]) (sg := [(.istore_n 3, 0), (.iload_n 3, 0), (.iconst (-1), -1)]) (by decide +kernel) rfl ?_
  refine Y.ic_ne (off := 13) (tgt := 34) (by decide +kernel) (by decide) h (fun c16 h => ?_) (fun c16 h => ?_)
  · exact Y.throwS (is := 162) (text := "there are three CURSORS") (names := zNm) hV.1 (hV.2 _ _ _ (by decide +kernel)) (by decide +kernel) (by decide +kernel) ck_X_134 ini_ISE tw_X_138 tg_X_138 (by decide) (by decide) rfl (Nat.le_of_ble_eq_true rfl) (by decide +kernel) (by decide +kernel) (by decide +kernel) (by decide +kernel) (by decide +kernel) h
  · refine Y.blk (pc' := 35) (L' := [some (.ref a0), some (.int a1), some (.int a2), some (.int v11)]) (st' := [.ref a0]) (sg := [(.aload_n 0, 0)]) (by decide +kernel) rfl ?_
    refine Y.getA fl_X_19 (by decide +kernel) h (fun v12 h => ?_)
    refine Y.blk (pc' := 41) (L' := [some (.ref a0), some (.int a1), some (.int a2), some (.int v11)]) (st' := [.int a2, .int a1, .int v11, .ref v12]) (sg := [(.iload_n 3, 0), (.iload_n 1, 0), (.iload_n 2, 0)]) (by decide +kernel) rfl ?_
    obtain ⟨o14, e13, h⟩ := gOb_inv h
    refine Y.callN (yC.Vi (b := v12) (As := [.int v11, .int a1, .int a2]) (st := []) (r := ("Partlister$Cursors", T_U, 5)) hV.1 cb_U_start lk_X_164 in_U_start rfl se_U_start (by decide +kernel) rfl rfl (Nat.le_of_ble_eq_true rfl) (by decide) e13) (k_U_start hV G10 v12 v11 a1 a2) h (fun G15 _ h => ?_)
    refine Y.blk (pc' := 45) (L' := [some (.ref a0), some (.int a1), some (.int a2), some (.int v11)]) (st' := [.int v11]) (sg := [(.iload_n 3, 0)]) (by decide +kernel) rfl ?_
    exact Y.iret rfl (by decide +kernel) h

def f_X_mix (G : gH) (a0 : Int64) (a2 : Int64) : gR :=
  rL ((a0 * (lN 31)) + a2) G
theorem k_X_mix {l : Launch} {D : va_G} {B : Nat} {O : State → Heap → Prop} (hV : zG l D B O) (G : gH) (a0 : Int64) (a2 : Int64) : gMet (zVm l D B O) m_X_mix 1 [.long a0, .long a2] G (f_X_mix G a0 a2) := by
  refine gMet.of (by decide +kernel) (Nat.le_of_ble_eq_true rfl) [some (.long a0), none, some (.long a2), none] (fun ls h => zEn_ok (n := 4) h) ?_
  intro o Gf h
  unfold f_X_mix at h
  refine Y.blk (pc' := 1) (L' := [some (.long a0), none, some (.long a2), none]) (st' := [.long a0]) (sg := [(.lload_n 0, 0)]) (by decide +kernel) rfl ?_
  refine Y.ldc2 (v := lN 31) co_X_321 (by decide +kernel) ?_
  refine Y.blk (pc' := 7) (L' := [some (.long a0), none, some (.long a2), none]) (st' := [.long ((a0 * (lN 31)) + a2)]) (sg := [(.lmul, 0), (.lload_n 2, 0), (.ladd, 0)]) (by decide +kernel) rfl ?_
  exact Y.lret rfl (by decide +kernel) h

def f_I_countOf_L12 (K38 : gH → Int32 → gR) : Nat → gH → Nat → Int32 → Int32 → Int32 → Int32 → Int32 → gR
  | 0, _, _, _, _, _, _, _ => none
  | n + 1, G, x0, x1, x2, x3, x4, x5 =>
    if x3 ≤ x5 then K38 G x4
    else gOb G x0 1 fun o6 => bI (f_I_keyAt G x0 x1 x5) fun v8 G7 => if v8 = x2 then f_I_countOf_L12 K38 n G7 x0 x1 x2 x3 (x4 + (nI 1)) (x5 + (nI 1))
      else f_I_countOf_L12 K38 n G7 x0 x1 x2 x3 x4 (x5 + (nI 1))
def f_I_countOf (G : gH) (a0 : Nat) (a1 : Int32) (a2 : Int32) : gR :=
  gOb G a0 1 fun o2 => bI (f_I_lengthOf G a0 a1) fun v4 G3 => f_I_countOf_L12 (fun G12 x11 => rI x11 G12) zFu G3 a0 a1 a2 v4 (nI 0) (nI 0)
theorem k_I_countOf_L12 {l : Launch} {D : va_G} {B : Nat} {O : State → Heap → Prop} (hV : zG l D B O) {o : gO} {Gf : gH} (K38 : gH → Int32 → gR) (hK38 : ∀ (G : gH) (x4 : Int32), K38 G x4 = some (o, Gf) → Y (zVm l D B O) m_I_countOf 4 o Gf 38 [none, none, none, none, some (.int x4), none] [] G) : ∀ (n : Nat) (G : gH) (x0 : Nat) (x1 : Int32) (x2 : Int32) (x3 : Int32) (x4 : Int32) (x5 : Int32), f_I_countOf_L12 K38 n G x0 x1 x2 x3 x4 x5 = some (o, Gf) → Y (zVm l D B O) m_I_countOf 4 o Gf 12 [some (.ref x0), some (.int x1), some (.int x2), some (.int x3), some (.int x4), some (.int x5)] [] G := by
  intro n
  induction n with
  | zero => intro G x0 x1 x2 x3 x4 x5 h; cases h
  | succ n ih =>
    intro G x0 x1 x2 x3 x4 x5 h
    unfold f_I_countOf_L12 at h
    refine Y.blk (pc' := 15) (L' := [some (.ref x0), some (.int x1), some (.int x2), some (.int x3), some (.int x4), some (.int x5)]) (st' := [.int x3, .int x5]) (sg := [(.iload 5, 0), (.iload_n 3, 0)]) (by decide +kernel) rfl ?_
    refine Y.ic_ge (off := 23) (tgt := 38) (by decide +kernel) (by decide) h (fun c10 h => ?_) (fun c10 h => ?_)
    · refine Y.less (L' := [none, none, none, none, some (.int x4), none]) (zLe_none (zLe_none (zLe_none (zLe_none (zLe_some (zLe_none (zLe_nil))))))) ?_
      exact hK38 G x4 h
    · refine Y.blk (pc' := 22) (L' := [some (.ref x0), some (.int x1), some (.int x2), some (.int x3), some (.int x4), some (.int x5)]) (st' := [.int x5, .int x1, .ref x0]) (sg := [(.aload_n 0, 0), (.iload_n 1, 0), (.iload 5, 0)]) (by decide +kernel) rfl ?_
      obtain ⟨o6, e5, h⟩ := gOb_inv h
      refine Y.callI (yC.Vi (b := x0) (As := [.int x1, .int x5]) (st := []) (r := ("Partlister$Lists", T_I, 7)) hV.1 cb_I_keyAt lk_I_101 in_I_keyAt rfl se_I_keyAt (by decide +kernel) rfl rfl (Nat.le_of_ble_eq_true rfl) (by decide) e5) (k_I_keyAt hV G x0 x1 x5) h (fun v8 G7 _ h => ?_)
      refine Y.blk (pc' := 26) (L' := [some (.ref x0), some (.int x1), some (.int x2), some (.int x3), some (.int x4), some (.int x5)]) (st' := [.int x2, .int v8]) (sg := [(.iload_n 2, 0)]) (by decide +kernel) rfl ?_
      refine Y.ic_ne (off := 6) (tgt := 32) (by decide +kernel) (by decide) h (fun c9 h => ?_) (fun c9 h => ?_)
      · refine Y.blk (pc' := 35) (L' := [some (.ref x0), some (.int x1), some (.int x2), some (.int x3), some (.int (x4 + (nI 1))), some (.int (x5 + (nI 1)))]) (st' := []) (sg := [(.iinc 4 1, nI 1), (.iinc 5 1, nI 1)]) (by decide +kernel) rfl ?_
        refine Y.goto (off := -23) (tgt := 12) (by decide +kernel) (by decide) ?_
        exact ih G7 x0 x1 x2 x3 (x4 + (nI 1)) (x5 + (nI 1)) h
      · refine Y.blk (pc' := 35) (L' := [some (.ref x0), some (.int x1), some (.int x2), some (.int x3), some (.int x4), some (.int (x5 + (nI 1)))]) (st' := []) (sg := [(.iinc 5 1, nI 1)]) (by decide +kernel) rfl ?_
        refine Y.goto (off := -23) (tgt := 12) (by decide +kernel) (by decide) ?_
        exact ih G7 x0 x1 x2 x3 x4 (x5 + (nI 1)) h
theorem k_I_countOf {l : Launch} {D : va_G} {B : Nat} {O : State → Heap → Prop} (hV : zG l D B O) (G : gH) (a0 : Nat) (a1 : Int32) (a2 : Int32) : gMet (zVm l D B O) m_I_countOf 4 [.ref a0, .int a1, .int a2] G (f_I_countOf G a0 a1 a2) := by
  refine gMet.of (by decide +kernel) (Nat.le_of_ble_eq_true rfl) [some (.ref a0), some (.int a1), some (.int a2), none, none, none] (fun ls h => zEn_ok (n := 6) h) ?_
  intro o Gf h
  unfold f_I_countOf at h
  refine Y.blk (pc' := 2) (L' := [some (.ref a0), some (.int a1), some (.int a2), none, none, none]) (st' := [.int a1, .ref a0]) (sg := [(.aload_n 0, 0), (.iload_n 1, 0)]) (by decide +kernel) rfl ?_
  obtain ⟨o2, e1, h⟩ := gOb_inv h
  refine Y.callI (yC.Vi (b := a0) (As := [.int a1]) (st := []) (r := ("Partlister$Lists", T_I, 7)) hV.1 cb_I_lengthOf lk_I_59 in_I_lengthOf rfl se_I_lengthOf (by decide +kernel) rfl rfl (Nat.le_of_ble_eq_true rfl) (by decide) e1) (k_I_lengthOf hV G a0 a1) h (fun v4 G3 _ h => ?_)
  refine Y.blk (pc' := 12) (L' := [some (.ref a0), some (.int a1), some (.int a2), some (.int v4), some (.int (nI 0)), some (.int (nI 0))]) (st' := []) (sg := [(.istore_n 3, 0), (.iconst 0, nI 0), (.istore 4, 0), (.iconst 0, nI 0), (.istore 5, 0)]) (by decide +kernel) rfl ?_
  refine k_I_countOf_L12 hV _ ?_  zFu G3 a0 a1 a2 v4 (nI 0) (nI 0) h
  · intro G12 x11 h
    refine Y.blk (pc' := 40) (L' := [none, none, none, none, some (.int x11), none]) (st' := [.int x11]) (sg := [(.iload 4, 0)]) (by decide +kernel) rfl ?_
    exact Y.iret rfl (by decide +kernel) h

def f_I_extremeKey_L12 (K64 : gH → Int32 → gR) : Nat → gH → Nat → Int32 → Int32 → Int32 → Int32 → Int32 → gR
  | 0, _, _, _, _, _, _, _ => none
  | n + 1, G, x0, x1, x2, x3, x4, x5 =>
    if x3 ≤ x5 then K64 G x4
    else gOb G x0 1 fun o6 => bI (f_I_keyAt G x0 x1 x5) fun v8 G7 => if x4 = (-1) then f_I_extremeKey_L12 K64 n G7 x0 x1 x2 x3 v8 (x5 + (nI 1))
      else if x2 = 0 then (if v8 ≤ x4 then f_I_extremeKey_L12 K64 n G7 x0 x1 x2 x3 x4 (x5 + (nI 1))
          else f_I_extremeKey_L12 K64 n G7 x0 x1 x2 x3 v8 (x5 + (nI 1)))
        else if x4 ≤ v8 then f_I_extremeKey_L12 K64 n G7 x0 x1 x2 x3 x4 (x5 + (nI 1))
          else f_I_extremeKey_L12 K64 n G7 x0 x1 x2 x3 v8 (x5 + (nI 1))
def f_I_extremeKey (G : gH) (a0 : Nat) (a1 : Int32) (a2 : Int32) : gR :=
  gOb G a0 1 fun o2 => bI (f_I_lengthOf G a0 a1) fun v4 G3 => f_I_extremeKey_L12 (fun G15 x14 => rI x14 G15) zFu G3 a0 a1 a2 v4 (-1) (nI 0)
theorem k_I_extremeKey_L12 {l : Launch} {D : va_G} {B : Nat} {O : State → Heap → Prop} (hV : zG l D B O) {o : gO} {Gf : gH} (K64 : gH → Int32 → gR) (hK64 : ∀ (G : gH) (x4 : Int32), K64 G x4 = some (o, Gf) → Y (zVm l D B O) m_I_extremeKey 4 o Gf 64 [none, none, none, none, some (.int x4), none, none] [] G) : ∀ (n : Nat) (G : gH) (x0 : Nat) (x1 : Int32) (x2 : Int32) (x3 : Int32) (x4 : Int32) (x5 : Int32), f_I_extremeKey_L12 K64 n G x0 x1 x2 x3 x4 x5 = some (o, Gf) → Y (zVm l D B O) m_I_extremeKey 4 o Gf 12 [some (.ref x0), some (.int x1), some (.int x2), some (.int x3), some (.int x4), some (.int x5), none] [] G := by
  intro n
  induction n with
  | zero => intro G x0 x1 x2 x3 x4 x5 h; cases h
  | succ n ih =>
    intro G x0 x1 x2 x3 x4 x5 h
    unfold f_I_extremeKey_L12 at h
    refine Y.blk (pc' := 15) (L' := [some (.ref x0), some (.int x1), some (.int x2), some (.int x3), some (.int x4), some (.int x5), none]) (st' := [.int x3, .int x5]) (sg := [(.iload 5, 0), (.iload_n 3, 0)]) (by decide +kernel) rfl ?_
    refine Y.ic_ge (off := 49) (tgt := 64) (by decide +kernel) (by decide) h (fun c13 h => ?_) (fun c13 h => ?_)
    · refine Y.less (L' := [none, none, none, none, some (.int x4), none, none]) (zLe_none (zLe_none (zLe_none (zLe_none (zLe_some (zLe_none (zLe_some (zLe_nil)))))))) ?_
      exact hK64 G x4 h
    · refine Y.blk (pc' := 22) (L' := [some (.ref x0), some (.int x1), some (.int x2), some (.int x3), some (.int x4), some (.int x5), none]) (st' := [.int x5, .int x1, .ref x0]) (sg := [(.aload_n 0, 0), (.iload_n 1, 0), (.iload 5, 0)]) (by decide +kernel) rfl ?_
      obtain ⟨o6, e5, h⟩ := gOb_inv h
      refine Y.callI (yC.Vi (b := x0) (As := [.int x1, .int x5]) (st := []) (r := ("Partlister$Lists", T_I, 7)) hV.1 cb_I_keyAt lk_I_101 in_I_keyAt rfl se_I_keyAt (by decide +kernel) rfl rfl (Nat.le_of_ble_eq_true rfl) (by decide) e5) (k_I_keyAt hV G x0 x1 x5) h (fun v8 G7 _ h => ?_)
      refine Y.blk (pc' := 30) (L' := [some (.ref x0), some (.int x1), some (.int x2), some (.int x3), some (.int x4), some (.int x5), some (.int v8)]) (st' := [.int (-1), .int x4]) (sg := [(.istore 6, 0), (.iload 4, 0), (.iconst (-1), -1)]) (by decide +kernel) rfl ?_
      refine Y.ic_eq (off := 24) (tgt := 54) (by decide +kernel) (by decide) h (fun c12 h => ?_) (fun c12 h => ?_)
      · refine Y.blk (pc' := 61) (L' := [some (.ref x0), some (.int x1), some (.int x2), some (.int x3), some (.int v8), some (.int (x5 + (nI 1))), some (.int v8)]) (st' := []) (sg := [(.iload 6, 0), (.istore 4, 0), (.iinc 5 1, nI 1)]) (by decide +kernel) rfl ?_
        refine Y.goto (off := -49) (tgt := 12) (by decide +kernel) (by decide) ?_
        refine Y.less (L' := [some (.ref x0), some (.int x1), some (.int x2), some (.int x3), some (.int v8), some (.int (x5 + (nI 1))), none]) (zLe_some (zLe_some (zLe_some (zLe_some (zLe_some (zLe_some (zLe_none (zLe_nil)))))))) ?_
        exact ih G7 x0 x1 x2 x3 v8 (x5 + (nI 1)) h
      · refine Y.blk (pc' := 34) (L' := [some (.ref x0), some (.int x1), some (.int x2), some (.int x3), some (.int x4), some (.int x5), some (.int v8)]) (st' := [.int x2]) (sg := [(.iload_n 2, 0)]) (by decide +kernel) rfl ?_
        refine Y.if_eq (off := 13) (tgt := 47) (by decide +kernel) (by decide) h (fun c11 h => ?_) (fun c11 h => ?_)
        · refine Y.blk (pc' := 51) (L' := [some (.ref x0), some (.int x1), some (.int x2), some (.int x3), some (.int x4), some (.int x5), some (.int v8)]) (st' := [.int x4, .int v8]) (sg := [(.iload 6, 0), (.iload 4, 0)]) (by decide +kernel) rfl ?_
          refine Y.ic_le (off := 7) (tgt := 58) (by decide +kernel) (by decide) h (fun c9 h => ?_) (fun c9 h => ?_)
          · refine Y.blk (pc' := 61) (L' := [some (.ref x0), some (.int x1), some (.int x2), some (.int x3), some (.int x4), some (.int (x5 + (nI 1))), some (.int v8)]) (st' := []) (sg := [(.iinc 5 1, nI 1)]) (by decide +kernel) rfl ?_
            refine Y.goto (off := -49) (tgt := 12) (by decide +kernel) (by decide) ?_
            refine Y.less (L' := [some (.ref x0), some (.int x1), some (.int x2), some (.int x3), some (.int x4), some (.int (x5 + (nI 1))), none]) (zLe_some (zLe_some (zLe_some (zLe_some (zLe_some (zLe_some (zLe_none (zLe_nil)))))))) ?_
            exact ih G7 x0 x1 x2 x3 x4 (x5 + (nI 1)) h
          · refine Y.blk (pc' := 61) (L' := [some (.ref x0), some (.int x1), some (.int x2), some (.int x3), some (.int v8), some (.int (x5 + (nI 1))), some (.int v8)]) (st' := []) (sg := [(.iload 6, 0), (.istore 4, 0), (.iinc 5 1, nI 1)]) (by decide +kernel) rfl ?_
            refine Y.goto (off := -49) (tgt := 12) (by decide +kernel) (by decide) ?_
            refine Y.less (L' := [some (.ref x0), some (.int x1), some (.int x2), some (.int x3), some (.int v8), some (.int (x5 + (nI 1))), none]) (zLe_some (zLe_some (zLe_some (zLe_some (zLe_some (zLe_some (zLe_none (zLe_nil)))))))) ?_
            exact ih G7 x0 x1 x2 x3 v8 (x5 + (nI 1)) h
        · refine Y.blk (pc' := 41) (L' := [some (.ref x0), some (.int x1), some (.int x2), some (.int x3), some (.int x4), some (.int x5), some (.int v8)]) (st' := [.int x4, .int v8]) (sg := [(.iload 6, 0), (.iload 4, 0)]) (by decide +kernel) rfl ?_
          refine Y.ic_ge (off := 17) (tgt := 58) (by decide +kernel) (by decide) h (fun c10 h => ?_) (fun c10 h => ?_)
          · refine Y.blk (pc' := 61) (L' := [some (.ref x0), some (.int x1), some (.int x2), some (.int x3), some (.int x4), some (.int (x5 + (nI 1))), some (.int v8)]) (st' := []) (sg := [(.iinc 5 1, nI 1)]) (by decide +kernel) rfl ?_
            refine Y.goto (off := -49) (tgt := 12) (by decide +kernel) (by decide) ?_
            refine Y.less (L' := [some (.ref x0), some (.int x1), some (.int x2), some (.int x3), some (.int x4), some (.int (x5 + (nI 1))), none]) (zLe_some (zLe_some (zLe_some (zLe_some (zLe_some (zLe_some (zLe_none (zLe_nil)))))))) ?_
            exact ih G7 x0 x1 x2 x3 x4 (x5 + (nI 1)) h
          · refine Y.goto (off := 10) (tgt := 54) (by decide +kernel) (by decide) ?_
            refine Y.blk (pc' := 61) (L' := [some (.ref x0), some (.int x1), some (.int x2), some (.int x3), some (.int v8), some (.int (x5 + (nI 1))), some (.int v8)]) (st' := []) (sg := [(.iload 6, 0), (.istore 4, 0), (.iinc 5 1, nI 1)]) (by decide +kernel) rfl ?_
            refine Y.goto (off := -49) (tgt := 12) (by decide +kernel) (by decide) ?_
            refine Y.less (L' := [some (.ref x0), some (.int x1), some (.int x2), some (.int x3), some (.int v8), some (.int (x5 + (nI 1))), none]) (zLe_some (zLe_some (zLe_some (zLe_some (zLe_some (zLe_some (zLe_none (zLe_nil)))))))) ?_
            exact ih G7 x0 x1 x2 x3 v8 (x5 + (nI 1)) h
theorem k_I_extremeKey {l : Launch} {D : va_G} {B : Nat} {O : State → Heap → Prop} (hV : zG l D B O) (G : gH) (a0 : Nat) (a1 : Int32) (a2 : Int32) : gMet (zVm l D B O) m_I_extremeKey 4 [.ref a0, .int a1, .int a2] G (f_I_extremeKey G a0 a1 a2) := by
  refine gMet.of (by decide +kernel) (Nat.le_of_ble_eq_true rfl) [some (.ref a0), some (.int a1), some (.int a2), none, none, none, none] (fun ls h => zEn_ok (n := 7) h) ?_
  intro o Gf h
  unfold f_I_extremeKey at h
  refine Y.blk (pc' := 2) (L' := [some (.ref a0), some (.int a1), some (.int a2), none, none, none, none]) (st' := [.int a1, .ref a0]) (sg := [(.aload_n 0, 0), (.iload_n 1, 0)]) (by decide +kernel) rfl ?_
  obtain ⟨o2, e1, h⟩ := gOb_inv h
  refine Y.callI (yC.Vi (b := a0) (As := [.int a1]) (st := []) (r := ("Partlister$Lists", T_I, 7)) hV.1 cb_I_lengthOf lk_I_59 in_I_lengthOf rfl se_I_lengthOf (by decide +kernel) rfl rfl (Nat.le_of_ble_eq_true rfl) (by decide) e1) (k_I_lengthOf hV G a0 a1) h (fun v4 G3 _ h => ?_)
  refine Y.blk (pc' := 12) (L' := [some (.ref a0), some (.int a1), some (.int a2), some (.int v4), some (.int (-1)), some (.int (nI 0)), none]) (st' := []) (sg := [(.istore_n 3, 0), (.iconst (-1), -1), (.istore 4, 0), (.iconst 0, nI 0), (.istore 5, 0)]) (by decide +kernel) rfl ?_
  refine k_I_extremeKey_L12 hV _ ?_  zFu G3 a0 a1 a2 v4 (-1) (nI 0) h
  · intro G15 x14 h
    refine Y.blk (pc' := 66) (L' := [none, none, none, none, some (.int x14), none, none]) (st' := [.int x14]) (sg := [(.iload 4, 0)]) (by decide +kernel) rfl ?_
    exact Y.iret rfl (by decide +kernel) h

def f_I_firstOf_L9 (K26 : gH → Int32 → gR) (K35 : gH → gR) : Nat → gH → Nat → Int32 → Int32 → Int32 → Int32 → gR
  | 0, _, _, _, _, _, _ => none
  | n + 1, G, x0, x1, x2, x3, x4 =>
    if x3 ≤ x4 then K35 G
    else gOb G x0 1 fun o6 => bI (f_I_keyAt G x0 x1 x4) fun v8 G7 => if v8 = x2 then K26 G7 x4
      else f_I_firstOf_L9 K26 K35 n G7 x0 x1 x2 x3 (x4 + (nI 1))
def f_I_firstOf (G : gH) (a0 : Nat) (a1 : Int32) (a2 : Int32) : gR :=
  gOb G a0 1 fun o2 => bI (f_I_lengthOf G a0 a1) fun v4 G3 => f_I_firstOf_L9 (fun G12 x11 => rI x11 G12) (fun G13 => rI (-1) G13) zFu G3 a0 a1 a2 v4 (nI 0)
theorem k_I_firstOf_L9 {l : Launch} {D : va_G} {B : Nat} {O : State → Heap → Prop} (hV : zG l D B O) {o : gO} {Gf : gH} (K26 : gH → Int32 → gR) (K35 : gH → gR) (hK26 : ∀ (G : gH) (x4 : Int32), K26 G x4 = some (o, Gf) → Y (zVm l D B O) m_I_firstOf 4 o Gf 26 [none, none, none, none, some (.int x4)] [] G) (hK35 : ∀ (G : gH), K35 G  = some (o, Gf) → Y (zVm l D B O) m_I_firstOf 4 o Gf 35 [none, none, none, none, none] [] G) : ∀ (n : Nat) (G : gH) (x0 : Nat) (x1 : Int32) (x2 : Int32) (x3 : Int32) (x4 : Int32), f_I_firstOf_L9 K26 K35 n G x0 x1 x2 x3 x4 = some (o, Gf) → Y (zVm l D B O) m_I_firstOf 4 o Gf 9 [some (.ref x0), some (.int x1), some (.int x2), some (.int x3), some (.int x4)] [] G := by
  intro n
  induction n with
  | zero => intro G x0 x1 x2 x3 x4 h; cases h
  | succ n ih =>
    intro G x0 x1 x2 x3 x4 h
    unfold f_I_firstOf_L9 at h
    refine Y.blk (pc' := 12) (L' := [some (.ref x0), some (.int x1), some (.int x2), some (.int x3), some (.int x4)]) (st' := [.int x3, .int x4]) (sg := [(.iload 4, 0), (.iload_n 3, 0)]) (by decide +kernel) rfl ?_
    refine Y.ic_ge (off := 23) (tgt := 35) (by decide +kernel) (by decide) h (fun c10 h => ?_) (fun c10 h => ?_)
    · refine Y.less (L' := [none, none, none, none, none]) (zLe_none (zLe_none (zLe_none (zLe_none (zLe_none (zLe_nil)))))) ?_
      exact hK35 G  h
    · refine Y.blk (pc' := 19) (L' := [some (.ref x0), some (.int x1), some (.int x2), some (.int x3), some (.int x4)]) (st' := [.int x4, .int x1, .ref x0]) (sg := [(.aload_n 0, 0), (.iload_n 1, 0), (.iload 4, 0)]) (by decide +kernel) rfl ?_
      obtain ⟨o6, e5, h⟩ := gOb_inv h
      refine Y.callI (yC.Vi (b := x0) (As := [.int x1, .int x4]) (st := []) (r := ("Partlister$Lists", T_I, 7)) hV.1 cb_I_keyAt lk_I_101 in_I_keyAt rfl se_I_keyAt (by decide +kernel) rfl rfl (Nat.le_of_ble_eq_true rfl) (by decide) e5) (k_I_keyAt hV G x0 x1 x4) h (fun v8 G7 _ h => ?_)
      refine Y.blk (pc' := 23) (L' := [some (.ref x0), some (.int x1), some (.int x2), some (.int x3), some (.int x4)]) (st' := [.int x2, .int v8]) (sg := [(.iload_n 2, 0)]) (by decide +kernel) rfl ?_
      refine Y.ic_ne (off := 6) (tgt := 29) (by decide +kernel) (by decide) h (fun c9 h => ?_) (fun c9 h => ?_)
      · refine Y.less (L' := [none, none, none, none, some (.int x4)]) (zLe_none (zLe_none (zLe_none (zLe_none (zLe_some (zLe_nil)))))) ?_
        exact hK26 G7 x4 h
      · refine Y.blk (pc' := 32) (L' := [some (.ref x0), some (.int x1), some (.int x2), some (.int x3), some (.int (x4 + (nI 1)))]) (st' := []) (sg := [(.iinc 4 1, nI 1)]) (by decide +kernel) rfl ?_
        refine Y.goto (off := -23) (tgt := 9) (by decide +kernel) (by decide) ?_
        exact ih G7 x0 x1 x2 x3 (x4 + (nI 1)) h
theorem k_I_firstOf {l : Launch} {D : va_G} {B : Nat} {O : State → Heap → Prop} (hV : zG l D B O) (G : gH) (a0 : Nat) (a1 : Int32) (a2 : Int32) : gMet (zVm l D B O) m_I_firstOf 4 [.ref a0, .int a1, .int a2] G (f_I_firstOf G a0 a1 a2) := by
  refine gMet.of (by decide +kernel) (Nat.le_of_ble_eq_true rfl) [some (.ref a0), some (.int a1), some (.int a2), none, none] (fun ls h => zEn_ok (n := 5) h) ?_
  intro o Gf h
  unfold f_I_firstOf at h
  refine Y.blk (pc' := 2) (L' := [some (.ref a0), some (.int a1), some (.int a2), none, none]) (st' := [.int a1, .ref a0]) (sg := [(.aload_n 0, 0), (.iload_n 1, 0)]) (by decide +kernel) rfl ?_
  obtain ⟨o2, e1, h⟩ := gOb_inv h
  refine Y.callI (yC.Vi (b := a0) (As := [.int a1]) (st := []) (r := ("Partlister$Lists", T_I, 7)) hV.1 cb_I_lengthOf lk_I_59 in_I_lengthOf rfl se_I_lengthOf (by decide +kernel) rfl rfl (Nat.le_of_ble_eq_true rfl) (by decide) e1) (k_I_lengthOf hV G a0 a1) h (fun v4 G3 _ h => ?_)
  refine Y.blk (pc' := 9) (L' := [some (.ref a0), some (.int a1), some (.int a2), some (.int v4), some (.int (nI 0))]) (st' := []) (sg := [(.istore_n 3, 0), (.iconst 0, nI 0), (.istore 4, 0)]) (by decide +kernel) rfl ?_
  refine k_I_firstOf_L9 hV _ _ ?_ ?_  zFu G3 a0 a1 a2 v4 (nI 0) h
  · intro G12 x11 h
    refine Y.blk (pc' := 28) (L' := [none, none, none, none, some (.int x11)]) (st' := [.int x11]) (sg := [(.iload 4, 0)]) (by decide +kernel) rfl ?_
    exact Y.iret rfl (by decide +kernel) h
  · intro G13 h
    refine Y.blk (pc' := 36) (L' := [none, none, none, none, none]) (st' := [.int (-1)]) (sg := [(.iconst (-1), -1)]) (by decide +kernel) rfl ?_
    exact Y.iret rfl (by decide +kernel) h

def f_I_hashOf_L11 (K36 : gH → Int32 → gR) : Nat → gH → Nat → Int32 → Int32 → Int32 → Int32 → gR
  | 0, _, _, _, _, _, _ => none
  | n + 1, G, x0, x1, x2, x3, x4 =>
    if x2 ≤ x4 then K36 G x3
    else gOb G x0 1 fun o6 => bI (f_I_keyAt G x0 x1 x4) fun v8 G7 => f_I_hashOf_L11 K36 n G7 x0 x1 x2 ((x3 * (nI 31)) + v8) (x4 + (nI 1))
def f_I_hashOf (G : gH) (a0 : Nat) (a1 : Int32) : gR :=
  gOb G a0 1 fun o2 => bI (f_I_lengthOf G a0 a1) fun v4 G3 => f_I_hashOf_L11 (fun G11 x10 => rI x10 G11) zFu G3 a0 a1 v4 (nI 1) (nI 0)
theorem k_I_hashOf_L11 {l : Launch} {D : va_G} {B : Nat} {O : State → Heap → Prop} (hV : zG l D B O) {o : gO} {Gf : gH} (K36 : gH → Int32 → gR) (hK36 : ∀ (G : gH) (x3 : Int32), K36 G x3 = some (o, Gf) → Y (zVm l D B O) m_I_hashOf 4 o Gf 36 [none, none, none, some (.int x3), none] [] G) : ∀ (n : Nat) (G : gH) (x0 : Nat) (x1 : Int32) (x2 : Int32) (x3 : Int32) (x4 : Int32), f_I_hashOf_L11 K36 n G x0 x1 x2 x3 x4 = some (o, Gf) → Y (zVm l D B O) m_I_hashOf 4 o Gf 11 [some (.ref x0), some (.int x1), some (.int x2), some (.int x3), some (.int x4)] [] G := by
  intro n
  induction n with
  | zero => intro G x0 x1 x2 x3 x4 h; cases h
  | succ n ih =>
    intro G x0 x1 x2 x3 x4 h
    unfold f_I_hashOf_L11 at h
    refine Y.blk (pc' := 14) (L' := [some (.ref x0), some (.int x1), some (.int x2), some (.int x3), some (.int x4)]) (st' := [.int x2, .int x4]) (sg := [(.iload 4, 0), (.iload_n 2, 0)]) (by decide +kernel) rfl ?_
    refine Y.ic_ge (off := 22) (tgt := 36) (by decide +kernel) (by decide) h (fun c9 h => ?_) (fun c9 h => ?_)
    · refine Y.less (L' := [none, none, none, some (.int x3), none]) (zLe_none (zLe_none (zLe_none (zLe_some (zLe_none (zLe_nil)))))) ?_
      exact hK36 G x3 h
    · refine Y.blk (pc' := 25) (L' := [some (.ref x0), some (.int x1), some (.int x2), some (.int x3), some (.int x4)]) (st' := [.int x4, .int x1, .ref x0, .int (x3 * (nI 31))]) (sg := [(.iload_n 3, 0), (.bipush 31, nI 31), (.imul, 0), (.aload_n 0, 0), (.iload_n 1, 0), (.iload 4, 0)]) (by decide +kernel) rfl ?_
      obtain ⟨o6, e5, h⟩ := gOb_inv h
      refine Y.callI (yC.Vi (b := x0) (As := [.int x1, .int x4]) (st := [.int (x3 * (nI 31))]) (r := ("Partlister$Lists", T_I, 7)) hV.1 cb_I_keyAt lk_I_101 in_I_keyAt rfl se_I_keyAt (by decide +kernel) rfl rfl (Nat.le_of_ble_eq_true rfl) (by decide) e5) (k_I_keyAt hV G x0 x1 x4) h (fun v8 G7 _ h => ?_)
      refine Y.blk (pc' := 33) (L' := [some (.ref x0), some (.int x1), some (.int x2), some (.int ((x3 * (nI 31)) + v8)), some (.int (x4 + (nI 1)))]) (st' := []) (sg := [(.iadd, 0), (.istore_n 3, 0), (.iinc 4 1, nI 1)]) (by decide +kernel) rfl ?_
      refine Y.goto (off := -22) (tgt := 11) (by decide +kernel) (by decide) ?_
      exact ih G7 x0 x1 x2 ((x3 * (nI 31)) + v8) (x4 + (nI 1)) h
theorem k_I_hashOf {l : Launch} {D : va_G} {B : Nat} {O : State → Heap → Prop} (hV : zG l D B O) (G : gH) (a0 : Nat) (a1 : Int32) : gMet (zVm l D B O) m_I_hashOf 4 [.ref a0, .int a1] G (f_I_hashOf G a0 a1) := by
  refine gMet.of (by decide +kernel) (Nat.le_of_ble_eq_true rfl) [some (.ref a0), some (.int a1), none, none, none] (fun ls h => zEn_ok (n := 5) h) ?_
  intro o Gf h
  unfold f_I_hashOf at h
  refine Y.blk (pc' := 2) (L' := [some (.ref a0), some (.int a1), none, none, none]) (st' := [.int a1, .ref a0]) (sg := [(.aload_n 0, 0), (.iload_n 1, 0)]) (by decide +kernel) rfl ?_
  obtain ⟨o2, e1, h⟩ := gOb_inv h
  refine Y.callI (yC.Vi (b := a0) (As := [.int a1]) (st := []) (r := ("Partlister$Lists", T_I, 7)) hV.1 cb_I_lengthOf lk_I_59 in_I_lengthOf rfl se_I_lengthOf (by decide +kernel) rfl rfl (Nat.le_of_ble_eq_true rfl) (by decide) e1) (k_I_lengthOf hV G a0 a1) h (fun v4 G3 _ h => ?_)
  refine Y.blk (pc' := 11) (L' := [some (.ref a0), some (.int a1), some (.int v4), some (.int (nI 1)), some (.int (nI 0))]) (st' := []) (sg := [(.istore_n 2, 0), (.iconst 1, nI 1), (.istore_n 3, 0), (.iconst 0, nI 0), (.istore 4, 0)]) (by decide +kernel) rfl ?_
  refine k_I_hashOf_L11 hV _ ?_  zFu G3 a0 a1 v4 (nI 1) (nI 0) h
  · intro G11 x10 h
    refine Y.blk (pc' := 37) (L' := [none, none, none, some (.int x10), none]) (st' := [.int x10]) (sg := [(.iload_n 3, 0)]) (by decide +kernel) rfl ?_
    exact Y.iret rfl (by decide +kernel) h

def f_I_lastOf_L8 (K22 : gH → Int32 → gR) (K30 : gH → gR) : Nat → gH → Nat → Int32 → Int32 → Int32 → gR
  | 0, _, _, _, _, _ => none
  | n + 1, G, x0, x1, x2, x3 =>
    if x3 < 0 then K30 G
    else gOb G x0 1 fun o6 => bI (f_I_keyAt G x0 x1 x3) fun v8 G7 => if v8 = x2 then K22 G7 x3
      else f_I_lastOf_L8 K22 K30 n G7 x0 x1 x2 (x3 + (-1))
def f_I_lastOf (G : gH) (a0 : Nat) (a1 : Int32) (a2 : Int32) : gR :=
  gOb G a0 1 fun o2 => bI (f_I_lengthOf G a0 a1) fun v4 G3 => f_I_lastOf_L8 (fun G12 x11 => rI x11 G12) (fun G13 => rI (-1) G13) zFu G3 a0 a1 a2 (v4 - (nI 1))
theorem k_I_lastOf_L8 {l : Launch} {D : va_G} {B : Nat} {O : State → Heap → Prop} (hV : zG l D B O) {o : gO} {Gf : gH} (K22 : gH → Int32 → gR) (K30 : gH → gR) (hK22 : ∀ (G : gH) (x3 : Int32), K22 G x3 = some (o, Gf) → Y (zVm l D B O) m_I_lastOf 4 o Gf 22 [none, none, none, some (.int x3)] [] G) (hK30 : ∀ (G : gH), K30 G  = some (o, Gf) → Y (zVm l D B O) m_I_lastOf 4 o Gf 30 [none, none, none, none] [] G) : ∀ (n : Nat) (G : gH) (x0 : Nat) (x1 : Int32) (x2 : Int32) (x3 : Int32), f_I_lastOf_L8 K22 K30 n G x0 x1 x2 x3 = some (o, Gf) → Y (zVm l D B O) m_I_lastOf 4 o Gf 8 [some (.ref x0), some (.int x1), some (.int x2), some (.int x3)] [] G := by
  intro n
  induction n with
  | zero => intro G x0 x1 x2 x3 h; cases h
  | succ n ih =>
    intro G x0 x1 x2 x3 h
    unfold f_I_lastOf_L8 at h
    refine Y.blk (pc' := 9) (L' := [some (.ref x0), some (.int x1), some (.int x2), some (.int x3)]) (st' := [.int x3]) (sg := [(.iload_n 3, 0)]) (by decide +kernel) rfl ?_
    refine Y.if_lt (off := 21) (tgt := 30) (by decide +kernel) (by decide) h (fun c10 h => ?_) (fun c10 h => ?_)
    · refine Y.less (L' := [none, none, none, none]) (zLe_none (zLe_none (zLe_none (zLe_none (zLe_nil))))) ?_
      exact hK30 G  h
    · refine Y.blk (pc' := 15) (L' := [some (.ref x0), some (.int x1), some (.int x2), some (.int x3)]) (st' := [.int x3, .int x1, .ref x0]) (sg := [(.aload_n 0, 0), (.iload_n 1, 0), (.iload_n 3, 0)]) (by decide +kernel) rfl ?_
      obtain ⟨o6, e5, h⟩ := gOb_inv h
      refine Y.callI (yC.Vi (b := x0) (As := [.int x1, .int x3]) (st := []) (r := ("Partlister$Lists", T_I, 7)) hV.1 cb_I_keyAt lk_I_101 in_I_keyAt rfl se_I_keyAt (by decide +kernel) rfl rfl (Nat.le_of_ble_eq_true rfl) (by decide) e5) (k_I_keyAt hV G x0 x1 x3) h (fun v8 G7 _ h => ?_)
      refine Y.blk (pc' := 19) (L' := [some (.ref x0), some (.int x1), some (.int x2), some (.int x3)]) (st' := [.int x2, .int v8]) (sg := [(.iload_n 2, 0)]) (by decide +kernel) rfl ?_
      refine Y.ic_ne (off := 5) (tgt := 24) (by decide +kernel) (by decide) h (fun c9 h => ?_) (fun c9 h => ?_)
      · refine Y.less (L' := [none, none, none, some (.int x3)]) (zLe_none (zLe_none (zLe_none (zLe_some (zLe_nil))))) ?_
        exact hK22 G7 x3 h
      · refine Y.blk (pc' := 27) (L' := [some (.ref x0), some (.int x1), some (.int x2), some (.int (x3 + (-1)))]) (st' := []) (sg := [(.iinc 3 (-1), -1)]) (by decide +kernel) rfl ?_
        refine Y.goto (off := -19) (tgt := 8) (by decide +kernel) (by decide) ?_
        exact ih G7 x0 x1 x2 (x3 + (-1)) h
theorem k_I_lastOf {l : Launch} {D : va_G} {B : Nat} {O : State → Heap → Prop} (hV : zG l D B O) (G : gH) (a0 : Nat) (a1 : Int32) (a2 : Int32) : gMet (zVm l D B O) m_I_lastOf 4 [.ref a0, .int a1, .int a2] G (f_I_lastOf G a0 a1 a2) := by
  refine gMet.of (by decide +kernel) (Nat.le_of_ble_eq_true rfl) [some (.ref a0), some (.int a1), some (.int a2), none] (fun ls h => zEn_ok (n := 4) h) ?_
  intro o Gf h
  unfold f_I_lastOf at h
  refine Y.blk (pc' := 2) (L' := [some (.ref a0), some (.int a1), some (.int a2), none]) (st' := [.int a1, .ref a0]) (sg := [(.aload_n 0, 0), (.iload_n 1, 0)]) (by decide +kernel) rfl ?_
  obtain ⟨o2, e1, h⟩ := gOb_inv h
  refine Y.callI (yC.Vi (b := a0) (As := [.int a1]) (st := []) (r := ("Partlister$Lists", T_I, 7)) hV.1 cb_I_lengthOf lk_I_59 in_I_lengthOf rfl se_I_lengthOf (by decide +kernel) rfl rfl (Nat.le_of_ble_eq_true rfl) (by decide) e1) (k_I_lengthOf hV G a0 a1) h (fun v4 G3 _ h => ?_)
  refine Y.blk (pc' := 8) (L' := [some (.ref a0), some (.int a1), some (.int a2), some (.int (v4 - (nI 1)))]) (st' := []) (sg := [(.iconst 1, nI 1), (.isub, 0), (.istore_n 3, 0)]) (by decide +kernel) rfl ?_
  refine k_I_lastOf_L8 hV _ _ ?_ ?_  zFu G3 a0 a1 a2 (v4 - (nI 1)) h
  · intro G12 x11 h
    refine Y.blk (pc' := 23) (L' := [none, none, none, some (.int x11)]) (st' := [.int x11]) (sg := [(.iload_n 3, 0)]) (by decide +kernel) rfl ?_
    exact Y.iret rfl (by decide +kernel) h
  · intro G13 h
    refine Y.blk (pc' := 31) (L' := [none, none, none, none]) (st' := [.int (-1)]) (sg := [(.iconst (-1), -1)]) (by decide +kernel) rfl ?_
    exact Y.iret rfl (by decide +kernel) h

def f_I_worthOf (G : gH) (a0 : Nat) (a1 : Int32) (a2 : Int32) : gR :=
  gFA G a0 1 2 fun v1 => gOb G v1 2 fun o3 => bI (f_N_read G v1 a1) fun v5 G4 => if a2.toInt = 0 then (rI v5 G4)
  else if a2.toInt = 1 then (gFA G4 a0 1 4 fun v7 => gOb G4 v7 2 fun o9 => bI (f_N_read G4 v7 a1) fun v11 G10 => gFA G10 a0 1 4 fun v12 => gOb G10 v12 2 fun o14 => bI (f_N_read G10 v12 v5) fun v16 G15 => rI (v11 - v16) G15)
  else if a2.toInt = 2 then (gOb G4 a0 1 fun o19 => bI (f_I_rowOf G4 a0 a1) fun v21 G20 => rI v21 G20)
  else gFA G4 a0 1 4 fun v23 => gOb G4 v23 2 fun o25 => bI (f_N_read G4 v23 a1) fun v27 G26 => rI v27 G26
theorem k_I_worthOf {l : Launch} {D : va_G} {B : Nat} {O : State → Heap → Prop} (hV : zG l D B O) (G : gH) (a0 : Nat) (a1 : Int32) (a2 : Int32) : gMet (zVm l D B O) m_I_worthOf 3 [.ref a0, .int a1, .int a2] G (f_I_worthOf G a0 a1 a2) := by
  refine gMet.of (by decide +kernel) (Nat.le_of_ble_eq_true rfl) [some (.ref a0), some (.int a1), some (.int a2), none] (fun ls h => zEn_ok (n := 4) h) ?_
  intro o Gf h
  unfold f_I_worthOf at h
  refine Y.blk (pc' := 1) (L' := [some (.ref a0), some (.int a1), some (.int a2), none]) (st' := [.ref a0]) (sg := [(.aload_n 0, 0)]) (by decide +kernel) rfl ?_
  refine Y.getA fl_I_23 (by decide +kernel) h (fun v1 h => ?_)
  refine Y.blk (pc' := 5) (L' := [some (.ref a0), some (.int a1), some (.int a2), none]) (st' := [.int a1, .ref v1]) (sg := [(.iload_n 1, 0)]) (by decide +kernel) rfl ?_
  obtain ⟨o3, e2, h⟩ := gOb_inv h
  refine Y.callI (yC.Vi (b := v1) (As := [.int a1]) (st := []) (r := ("Partlister$Numbers", T_N, 1)) hV.1 cb_N_read lk_I_39 in_N_read rfl se_N_read (by decide +kernel) rfl rfl (Nat.le_of_ble_eq_true rfl) (by decide) e2) (k_N_read hV G v1 a1) h (fun v5 G4 _ h => ?_)
  refine Y.blk (pc' := 10) (L' := [some (.ref a0), some (.int a1), some (.int a2), some (.int v5)]) (st' := [.int a2]) (sg := [(.istore_n 3, 0), (.iload_n 2, 0)]) (by decide +kernel) rfl ?_
  refine Y.swC (j := 0) (off := 26) (tgt := 36) (dflt := 52) (lo := 0) (hi := 2) (offs := #[26, 28, 46]) (len := 26) (by decide +kernel) (by decide) (by decide) (by decide) h (fun c6 h => ?_) (fun c6 h => ?_)
  · refine Y.blk (pc' := 37) (L' := [some (.ref a0), some (.int a1), some (.int a2), some (.int v5)]) (st' := [.int v5]) (sg := [(.iload_n 3, 0)]) (by decide +kernel) rfl ?_
    exact Y.iret rfl (by decide +kernel) h
  refine Y.swC (j := 1) (off := 28) (tgt := 38) (dflt := 52) (lo := 0) (hi := 2) (offs := #[26, 28, 46]) (len := 26) (by decide +kernel) (by decide) (by decide) (by decide) h (fun c17 h => ?_) (fun c17 h => ?_)
  · refine Y.blk (pc' := 39) (L' := [some (.ref a0), some (.int a1), some (.int a2), some (.int v5)]) (st' := [.ref a0]) (sg := [(.aload_n 0, 0)]) (by decide +kernel) rfl ?_
    refine Y.getA fl_I_29 (by decide +kernel) h (fun v7 h => ?_)
    refine Y.blk (pc' := 43) (L' := [some (.ref a0), some (.int a1), some (.int a2), some (.int v5)]) (st' := [.int a1, .ref v7]) (sg := [(.iload_n 1, 0)]) (by decide +kernel) rfl ?_
    obtain ⟨o9, e8, h⟩ := gOb_inv h
    refine Y.callI (yC.Vi (b := v7) (As := [.int a1]) (st := []) (r := ("Partlister$Numbers", T_N, 1)) hV.1 cb_N_read lk_I_39 in_N_read rfl se_N_read (by decide +kernel) rfl rfl (Nat.le_of_ble_eq_true rfl) (by decide) e8) (k_N_read hV G4 v7 a1) h (fun v11 G10 _ h => ?_)
    refine Y.blk (pc' := 47) (L' := [some (.ref a0), some (.int a1), some (.int a2), some (.int v5)]) (st' := [.ref a0, .int v11]) (sg := [(.aload_n 0, 0)]) (by decide +kernel) rfl ?_
    refine Y.getA fl_I_29 (by decide +kernel) h (fun v12 h => ?_)
    refine Y.blk (pc' := 51) (L' := [some (.ref a0), some (.int a1), some (.int a2), some (.int v5)]) (st' := [.int v5, .ref v12, .int v11]) (sg := [(.iload_n 3, 0)]) (by decide +kernel) rfl ?_
    obtain ⟨o14, e13, h⟩ := gOb_inv h
    refine Y.callI (yC.Vi (b := v12) (As := [.int v5]) (st := [.int v11]) (r := ("Partlister$Numbers", T_N, 1)) hV.1 cb_N_read lk_I_39 in_N_read rfl se_N_read (by decide +kernel) rfl rfl (Nat.le_of_ble_eq_true rfl) (by decide) e13) (k_N_read hV G10 v12 v5) h (fun v16 G15 _ h => ?_)
    refine Y.blk (pc' := 55) (L' := [some (.ref a0), some (.int a1), some (.int a2), some (.int v5)]) (st' := [.int (v11 - v16)]) (sg := [(.isub, 0)]) (by decide +kernel) rfl ?_
    exact Y.iret rfl (by decide +kernel) h
  refine Y.swC (j := 2) (off := 46) (tgt := 56) (dflt := 52) (lo := 0) (hi := 2) (offs := #[26, 28, 46]) (len := 26) (by decide +kernel) (by decide) (by decide) (by decide) h (fun c22 h => ?_) (fun c22 h => ?_)
  · refine Y.blk (pc' := 58) (L' := [some (.ref a0), some (.int a1), some (.int a2), some (.int v5)]) (st' := [.int a1, .ref a0]) (sg := [(.aload_n 0, 0), (.iload_n 1, 0)]) (by decide +kernel) rfl ?_
    obtain ⟨o19, e18, h⟩ := gOb_inv h
    refine Y.callI (yC.Vi (b := a0) (As := [.int a1]) (st := []) (r := ("Partlister$Lists", T_I, 7)) hV.1 cb_I_rowOf lk_I_56 in_I_rowOf rfl se_I_rowOf (by decide +kernel) rfl rfl (Nat.le_of_ble_eq_true rfl) (by decide) e18) (k_I_rowOf hV G4 a0 a1) h (fun v21 G20 _ h => ?_)
    exact Y.iret rfl (by decide +kernel) h
  refine Y.swOut (dflt := 52) (lo := 0) (hi := 2) (offs := #[26, 28, 46]) (len := 26) (tgt := 62) (by decide +kernel) (by omega) (by decide) ?_
  refine Y.blk (pc' := 63) (L' := [some (.ref a0), some (.int a1), some (.int a2), some (.int v5)]) (st' := [.ref a0]) (sg := [(.aload_n 0, 0)]) (by decide +kernel) rfl ?_
  refine Y.getA fl_I_29 (by decide +kernel) h (fun v23 h => ?_)
  refine Y.blk (pc' := 67) (L' := [some (.ref a0), some (.int a1), some (.int a2), some (.int v5)]) (st' := [.int a1, .ref v23]) (sg := [(.iload_n 1, 0)]) (by decide +kernel) rfl ?_
  obtain ⟨o25, e24, h⟩ := gOb_inv h
  refine Y.callI (yC.Vi (b := v23) (As := [.int a1]) (st := []) (r := ("Partlister$Numbers", T_N, 1)) hV.1 cb_N_read lk_I_39 in_N_read rfl se_N_read (by decide +kernel) rfl rfl (Nat.le_of_ble_eq_true rfl) (by decide) e24) (k_N_read hV G4 v23 a1) h (fun v27 G26 _ h => ?_)
  exact Y.iret rfl (by decide +kernel) h

def f_X_mixList_L16 (K63 : gH → Nat → Int32 → Int64 → gR) : Nat → gH → Nat → Int32 → Int64 → Int32 → Int32 → gR
  | 0, _, _, _, _, _, _ => none
  | n + 1, G, x0, x3, x4, x6, x7 =>
    if x6 ≤ x7 then K63 G x0 x3 x4
    else gFA G x0 3 0 fun v6 => gOb G v6 1 fun o8 => bI (f_I_thingAt G v6 x3 x7) fun v10 G9 => bI (f_X_keyOf G9 v10) fun v13 G12 => bL (f_X_mix G12 x4 v13.toInt64) fun v16 G15 => bI (f_X_tagOf G15 v10) fun v19 G18 => bL (f_X_mix G18 v16 v19.toInt64) fun v22 G21 => f_X_mixList_L16 K63 n G21 x0 x3 v22 x6 (x7 + (nI 1))
def f_X_mixList_L188 (K218 : gH → Int64 → gR) : Nat → gH → Nat → Int32 → Int64 → Int32 → gR
  | 0, _, _, _, _, _ => none
  | n + 1, G, x0, x3, x4, x7 =>
    if (nI 4) ≤ x7 then K218 G x4
    else gFA G x0 3 0 fun v83 => gOb G v83 1 fun o85 => bI (f_I_worthOf G v83 x3 x7) fun v87 G86 => bL (f_X_mix G86 x4 v87.toInt64) fun v90 G89 => f_X_mixList_L188 K218 n G89 x0 x3 v90 (x7 + (nI 1))
def f_X_mixList (G : gH) (a0 : Nat) (a1 : Int64) (a3 : Int32) : gR :=
  gFA G a0 3 0 fun v1 => gOb G v1 1 fun o3 => bI (f_I_lengthOf G v1 a3) fun v5 G4 => f_X_mixList_L16 (fun G27 x24 x25 x26 => gFA G27 x24 3 0 fun v28 => gOb G27 v28 1 fun o30 => bI (f_I_hashOf G27 v28 x25) fun v32 G31 => bL (f_X_mix G31 x26 v32.toInt64) fun v35 G34 => gFA G34 x24 3 0 fun v36 => gOb G34 v36 1 fun o38 => bI (f_I_extremeKey G34 v36 x25 (nI 1)) fun v40 G39 => bL (f_X_mix G39 v35 v40.toInt64) fun v43 G42 => gFA G42 x24 3 0 fun v44 => gOb G42 v44 1 fun o46 => bI (f_I_extremeKey G42 v44 x25 (nI 0)) fun v48 G47 => bL (f_X_mix G47 v43 v48.toInt64) fun v51 G50 => gFA G50 x24 3 0 fun v52 => gOb G50 v52 1 fun o54 => bI (f_I_firstOf G50 v52 x25 (nI 7)) fun v56 G55 => bL (f_X_mix G55 v51 v56.toInt64) fun v59 G58 => gFA G58 x24 3 0 fun v60 => gOb G58 v60 1 fun o62 => bI (f_I_lastOf G58 v60 x25 (nI 7)) fun v64 G63 => bL (f_X_mix G63 v59 v64.toInt64) fun v67 G66 => gFA G66 x24 3 0 fun v68 => gOb G66 v68 1 fun o70 => bI (f_I_countOf G66 v68 x25 (nI 7)) fun v72 G71 => bL (f_X_mix G71 v67 v72.toInt64) fun v75 G74 => gOb G74 x24 3 fun o77 => bI (f_X_countSigns G74 x24 x25) fun v79 G78 => bL (f_X_mix G78 v75 v79.toInt64) fun v82 G81 => if x25 < (nI 2) then rL v82 G81
    else f_X_mixList_L188 (fun G93 x92 => rL x92 G93) zFu G81 x24 x25 v82 (nI 0)) zFu G4 a0 a3 a1 v5 (nI 0)
theorem k_X_mixList_L16 {l : Launch} {D : va_G} {B : Nat} {O : State → Heap → Prop} (hV : zG l D B O) {o : gO} {Gf : gH} (K63 : gH → Nat → Int32 → Int64 → gR) (hK63 : ∀ (G : gH) (x0 : Nat) (x3 : Int32) (x4 : Int64), K63 G x0 x3 x4 = some (o, Gf) → Y (zVm l D B O) m_X_mixList 5 o Gf 63 [some (.ref x0), none, none, some (.int x3), some (.long x4), none, none, none, none] [] G) : ∀ (n : Nat) (G : gH) (x0 : Nat) (x3 : Int32) (x4 : Int64) (x6 : Int32) (x7 : Int32), f_X_mixList_L16 K63 n G x0 x3 x4 x6 x7 = some (o, Gf) → Y (zVm l D B O) m_X_mixList 5 o Gf 16 [some (.ref x0), none, none, some (.int x3), some (.long x4), none, some (.int x6), some (.int x7), none] [] G := by
  intro n
  induction n with
  | zero => intro G x0 x3 x4 x6 x7 h; cases h
  | succ n ih =>
    intro G x0 x3 x4 x6 x7 h
    unfold f_X_mixList_L16 at h
    refine Y.blk (pc' := 20) (L' := [some (.ref x0), none, none, some (.int x3), some (.long x4), none, some (.int x6), some (.int x7), none]) (st' := [.int x6, .int x7]) (sg := [(.iload 7, 0), (.iload 6, 0)]) (by decide +kernel) rfl ?_
    refine Y.ic_ge (off := 43) (tgt := 63) (by decide +kernel) (by decide) h (fun c23 h => ?_) (fun c23 h => ?_)
    · refine Y.less (L' := [some (.ref x0), none, none, some (.int x3), some (.long x4), none, none, none, none]) (zLe_some (zLe_some (zLe_some (zLe_some (zLe_some (zLe_some (zLe_none (zLe_none (zLe_some (zLe_nil)))))))))) ?_
      exact hK63 G x0 x3 x4 h
    · refine Y.blk (pc' := 24) (L' := [some (.ref x0), none, none, some (.int x3), some (.long x4), none, some (.int x6), some (.int x7), none]) (st' := [.ref x0]) (sg := [(.aload_n 0, 0)]) (by decide +kernel) rfl ?_
      refine Y.getA fl_X_10 (by decide +kernel) h (fun v6 h => ?_)
      refine Y.blk (pc' := 30) (L' := [some (.ref x0), none, none, some (.int x3), some (.long x4), none, some (.int x6), some (.int x7), none]) (st' := [.int x7, .int x3, .ref v6]) (sg := [(.iload_n 3, 0), (.iload 7, 0)]) (by decide +kernel) rfl ?_
      obtain ⟨o8, e7, h⟩ := gOb_inv h
      refine Y.callI (yC.Vi (b := v6) (As := [.int x3, .int x7]) (st := []) (r := ("Partlister$Lists", T_I, 7)) hV.1 cb_I_thingAt lk_X_94 in_I_thingAt rfl se_I_thingAt (by decide +kernel) rfl rfl (Nat.le_of_ble_eq_true rfl) (by decide) e7) (k_I_thingAt hV G v6 x3 x7) h (fun v10 G9 _ h => ?_)
      refine Y.blk (pc' := 39) (L' := [some (.ref x0), none, none, some (.int x3), some (.long x4), none, some (.int x6), some (.int x7), some (.int v10)]) (st' := [.int v10, .long x4]) (sg := [(.istore 8, 0), (.lload 4, 0), (.iload 8, 0)]) (by decide +kernel) rfl ?_
      refine Y.callI (yC.S (As := [.int v10]) (st := [.long x4]) hV.1 cb_X_keyOf lk_X_97 st_X_keyOf (by decide +kernel) rfl rfl (Nat.le_of_ble_eq_true rfl) (by decide)) (k_X_keyOf hV G9 v10) h (fun v13 G12 _ h => ?_)
      refine Y.blk (pc' := 43) (L' := [some (.ref x0), none, none, some (.int x3), some (.long x4), none, some (.int x6), some (.int x7), some (.int v10)]) (st' := [.long v13.toInt64, .long x4]) (sg := [(.i2l, 0)]) (by decide +kernel) rfl ?_
      refine Y.callL (yC.S (As := [.long x4, .long v13.toInt64]) (st := []) hV.1 cb_X_mix lk_X_263 st_X_mix (by decide +kernel) rfl rfl (Nat.le_of_ble_eq_true rfl) (by decide)) (k_X_mix hV G12 x4 v13.toInt64) h (fun v16 G15 _ h => ?_)
      refine Y.blk (pc' := 48) (L' := [some (.ref x0), none, none, some (.int x3), some (.long x4), none, some (.int x6), some (.int x7), some (.int v10)]) (st' := [.int v10, .long v16]) (sg := [(.iload 8, 0)]) (by decide +kernel) rfl ?_
      refine Y.callI (yC.S (As := [.int v10]) (st := [.long v16]) hV.1 cb_X_tagOf lk_X_48 st_X_tagOf (by decide +kernel) rfl rfl (Nat.le_of_ble_eq_true rfl) (by decide)) (k_X_tagOf hV G15 v10) h (fun v19 G18 _ h => ?_)
      refine Y.blk (pc' := 52) (L' := [some (.ref x0), none, none, some (.int x3), some (.long x4), none, some (.int x6), some (.int x7), some (.int v10)]) (st' := [.long v19.toInt64, .long v16]) (sg := [(.i2l, 0)]) (by decide +kernel) rfl ?_
      refine Y.callL (yC.S (As := [.long v16, .long v19.toInt64]) (st := []) hV.1 cb_X_mix lk_X_263 st_X_mix (by decide +kernel) rfl rfl (Nat.le_of_ble_eq_true rfl) (by decide)) (k_X_mix hV G18 v16 v19.toInt64) h (fun v22 G21 _ h => ?_)
      refine Y.blk (pc' := 60) (L' := [some (.ref x0), none, none, some (.int x3), some (.long v22), none, some (.int x6), some (.int (x7 + (nI 1))), some (.int v10)]) (st' := []) (sg := [(.lstore 4, 0), (.iinc 7 1, nI 1)]) (by decide +kernel) rfl ?_
      refine Y.goto (off := -44) (tgt := 16) (by decide +kernel) (by decide) ?_
      refine Y.less (L' := [some (.ref x0), none, none, some (.int x3), some (.long v22), none, some (.int x6), some (.int (x7 + (nI 1))), none]) (zLe_some (zLe_some (zLe_some (zLe_some (zLe_some (zLe_some (zLe_some (zLe_some (zLe_none (zLe_nil)))))))))) ?_
      exact ih G21 x0 x3 v22 x6 (x7 + (nI 1)) h
theorem k_X_mixList_L188 {l : Launch} {D : va_G} {B : Nat} {O : State → Heap → Prop} (hV : zG l D B O) {o : gO} {Gf : gH} (K218 : gH → Int64 → gR) (hK218 : ∀ (G : gH) (x4 : Int64), K218 G x4 = some (o, Gf) → Y (zVm l D B O) m_X_mixList 5 o Gf 218 [none, none, none, none, some (.long x4), none, none, none, none] [] G) : ∀ (n : Nat) (G : gH) (x0 : Nat) (x3 : Int32) (x4 : Int64) (x7 : Int32), f_X_mixList_L188 K218 n G x0 x3 x4 x7 = some (o, Gf) → Y (zVm l D B O) m_X_mixList 5 o Gf 188 [some (.ref x0), none, none, some (.int x3), some (.long x4), none, none, some (.int x7), none] [] G := by
  intro n
  induction n with
  | zero => intro G x0 x3 x4 x7 h; cases h
  | succ n ih =>
    intro G x0 x3 x4 x7 h
    unfold f_X_mixList_L188 at h
    refine Y.blk (pc' := 191) (L' := [some (.ref x0), none, none, some (.int x3), some (.long x4), none, none, some (.int x7), none]) (st' := [.int (nI 4), .int x7]) (sg := [(.iload 7, 0), (.iconst 4, nI 4)]) (by decide +kernel) rfl ?_
    refine Y.ic_ge (off := 27) (tgt := 218) (by decide +kernel) (by decide) h (fun c91 h => ?_) (fun c91 h => ?_)
    · refine Y.less (L' := [none, none, none, none, some (.long x4), none, none, none, none]) (zLe_none (zLe_some (zLe_some (zLe_none (zLe_some (zLe_some (zLe_some (zLe_none (zLe_some (zLe_nil)))))))))) ?_
      exact hK218 G x4 h
    · refine Y.blk (pc' := 197) (L' := [some (.ref x0), none, none, some (.int x3), some (.long x4), none, none, some (.int x7), none]) (st' := [.ref x0, .long x4]) (sg := [(.lload 4, 0), (.aload_n 0, 0)]) (by decide +kernel) rfl ?_
      refine Y.getA fl_X_10 (by decide +kernel) h (fun v83 h => ?_)
      refine Y.blk (pc' := 203) (L' := [some (.ref x0), none, none, some (.int x3), some (.long x4), none, none, some (.int x7), none]) (st' := [.int x7, .int x3, .ref v83, .long x4]) (sg := [(.iload_n 3, 0), (.iload 7, 0)]) (by decide +kernel) rfl ?_
      obtain ⟨o85, e84, h⟩ := gOb_inv h
      refine Y.callI (yC.Vi (b := v83) (As := [.int x3, .int x7]) (st := [.long x4]) (r := ("Partlister$Lists", T_I, 7)) hV.1 cb_I_worthOf lk_X_238 in_I_worthOf rfl se_I_worthOf (by decide +kernel) rfl rfl (Nat.le_of_ble_eq_true rfl) (by decide) e84) (k_I_worthOf hV G v83 x3 x7) h (fun v87 G86 _ h => ?_)
      refine Y.blk (pc' := 207) (L' := [some (.ref x0), none, none, some (.int x3), some (.long x4), none, none, some (.int x7), none]) (st' := [.long v87.toInt64, .long x4]) (sg := [(.i2l, 0)]) (by decide +kernel) rfl ?_
      refine Y.callL (yC.S (As := [.long x4, .long v87.toInt64]) (st := []) hV.1 cb_X_mix lk_X_263 st_X_mix (by decide +kernel) rfl rfl (Nat.le_of_ble_eq_true rfl) (by decide)) (k_X_mix hV G86 x4 v87.toInt64) h (fun v90 G89 _ h => ?_)
      refine Y.blk (pc' := 215) (L' := [some (.ref x0), none, none, some (.int x3), some (.long v90), none, none, some (.int (x7 + (nI 1))), none]) (st' := []) (sg := [(.lstore 4, 0), (.iinc 7 1, nI 1)]) (by decide +kernel) rfl ?_
      refine Y.goto (off := -27) (tgt := 188) (by decide +kernel) (by decide) ?_
      exact ih G89 x0 x3 v90 (x7 + (nI 1)) h
theorem k_X_mixList {l : Launch} {D : va_G} {B : Nat} {O : State → Heap → Prop} (hV : zG l D B O) (G : gH) (a0 : Nat) (a1 : Int64) (a3 : Int32) : gMet (zVm l D B O) m_X_mixList 5 [.ref a0, .long a1, .int a3] G (f_X_mixList G a0 a1 a3) := by
  refine gMet.of (by decide +kernel) (Nat.le_of_ble_eq_true rfl) [some (.ref a0), some (.long a1), none, some (.int a3), none, none, none, none, none] (fun ls h => zEn_ok (n := 9) h) ?_
  intro o Gf h
  unfold f_X_mixList at h
  refine Y.blk (pc' := 4) (L' := [some (.ref a0), some (.long a1), none, some (.int a3), some (.long a1), none, none, none, none]) (st' := [.ref a0]) (sg := [(.lload_n 1, 0), (.lstore 4, 0), (.aload_n 0, 0)]) (by decide +kernel) rfl ?_
  refine Y.getA fl_X_10 (by decide +kernel) h (fun v1 h => ?_)
  refine Y.blk (pc' := 8) (L' := [some (.ref a0), some (.long a1), none, some (.int a3), some (.long a1), none, none, none, none]) (st' := [.int a3, .ref v1]) (sg := [(.iload_n 3, 0)]) (by decide +kernel) rfl ?_
  obtain ⟨o3, e2, h⟩ := gOb_inv h
  refine Y.callI (yC.Vi (b := v1) (As := [.int a3]) (st := []) (r := ("Partlister$Lists", T_I, 7)) hV.1 cb_I_lengthOf lk_X_34 in_I_lengthOf rfl se_I_lengthOf (by decide +kernel) rfl rfl (Nat.le_of_ble_eq_true rfl) (by decide) e2) (k_I_lengthOf hV G v1 a3) h (fun v5 G4 _ h => ?_)
  refine Y.blk (pc' := 16) (L' := [some (.ref a0), some (.long a1), none, some (.int a3), some (.long a1), none, some (.int v5), some (.int (nI 0)), none]) (st' := []) (sg := [(.istore 6, 0), (.iconst 0, nI 0), (.istore 7, 0)]) (by decide +kernel) rfl ?_
  refine Y.less (L' := [some (.ref a0), none, none, some (.int a3), some (.long a1), none, some (.int v5), some (.int (nI 0)), none]) (zLe_some (zLe_none (zLe_some (zLe_some (zLe_some (zLe_some (zLe_some (zLe_some (zLe_some (zLe_nil)))))))))) ?_
  refine k_X_mixList_L16 hV _ ?_  zFu G4 a0 a3 a1 v5 (nI 0) h
  · intro G27 x24 x25 x26 h
    refine Y.blk (pc' := 66) (L' := [some (.ref x24), none, none, some (.int x25), some (.long x26), none, none, none, none]) (st' := [.ref x24, .long x26]) (sg := [(.lload 4, 0), (.aload_n 0, 0)]) (by decide +kernel) rfl ?_
    refine Y.getA fl_X_10 (by decide +kernel) h (fun v28 h => ?_)
    refine Y.blk (pc' := 70) (L' := [some (.ref x24), none, none, some (.int x25), some (.long x26), none, none, none, none]) (st' := [.int x25, .ref v28, .long x26]) (sg := [(.iload_n 3, 0)]) (by decide +kernel) rfl ?_
    obtain ⟨o30, e29, h⟩ := gOb_inv h
    refine Y.callI (yC.Vi (b := v28) (As := [.int x25]) (st := [.long x26]) (r := ("Partlister$Lists", T_I, 7)) hV.1 cb_I_hashOf lk_X_217 in_I_hashOf rfl se_I_hashOf (by decide +kernel) rfl rfl (Nat.le_of_ble_eq_true rfl) (by decide) e29) (k_I_hashOf hV G27 v28 x25) h (fun v32 G31 _ h => ?_)
    refine Y.blk (pc' := 74) (L' := [some (.ref x24), none, none, some (.int x25), some (.long x26), none, none, none, none]) (st' := [.long v32.toInt64, .long x26]) (sg := [(.i2l, 0)]) (by decide +kernel) rfl ?_
    refine Y.callL (yC.S (As := [.long x26, .long v32.toInt64]) (st := []) hV.1 cb_X_mix lk_X_263 st_X_mix (by decide +kernel) rfl rfl (Nat.le_of_ble_eq_true rfl) (by decide)) (k_X_mix hV G31 x26 v32.toInt64) h (fun v35 G34 _ h => ?_)
    refine Y.blk (pc' := 82) (L' := [some (.ref x24), none, none, some (.int x25), some (.long v35), none, none, none, none]) (st' := [.ref x24, .long v35]) (sg := [(.lstore 4, 0), (.lload 4, 0), (.aload_n 0, 0)]) (by decide +kernel) rfl ?_
    refine Y.getA fl_X_10 (by decide +kernel) h (fun v36 h => ?_)
    refine Y.blk (pc' := 87) (L' := [some (.ref x24), none, none, some (.int x25), some (.long v35), none, none, none, none]) (st' := [.int (nI 1), .int x25, .ref v36, .long v35]) (sg := [(.iload_n 3, 0), (.iconst 1, nI 1)]) (by decide +kernel) rfl ?_
    obtain ⟨o38, e37, h⟩ := gOb_inv h
    refine Y.callI (yC.Vi (b := v36) (As := [.int x25, .int (nI 1)]) (st := [.long v35]) (r := ("Partlister$Lists", T_I, 7)) hV.1 cb_I_extremeKey lk_X_213 in_I_extremeKey rfl se_I_extremeKey (by decide +kernel) rfl rfl (Nat.le_of_ble_eq_true rfl) (by decide) e37) (k_I_extremeKey hV G34 v36 x25 (nI 1)) h (fun v40 G39 _ h => ?_)
    refine Y.blk (pc' := 91) (L' := [some (.ref x24), none, none, some (.int x25), some (.long v35), none, none, none, none]) (st' := [.long v40.toInt64, .long v35]) (sg := [(.i2l, 0)]) (by decide +kernel) rfl ?_
    refine Y.callL (yC.S (As := [.long v35, .long v40.toInt64]) (st := []) hV.1 cb_X_mix lk_X_263 st_X_mix (by decide +kernel) rfl rfl (Nat.le_of_ble_eq_true rfl) (by decide)) (k_X_mix hV G39 v35 v40.toInt64) h (fun v43 G42 _ h => ?_)
    refine Y.blk (pc' := 99) (L' := [some (.ref x24), none, none, some (.int x25), some (.long v43), none, none, none, none]) (st' := [.ref x24, .long v43]) (sg := [(.lstore 4, 0), (.lload 4, 0), (.aload_n 0, 0)]) (by decide +kernel) rfl ?_
    refine Y.getA fl_X_10 (by decide +kernel) h (fun v44 h => ?_)
    refine Y.blk (pc' := 104) (L' := [some (.ref x24), none, none, some (.int x25), some (.long v43), none, none, none, none]) (st' := [.int (nI 0), .int x25, .ref v44, .long v43]) (sg := [(.iload_n 3, 0), (.iconst 0, nI 0)]) (by decide +kernel) rfl ?_
    obtain ⟨o46, e45, h⟩ := gOb_inv h
    refine Y.callI (yC.Vi (b := v44) (As := [.int x25, .int (nI 0)]) (st := [.long v43]) (r := ("Partlister$Lists", T_I, 7)) hV.1 cb_I_extremeKey lk_X_213 in_I_extremeKey rfl se_I_extremeKey (by decide +kernel) rfl rfl (Nat.le_of_ble_eq_true rfl) (by decide) e45) (k_I_extremeKey hV G42 v44 x25 (nI 0)) h (fun v48 G47 _ h => ?_)
    refine Y.blk (pc' := 108) (L' := [some (.ref x24), none, none, some (.int x25), some (.long v43), none, none, none, none]) (st' := [.long v48.toInt64, .long v43]) (sg := [(.i2l, 0)]) (by decide +kernel) rfl ?_
    refine Y.callL (yC.S (As := [.long v43, .long v48.toInt64]) (st := []) hV.1 cb_X_mix lk_X_263 st_X_mix (by decide +kernel) rfl rfl (Nat.le_of_ble_eq_true rfl) (by decide)) (k_X_mix hV G47 v43 v48.toInt64) h (fun v51 G50 _ h => ?_)
    refine Y.blk (pc' := 116) (L' := [some (.ref x24), none, none, some (.int x25), some (.long v51), none, none, none, none]) (st' := [.ref x24, .long v51]) (sg := [(.lstore 4, 0), (.lload 4, 0), (.aload_n 0, 0)]) (by decide +kernel) rfl ?_
    refine Y.getA fl_X_10 (by decide +kernel) h (fun v52 h => ?_)
    refine Y.blk (pc' := 122) (L' := [some (.ref x24), none, none, some (.int x25), some (.long v51), none, none, none, none]) (st' := [.int (nI 7), .int x25, .ref v52, .long v51]) (sg := [(.iload_n 3, 0), (.bipush 7, nI 7)]) (by decide +kernel) rfl ?_
    obtain ⟨o54, e53, h⟩ := gOb_inv h
    refine Y.callI (yC.Vi (b := v52) (As := [.int x25, .int (nI 7)]) (st := [.long v51]) (r := ("Partlister$Lists", T_I, 7)) hV.1 cb_I_firstOf lk_X_72 in_I_firstOf rfl se_I_firstOf (by decide +kernel) rfl rfl (Nat.le_of_ble_eq_true rfl) (by decide) e53) (k_I_firstOf hV G50 v52 x25 (nI 7)) h (fun v56 G55 _ h => ?_)
    refine Y.blk (pc' := 126) (L' := [some (.ref x24), none, none, some (.int x25), some (.long v51), none, none, none, none]) (st' := [.long v56.toInt64, .long v51]) (sg := [(.i2l, 0)]) (by decide +kernel) rfl ?_
    refine Y.callL (yC.S (As := [.long v51, .long v56.toInt64]) (st := []) hV.1 cb_X_mix lk_X_263 st_X_mix (by decide +kernel) rfl rfl (Nat.le_of_ble_eq_true rfl) (by decide)) (k_X_mix hV G55 v51 v56.toInt64) h (fun v59 G58 _ h => ?_)
    refine Y.blk (pc' := 134) (L' := [some (.ref x24), none, none, some (.int x25), some (.long v59), none, none, none, none]) (st' := [.ref x24, .long v59]) (sg := [(.lstore 4, 0), (.lload 4, 0), (.aload_n 0, 0)]) (by decide +kernel) rfl ?_
    refine Y.getA fl_X_10 (by decide +kernel) h (fun v60 h => ?_)
    refine Y.blk (pc' := 140) (L' := [some (.ref x24), none, none, some (.int x25), some (.long v59), none, none, none, none]) (st' := [.int (nI 7), .int x25, .ref v60, .long v59]) (sg := [(.iload_n 3, 0), (.bipush 7, nI 7)]) (by decide +kernel) rfl ?_
    obtain ⟨o62, e61, h⟩ := gOb_inv h
    refine Y.callI (yC.Vi (b := v60) (As := [.int x25, .int (nI 7)]) (st := [.long v59]) (r := ("Partlister$Lists", T_I, 7)) hV.1 cb_I_lastOf lk_X_187 in_I_lastOf rfl se_I_lastOf (by decide +kernel) rfl rfl (Nat.le_of_ble_eq_true rfl) (by decide) e61) (k_I_lastOf hV G58 v60 x25 (nI 7)) h (fun v64 G63 _ h => ?_)
    refine Y.blk (pc' := 144) (L' := [some (.ref x24), none, none, some (.int x25), some (.long v59), none, none, none, none]) (st' := [.long v64.toInt64, .long v59]) (sg := [(.i2l, 0)]) (by decide +kernel) rfl ?_
    refine Y.callL (yC.S (As := [.long v59, .long v64.toInt64]) (st := []) hV.1 cb_X_mix lk_X_263 st_X_mix (by decide +kernel) rfl rfl (Nat.le_of_ble_eq_true rfl) (by decide)) (k_X_mix hV G63 v59 v64.toInt64) h (fun v67 G66 _ h => ?_)
    refine Y.blk (pc' := 152) (L' := [some (.ref x24), none, none, some (.int x25), some (.long v67), none, none, none, none]) (st' := [.ref x24, .long v67]) (sg := [(.lstore 4, 0), (.lload 4, 0), (.aload_n 0, 0)]) (by decide +kernel) rfl ?_
    refine Y.getA fl_X_10 (by decide +kernel) h (fun v68 h => ?_)
    refine Y.blk (pc' := 158) (L' := [some (.ref x24), none, none, some (.int x25), some (.long v67), none, none, none, none]) (st' := [.int (nI 7), .int x25, .ref v68, .long v67]) (sg := [(.iload_n 3, 0), (.bipush 7, nI 7)]) (by decide +kernel) rfl ?_
    obtain ⟨o70, e69, h⟩ := gOb_inv h
    refine Y.callI (yC.Vi (b := v68) (As := [.int x25, .int (nI 7)]) (st := [.long v67]) (r := ("Partlister$Lists", T_I, 7)) hV.1 cb_I_countOf lk_X_189 in_I_countOf rfl se_I_countOf (by decide +kernel) rfl rfl (Nat.le_of_ble_eq_true rfl) (by decide) e69) (k_I_countOf hV G66 v68 x25 (nI 7)) h (fun v72 G71 _ h => ?_)
    refine Y.blk (pc' := 162) (L' := [some (.ref x24), none, none, some (.int x25), some (.long v67), none, none, none, none]) (st' := [.long v72.toInt64, .long v67]) (sg := [(.i2l, 0)]) (by decide +kernel) rfl ?_
    refine Y.callL (yC.S (As := [.long v67, .long v72.toInt64]) (st := []) hV.1 cb_X_mix lk_X_263 st_X_mix (by decide +kernel) rfl rfl (Nat.le_of_ble_eq_true rfl) (by decide)) (k_X_mix hV G71 v67 v72.toInt64) h (fun v75 G74 _ h => ?_)
    refine Y.blk (pc' := 171) (L' := [some (.ref x24), none, none, some (.int x25), some (.long v75), none, none, none, none]) (st' := [.int x25, .ref x24, .long v75]) (sg := [(.lstore 4, 0), (.lload 4, 0), (.aload_n 0, 0), (.iload_n 3, 0)]) (by decide +kernel) rfl ?_
    obtain ⟨o77, e76, h⟩ := gOb_inv h
    refine Y.callI (yC.Vi (b := x24) (As := [.int x25]) (st := [.long v75]) (r := ("Partlister", T_X, 5)) hV.1 cb_X_countSigns lk_X_323 in_X_countSigns rfl se_X_countSigns (by decide +kernel) rfl rfl (Nat.le_of_ble_eq_true rfl) (by decide) e76) (k_X_countSigns hV G74 x24 x25) h (fun v79 G78 _ h => ?_)
    refine Y.blk (pc' := 175) (L' := [some (.ref x24), none, none, some (.int x25), some (.long v75), none, none, none, none]) (st' := [.long v79.toInt64, .long v75]) (sg := [(.i2l, 0)]) (by decide +kernel) rfl ?_
    refine Y.callL (yC.S (As := [.long v75, .long v79.toInt64]) (st := []) hV.1 cb_X_mix lk_X_263 st_X_mix (by decide +kernel) rfl rfl (Nat.le_of_ble_eq_true rfl) (by decide)) (k_X_mix hV G78 v75 v79.toInt64) h (fun v82 G81 _ h => ?_)
    refine Y.blk (pc' := 182) (L' := [some (.ref x24), none, none, some (.int x25), some (.long v82), none, none, none, none]) (st' := [.int (nI 2), .int x25]) (sg := [(.lstore 4, 0), (.iload_n 3, 0), (.iconst 2, nI 2)]) (by decide +kernel) rfl ?_
    refine Y.ic_lt (off := 36) (tgt := 218) (by decide +kernel) (by decide) h (fun c94 h => ?_) (fun c94 h => ?_)
    · refine Y.blk (pc' := 220) (L' := [some (.ref x24), none, none, some (.int x25), some (.long v82), none, none, none, none]) (st' := [.long v82]) (sg := [(.lload 4, 0)]) (by decide +kernel) rfl ?_
      exact Y.lret rfl (by decide +kernel) h
    · refine Y.blk (pc' := 188) (L' := [some (.ref x24), none, none, some (.int x25), some (.long v82), none, none, some (.int (nI 0)), none]) (st' := []) (sg := [(.iconst 0, nI 0), (.istore 7, 0)]) (by decide +kernel) rfl ?_
      refine k_X_mixList_L188 hV _ ?_  zFu G81 x24 x25 v82 (nI 0) h
      · intro G93 x92 h
        refine Y.blk (pc' := 220) (L' := [none, none, none, none, some (.long x92), none, none, none, none]) (st' := [.long x92]) (sg := [(.lload 4, 0)]) (by decide +kernel) rfl ?_
        exact Y.lret rfl (by decide +kernel) h

def f_I_holdsKeys (G : gH) (a0 : Nat) (a1 : Int32) (a2 : Int32) : gR :=
  gOb G a0 1 fun o2 => bI (f_I_keysOf G a0 a2) fun v4 G3 => gOb G3 a0 1 fun o6 => bI (f_I_keysOf G3 a0 a1) fun v8 G7 => if (v4 &&& (v8 ^^^ (-1))) = 0 then rZ (nI 1) G7
  else rZ (nI 0) G7
theorem k_I_holdsKeys {l : Launch} {D : va_G} {B : Nat} {O : State → Heap → Prop} (hV : zG l D B O) (G : gH) (a0 : Nat) (a1 : Int32) (a2 : Int32) : gMet (zVm l D B O) m_I_holdsKeys 5 [.ref a0, .int a1, .int a2] G (f_I_holdsKeys G a0 a1 a2) := by
  refine gMet.of (by decide +kernel) (Nat.le_of_ble_eq_true rfl) [some (.ref a0), some (.int a1), some (.int a2)] (fun ls h => zEn_ok (n := 3) h) ?_
  intro o Gf h
  unfold f_I_holdsKeys at h
  refine Y.blk (pc' := 2) (L' := [some (.ref a0), some (.int a1), some (.int a2)]) (st' := [.int a2, .ref a0]) (sg := [(.aload_n 0, 0), (.iload_n 2, 0)]) (by decide +kernel) rfl ?_
  obtain ⟨o2, e1, h⟩ := gOb_inv h
  refine Y.callI (yC.Vi (b := a0) (As := [.int a2]) (st := []) (r := ("Partlister$Lists", T_I, 7)) hV.1 cb_I_keysOf lk_I_104 in_I_keysOf rfl se_I_keysOf (by decide +kernel) rfl rfl (Nat.le_of_ble_eq_true rfl) (by decide) e1) (k_I_keysOf hV G a0 a2) h (fun v4 G3 _ h => ?_)
  refine Y.blk (pc' := 7) (L' := [some (.ref a0), some (.int a1), some (.int a2)]) (st' := [.int a1, .ref a0, .int v4]) (sg := [(.aload_n 0, 0), (.iload_n 1, 0)]) (by decide +kernel) rfl ?_
  obtain ⟨o6, e5, h⟩ := gOb_inv h
  refine Y.callI (yC.Vi (b := a0) (As := [.int a1]) (st := [.int v4]) (r := ("Partlister$Lists", T_I, 7)) hV.1 cb_I_keysOf lk_I_104 in_I_keysOf rfl se_I_keysOf (by decide +kernel) rfl rfl (Nat.le_of_ble_eq_true rfl) (by decide) e5) (k_I_keysOf hV G3 a0 a1) h (fun v8 G7 _ h => ?_)
  refine Y.blk (pc' := 13) (L' := [some (.ref a0), some (.int a1), some (.int a2)]) (st' := [.int (v4 &&& (v8 ^^^ (-1)))]) (sg := [(.iconst (-1), -1), (.ixor, 0), (.iand, 0)]) (by decide +kernel) rfl ?_
  refine Y.if_ne (off := 7) (tgt := 20) (by decide +kernel) (by decide) h (fun c9 h => ?_) (fun c9 h => ?_)
  · refine Y.blk (pc' := 17) (L' := [some (.ref a0), some (.int a1), some (.int a2)]) (st' := [.int (nI 1)]) (sg := [(.iconst 1, nI 1)]) (by decide +kernel) rfl ?_
    refine Y.goto (off := 4) (tgt := 21) (by decide +kernel) (by decide) ?_
    exact Y.zret rfl (by decide +kernel) h
  · refine Y.blk (pc' := 21) (L' := [some (.ref a0), some (.int a1), some (.int a2)]) (st' := [.int (nI 0)]) (sg := [(.iconst 0, nI 0)]) (by decide +kernel) rfl ?_
    exact Y.zret rfl (by decide +kernel) h

def f_I_matchFrom_L10 (K36 : gH → gR) (K44 : gH → gR) : Nat → gH → Nat → Int32 → Int32 → Int32 → Int32 → Int32 → gR
  | 0, _, _, _, _, _, _, _ => none
  | n + 1, G, x0, x1, x2, x3, x4, x5 =>
    if x4 ≤ x5 then K44 G
    else gOb G x0 1 fun o6 => bI (f_I_keyAt G x0 x1 (x2 + x5)) fun v8 G7 => gOb G7 x0 1 fun o10 => bI (f_I_keyAt G7 x0 x3 x5) fun v12 G11 => if v8 = v12 then f_I_matchFrom_L10 K36 K44 n G11 x0 x1 x2 x3 x4 (x5 + (nI 1))
      else K36 G11
def f_I_matchFrom (G : gH) (a0 : Nat) (a1 : Int32) (a2 : Int32) (a3 : Int32) : gR :=
  gOb G a0 1 fun o2 => bI (f_I_lengthOf G a0 a3) fun v4 G3 => f_I_matchFrom_L10 (fun G15 => rZ (nI 0) G15) (fun G16 => rZ (nI 1) G16) zFu G3 a0 a1 a2 a3 v4 (nI 0)
theorem k_I_matchFrom_L10 {l : Launch} {D : va_G} {B : Nat} {O : State → Heap → Prop} (hV : zG l D B O) {o : gO} {Gf : gH} (K36 : gH → gR) (K44 : gH → gR) (hK36 : ∀ (G : gH), K36 G  = some (o, Gf) → Y (zVm l D B O) m_I_matchFrom 4 o Gf 36 [none, none, none, none, none, none] [] G) (hK44 : ∀ (G : gH), K44 G  = some (o, Gf) → Y (zVm l D B O) m_I_matchFrom 4 o Gf 44 [none, none, none, none, none, none] [] G) : ∀ (n : Nat) (G : gH) (x0 : Nat) (x1 : Int32) (x2 : Int32) (x3 : Int32) (x4 : Int32) (x5 : Int32), f_I_matchFrom_L10 K36 K44 n G x0 x1 x2 x3 x4 x5 = some (o, Gf) → Y (zVm l D B O) m_I_matchFrom 4 o Gf 10 [some (.ref x0), some (.int x1), some (.int x2), some (.int x3), some (.int x4), some (.int x5)] [] G := by
  intro n
  induction n with
  | zero => intro G x0 x1 x2 x3 x4 x5 h; cases h
  | succ n ih =>
    intro G x0 x1 x2 x3 x4 x5 h
    unfold f_I_matchFrom_L10 at h
    refine Y.blk (pc' := 14) (L' := [some (.ref x0), some (.int x1), some (.int x2), some (.int x3), some (.int x4), some (.int x5)]) (st' := [.int x4, .int x5]) (sg := [(.iload 5, 0), (.iload 4, 0)]) (by decide +kernel) rfl ?_
    refine Y.ic_ge (off := 30) (tgt := 44) (by decide +kernel) (by decide) h (fun c14 h => ?_) (fun c14 h => ?_)
    · refine Y.less (L' := [none, none, none, none, none, none]) (zLe_none (zLe_none (zLe_none (zLe_none (zLe_none (zLe_none (zLe_nil))))))) ?_
      exact hK44 G  h
    · refine Y.blk (pc' := 23) (L' := [some (.ref x0), some (.int x1), some (.int x2), some (.int x3), some (.int x4), some (.int x5)]) (st' := [.int (x2 + x5), .int x1, .ref x0]) (sg := [(.aload_n 0, 0), (.iload_n 1, 0), (.iload_n 2, 0), (.iload 5, 0), (.iadd, 0)]) (by decide +kernel) rfl ?_
      obtain ⟨o6, e5, h⟩ := gOb_inv h
      refine Y.callI (yC.Vi (b := x0) (As := [.int x1, .int (x2 + x5)]) (st := []) (r := ("Partlister$Lists", T_I, 7)) hV.1 cb_I_keyAt lk_I_101 in_I_keyAt rfl se_I_keyAt (by decide +kernel) rfl rfl (Nat.le_of_ble_eq_true rfl) (by decide) e5) (k_I_keyAt hV G x0 x1 (x2 + x5)) h (fun v8 G7 _ h => ?_)
      refine Y.blk (pc' := 30) (L' := [some (.ref x0), some (.int x1), some (.int x2), some (.int x3), some (.int x4), some (.int x5)]) (st' := [.int x5, .int x3, .ref x0, .int v8]) (sg := [(.aload_n 0, 0), (.iload_n 3, 0), (.iload 5, 0)]) (by decide +kernel) rfl ?_
      obtain ⟨o10, e9, h⟩ := gOb_inv h
      refine Y.callI (yC.Vi (b := x0) (As := [.int x3, .int x5]) (st := [.int v8]) (r := ("Partlister$Lists", T_I, 7)) hV.1 cb_I_keyAt lk_I_101 in_I_keyAt rfl se_I_keyAt (by decide +kernel) rfl rfl (Nat.le_of_ble_eq_true rfl) (by decide) e9) (k_I_keyAt hV G7 x0 x3 x5) h (fun v12 G11 _ h => ?_)
      refine Y.ic_eq (off := 5) (tgt := 38) (by decide +kernel) (by decide) h (fun c13 h => ?_) (fun c13 h => ?_)
      · refine Y.blk (pc' := 41) (L' := [some (.ref x0), some (.int x1), some (.int x2), some (.int x3), some (.int x4), some (.int (x5 + (nI 1)))]) (st' := []) (sg := [(.iinc 5 1, nI 1)]) (by decide +kernel) rfl ?_
        refine Y.goto (off := -31) (tgt := 10) (by decide +kernel) (by decide) ?_
        exact ih G11 x0 x1 x2 x3 x4 (x5 + (nI 1)) h
      · refine Y.less (L' := [none, none, none, none, none, none]) (zLe_none (zLe_none (zLe_none (zLe_none (zLe_none (zLe_none (zLe_nil))))))) ?_
        exact hK36 G11  h
theorem k_I_matchFrom {l : Launch} {D : va_G} {B : Nat} {O : State → Heap → Prop} (hV : zG l D B O) (G : gH) (a0 : Nat) (a1 : Int32) (a2 : Int32) (a3 : Int32) : gMet (zVm l D B O) m_I_matchFrom 4 [.ref a0, .int a1, .int a2, .int a3] G (f_I_matchFrom G a0 a1 a2 a3) := by
  refine gMet.of (by decide +kernel) (Nat.le_of_ble_eq_true rfl) [some (.ref a0), some (.int a1), some (.int a2), some (.int a3), none, none] (fun ls h => zEn_ok (n := 6) h) ?_
  intro o Gf h
  unfold f_I_matchFrom at h
  refine Y.blk (pc' := 2) (L' := [some (.ref a0), some (.int a1), some (.int a2), some (.int a3), none, none]) (st' := [.int a3, .ref a0]) (sg := [(.aload_n 0, 0), (.iload_n 3, 0)]) (by decide +kernel) rfl ?_
  obtain ⟨o2, e1, h⟩ := gOb_inv h
  refine Y.callI (yC.Vi (b := a0) (As := [.int a3]) (st := []) (r := ("Partlister$Lists", T_I, 7)) hV.1 cb_I_lengthOf lk_I_59 in_I_lengthOf rfl se_I_lengthOf (by decide +kernel) rfl rfl (Nat.le_of_ble_eq_true rfl) (by decide) e1) (k_I_lengthOf hV G a0 a3) h (fun v4 G3 _ h => ?_)
  refine Y.blk (pc' := 10) (L' := [some (.ref a0), some (.int a1), some (.int a2), some (.int a3), some (.int v4), some (.int (nI 0))]) (st' := []) (sg := [(.istore 4, 0), (.iconst 0, nI 0), (.istore 5, 0)]) (by decide +kernel) rfl ?_
  refine k_I_matchFrom_L10 hV _ _ ?_ ?_  zFu G3 a0 a1 a2 a3 v4 (nI 0) h
  · intro G15 h
    refine Y.blk (pc' := 37) (L' := [none, none, none, none, none, none]) (st' := [.int (nI 0)]) (sg := [(.iconst 0, nI 0)]) (by decide +kernel) rfl ?_
    exact Y.zret rfl (by decide +kernel) h
  · intro G16 h
    refine Y.blk (pc' := 45) (L' := [none, none, none, none, none, none]) (st' := [.int (nI 1)]) (sg := [(.iconst 1, nI 1)]) (by decide +kernel) rfl ?_
    exact Y.zret rfl (by decide +kernel) h
