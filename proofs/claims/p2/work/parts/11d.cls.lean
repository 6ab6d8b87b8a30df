def f_U_freeCursor_L2 (K15 : gH → Int32 → gR) (K23 : gH → gR) : Nat → gH → Nat → Int32 → gR
  | 0, _, _, _ => none
  | n + 1, G, x0, x1 =>
    if (nI 3) ≤ x1 then K23 G
    else gOb G x0 0 fun o2 => bI (f_U_isThere G x0 x1) fun v5 G4 => if v5 = 0 then K15 G4 x1
      else f_U_freeCursor_L2 K15 K23 n G4 x0 (x1 + (nI 1))
def f_U_freeCursor (G : gH) (a0 : Nat) : gR :=
  f_U_freeCursor_L2 (fun G9 x8 => rI x8 G9) (fun G10 => rI (-1) G10) zFu G a0 (nI 0)
theorem k_U_freeCursor_L2 {l : Launch} {D : va_G} {B : Nat} {O : State → Heap → Prop} (hV : zG l D B O) {o : gO} {Gf : gH} (K15 : gH → Int32 → gR) (K23 : gH → gR) (hK15 : ∀ (G : gH) (x1 : Int32), K15 G x1 = some (o, Gf) → Y (zVm l D B O) m_U_freeCursor 4 o Gf 15 [none, some (.int x1)] [] G) (hK23 : ∀ (G : gH), K23 G  = some (o, Gf) → Y (zVm l D B O) m_U_freeCursor 4 o Gf 23 [none, none] [] G) : ∀ (n : Nat) (G : gH) (x0 : Nat) (x1 : Int32), f_U_freeCursor_L2 K15 K23 n G x0 x1 = some (o, Gf) → Y (zVm l D B O) m_U_freeCursor 4 o Gf 2 [some (.ref x0), some (.int x1)] [] G := by
  intro n
  induction n with
  | zero => intro G x0 x1 h; cases h
  | succ n ih =>
    intro G x0 x1 h
    unfold f_U_freeCursor_L2 at h
    refine Y.blk (pc' := 4) (L' := [some (.ref x0), some (.int x1)]) (st' := [.int (nI 3), .int x1]) (sg := [(.iload_n 1, 0), (.iconst 3, nI 3)]) (by decide +kernel) rfl ?_
    refine Y.ic_ge (off := 19) (tgt := 23) (by decide +kernel) (by decide) h (fun c7 h => ?_) (fun c7 h => ?_)
    · refine Y.less (L' := [none, none]) (zLe_none (zLe_none (zLe_nil))) ?_
      exact hK23 G  h
    · refine Y.blk (pc' := 9) (L' := [some (.ref x0), some (.int x1)]) (st' := [.int x1, .ref x0]) (sg := [(.aload_n 0, 0), (.iload_n 1, 0)]) (by decide +kernel) rfl ?_
      obtain ⟨_, o2, e1, m3, h⟩ := gOb_inv h
      refine Y.callI (yC.Vi (b := x0) (As := [.int x1]) (st := []) (r := ("Partlister$Cursors", T_U, 5)) hV.1 cb_U_isThere lk_U_37 in_U_isThere rfl se_U_isThere (by decide +kernel) rfl rfl (Nat.le_of_ble_eq_true rfl) (by decide) e1 m3) (k_U_isThere hV G x0 x1) h (fun v5 G4 _ h => ?_)
      refine Y.if_ne (off := 5) (tgt := 17) (by decide +kernel) (by decide) h (fun c6 h => ?_) (fun c6 h => ?_)
      · refine Y.less (L' := [none, some (.int x1)]) (zLe_none (zLe_some (zLe_nil))) ?_
        exact hK15 G4 x1 h
      · refine Y.blk (pc' := 20) (L' := [some (.ref x0), some (.int (x1 + (nI 1)))]) (st' := []) (sg := [(.iinc 1 1, nI 1)]) (by decide +kernel) rfl ?_
        refine Y.goto (off := -18) (tgt := 2) (by decide +kernel) (by decide) ?_
        exact ih G4 x0 (x1 + (nI 1)) h
theorem k_U_freeCursor {l : Launch} {D : va_G} {B : Nat} {O : State → Heap → Prop} (hV : zG l D B O) (G : gH) (a0 : Nat) : gMet (zVm l D B O) m_U_freeCursor 4 [.ref a0] G (f_U_freeCursor G a0) := by
  refine gMet.of (by decide +kernel) (Nat.le_of_ble_eq_true rfl) [some (.ref a0), none] (fun ls h => zEn_ok (n := 2) h) ?_
  intro o Gf h
  unfold f_U_freeCursor at h
  refine Y.blk (pc' := 2) (L' := [some (.ref a0), some (.int (nI 0))]) (st' := []) (sg := [(.iconst 0, nI 0), (.istore_n 1, 0)]) (by decide +kernel) rfl ?_
  refine k_U_freeCursor_L2 hV _ _ ?_ ?_  zFu G a0 (nI 0) h
  · intro G9 x8 h
    refine Y.blk (pc' := 16) (L' := [none, some (.int x8)]) (st' := [.int x8]) (sg := [(.iload_n 1, 0)]) (by decide +kernel) rfl ?_
    exact Y.iret rfl (by decide +kernel) h
  · intro G10 h
    refine Y.blk (pc' := 24) (L' := [none, none]) (st' := [.int (-1)]) (sg := [(.iconst (-1), -1)]) (by decide +kernel) rfl ?_
    exact Y.iret rfl (by decide +kernel) h

def f_U_stand (G : gH) (a0 : Nat) (a1 : Int32) (a2 : Int32) (a3 : Int32) : gR :=
  gFA G a0 0 2 fun v1 => gOb G v1 2 fun o3 => bV (f_N_write G v1 a1 a2) fun G5 => gFA G5 a0 0 3 fun v6 => gOb G5 v6 2 fun o8 => bV (f_N_write G5 v6 a1 a3) fun G10 => rV G10
theorem k_U_stand {l : Launch} {D : va_G} {B : Nat} {O : State → Heap → Prop} (hV : zG l D B O) (G : gH) (a0 : Nat) (a1 : Int32) (a2 : Int32) (a3 : Int32) : gMet (zVm l D B O) m_U_stand 2 [.ref a0, .int a1, .int a2, .int a3] G (f_U_stand G a0 a1 a2 a3) := by
  refine gMet.of (by decide +kernel) (Nat.le_of_ble_eq_true rfl) [some (.ref a0), some (.int a1), some (.int a2), some (.int a3)] (fun ls h => zEn_ok (n := 4) h) ?_
  intro o Gf h
  unfold f_U_stand at h
  refine Y.blk (pc' := 1) (L' := [some (.ref a0), some (.int a1), some (.int a2), some (.int a3)]) (st' := [.ref a0]) (sg := [(.aload_n 0, 0)]) (by decide +kernel) rfl ?_
  refine Y.getA fl_U_23 (by decide +kernel) h (fun v1 h => ?_)
  refine Y.blk (pc' := 6) (L' := [some (.ref a0), some (.int a1), some (.int a2), some (.int a3)]) (st' := [.int a2, .int a1, .ref v1]) (sg := [(.iload_n 1, 0), (.iload_n 2, 0)]) (by decide +kernel) rfl ?_
  obtain ⟨_, o3, e2, m4, h⟩ := gOb_inv h
  refine Y.callN (yC.Vi (b := v1) (As := [.int a1, .int a2]) (st := []) (r := ("Partlister$Numbers", T_N, 1)) hV.1 cb_N_write lk_U_40 in_N_write rfl se_N_write (by decide +kernel) rfl rfl (Nat.le_of_ble_eq_true rfl) (by decide) e2 m4) (k_N_write hV G v1 a1 a2) h (fun G5 _ h => ?_)
  refine Y.blk (pc' := 10) (L' := [some (.ref a0), some (.int a1), some (.int a2), some (.int a3)]) (st' := [.ref a0]) (sg := [(.aload_n 0, 0)]) (by decide +kernel) rfl ?_
  refine Y.getA fl_U_26 (by decide +kernel) h (fun v6 h => ?_)
  refine Y.blk (pc' := 15) (L' := [some (.ref a0), some (.int a1), some (.int a2), some (.int a3)]) (st' := [.int a3, .int a1, .ref v6]) (sg := [(.iload_n 1, 0), (.iload_n 3, 0)]) (by decide +kernel) rfl ?_
  obtain ⟨_, o8, e7, m9, h⟩ := gOb_inv h
  refine Y.callN (yC.Vi (b := v6) (As := [.int a1, .int a3]) (st := []) (r := ("Partlister$Numbers", T_N, 1)) hV.1 cb_N_write lk_U_40 in_N_write rfl se_N_write (by decide +kernel) rfl rfl (Nat.le_of_ble_eq_true rfl) (by decide) e7 m9) (k_N_write hV G5 v6 a1 a3) h (fun G10 _ h => ?_)
  exact Y.vret rfl (by decide +kernel) h

def f_U_start (G : gH) (a0 : Nat) (a1 : Int32) (a2 : Int32) (a3 : Int32) : gR :=
  gFA G a0 0 0 fun v1 => gOb G v1 2 fun o3 => bV (f_N_write G v1 a1 (nI 1)) fun G5 => gFA G5 a0 0 1 fun v6 => gOb G5 v6 2 fun o8 => bV (f_N_write G5 v6 a1 a2) fun G10 => gOb G10 a0 0 fun o12 => bV (f_U_stand G10 a0 a1 a3 (-1)) fun G14 => rV G14
theorem k_U_start {l : Launch} {D : va_G} {B : Nat} {O : State → Heap → Prop} (hV : zG l D B O) (G : gH) (a0 : Nat) (a1 : Int32) (a2 : Int32) (a3 : Int32) : gMet (zVm l D B O) m_U_start 3 [.ref a0, .int a1, .int a2, .int a3] G (f_U_start G a0 a1 a2 a3) := by
  refine gMet.of (by decide +kernel) (Nat.le_of_ble_eq_true rfl) [some (.ref a0), some (.int a1), some (.int a2), some (.int a3)] (fun ls h => zEn_ok (n := 4) h) ?_
  intro o Gf h
  unfold f_U_start at h
  refine Y.blk (pc' := 1) (L' := [some (.ref a0), some (.int a1), some (.int a2), some (.int a3)]) (st' := [.ref a0]) (sg := [(.aload_n 0, 0)]) (by decide +kernel) rfl ?_
  refine Y.getA fl_U_14 (by decide +kernel) h (fun v1 h => ?_)
  refine Y.blk (pc' := 6) (L' := [some (.ref a0), some (.int a1), some (.int a2), some (.int a3)]) (st' := [.int (nI 1), .int a1, .ref v1]) (sg := [(.iload_n 1, 0), (.iconst 1, nI 1)]) (by decide +kernel) rfl ?_
  obtain ⟨_, o3, e2, m4, h⟩ := gOb_inv h
  refine Y.callN (yC.Vi (b := v1) (As := [.int a1, .int (nI 1)]) (st := []) (r := ("Partlister$Numbers", T_N, 1)) hV.1 cb_N_write lk_U_40 in_N_write rfl se_N_write (by decide +kernel) rfl rfl (Nat.le_of_ble_eq_true rfl) (by decide) e2 m4) (k_N_write hV G v1 a1 (nI 1)) h (fun G5 _ h => ?_)
  refine Y.blk (pc' := 10) (L' := [some (.ref a0), some (.int a1), some (.int a2), some (.int a3)]) (st' := [.ref a0]) (sg := [(.aload_n 0, 0)]) (by decide +kernel) rfl ?_
  refine Y.getA fl_U_20 (by decide +kernel) h (fun v6 h => ?_)
  refine Y.blk (pc' := 15) (L' := [some (.ref a0), some (.int a1), some (.int a2), some (.int a3)]) (st' := [.int a2, .int a1, .ref v6]) (sg := [(.iload_n 1, 0), (.iload_n 2, 0)]) (by decide +kernel) rfl ?_
  obtain ⟨_, o8, e7, m9, h⟩ := gOb_inv h
  refine Y.callN (yC.Vi (b := v6) (As := [.int a1, .int a2]) (st := []) (r := ("Partlister$Numbers", T_N, 1)) hV.1 cb_N_write lk_U_40 in_N_write rfl se_N_write (by decide +kernel) rfl rfl (Nat.le_of_ble_eq_true rfl) (by decide) e7 m9) (k_N_write hV G5 v6 a1 a2) h (fun G10 _ h => ?_)
  refine Y.blk (pc' := 22) (L' := [some (.ref a0), some (.int a1), some (.int a2), some (.int a3)]) (st' := [.int (-1), .int a3, .int a1, .ref a0]) (sg := [(.aload_n 0, 0), (.iload_n 1, 0), (.iload_n 3, 0), (.iconst (-1), -1)]) (by decide +kernel) rfl ?_
  obtain ⟨_, o12, e11, m13, h⟩ := gOb_inv h
  refine Y.callN (yC.Vi (b := a0) (As := [.int a1, .int a3, .int (-1)]) (st := []) (r := ("Partlister$Cursors", T_U, 5)) hV.1 cb_U_stand lk_U_44 in_U_stand rfl se_U_stand (by decide +kernel) rfl rfl (Nat.le_of_ble_eq_true rfl) (by decide) e11 m13) (k_U_stand hV G10 a0 a1 a3 (-1)) h (fun G14 _ h => ?_)
  exact Y.vret rfl (by decide +kernel) h

def f_X_cursor (G : gH) (a0 : Nat) (a1 : Int32) (a2 : Int32) : gR :=
  gOb G a0 3 fun o2 => bV (f_X_needList G a0 a1) fun G4 => gOb G4 a0 3 fun o6 => bV (f_X_needGap G4 a0 a1 a2) fun G8 => gFA G8 a0 3 1 fun v9 => gOb G8 v9 0 fun o11 => bI (f_U_freeCursor G8 v9) fun v14 G13 => if v14 = (-1) then gThrow "java/lang/IllegalStateException" G13
  else gFA G13 a0 3 1 fun v15 => gOb G13 v15 0 fun o17 => bV (f_U_start G13 v15 v14 a1 a2) fun G19 => rI v14 G19
theorem k_X_cursor {l : Launch} {D : va_G} {B : Nat} {O : State → Heap → Prop} (hV : zG l D B O) (G : gH) (a0 : Nat) (a1 : Int32) (a2 : Int32) : gMet (zVm l D B O) m_X_cursor 7 [.ref a0, .int a1, .int a2] G (f_X_cursor G a0 a1 a2) := by
  refine gMet.of (by decide +kernel) (Nat.le_of_ble_eq_true rfl) [some (.ref a0), some (.int a1), some (.int a2), none] (fun ls h => zEn_ok (n := 4) h) ?_
  intro o Gf h
  unfold f_X_cursor at h
  refine Y.blk (pc' := 2) (L' := [some (.ref a0), some (.int a1), some (.int a2), none]) (st' := [.int a1, .ref a0]) (sg := [(.aload_n 0, 0), (.iload_n 1, 0)]) (by decide +kernel) rfl ?_
  obtain ⟨_, o2, e1, m3, h⟩ := gOb_inv h
  refine Y.callN (yC.Vi (b := a0) (As := [.int a1]) (st := []) (r := ("Partlister", T_X, 5)) hV.1 cb_X_needList lk_X_23 in_X_needList rfl se_X_needList (by decide +kernel) rfl rfl (Nat.le_of_ble_eq_true rfl) (by decide) e1 m3) (k_X_needList hV G a0 a1) h (fun G4 _ h => ?_)
  refine Y.blk (pc' := 8) (L' := [some (.ref a0), some (.int a1), some (.int a2), none]) (st' := [.int a2, .int a1, .ref a0]) (sg := [(.aload_n 0, 0), (.iload_n 1, 0), (.iload_n 2, 0)]) (by decide +kernel) rfl ?_
  obtain ⟨_, o6, e5, m7, h⟩ := gOb_inv h
  refine Y.callN (yC.Vi (b := a0) (As := [.int a1, .int a2]) (st := []) (r := ("Partlister", T_X, 5)) hV.1 cb_X_needGap lk_X_45 in_X_needGap rfl se_X_needGap (by decide +kernel) rfl rfl (Nat.le_of_ble_eq_true rfl) (by decide) e5 m7) (k_X_needGap hV G4 a0 a1 a2) h (fun G8 _ h => ?_)
  refine Y.blk (pc' := 12) (L' := [some (.ref a0), some (.int a1), some (.int a2), none]) (st' := [.ref a0]) (sg := [(.aload_n 0, 0)]) (by decide +kernel) rfl ?_
  refine Y.getA fl_X_19 (by decide +kernel) h (fun v9 h => ?_)
  obtain ⟨_, o11, e10, m12, h⟩ := gOb_inv h
  refine Y.callI (yC.Vi (b := v9) (As := []) (st := []) (r := ("Partlister$Cursors", T_U, 5)) hV.1 cb_U_freeCursor lk_X_159 in_U_freeCursor rfl se_U_freeCursor (by decide +kernel) rfl rfl (Nat.le_of_ble_eq_true rfl) (by decide) e10 m12) (k_U_freeCursor hV G8 v9) h (fun v14 G13 _ h => ?_)
  refine Y.blk (pc' := 21) (L' := [some (.ref a0), some (.int a1), some (.int a2), some (.int v14)]) (st' := [.int (-1), .int v14]) (sg := [(.istore_n 3, 0), (.iload_n 3, 0), (.iconst (-1), -1)]) (by decide +kernel) rfl ?_
  refine Y.ic_ne (off := 13) (tgt := 34) (by decide +kernel) (by decide) h (fun c20 h => ?_) (fun c20 h => ?_)
  · exact Y.throwS (is := 162) (text := "there are three CURSORS") (names := zNm) hV.1 (hV.2 _ _ _ (by decide +kernel)) (by decide +kernel) (by decide +kernel) ck_X_134 ini_ISE tw_X_138 tg_X_138 (by decide) (by decide) rfl (Nat.le_of_ble_eq_true rfl) (by decide +kernel) (by decide +kernel) (by decide +kernel) (by decide +kernel) (by decide +kernel) h
  · refine Y.blk (pc' := 35) (L' := [some (.ref a0), some (.int a1), some (.int a2), some (.int v14)]) (st' := [.ref a0]) (sg := [(.aload_n 0, 0)]) (by decide +kernel) rfl ?_
    refine Y.getA fl_X_19 (by decide +kernel) h (fun v15 h => ?_)
    refine Y.blk (pc' := 41) (L' := [some (.ref a0), some (.int a1), some (.int a2), some (.int v14)]) (st' := [.int a2, .int a1, .int v14, .ref v15]) (sg := [(.iload_n 3, 0), (.iload_n 1, 0), (.iload_n 2, 0)]) (by decide +kernel) rfl ?_
    obtain ⟨_, o17, e16, m18, h⟩ := gOb_inv h
    refine Y.callN (yC.Vi (b := v15) (As := [.int v14, .int a1, .int a2]) (st := []) (r := ("Partlister$Cursors", T_U, 5)) hV.1 cb_U_start lk_X_164 in_U_start rfl se_U_start (by decide +kernel) rfl rfl (Nat.le_of_ble_eq_true rfl) (by decide) e16 m18) (k_U_start hV G13 v15 v14 a1 a2) h (fun G19 _ h => ?_)
    refine Y.blk (pc' := 45) (L' := [some (.ref a0), some (.int a1), some (.int a2), some (.int v14)]) (st' := [.int v14]) (sg := [(.iload_n 3, 0)]) (by decide +kernel) rfl ?_
    exact Y.iret rfl (by decide +kernel) h

def f_X_mix (G : gH) (a0 : Int64) (a2 : Int64) : gR :=
  rL ((a0 * (lN 31)) + a2) G
theorem k_X_mix {l : Launch} {D : va_G} {B : Nat} {O : State → Heap → Prop} (hV : zG l D B O) (G : gH) (a0 : Int64) (a2 : Int64) : gMet (zVm l D B O) m_X_mix 1 [.long a0, .long a2] G (f_X_mix G a0 a2) := by
  refine gMet.of (by decide +kernel) (Nat.le_of_ble_eq_true rfl) [some (.long a0), none, some (.long a2), none] (fun ls h => zEn_ok (n := 4) h) ?_
  intro o Gf h
  unfold f_X_mix at h
  refine Y.blk (pc' := 1) (L' := [some (.long a0), none, some (.long a2), none]) (st' := [.long a0]) (sg := [(.lload_n 0, 0)]) (by decide +kernel) rfl ?_
  refine Y.ldc2 (v := lN 31) co_X_321 (by decide +kernel) ?_
  refine Y.blk (pc' := 7) (L' := [some (.long a0), none, some (.long a2), none]) (st' := [.long ((a0 * (lN 31)) + a2)]) (sg := [(.lmul, 0), (.lload_n 2, 0), (.ladd, 0)]) (by decide +kernel) rfl ?_
  exact Y.lret rfl (by decide +kernel) h

def f_I_countOf_L12 (K38 : gH → Int32 → gR) : Nat → gH → Nat → Int32 → Int32 → Int32 → Int32 → Int32 → gR
  | 0, _, _, _, _, _, _, _ => none
  | n + 1, G, x0, x1, x2, x3, x4, x5 =>
    if x3 ≤ x5 then K38 G x4
    else gOb G x0 1 fun o7 => bI (f_I_keyAt G x0 x1 x5) fun v10 G9 => if v10 = x2 then f_I_countOf_L12 K38 n G9 x0 x1 x2 x3 (x4 + (nI 1)) (x5 + (nI 1))
      else f_I_countOf_L12 K38 n G9 x0 x1 x2 x3 x4 (x5 + (nI 1))
def f_I_countOf (G : gH) (a0 : Nat) (a1 : Int32) (a2 : Int32) : gR :=
  gOb G a0 1 fun o2 => bI (f_I_lengthOf G a0 a1) fun v5 G4 => f_I_countOf_L12 (fun G14 x13 => rI x13 G14) zFu G4 a0 a1 a2 v5 (nI 0) (nI 0)
theorem k_I_countOf_L12 {l : Launch} {D : va_G} {B : Nat} {O : State → Heap → Prop} (hV : zG l D B O) {o : gO} {Gf : gH} (K38 : gH → Int32 → gR) (hK38 : ∀ (G : gH) (x4 : Int32), K38 G x4 = some (o, Gf) → Y (zVm l D B O) m_I_countOf 4 o Gf 38 [none, none, none, none, some (.int x4), none] [] G) : ∀ (n : Nat) (G : gH) (x0 : Nat) (x1 : Int32) (x2 : Int32) (x3 : Int32) (x4 : Int32) (x5 : Int32), f_I_countOf_L12 K38 n G x0 x1 x2 x3 x4 x5 = some (o, Gf) → Y (zVm l D B O) m_I_countOf 4 o Gf 12 [some (.ref x0), some (.int x1), some (.int x2), some (.int x3), some (.int x4), some (.int x5)] [] G := by
  intro n
  induction n with
  | zero => intro G x0 x1 x2 x3 x4 x5 h; cases h
  | succ n ih =>
    intro G x0 x1 x2 x3 x4 x5 h
    unfold f_I_countOf_L12 at h
    refine Y.blk (pc' := 15) (L' := [some (.ref x0), some (.int x1), some (.int x2), some (.int x3), some (.int x4), some (.int x5)]) (st' := [.int x3, .int x5]) (sg := [(.iload 5, 0), (.iload_n 3, 0)]) (by decide +kernel) rfl ?_
    refine Y.ic_ge (off := 23) (tgt := 38) (by decide +kernel) (by decide) h (fun c12 h => ?_) (fun c12 h => ?_)
    · refine Y.less (L' := [none, none, none, none, some (.int x4), none]) (zLe_none (zLe_none (zLe_none (zLe_none (zLe_some (zLe_none (zLe_nil))))))) ?_
      exact hK38 G x4 h
    · refine Y.blk (pc' := 22) (L' := [some (.ref x0), some (.int x1), some (.int x2), some (.int x3), some (.int x4), some (.int x5)]) (st' := [.int x5, .int x1, .ref x0]) (sg := [(.aload_n 0, 0), (.iload_n 1, 0), (.iload 5, 0)]) (by decide +kernel) rfl ?_
      obtain ⟨_, o7, e6, m8, h⟩ := gOb_inv h
      refine Y.callI (yC.Vi (b := x0) (As := [.int x1, .int x5]) (st := []) (r := ("Partlister$Lists", T_I, 7)) hV.1 cb_I_keyAt lk_I_101 in_I_keyAt rfl se_I_keyAt (by decide +kernel) rfl rfl (Nat.le_of_ble_eq_true rfl) (by decide) e6 m8) (k_I_keyAt hV G x0 x1 x5) h (fun v10 G9 _ h => ?_)
      refine Y.blk (pc' := 26) (L' := [some (.ref x0), some (.int x1), some (.int x2), some (.int x3), some (.int x4), some (.int x5)]) (st' := [.int x2, .int v10]) (sg := [(.iload_n 2, 0)]) (by decide +kernel) rfl ?_
      refine Y.ic_ne (off := 6) (tgt := 32) (by decide +kernel) (by decide) h (fun c11 h => ?_) (fun c11 h => ?_)
      · refine Y.blk (pc' := 35) (L' := [some (.ref x0), some (.int x1), some (.int x2), some (.int x3), some (.int (x4 + (nI 1))), some (.int (x5 + (nI 1)))]) (st' := []) (sg := [(.iinc 4 1, nI 1), (.iinc 5 1, nI 1)]) (by decide +kernel) rfl ?_
        refine Y.goto (off := -23) (tgt := 12) (by decide +kernel) (by decide) ?_
        exact ih G9 x0 x1 x2 x3 (x4 + (nI 1)) (x5 + (nI 1)) h
      · refine Y.blk (pc' := 35) (L' := [some (.ref x0), some (.int x1), some (.int x2), some (.int x3), some (.int x4), some (.int (x5 + (nI 1)))]) (st' := []) (sg := [(.iinc 5 1, nI 1)]) (by decide +kernel) rfl ?_
        refine Y.goto (off := -23) (tgt := 12) (by decide +kernel) (by decide) ?_
        exact ih G9 x0 x1 x2 x3 x4 (x5 + (nI 1)) h
theorem k_I_countOf {l : Launch} {D : va_G} {B : Nat} {O : State → Heap → Prop} (hV : zG l D B O) (G : gH) (a0 : Nat) (a1 : Int32) (a2 : Int32) : gMet (zVm l D B O) m_I_countOf 4 [.ref a0, .int a1, .int a2] G (f_I_countOf G a0 a1 a2) := by
  refine gMet.of (by decide +kernel) (Nat.le_of_ble_eq_true rfl) [some (.ref a0), some (.int a1), some (.int a2), none, none, none] (fun ls h => zEn_ok (n := 6) h) ?_
  intro o Gf h
  unfold f_I_countOf at h
  refine Y.blk (pc' := 2) (L' := [some (.ref a0), some (.int a1), some (.int a2), none, none, none]) (st' := [.int a1, .ref a0]) (sg := [(.aload_n 0, 0), (.iload_n 1, 0)]) (by decide +kernel) rfl ?_
  obtain ⟨_, o2, e1, m3, h⟩ := gOb_inv h
  refine Y.callI (yC.Vi (b := a0) (As := [.int a1]) (st := []) (r := ("Partlister$Lists", T_I, 7)) hV.1 cb_I_lengthOf lk_I_59 in_I_lengthOf rfl se_I_lengthOf (by decide +kernel) rfl rfl (Nat.le_of_ble_eq_true rfl) (by decide) e1 m3) (k_I_lengthOf hV G a0 a1) h (fun v5 G4 _ h => ?_)
  refine Y.blk (pc' := 12) (L' := [some (.ref a0), some (.int a1), some (.int a2), some (.int v5), some (.int (nI 0)), some (.int (nI 0))]) (st' := []) (sg := [(.istore_n 3, 0), (.iconst 0, nI 0), (.istore 4, 0), (.iconst 0, nI 0), (.istore 5, 0)]) (by decide +kernel) rfl ?_
  refine k_I_countOf_L12 hV _ ?_  zFu G4 a0 a1 a2 v5 (nI 0) (nI 0) h
  · intro G14 x13 h
    refine Y.blk (pc' := 40) (L' := [none, none, none, none, some (.int x13), none]) (st' := [.int x13]) (sg := [(.iload 4, 0)]) (by decide +kernel) rfl ?_
    exact Y.iret rfl (by decide +kernel) h

def f_I_extremeKey_L12 (K64 : gH → Int32 → gR) : Nat → gH → Nat → Int32 → Int32 → Int32 → Int32 → Int32 → gR
  | 0, _, _, _, _, _, _, _ => none
  | n + 1, G, x0, x1, x2, x3, x4, x5 =>
    if x3 ≤ x5 then K64 G x4
    else gOb G x0 1 fun o7 => bI (f_I_keyAt G x0 x1 x5) fun v10 G9 => if x4 = (-1) then f_I_extremeKey_L12 K64 n G9 x0 x1 x2 x3 v10 (x5 + (nI 1))
      else if x2 = 0 then (if v10 ≤ x4 then f_I_extremeKey_L12 K64 n G9 x0 x1 x2 x3 x4 (x5 + (nI 1))
          else f_I_extremeKey_L12 K64 n G9 x0 x1 x2 x3 v10 (x5 + (nI 1)))
        else if x4 ≤ v10 then f_I_extremeKey_L12 K64 n G9 x0 x1 x2 x3 x4 (x5 + (nI 1))
          else f_I_extremeKey_L12 K64 n G9 x0 x1 x2 x3 v10 (x5 + (nI 1))
def f_I_extremeKey (G : gH) (a0 : Nat) (a1 : Int32) (a2 : Int32) : gR :=
  gOb G a0 1 fun o2 => bI (f_I_lengthOf G a0 a1) fun v5 G4 => f_I_extremeKey_L12 (fun G17 x16 => rI x16 G17) zFu G4 a0 a1 a2 v5 (-1) (nI 0)
theorem k_I_extremeKey_L12 {l : Launch} {D : va_G} {B : Nat} {O : State → Heap → Prop} (hV : zG l D B O) {o : gO} {Gf : gH} (K64 : gH → Int32 → gR) (hK64 : ∀ (G : gH) (x4 : Int32), K64 G x4 = some (o, Gf) → Y (zVm l D B O) m_I_extremeKey 4 o Gf 64 [none, none, none, none, some (.int x4), none, none] [] G) : ∀ (n : Nat) (G : gH) (x0 : Nat) (x1 : Int32) (x2 : Int32) (x3 : Int32) (x4 : Int32) (x5 : Int32), f_I_extremeKey_L12 K64 n G x0 x1 x2 x3 x4 x5 = some (o, Gf) → Y (zVm l D B O) m_I_extremeKey 4 o Gf 12 [some (.ref x0), some (.int x1), some (.int x2), some (.int x3), some (.int x4), some (.int x5), none] [] G := by
  intro n
  induction n with
  | zero => intro G x0 x1 x2 x3 x4 x5 h; cases h
  | succ n ih =>
    intro G x0 x1 x2 x3 x4 x5 h
    unfold f_I_extremeKey_L12 at h
    refine Y.blk (pc' := 15) (L' := [some (.ref x0), some (.int x1), some (.int x2), some (.int x3), some (.int x4), some (.int x5), none]) (st' := [.int x3, .int x5]) (sg := [(.iload 5, 0), (.iload_n 3, 0)]) (by decide +kernel) rfl ?_
    refine Y.ic_ge (off := 49) (tgt := 64) (by decide +kernel) (by decide) h (fun c15 h => ?_) (fun c15 h => ?_)
    · refine Y.less (L' := [none, none, none, none, some (.int x4), none, none]) (zLe_none (zLe_none (zLe_none (zLe_none (zLe_some (zLe_none (zLe_some (zLe_nil)))))))) ?_
      exact hK64 G x4 h
    · refine Y.blk (pc' := 22) (L' := [some (.ref x0), some (.int x1), some (.int x2), some (.int x3), some (.int x4), some (.int x5), none]) (st' := [.int x5, .int x1, .ref x0]) (sg := [(.aload_n 0, 0), (.iload_n 1, 0), (.iload 5, 0)]) (by decide +kernel) rfl ?_
      obtain ⟨_, o7, e6, m8, h⟩ := gOb_inv h
      refine Y.callI (yC.Vi (b := x0) (As := [.int x1, .int x5]) (st := []) (r := ("Partlister$Lists", T_I, 7)) hV.1 cb_I_keyAt lk_I_101 in_I_keyAt rfl se_I_keyAt (by decide +kernel) rfl rfl (Nat.le_of_ble_eq_true rfl) (by decide) e6 m8) (k_I_keyAt hV G x0 x1 x5) h (fun v10 G9 _ h => ?_)
      refine Y.blk (pc' := 30) (L' := [some (.ref x0), some (.int x1), some (.int x2), some (.int x3), some (.int x4), some (.int x5), some (.int v10)]) (st' := [.int (-1), .int x4]) (sg := [(.istore 6, 0), (.iload 4, 0), (.iconst (-1), -1)]) (by decide +kernel) rfl ?_
      refine Y.ic_eq (off := 24) (tgt := 54) (by decide +kernel) (by decide) h (fun c14 h => ?_) (fun c14 h => ?_)
      · refine Y.blk (pc' := 61) (L' := [some (.ref x0), some (.int x1), some (.int x2), some (.int x3), some (.int v10), some (.int (x5 + (nI 1))), some (.int v10)]) (st' := []) (sg := [(.iload 6, 0), (.istore 4, 0), (.iinc 5 1, nI 1)]) (by decide +kernel) rfl ?_
        refine Y.goto (off := -49) (tgt := 12) (by decide +kernel) (by decide) ?_
        refine Y.less (L' := [some (.ref x0), some (.int x1), some (.int x2), some (.int x3), some (.int v10), some (.int (x5 + (nI 1))), none]) (zLe_some (zLe_some (zLe_some (zLe_some (zLe_some (zLe_some (zLe_none (zLe_nil)))))))) ?_
        exact ih G9 x0 x1 x2 x3 v10 (x5 + (nI 1)) h
      · refine Y.blk (pc' := 34) (L' := [some (.ref x0), some (.int x1), some (.int x2), some (.int x3), some (.int x4), some (.int x5), some (.int v10)]) (st' := [.int x2]) (sg := [(.iload_n 2, 0)]) (by decide +kernel) rfl ?_
        refine Y.if_eq (off := 13) (tgt := 47) (by decide +kernel) (by decide) h (fun c13 h => ?_) (fun c13 h => ?_)
        · refine Y.blk (pc' := 51) (L' := [some (.ref x0), some (.int x1), some (.int x2), some (.int x3), some (.int x4), some (.int x5), some (.int v10)]) (st' := [.int x4, .int v10]) (sg := [(.iload 6, 0), (.iload 4, 0)]) (by decide +kernel) rfl ?_
          refine Y.ic_le (off := 7) (tgt := 58) (by decide +kernel) (by decide) h (fun c11 h => ?_) (fun c11 h => ?_)
          · refine Y.blk (pc' := 61) (L' := [some (.ref x0), some (.int x1), some (.int x2), some (.int x3), some (.int x4), some (.int (x5 + (nI 1))), some (.int v10)]) (st' := []) (sg := [(.iinc 5 1, nI 1)]) (by decide +kernel) rfl ?_
            refine Y.goto (off := -49) (tgt := 12) (by decide +kernel) (by decide) ?_
            refine Y.less (L' := [some (.ref x0), some (.int x1), some (.int x2), some (.int x3), some (.int x4), some (.int (x5 + (nI 1))), none]) (zLe_some (zLe_some (zLe_some (zLe_some (zLe_some (zLe_some (zLe_none (zLe_nil)))))))) ?_
            exact ih G9 x0 x1 x2 x3 x4 (x5 + (nI 1)) h
          · refine Y.blk (pc' := 61) (L' := [some (.ref x0), some (.int x1), some (.int x2), some (.int x3), some (.int v10), some (.int (x5 + (nI 1))), some (.int v10)]) (st' := []) (sg := [(.iload 6, 0), (.istore 4, 0), (.iinc 5 1, nI 1)]) (by decide +kernel) rfl ?_
            refine Y.goto (off := -49) (tgt := 12) (by decide +kernel) (by decide) ?_
            refine Y.less (L' := [some (.ref x0), some (.int x1), some (.int x2), some (.int x3), some (.int v10), some (.int (x5 + (nI 1))), none]) (zLe_some (zLe_some (zLe_some (zLe_some (zLe_some (zLe_some (zLe_none (zLe_nil)))))))) ?_
            exact ih G9 x0 x1 x2 x3 v10 (x5 + (nI 1)) h
        · refine Y.blk (pc' := 41) (L' := [some (.ref x0), some (.int x1), some (.int x2), some (.int x3), some (.int x4), some (.int x5), some (.int v10)]) (st' := [.int x4, .int v10]) (sg := [(.iload 6, 0), (.iload 4, 0)]) (by decide +kernel) rfl ?_
          refine Y.ic_ge (off := 17) (tgt := 58) (by decide +kernel) (by decide) h (fun c12 h => ?_) (fun c12 h => ?_)
          · refine Y.blk (pc' := 61) (L' := [some (.ref x0), some (.int x1), some (.int x2), some (.int x3), some (.int x4), some (.int (x5 + (nI 1))), some (.int v10)]) (st' := []) (sg := [(.iinc 5 1, nI 1)]) (by decide +kernel) rfl ?_
            refine Y.goto (off := -49) (tgt := 12) (by decide +kernel) (by decide) ?_
            refine Y.less (L' := [some (.ref x0), some (.int x1), some (.int x2), some (.int x3), some (.int x4), some (.int (x5 + (nI 1))), none]) (zLe_some (zLe_some (zLe_some (zLe_some (zLe_some (zLe_some (zLe_none (zLe_nil)))))))) ?_
            exact ih G9 x0 x1 x2 x3 x4 (x5 + (nI 1)) h
          · refine Y.goto (off := 10) (tgt := 54) (by decide +kernel) (by decide) ?_
            refine Y.blk (pc' := 61) (L' := [some (.ref x0), some (.int x1), some (.int x2), some (.int x3), some (.int v10), some (.int (x5 + (nI 1))), some (.int v10)]) (st' := []) (sg := [(.iload 6, 0), (.istore 4, 0), (.iinc 5 1, nI 1)]) (by decide +kernel) rfl ?_
            refine Y.goto (off := -49) (tgt := 12) (by decide +kernel) (by decide) ?_
            refine Y.less (L' := [some (.ref x0), some (.int x1), some (.int x2), some (.int x3), some (.int v10), some (.int (x5 + (nI 1))), none]) (zLe_some (zLe_some (zLe_some (zLe_some (zLe_some (zLe_some (zLe_none (zLe_nil)))))))) ?_
            exact ih G9 x0 x1 x2 x3 v10 (x5 + (nI 1)) h
theorem k_I_extremeKey {l : Launch} {D : va_G} {B : Nat} {O : State → Heap → Prop} (hV : zG l D B O) (G : gH) (a0 : Nat) (a1 : Int32) (a2 : Int32) : gMet (zVm l D B O) m_I_extremeKey 4 [.ref a0, .int a1, .int a2] G (f_I_extremeKey G a0 a1 a2) := by
  refine gMet.of (by decide +kernel) (Nat.le_of_ble_eq_true rfl) [some (.ref a0), some (.int a1), some (.int a2), none, none, none, none] (fun ls h => zEn_ok (n := 7) h) ?_
  intro o Gf h
  unfold f_I_extremeKey at h
  refine Y.blk (pc' := 2) (L' := [some (.ref a0), some (.int a1), some (.int a2), none, none, none, none]) (st' := [.int a1, .ref a0]) (sg := [(.aload_n 0, 0), (.iload_n 1, 0)]) (by decide +kernel) rfl ?_
  obtain ⟨_, o2, e1, m3, h⟩ := gOb_inv h
  refine Y.callI (yC.Vi (b := a0) (As := [.int a1]) (st := []) (r := ("Partlister$Lists", T_I, 7)) hV.1 cb_I_lengthOf lk_I_59 in_I_lengthOf rfl se_I_lengthOf (by decide +kernel) rfl rfl (Nat.le_of_ble_eq_true rfl) (by decide) e1 m3) (k_I_lengthOf hV G a0 a1) h (fun v5 G4 _ h => ?_)
  refine Y.blk (pc' := 12) (L' := [some (.ref a0), some (.int a1), some (.int a2), some (.int v5), some (.int (-1)), some (.int (nI 0)), none]) (st' := []) (sg := [(.istore_n 3, 0), (.iconst (-1), -1), (.istore 4, 0), (.iconst 0, nI 0), (.istore 5, 0)]) (by decide +kernel) rfl ?_
  refine k_I_extremeKey_L12 hV _ ?_  zFu G4 a0 a1 a2 v5 (-1) (nI 0) h
  · intro G17 x16 h
    refine Y.blk (pc' := 66) (L' := [none, none, none, none, some (.int x16), none, none]) (st' := [.int x16]) (sg := [(.iload 4, 0)]) (by decide +kernel) rfl ?_
    exact Y.iret rfl (by decide +kernel) h

def f_I_firstOf_L9 (K26 : gH → Int32 → gR) (K35 : gH → gR) : Nat → gH → Nat → Int32 → Int32 → Int32 → Int32 → gR
  | 0, _, _, _, _, _, _ => none
  | n + 1, G, x0, x1, x2, x3, x4 =>
    if x3 ≤ x4 then K35 G
    else gOb G x0 1 fun o7 => bI (f_I_keyAt G x0 x1 x4) fun v10 G9 => if v10 = x2 then K26 G9 x4
      else f_I_firstOf_L9 K26 K35 n G9 x0 x1 x2 x3 (x4 + (nI 1))
def f_I_firstOf (G : gH) (a0 : Nat) (a1 : Int32) (a2 : Int32) : gR :=
  gOb G a0 1 fun o2 => bI (f_I_lengthOf G a0 a1) fun v5 G4 => f_I_firstOf_L9 (fun G14 x13 => rI x13 G14) (fun G15 => rI (-1) G15) zFu G4 a0 a1 a2 v5 (nI 0)
theorem k_I_firstOf_L9 {l : Launch} {D : va_G} {B : Nat} {O : State → Heap → Prop} (hV : zG l D B O) {o : gO} {Gf : gH} (K26 : gH → Int32 → gR) (K35 : gH → gR) (hK26 : ∀ (G : gH) (x4 : Int32), K26 G x4 = some (o, Gf) → Y (zVm l D B O) m_I_firstOf 4 o Gf 26 [none, none, none, none, some (.int x4)] [] G) (hK35 : ∀ (G : gH), K35 G  = some (o, Gf) → Y (zVm l D B O) m_I_firstOf 4 o Gf 35 [none, none, none, none, none] [] G) : ∀ (n : Nat) (G : gH) (x0 : Nat) (x1 : Int32) (x2 : Int32) (x3 : Int32) (x4 : Int32), f_I_firstOf_L9 K26 K35 n G x0 x1 x2 x3 x4 = some (o, Gf) → Y (zVm l D B O) m_I_firstOf 4 o Gf 9 [some (.ref x0), some (.int x1), some (.int x2), some (.int x3), some (.int x4)] [] G := by
  intro n
  induction n with
  | zero => intro G x0 x1 x2 x3 x4 h; cases h
  | succ n ih =>
    intro G x0 x1 x2 x3 x4 h
    unfold f_I_firstOf_L9 at h
    refine Y.blk (pc' := 12) (L' := [some (.ref x0), some (.int x1), some (.int x2), some (.int x3), some (.int x4)]) (st' := [.int x3, .int x4]) (sg := [(.iload 4, 0), (.iload_n 3, 0)]) (by decide +kernel) rfl ?_
    refine Y.ic_ge (off := 23) (tgt := 35) (by decide +kernel) (by decide) h (fun c12 h => ?_) (fun c12 h => ?_)
    · refine Y.less (L' := [none, none, none, none, none]) (zLe_none (zLe_none (zLe_none (zLe_none (zLe_none (zLe_nil)))))) ?_
      exact hK35 G  h
    · refine Y.blk (pc' := 19) (L' := [some (.ref x0), some (.int x1), some (.int x2), some (.int x3), some (.int x4)]) (st' := [.int x4, .int x1, .ref x0]) (sg := [(.aload_n 0, 0), (.iload_n 1, 0), (.iload 4, 0)]) (by decide +kernel) rfl ?_
      obtain ⟨_, o7, e6, m8, h⟩ := gOb_inv h
      refine Y.callI (yC.Vi (b := x0) (As := [.int x1, .int x4]) (st := []) (r := ("Partlister$Lists", T_I, 7)) hV.1 cb_I_keyAt lk_I_101 in_I_keyAt rfl se_I_keyAt (by decide +kernel) rfl rfl (Nat.le_of_ble_eq_true rfl) (by decide) e6 m8) (k_I_keyAt hV G x0 x1 x4) h (fun v10 G9 _ h => ?_)
      refine Y.blk (pc' := 23) (L' := [some (.ref x0), some (.int x1), some (.int x2), some (.int x3), some (.int x4)]) (st' := [.int x2, .int v10]) (sg := [(.iload_n 2, 0)]) (by decide +kernel) rfl ?_
      refine Y.ic_ne (off := 6) (tgt := 29) (by decide +kernel) (by decide) h (fun c11 h => ?_) (fun c11 h => ?_)
      · refine Y.less (L' := [none, none, none, none, some (.int x4)]) (zLe_none (zLe_none (zLe_none (zLe_none (zLe_some (zLe_nil)))))) ?_
        exact hK26 G9 x4 h
      · refine Y.blk (pc' := 32) (L' := [some (.ref x0), some (.int x1), some (.int x2), some (.int x3), some (.int (x4 + (nI 1)))]) (st' := []) (sg := [(.iinc 4 1, nI 1)]) (by decide +kernel) rfl ?_
        refine Y.goto (off := -23) (tgt := 9) (by decide +kernel) (by decide) ?_
        exact ih G9 x0 x1 x2 x3 (x4 + (nI 1)) h
theorem k_I_firstOf {l : Launch} {D : va_G} {B : Nat} {O : State → Heap → Prop} (hV : zG l D B O) (G : gH) (a0 : Nat) (a1 : Int32) (a2 : Int32) : gMet (zVm l D B O) m_I_firstOf 4 [.ref a0, .int a1, .int a2] G (f_I_firstOf G a0 a1 a2) := by
  refine gMet.of (by decide +kernel) (Nat.le_of_ble_eq_true rfl) [some (.ref a0), some (.int a1), some (.int a2), none, none] (fun ls h => zEn_ok (n := 5) h) ?_
  intro o Gf h
  unfold f_I_firstOf at h
  refine Y.blk (pc' := 2) (L' := [some (.ref a0), some (.int a1), some (.int a2), none, none]) (st' := [.int a1, .ref a0]) (sg := [(.aload_n 0, 0), (.iload_n 1, 0)]) (by decide +kernel) rfl ?_
  obtain ⟨_, o2, e1, m3, h⟩ := gOb_inv h
  refine Y.callI (yC.Vi (b := a0) (As := [.int a1]) (st := []) (r := ("Partlister$Lists", T_I, 7)) hV.1 cb_I_lengthOf lk_I_59 in_I_lengthOf rfl se_I_lengthOf (by decide +kernel) rfl rfl (Nat.le_of_ble_eq_true rfl) (by decide) e1 m3) (k_I_lengthOf hV G a0 a1) h (fun v5 G4 _ h => ?_)
  refine Y.blk (pc' := 9) (L' := [some (.ref a0), some (.int a1), some (.int a2), some (.int v5), some (.int (nI 0))]) (st' := []) (sg := [(.istore_n 3, 0), (.iconst 0, nI 0), (.istore 4, 0)]) (by decide +kernel) rfl ?_
  refine k_I_firstOf_L9 hV _ _ ?_ ?_  zFu G4 a0 a1 a2 v5 (nI 0) h
  · intro G14 x13 h
    refine Y.blk (pc' := 28) (L' := [none, none, none, none, some (.int x13)]) (st' := [.int x13]) (sg := [(.iload 4, 0)]) (by decide +kernel) rfl ?_
    exact Y.iret rfl (by decide +kernel) h
  · intro G15 h
    refine Y.blk (pc' := 36) (L' := [none, none, none, none, none]) (st' := [.int (-1)]) (sg := [(.iconst (-1), -1)]) (by decide +kernel) rfl ?_
    exact Y.iret rfl (by decide +kernel) h

def f_I_hashOf_L11 (K36 : gH → Int32 → gR) : Nat → gH → Nat → Int32 → Int32 → Int32 → Int32 → gR
  | 0, _, _, _, _, _, _ => none
  | n + 1, G, x0, x1, x2, x3, x4 =>
    if x2 ≤ x4 then K36 G x3
    else gOb G x0 1 fun o7 => bI (f_I_keyAt G x0 x1 x4) fun v10 G9 => f_I_hashOf_L11 K36 n G9 x0 x1 x2 ((x3 * (nI 31)) + v10) (x4 + (nI 1))
def f_I_hashOf (G : gH) (a0 : Nat) (a1 : Int32) : gR :=
  gOb G a0 1 fun o2 => bI (f_I_lengthOf G a0 a1) fun v5 G4 => f_I_hashOf_L11 (fun G13 x12 => rI x12 G13) zFu G4 a0 a1 v5 (nI 1) (nI 0)
theorem k_I_hashOf_L11 {l : Launch} {D : va_G} {B : Nat} {O : State → Heap → Prop} (hV : zG l D B O) {o : gO} {Gf : gH} (K36 : gH → Int32 → gR) (hK36 : ∀ (G : gH) (x3 : Int32), K36 G x3 = some (o, Gf) → Y (zVm l D B O) m_I_hashOf 4 o Gf 36 [none, none, none, some (.int x3), none] [] G) : ∀ (n : Nat) (G : gH) (x0 : Nat) (x1 : Int32) (x2 : Int32) (x3 : Int32) (x4 : Int32), f_I_hashOf_L11 K36 n G x0 x1 x2 x3 x4 = some (o, Gf) → Y (zVm l D B O) m_I_hashOf 4 o Gf 11 [some (.ref x0), some (.int x1), some (.int x2), some (.int x3), some (.int x4)] [] G := by
  intro n
  induction n with
  | zero => intro G x0 x1 x2 x3 x4 h; cases h
  | succ n ih =>
    intro G x0 x1 x2 x3 x4 h
    unfold f_I_hashOf_L11 at h
    refine Y.blk (pc' := 14) (L' := [some (.ref x0), some (.int x1), some (.int x2), some (.int x3), some (.int x4)]) (st' := [.int x2, .int x4]) (sg := [(.iload 4, 0), (.iload_n 2, 0)]) (by decide +kernel) rfl ?_
    refine Y.ic_ge (off := 22) (tgt := 36) (by decide +kernel) (by decide) h (fun c11 h => ?_) (fun c11 h => ?_)
    · refine Y.less (L' := [none, none, none, some (.int x3), none]) (zLe_none (zLe_none (zLe_none (zLe_some (zLe_none (zLe_nil)))))) ?_
      exact hK36 G x3 h
    · refine Y.blk (pc' := 25) (L' := [some (.ref x0), some (.int x1), some (.int x2), some (.int x3), some (.int x4)]) (st' := [.int x4, .int x1, .ref x0, .int (x3 * (nI 31))]) (sg := [(.iload_n 3, 0), (.bipush 31, nI 31), (.imul, 0), (.aload_n 0, 0), (.iload_n 1, 0), (.iload 4, 0)]) (by decide +kernel) rfl ?_
      obtain ⟨_, o7, e6, m8, h⟩ := gOb_inv h
      refine Y.callI (yC.Vi (b := x0) (As := [.int x1, .int x4]) (st := [.int (x3 * (nI 31))]) (r := ("Partlister$Lists", T_I, 7)) hV.1 cb_I_keyAt lk_I_101 in_I_keyAt rfl se_I_keyAt (by decide +kernel) rfl rfl (Nat.le_of_ble_eq_true rfl) (by decide) e6 m8) (k_I_keyAt hV G x0 x1 x4) h (fun v10 G9 _ h => ?_)
      refine Y.blk (pc' := 33) (L' := [some (.ref x0), some (.int x1), some (.int x2), some (.int ((x3 * (nI 31)) + v10)), some (.int (x4 + (nI 1)))]) (st' := []) (sg := [(.iadd, 0), (.istore_n 3, 0), (.iinc 4 1, nI 1)]) (by decide +kernel) rfl ?_
      refine Y.goto (off := -22) (tgt := 11) (by decide +kernel) (by decide) ?_
      exact ih G9 x0 x1 x2 ((x3 * (nI 31)) + v10) (x4 + (nI 1)) h
theorem k_I_hashOf {l : Launch} {D : va_G} {B : Nat} {O : State → Heap → Prop} (hV : zG l D B O) (G : gH) (a0 : Nat) (a1 : Int32) : gMet (zVm l D B O) m_I_hashOf 4 [.ref a0, .int a1] G (f_I_hashOf G a0 a1) := by
  refine gMet.of (by decide +kernel) (Nat.le_of_ble_eq_true rfl) [some (.ref a0), some (.int a1), none, none, none] (fun ls h => zEn_ok (n := 5) h) ?_
  intro o Gf h
  unfold f_I_hashOf at h
  refine Y.blk (pc' := 2) (L' := [some (.ref a0), some (.int a1), none, none, none]) (st' := [.int a1, .ref a0]) (sg := [(.aload_n 0, 0), (.iload_n 1, 0)]) (by decide +kernel) rfl ?_
  obtain ⟨_, o2, e1, m3, h⟩ := gOb_inv h
  refine Y.callI (yC.Vi (b := a0) (As := [.int a1]) (st := []) (r := ("Partlister$Lists", T_I, 7)) hV.1 cb_I_lengthOf lk_I_59 in_I_lengthOf rfl se_I_lengthOf (by decide +kernel) rfl rfl (Nat.le_of_ble_eq_true rfl) (by decide) e1 m3) (k_I_lengthOf hV G a0 a1) h (fun v5 G4 _ h => ?_)
  refine Y.blk (pc' := 11) (L' := [some (.ref a0), some (.int a1), some (.int v5), some (.int (nI 1)), some (.int (nI 0))]) (st' := []) (sg := [(.istore_n 2, 0), (.iconst 1, nI 1), (.istore_n 3, 0), (.iconst 0, nI 0), (.istore 4, 0)]) (by decide +kernel) rfl ?_
  refine k_I_hashOf_L11 hV _ ?_  zFu G4 a0 a1 v5 (nI 1) (nI 0) h
  · intro G13 x12 h
    refine Y.blk (pc' := 37) (L' := [none, none, none, some (.int x12), none]) (st' := [.int x12]) (sg := [(.iload_n 3, 0)]) (by decide +kernel) rfl ?_
    exact Y.iret rfl (by decide +kernel) h

def f_I_lastOf_L8 (K22 : gH → Int32 → gR) (K30 : gH → gR) : Nat → gH → Nat → Int32 → Int32 → Int32 → gR
  | 0, _, _, _, _, _ => none
  | n + 1, G, x0, x1, x2, x3 =>
    if x3 < 0 then K30 G
    else gOb G x0 1 fun o7 => bI (f_I_keyAt G x0 x1 x3) fun v10 G9 => if v10 = x2 then K22 G9 x3
      else f_I_lastOf_L8 K22 K30 n G9 x0 x1 x2 (x3 + (-1))
def f_I_lastOf (G : gH) (a0 : Nat) (a1 : Int32) (a2 : Int32) : gR :=
  gOb G a0 1 fun o2 => bI (f_I_lengthOf G a0 a1) fun v5 G4 => f_I_lastOf_L8 (fun G14 x13 => rI x13 G14) (fun G15 => rI (-1) G15) zFu G4 a0 a1 a2 (v5 - (nI 1))
theorem k_I_lastOf_L8 {l : Launch} {D : va_G} {B : Nat} {O : State → Heap → Prop} (hV : zG l D B O) {o : gO} {Gf : gH} (K22 : gH → Int32 → gR) (K30 : gH → gR) (hK22 : ∀ (G : gH) (x3 : Int32), K22 G x3 = some (o, Gf) → Y (zVm l D B O) m_I_lastOf 4 o Gf 22 [none, none, none, some (.int x3)] [] G) (hK30 : ∀ (G : gH), K30 G  = some (o, Gf) → Y (zVm l D B O) m_I_lastOf 4 o Gf 30 [none, none, none, none] [] G) : ∀ (n : Nat) (G : gH) (x0 : Nat) (x1 : Int32) (x2 : Int32) (x3 : Int32), f_I_lastOf_L8 K22 K30 n G x0 x1 x2 x3 = some (o, Gf) → Y (zVm l D B O) m_I_lastOf 4 o Gf 8 [some (.ref x0), some (.int x1), some (.int x2), some (.int x3)] [] G := by
  intro n
  induction n with
  | zero => intro G x0 x1 x2 x3 h; cases h
  | succ n ih =>
    intro G x0 x1 x2 x3 h
    unfold f_I_lastOf_L8 at h
    refine Y.blk (pc' := 9) (L' := [some (.ref x0), some (.int x1), some (.int x2), some (.int x3)]) (st' := [.int x3]) (sg := [(.iload_n 3, 0)]) (by decide +kernel) rfl ?_
    refine Y.if_lt (off := 21) (tgt := 30) (by decide +kernel) (by decide) h (fun c12 h => ?_) (fun c12 h => ?_)
    · refine Y.less (L' := [none, none, none, none]) (zLe_none (zLe_none (zLe_none (zLe_none (zLe_nil))))) ?_
      exact hK30 G  h
    · refine Y.blk (pc' := 15) (L' := [some (.ref x0), some (.int x1), some (.int x2), some (.int x3)]) (st' := [.int x3, .int x1, .ref x0]) (sg := [(.aload_n 0, 0), (.iload_n 1, 0), (.iload_n 3, 0)]) (by decide +kernel) rfl ?_
      obtain ⟨_, o7, e6, m8, h⟩ := gOb_inv h
      refine Y.callI (yC.Vi (b := x0) (As := [.int x1, .int x3]) (st := []) (r := ("Partlister$Lists", T_I, 7)) hV.1 cb_I_keyAt lk_I_101 in_I_keyAt rfl se_I_keyAt (by decide +kernel) rfl rfl (Nat.le_of_ble_eq_true rfl) (by decide) e6 m8) (k_I_keyAt hV G x0 x1 x3) h (fun v10 G9 _ h => ?_)
      refine Y.blk (pc' := 19) (L' := [some (.ref x0), some (.int x1), some (.int x2), some (.int x3)]) (st' := [.int x2, .int v10]) (sg := [(.iload_n 2, 0)]) (by decide +kernel) rfl ?_
      refine Y.ic_ne (off := 5) (tgt := 24) (by decide +kernel) (by decide) h (fun c11 h => ?_) (fun c11 h => ?_)
      · refine Y.less (L' := [none, none, none, some (.int x3)]) (zLe_none (zLe_none (zLe_none (zLe_some (zLe_nil))))) ?_
        exact hK22 G9 x3 h
      · refine Y.blk (pc' := 27) (L' := [some (.ref x0), some (.int x1), some (.int x2), some (.int (x3 + (-1)))]) (st' := []) (sg := [(.iinc 3 (-1), -1)]) (by decide +kernel) rfl ?_
        refine Y.goto (off := -19) (tgt := 8) (by decide +kernel) (by decide) ?_
        exact ih G9 x0 x1 x2 (x3 + (-1)) h
theorem k_I_lastOf {l : Launch} {D : va_G} {B : Nat} {O : State → Heap → Prop} (hV : zG l D B O) (G : gH) (a0 : Nat) (a1 : Int32) (a2 : Int32) : gMet (zVm l D B O) m_I_lastOf 4 [.ref a0, .int a1, .int a2] G (f_I_lastOf G a0 a1 a2) := by
  refine gMet.of (by decide +kernel) (Nat.le_of_ble_eq_true rfl) [some (.ref a0), some (.int a1), some (.int a2), none] (fun ls h => zEn_ok (n := 4) h) ?_
  intro o Gf h
  unfold f_I_lastOf at h
  refine Y.blk (pc' := 2) (L' := [some (.ref a0), some (.int a1), some (.int a2), none]) (st' := [.int a1, .ref a0]) (sg := [(.aload_n 0, 0), (.iload_n 1, 0)]) (by decide +kernel) rfl ?_
  obtain ⟨_, o2, e1, m3, h⟩ := gOb_inv h
  refine Y.callI (yC.Vi (b := a0) (As := [.int a1]) (st := []) (r := ("Partlister$Lists", T_I, 7)) hV.1 cb_I_lengthOf lk_I_59 in_I_lengthOf rfl se_I_lengthOf (by decide +kernel) rfl rfl (Nat.le_of_ble_eq_true rfl) (by decide) e1 m3) (k_I_lengthOf hV G a0 a1) h (fun v5 G4 _ h => ?_)
  refine Y.blk (pc' := 8) (L' := [some (.ref a0), some (.int a1), some (.int a2), some (.int (v5 - (nI 1)))]) (st' := []) (sg := [(.iconst 1, nI 1), (.isub, 0), (.istore_n 3, 0)]) (by decide +kernel) rfl ?_
  refine k_I_lastOf_L8 hV _ _ ?_ ?_  zFu G4 a0 a1 a2 (v5 - (nI 1)) h
  · intro G14 x13 h
    refine Y.blk (pc' := 23) (L' := [none, none, none, some (.int x13)]) (st' := [.int x13]) (sg := [(.iload_n 3, 0)]) (by decide +kernel) rfl ?_
    exact Y.iret rfl (by decide +kernel) h
  · intro G15 h
    refine Y.blk (pc' := 31) (L' := [none, none, none, none]) (st' := [.int (-1)]) (sg := [(.iconst (-1), -1)]) (by decide +kernel) rfl ?_
    exact Y.iret rfl (by decide +kernel) h

def f_I_worthOf (G : gH) (a0 : Nat) (a1 : Int32) (a2 : Int32) : gR :=
  gFA G a0 1 2 fun v1 => gOb G v1 2 fun o3 => bI (f_N_read G v1 a1) fun v6 G5 => if a2.toInt = 0 then (rI v6 G5)
  else if a2.toInt = 1 then (gFA G5 a0 1 4 fun v8 => gOb G5 v8 2 fun o10 => bI (f_N_read G5 v8 a1) fun v13 G12 => gFA G12 a0 1 4 fun v14 => gOb G12 v14 2 fun o16 => bI (f_N_read G12 v14 v6) fun v19 G18 => rI (v13 - v19) G18)
  else if a2.toInt = 2 then (gOb G5 a0 1 fun o22 => bI (f_I_rowOf G5 a0 a1) fun v25 G24 => rI v25 G24)
  else gFA G5 a0 1 4 fun v27 => gOb G5 v27 2 fun o29 => bI (f_N_read G5 v27 a1) fun v32 G31 => rI v32 G31
theorem k_I_worthOf {l : Launch} {D : va_G} {B : Nat} {O : State → Heap → Prop} (hV : zG l D B O) (G : gH) (a0 : Nat) (a1 : Int32) (a2 : Int32) : gMet (zVm l D B O) m_I_worthOf 3 [.ref a0, .int a1, .int a2] G (f_I_worthOf G a0 a1 a2) := by
  refine gMet.of (by decide +kernel) (Nat.le_of_ble_eq_true rfl) [some (.ref a0), some (.int a1), some (.int a2), none] (fun ls h => zEn_ok (n := 4) h) ?_
  intro o Gf h
  unfold f_I_worthOf at h
  refine Y.blk (pc' := 1) (L' := [some (.ref a0), some (.int a1), some (.int a2), none]) (st' := [.ref a0]) (sg := [(.aload_n 0, 0)]) (by decide +kernel) rfl ?_
  refine Y.getA fl_I_23 (by decide +kernel) h (fun v1 h => ?_)
  refine Y.blk (pc' := 5) (L' := [some (.ref a0), some (.int a1), some (.int a2), none]) (st' := [.int a1, .ref v1]) (sg := [(.iload_n 1, 0)]) (by decide +kernel) rfl ?_
  obtain ⟨_, o3, e2, m4, h⟩ := gOb_inv h
  refine Y.callI (yC.Vi (b := v1) (As := [.int a1]) (st := []) (r := ("Partlister$Numbers", T_N, 1)) hV.1 cb_N_read lk_I_39 in_N_read rfl se_N_read (by decide +kernel) rfl rfl (Nat.le_of_ble_eq_true rfl) (by decide) e2 m4) (k_N_read hV G v1 a1) h (fun v6 G5 _ h => ?_)
  refine Y.blk (pc' := 10) (L' := [some (.ref a0), some (.int a1), some (.int a2), some (.int v6)]) (st' := [.int a2]) (sg := [(.istore_n 3, 0), (.iload_n 2, 0)]) (by decide +kernel) rfl ?_
  refine Y.swC (j := 0) (off := 26) (tgt := 36) (dflt := 52) (lo := 0) (hi := 2) (offs := #[26, 28, 46]) (len := 26) (by decide +kernel) (by decide) (by decide) (by decide) h (fun c7 h => ?_) (fun c7 h => ?_)
  · refine Y.blk (pc' := 37) (L' := [some (.ref a0), some (.int a1), some (.int a2), some (.int v6)]) (st' := [.int v6]) (sg := [(.iload_n 3, 0)]) (by decide +kernel) rfl ?_
    exact Y.iret rfl (by decide +kernel) h
  refine Y.swC (j := 1) (off := 28) (tgt := 38) (dflt := 52) (lo := 0) (hi := 2) (offs := #[26, 28, 46]) (len := 26) (by decide +kernel) (by decide) (by decide) (by decide) h (fun c20 h => ?_) (fun c20 h => ?_)
  · refine Y.blk (pc' := 39) (L' := [some (.ref a0), some (.int a1), some (.int a2), some (.int v6)]) (st' := [.ref a0]) (sg := [(.aload_n 0, 0)]) (by decide +kernel) rfl ?_
    refine Y.getA fl_I_29 (by decide +kernel) h (fun v8 h => ?_)
    refine Y.blk (pc' := 43) (L' := [some (.ref a0), some (.int a1), some (.int a2), some (.int v6)]) (st' := [.int a1, .ref v8]) (sg := [(.iload_n 1, 0)]) (by decide +kernel) rfl ?_
    obtain ⟨_, o10, e9, m11, h⟩ := gOb_inv h
    refine Y.callI (yC.Vi (b := v8) (As := [.int a1]) (st := []) (r := ("Partlister$Numbers", T_N, 1)) hV.1 cb_N_read lk_I_39 in_N_read rfl se_N_read (by decide +kernel) rfl rfl (Nat.le_of_ble_eq_true rfl) (by decide) e9 m11) (k_N_read hV G5 v8 a1) h (fun v13 G12 _ h => ?_)
    refine Y.blk (pc' := 47) (L' := [some (.ref a0), some (.int a1), some (.int a2), some (.int v6)]) (st' := [.ref a0, .int v13]) (sg := [(.aload_n 0, 0)]) (by decide +kernel) rfl ?_
    refine Y.getA fl_I_29 (by decide +kernel) h (fun v14 h => ?_)
    refine Y.blk (pc' := 51) (L' := [some (.ref a0), some (.int a1), some (.int a2), some (.int v6)]) (st' := [.int v6, .ref v14, .int v13]) (sg := [(.iload_n 3, 0)]) (by decide +kernel) rfl ?_
    obtain ⟨_, o16, e15, m17, h⟩ := gOb_inv h
    refine Y.callI (yC.Vi (b := v14) (As := [.int v6]) (st := [.int v13]) (r := ("Partlister$Numbers", T_N, 1)) hV.1 cb_N_read lk_I_39 in_N_read rfl se_N_read (by decide +kernel) rfl rfl (Nat.le_of_ble_eq_true rfl) (by decide) e15 m17) (k_N_read hV G12 v14 v6) h (fun v19 G18 _ h => ?_)
    refine Y.blk (pc' := 55) (L' := [some (.ref a0), some (.int a1), some (.int a2), some (.int v6)]) (st' := [.int (v13 - v19)]) (sg := [(.isub, 0)]) (by decide +kernel) rfl ?_
    exact Y.iret rfl (by decide +kernel) h
  refine Y.swC (j := 2) (off := 46) (tgt := 56) (dflt := 52) (lo := 0) (hi := 2) (offs := #[26, 28, 46]) (len := 26) (by decide +kernel) (by decide) (by decide) (by decide) h (fun c26 h => ?_) (fun c26 h => ?_)
  · refine Y.blk (pc' := 58) (L' := [some (.ref a0), some (.int a1), some (.int a2), some (.int v6)]) (st' := [.int a1, .ref a0]) (sg := [(.aload_n 0, 0), (.iload_n 1, 0)]) (by decide +kernel) rfl ?_
    obtain ⟨_, o22, e21, m23, h⟩ := gOb_inv h
    refine Y.callI (yC.Vi (b := a0) (As := [.int a1]) (st := []) (r := ("Partlister$Lists", T_I, 7)) hV.1 cb_I_rowOf lk_I_56 in_I_rowOf rfl se_I_rowOf (by decide +kernel) rfl rfl (Nat.le_of_ble_eq_true rfl) (by decide) e21 m23) (k_I_rowOf hV G5 a0 a1) h (fun v25 G24 _ h => ?_)
    exact Y.iret rfl (by decide +kernel) h
  refine Y.swOut (dflt := 52) (lo := 0) (hi := 2) (offs := #[26, 28, 46]) (len := 26) (tgt := 62) (by decide +kernel) (by omega) (by decide) ?_
  refine Y.blk (pc' := 63) (L' := [some (.ref a0), some (.int a1), some (.int a2), some (.int v6)]) (st' := [.ref a0]) (sg := [(.aload_n 0, 0)]) (by decide +kernel) rfl ?_
  refine Y.getA fl_I_29 (by decide +kernel) h (fun v27 h => ?_)
  refine Y.blk (pc' := 67) (L' := [some (.ref a0), some (.int a1), some (.int a2), some (.int v6)]) (st' := [.int a1, .ref v27]) (sg := [(.iload_n 1, 0)]) (by decide +kernel) rfl ?_
  obtain ⟨_, o29, e28, m30, h⟩ := gOb_inv h
  refine Y.callI (yC.Vi (b := v27) (As := [.int a1]) (st := []) (r := ("Partlister$Numbers", T_N, 1)) hV.1 cb_N_read lk_I_39 in_N_read rfl se_N_read (by decide +kernel) rfl rfl (Nat.le_of_ble_eq_true rfl) (by decide) e28 m30) (k_N_read hV G5 v27 a1) h (fun v32 G31 _ h => ?_)
  exact Y.iret rfl (by decide +kernel) h

def f_X_mixList_L16 (K63 : gH → Nat → Int32 → Int64 → gR) : Nat → gH → Nat → Int32 → Int64 → Int32 → Int32 → gR
  | 0, _, _, _, _, _, _ => none
  | n + 1, G, x0, x3, x4, x6, x7 =>
    if x6 ≤ x7 then K63 G x0 x3 x4
    else gFA G x0 3 0 fun v7 => gOb G v7 1 fun o9 => bI (f_I_thingAt G v7 x3 x7) fun v12 G11 => bI (f_X_keyOf G11 v12) fun v15 G14 => bL (f_X_mix G14 x4 v15.toInt64) fun v18 G17 => bI (f_X_tagOf G17 v12) fun v21 G20 => bL (f_X_mix G20 v18 v21.toInt64) fun v24 G23 => f_X_mixList_L16 K63 n G23 x0 x3 v24 x6 (x7 + (nI 1))
def f_X_mixList_L188 (K218 : gH → Int64 → gR) : Nat → gH → Nat → Int32 → Int64 → Int32 → gR
  | 0, _, _, _, _, _ => none
  | n + 1, G, x0, x3, x4, x7 =>
    if (nI 4) ≤ x7 then K218 G x4
    else gFA G x0 3 0 fun v92 => gOb G v92 1 fun o94 => bI (f_I_worthOf G v92 x3 x7) fun v97 G96 => bL (f_X_mix G96 x4 v97.toInt64) fun v100 G99 => f_X_mixList_L188 K218 n G99 x0 x3 v100 (x7 + (nI 1))
def f_X_mixList (G : gH) (a0 : Nat) (a1 : Int64) (a3 : Int32) : gR :=
  gFA G a0 3 0 fun v1 => gOb G v1 1 fun o3 => bI (f_I_lengthOf G v1 a3) fun v6 G5 => f_X_mixList_L16 (fun G29 x26 x27 x28 => gFA G29 x26 3 0 fun v30 => gOb G29 v30 1 fun o32 => bI (f_I_hashOf G29 v30 x27) fun v35 G34 => bL (f_X_mix G34 x28 v35.toInt64) fun v38 G37 => gFA G37 x26 3 0 fun v39 => gOb G37 v39 1 fun o41 => bI (f_I_extremeKey G37 v39 x27 (nI 1)) fun v44 G43 => bL (f_X_mix G43 v38 v44.toInt64) fun v47 G46 => gFA G46 x26 3 0 fun v48 => gOb G46 v48 1 fun o50 => bI (f_I_extremeKey G46 v48 x27 (nI 0)) fun v53 G52 => bL (f_X_mix G52 v47 v53.toInt64) fun v56 G55 => gFA G55 x26 3 0 fun v57 => gOb G55 v57 1 fun o59 => bI (f_I_firstOf G55 v57 x27 (nI 7)) fun v62 G61 => bL (f_X_mix G61 v56 v62.toInt64) fun v65 G64 => gFA G64 x26 3 0 fun v66 => gOb G64 v66 1 fun o68 => bI (f_I_lastOf G64 v66 x27 (nI 7)) fun v71 G70 => bL (f_X_mix G70 v65 v71.toInt64) fun v74 G73 => gFA G73 x26 3 0 fun v75 => gOb G73 v75 1 fun o77 => bI (f_I_countOf G73 v75 x27 (nI 7)) fun v80 G79 => bL (f_X_mix G79 v74 v80.toInt64) fun v83 G82 => gOb G82 x26 3 fun o85 => bI (f_X_countSigns G82 x26 x27) fun v88 G87 => bL (f_X_mix G87 v83 v88.toInt64) fun v91 G90 => if x27 < (nI 2) then rL v91 G90
    else f_X_mixList_L188 (fun G103 x102 => rL x102 G103) zFu G90 x26 x27 v91 (nI 0)) zFu G5 a0 a3 a1 v6 (nI 0)
theorem k_X_mixList_L16 {l : Launch} {D : va_G} {B : Nat} {O : State → Heap → Prop} (hV : zG l D B O) {o : gO} {Gf : gH} (K63 : gH → Nat → Int32 → Int64 → gR) (hK63 : ∀ (G : gH) (x0 : Nat) (x3 : Int32) (x4 : Int64), K63 G x0 x3 x4 = some (o, Gf) → Y (zVm l D B O) m_X_mixList 5 o Gf 63 [some (.ref x0), none, none, some (.int x3), some (.long x4), none, none, none, none] [] G) : ∀ (n : Nat) (G : gH) (x0 : Nat) (x3 : Int32) (x4 : Int64) (x6 : Int32) (x7 : Int32), f_X_mixList_L16 K63 n G x0 x3 x4 x6 x7 = some (o, Gf) → Y (zVm l D B O) m_X_mixList 5 o Gf 16 [some (.ref x0), none, none, some (.int x3), some (.long x4), none, some (.int x6), some (.int x7), none] [] G := by
  intro n
  induction n with
  | zero => intro G x0 x3 x4 x6 x7 h; cases h
  | succ n ih =>
    intro G x0 x3 x4 x6 x7 h
    unfold f_X_mixList_L16 at h
    refine Y.blk (pc' := 20) (L' := [some (.ref x0), none, none, some (.int x3), some (.long x4), none, some (.int x6), some (.int x7), none]) (st' := [.int x6, .int x7]) (sg := [(.iload 7, 0), (.iload 6, 0)]) (by decide +kernel) rfl ?_
    refine Y.ic_ge (off := 43) (tgt := 63) (by decide +kernel) (by decide) h (fun c25 h => ?_) (fun c25 h => ?_)
    · refine Y.less (L' := [some (.ref x0), none, none, some (.int x3), some (.long x4), none, none, none, none]) (zLe_some (zLe_some (zLe_some (zLe_some (zLe_some (zLe_some (zLe_none (zLe_none (zLe_some (zLe_nil)))))))))) ?_
      exact hK63 G x0 x3 x4 h
    · refine Y.blk (pc' := 24) (L' := [some (.ref x0), none, none, some (.int x3), some (.long x4), none, some (.int x6), some (.int x7), none]) (st' := [.ref x0]) (sg := [(.aload_n 0, 0)]) (by decide +kernel) rfl ?_
      refine Y.getA fl_X_10 (by decide +kernel) h (fun v7 h => ?_)
      refine Y.blk (pc' := 30) (L' := [some (.ref x0), none, none, some (.int x3), some (.long x4), none, some (.int x6), some (.int x7), none]) (st' := [.int x7, .int x3, .ref v7]) (sg := [(.iload_n 3, 0), (.iload 7, 0)]) (by decide +kernel) rfl ?_
      obtain ⟨_, o9, e8, m10, h⟩ := gOb_inv h
      refine Y.callI (yC.Vi (b := v7) (As := [.int x3, .int x7]) (st := []) (r := ("Partlister$Lists", T_I, 7)) hV.1 cb_I_thingAt lk_X_94 in_I_thingAt rfl se_I_thingAt (by decide +kernel) rfl rfl (Nat.le_of_ble_eq_true rfl) (by decide) e8 m10) (k_I_thingAt hV G v7 x3 x7) h (fun v12 G11 _ h => ?_)
      refine Y.blk (pc' := 39) (L' := [some (.ref x0), none, none, some (.int x3), some (.long x4), none, some (.int x6), some (.int x7), some (.int v12)]) (st' := [.int v12, .long x4]) (sg := [(.istore 8, 0), (.lload 4, 0), (.iload 8, 0)]) (by decide +kernel) rfl ?_
      refine Y.callI (yC.S (As := [.int v12]) (st := [.long x4]) hV.1 cb_X_keyOf lk_X_97 st_X_keyOf (by decide +kernel) rfl rfl (Nat.le_of_ble_eq_true rfl) (by decide)) (k_X_keyOf hV G11 v12) h (fun v15 G14 _ h => ?_)
      refine Y.blk (pc' := 43) (L' := [some (.ref x0), none, none, some (.int x3), some (.long x4), none, some (.int x6), some (.int x7), some (.int v12)]) (st' := [.long v15.toInt64, .long x4]) (sg := [(.i2l, 0)]) (by decide +kernel) rfl ?_
      refine Y.callL (yC.S (As := [.long x4, .long v15.toInt64]) (st := []) hV.1 cb_X_mix lk_X_263 st_X_mix (by decide +kernel) rfl rfl (Nat.le_of_ble_eq_true rfl) (by decide)) (k_X_mix hV G14 x4 v15.toInt64) h (fun v18 G17 _ h => ?_)
      refine Y.blk (pc' := 48) (L' := [some (.ref x0), none, none, some (.int x3), some (.long x4), none, some (.int x6), some (.int x7), some (.int v12)]) (st' := [.int v12, .long v18]) (sg := [(.iload 8, 0)]) (by decide +kernel) rfl ?_
      refine Y.callI (yC.S (As := [.int v12]) (st := [.long v18]) hV.1 cb_X_tagOf lk_X_48 st_X_tagOf (by decide +kernel) rfl rfl (Nat.le_of_ble_eq_true rfl) (by decide)) (k_X_tagOf hV G17 v12) h (fun v21 G20 _ h => ?_)
      refine Y.blk (pc' := 52) (L' := [some (.ref x0), none, none, some (.int x3), some (.long x4), none, some (.int x6), some (.int x7), some (.int v12)]) (st' := [.long v21.toInt64, .long v18]) (sg := [(.i2l, 0)]) (by decide +kernel) rfl ?_
      refine Y.callL (yC.S (As := [.long v18, .long v21.toInt64]) (st := []) hV.1 cb_X_mix lk_X_263 st_X_mix (by decide +kernel) rfl rfl (Nat.le_of_ble_eq_true rfl) (by decide)) (k_X_mix hV G20 v18 v21.toInt64) h (fun v24 G23 _ h => ?_)
      refine Y.blk (pc' := 60) (L' := [some (.ref x0), none, none, some (.int x3), some (.long v24), none, some (.int x6), some (.int (x7 + (nI 1))), some (.int v12)]) (st' := []) (sg := [(.lstore 4, 0), (.iinc 7 1, nI 1)]) (by decide +kernel) rfl ?_
      refine Y.goto (off := -44) (tgt := 16) (by decide +kernel) (by decide) ?_
      refine Y.less (L' := [some (.ref x0), none, none, some (.int x3), some (.long v24), none, some (.int x6), some (.int (x7 + (nI 1))), none]) (zLe_some (zLe_some (zLe_some (zLe_some (zLe_some (zLe_some (zLe_some (zLe_some (zLe_none (zLe_nil)))))))))) ?_
      exact ih G23 x0 x3 v24 x6 (x7 + (nI 1)) h
theorem k_X_mixList_L188 {l : Launch} {D : va_G} {B : Nat} {O : State → Heap → Prop} (hV : zG l D B O) {o : gO} {Gf : gH} (K218 : gH → Int64 → gR) (hK218 : ∀ (G : gH) (x4 : Int64), K218 G x4 = some (o, Gf) → Y (zVm l D B O) m_X_mixList 5 o Gf 218 [none, none, none, none, some (.long x4), none, none, none, none] [] G) : ∀ (n : Nat) (G : gH) (x0 : Nat) (x3 : Int32) (x4 : Int64) (x7 : Int32), f_X_mixList_L188 K218 n G x0 x3 x4 x7 = some (o, Gf) → Y (zVm l D B O) m_X_mixList 5 o Gf 188 [some (.ref x0), none, none, some (.int x3), some (.long x4), none, none, some (.int x7), none] [] G := by
  intro n
  induction n with
  | zero => intro G x0 x3 x4 x7 h; cases h
  | succ n ih =>
    intro G x0 x3 x4 x7 h
    unfold f_X_mixList_L188 at h
    refine Y.blk (pc' := 191) (L' := [some (.ref x0), none, none, some (.int x3), some (.long x4), none, none, some (.int x7), none]) (st' := [.int (nI 4), .int x7]) (sg := [(.iload 7, 0), (.iconst 4, nI 4)]) (by decide +kernel) rfl ?_
    refine Y.ic_ge (off := 27) (tgt := 218) (by decide +kernel) (by decide) h (fun c101 h => ?_) (fun c101 h => ?_)
    · refine Y.less (L' := [none, none, none, none, some (.long x4), none, none, none, none]) (zLe_none (zLe_some (zLe_some (zLe_none (zLe_some (zLe_some (zLe_some (zLe_none (zLe_some (zLe_nil)))))))))) ?_
      exact hK218 G x4 h
    · refine Y.blk (pc' := 197) (L' := [some (.ref x0), none, none, some (.int x3), some (.long x4), none, none, some (.int x7), none]) (st' := [.ref x0, .long x4]) (sg := [(.lload 4, 0), (.aload_n 0, 0)]) (by decide +kernel) rfl ?_
      refine Y.getA fl_X_10 (by decide +kernel) h (fun v92 h => ?_)
      refine Y.blk (pc' := 203) (L' := [some (.ref x0), none, none, some (.int x3), some (.long x4), none, none, some (.int x7), none]) (st' := [.int x7, .int x3, .ref v92, .long x4]) (sg := [(.iload_n 3, 0), (.iload 7, 0)]) (by decide +kernel) rfl ?_
      obtain ⟨_, o94, e93, m95, h⟩ := gOb_inv h
      refine Y.callI (yC.Vi (b := v92) (As := [.int x3, .int x7]) (st := [.long x4]) (r := ("Partlister$Lists", T_I, 7)) hV.1 cb_I_worthOf lk_X_238 in_I_worthOf rfl se_I_worthOf (by decide +kernel) rfl rfl (Nat.le_of_ble_eq_true rfl) (by decide) e93 m95) (k_I_worthOf hV G v92 x3 x7) h (fun v97 G96 _ h => ?_)
      refine Y.blk (pc' := 207) (L' := [some (.ref x0), none, none, some (.int x3), some (.long x4), none, none, some (.int x7), none]) (st' := [.long v97.toInt64, .long x4]) (sg := [(.i2l, 0)]) (by decide +kernel) rfl ?_
      refine Y.callL (yC.S (As := [.long x4, .long v97.toInt64]) (st := []) hV.1 cb_X_mix lk_X_263 st_X_mix (by decide +kernel) rfl rfl (Nat.le_of_ble_eq_true rfl) (by decide)) (k_X_mix hV G96 x4 v97.toInt64) h (fun v100 G99 _ h => ?_)
      refine Y.blk (pc' := 215) (L' := [some (.ref x0), none, none, some (.int x3), some (.long v100), none, none, some (.int (x7 + (nI 1))), none]) (st' := []) (sg := [(.lstore 4, 0), (.iinc 7 1, nI 1)]) (by decide +kernel) rfl ?_
      refine Y.goto (off := -27) (tgt := 188) (by decide +kernel) (by decide) ?_
      exact ih G99 x0 x3 v100 (x7 + (nI 1)) h
theorem k_X_mixList {l : Launch} {D : va_G} {B : Nat} {O : State → Heap → Prop} (hV : zG l D B O) (G : gH) (a0 : Nat) (a1 : Int64) (a3 : Int32) : gMet (zVm l D B O) m_X_mixList 5 [.ref a0, .long a1, .int a3] G (f_X_mixList G a0 a1 a3) := by
  refine gMet.of (by decide +kernel) (Nat.le_of_ble_eq_true rfl) [some (.ref a0), some (.long a1), none, some (.int a3), none, none, none, none, none] (fun ls h => zEn_ok (n := 9) h) ?_
  intro o Gf h
  unfold f_X_mixList at h
  refine Y.blk (pc' := 4) (L' := [some (.ref a0), some (.long a1), none, some (.int a3), some (.long a1), none, none, none, none]) (st' := [.ref a0]) (sg := [(.lload_n 1, 0), (.lstore 4, 0), (.aload_n 0, 0)]) (by decide +kernel) rfl ?_
  refine Y.getA fl_X_10 (by decide +kernel) h (fun v1 h => ?_)
  refine Y.blk (pc' := 8) (L' := [some (.ref a0), some (.long a1), none, some (.int a3), some (.long a1), none, none, none, none]) (st' := [.int a3, .ref v1]) (sg := [(.iload_n 3, 0)]) (by decide +kernel) rfl ?_
  obtain ⟨_, o3, e2, m4, h⟩ := gOb_inv h
  refine Y.callI (yC.Vi (b := v1) (As := [.int a3]) (st := []) (r := ("Partlister$Lists", T_I, 7)) hV.1 cb_I_lengthOf lk_X_34 in_I_lengthOf rfl se_I_lengthOf (by decide +kernel) rfl rfl (Nat.le_of_ble_eq_true rfl) (by decide) e2 m4) (k_I_lengthOf hV G v1 a3) h (fun v6 G5 _ h => ?_)
  refine Y.blk (pc' := 16) (L' := [some (.ref a0), some (.long a1), none, some (.int a3), some (.long a1), none, some (.int v6), some (.int (nI 0)), none]) (st' := []) (sg := [(.istore 6, 0), (.iconst 0, nI 0), (.istore 7, 0)]) (by decide +kernel) rfl ?_
  refine Y.less (L' := [some (.ref a0), none, none, some (.int a3), some (.long a1), none, some (.int v6), some (.int (nI 0)), none]) (zLe_some (zLe_none (zLe_some (zLe_some (zLe_some (zLe_some (zLe_some (zLe_some (zLe_some (zLe_nil)))))))))) ?_
  refine k_X_mixList_L16 hV _ ?_  zFu G5 a0 a3 a1 v6 (nI 0) h
  · intro G29 x26 x27 x28 h
    refine Y.blk (pc' := 66) (L' := [some (.ref x26), none, none, some (.int x27), some (.long x28), none, none, none, none]) (st' := [.ref x26, .long x28]) (sg := [(.lload 4, 0), (.aload_n 0, 0)]) (by decide +kernel) rfl ?_
    refine Y.getA fl_X_10 (by decide +kernel) h (fun v30 h => ?_)
    refine Y.blk (pc' := 70) (L' := [some (.ref x26), none, none, some (.int x27), some (.long x28), none, none, none, none]) (st' := [.int x27, .ref v30, .long x28]) (sg := [(.iload_n 3, 0)]) (by decide +kernel) rfl ?_
    obtain ⟨_, o32, e31, m33, h⟩ := gOb_inv h
    refine Y.callI (yC.Vi (b := v30) (As := [.int x27]) (st := [.long x28]) (r := ("Partlister$Lists", T_I, 7)) hV.1 cb_I_hashOf lk_X_217 in_I_hashOf rfl se_I_hashOf (by decide +kernel) rfl rfl (Nat.le_of_ble_eq_true rfl) (by decide) e31 m33) (k_I_hashOf hV G29 v30 x27) h (fun v35 G34 _ h => ?_)
    refine Y.blk (pc' := 74) (L' := [some (.ref x26), none, none, some (.int x27), some (.long x28), none, none, none, none]) (st' := [.long v35.toInt64, .long x28]) (sg := [(.i2l, 0)]) (by decide +kernel) rfl ?_
    refine Y.callL (yC.S (As := [.long x28, .long v35.toInt64]) (st := []) hV.1 cb_X_mix lk_X_263 st_X_mix (by decide +kernel) rfl rfl (Nat.le_of_ble_eq_true rfl) (by decide)) (k_X_mix hV G34 x28 v35.toInt64) h (fun v38 G37 _ h => ?_)
    refine Y.blk (pc' := 82) (L' := [some (.ref x26), none, none, some (.int x27), some (.long v38), none, none, none, none]) (st' := [.ref x26, .long v38]) (sg := [(.lstore 4, 0), (.lload 4, 0), (.aload_n 0, 0)]) (by decide +kernel) rfl ?_
    refine Y.getA fl_X_10 (by decide +kernel) h (fun v39 h => ?_)
    refine Y.blk (pc' := 87) (L' := [some (.ref x26), none, none, some (.int x27), some (.long v38), none, none, none, none]) (st' := [.int (nI 1), .int x27, .ref v39, .long v38]) (sg := [(.iload_n 3, 0), (.iconst 1, nI 1)]) (by decide +kernel) rfl ?_
    obtain ⟨_, o41, e40, m42, h⟩ := gOb_inv h
    refine Y.callI (yC.Vi (b := v39) (As := [.int x27, .int (nI 1)]) (st := [.long v38]) (r := ("Partlister$Lists", T_I, 7)) hV.1 cb_I_extremeKey lk_X_213 in_I_extremeKey rfl se_I_extremeKey (by decide +kernel) rfl rfl (Nat.le_of_ble_eq_true rfl) (by decide) e40 m42) (k_I_extremeKey hV G37 v39 x27 (nI 1)) h (fun v44 G43 _ h => ?_)
    refine Y.blk (pc' := 91) (L' := [some (.ref x26), none, none, some (.int x27), some (.long v38), none, none, none, none]) (st' := [.long v44.toInt64, .long v38]) (sg := [(.i2l, 0)]) (by decide +kernel) rfl ?_
    refine Y.callL (yC.S (As := [.long v38, .long v44.toInt64]) (st := []) hV.1 cb_X_mix lk_X_263 st_X_mix (by decide +kernel) rfl rfl (Nat.le_of_ble_eq_true rfl) (by decide)) (k_X_mix hV G43 v38 v44.toInt64) h (fun v47 G46 _ h => ?_)
    refine Y.blk (pc' := 99) (L' := [some (.ref x26), none, none, some (.int x27), some (.long v47), none, none, none, none]) (st' := [.ref x26, .long v47]) (sg := [(.lstore 4, 0), (.lload 4, 0), (.aload_n 0, 0)]) (by decide +kernel) rfl ?_
    refine Y.getA fl_X_10 (by decide +kernel) h (fun v48 h => ?_)
    refine Y.blk (pc' := 104) (L' := [some (.ref x26), none, none, some (.int x27), some (.long v47), none, none, none, none]) (st' := [.int (nI 0), .int x27, .ref v48, .long v47]) (sg := [(.iload_n 3, 0), (.iconst 0, nI 0)]) (by decide +kernel) rfl ?_
    obtain ⟨_, o50, e49, m51, h⟩ := gOb_inv h
    refine Y.callI (yC.Vi (b := v48) (As := [.int x27, .int (nI 0)]) (st := [.long v47]) (r := ("Partlister$Lists", T_I, 7)) hV.1 cb_I_extremeKey lk_X_213 in_I_extremeKey rfl se_I_extremeKey (by decide +kernel) rfl rfl (Nat.le_of_ble_eq_true rfl) (by decide) e49 m51) (k_I_extremeKey hV G46 v48 x27 (nI 0)) h (fun v53 G52 _ h => ?_)
    refine Y.blk (pc' := 108) (L' := [some (.ref x26), none, none, some (.int x27), some (.long v47), none, none, none, none]) (st' := [.long v53.toInt64, .long v47]) (sg := [(.i2l, 0)]) (by decide +kernel) rfl ?_
    refine Y.callL (yC.S (As := [.long v47, .long v53.toInt64]) (st := []) hV.1 cb_X_mix lk_X_263 st_X_mix (by decide +kernel) rfl rfl (Nat.le_of_ble_eq_true rfl) (by decide)) (k_X_mix hV G52 v47 v53.toInt64) h (fun v56 G55 _ h => ?_)
    refine Y.blk (pc' := 116) (L' := [some (.ref x26), none, none, some (.int x27), some (.long v56), none, none, none, none]) (st' := [.ref x26, .long v56]) (sg := [(.lstore 4, 0), (.lload 4, 0), (.aload_n 0, 0)]) (by decide +kernel) rfl ?_
    refine Y.getA fl_X_10 (by decide +kernel) h (fun v57 h => ?_)
    refine Y.blk (pc' := 122) (L' := [some (.ref x26), none, none, some (.int x27), some (.long v56), none, none, none, none]) (st' := [.int (nI 7), .int x27, .ref v57, .long v56]) (sg := [(.iload_n 3, 0), (.bipush 7, nI 7)]) (by decide +kernel) rfl ?_
    obtain ⟨_, o59, e58, m60, h⟩ := gOb_inv h
    refine Y.callI (yC.Vi (b := v57) (As := [.int x27, .int (nI 7)]) (st := [.long v56]) (r := ("Partlister$Lists", T_I, 7)) hV.1 cb_I_firstOf lk_X_72 in_I_firstOf rfl se_I_firstOf (by decide +kernel) rfl rfl (Nat.le_of_ble_eq_true rfl) (by decide) e58 m60) (k_I_firstOf hV G55 v57 x27 (nI 7)) h (fun v62 G61 _ h => ?_)
    refine Y.blk (pc' := 126) (L' := [some (.ref x26), none, none, some (.int x27), some (.long v56), none, none, none, none]) (st' := [.long v62.toInt64, .long v56]) (sg := [(.i2l, 0)]) (by decide +kernel) rfl ?_
    refine Y.callL (yC.S (As := [.long v56, .long v62.toInt64]) (st := []) hV.1 cb_X_mix lk_X_263 st_X_mix (by decide +kernel) rfl rfl (Nat.le_of_ble_eq_true rfl) (by decide)) (k_X_mix hV G61 v56 v62.toInt64) h (fun v65 G64 _ h => ?_)
    refine Y.blk (pc' := 134) (L' := [some (.ref x26), none, none, some (.int x27), some (.long v65), none, none, none, none]) (st' := [.ref x26, .long v65]) (sg := [(.lstore 4, 0), (.lload 4, 0), (.aload_n 0, 0)]) (by decide +kernel) rfl ?_
    refine Y.getA fl_X_10 (by decide +kernel) h (fun v66 h => ?_)
    refine Y.blk (pc' := 140) (L' := [some (.ref x26), none, none, some (.int x27), some (.long v65), none, none, none, none]) (st' := [.int (nI 7), .int x27, .ref v66, .long v65]) (sg := [(.iload_n 3, 0), (.bipush 7, nI 7)]) (by decide +kernel) rfl ?_
    obtain ⟨_, o68, e67, m69, h⟩ := gOb_inv h
    refine Y.callI (yC.Vi (b := v66) (As := [.int x27, .int (nI 7)]) (st := [.long v65]) (r := ("Partlister$Lists", T_I, 7)) hV.1 cb_I_lastOf lk_X_187 in_I_lastOf rfl se_I_lastOf (by decide +kernel) rfl rfl (Nat.le_of_ble_eq_true rfl) (by decide) e67 m69) (k_I_lastOf hV G64 v66 x27 (nI 7)) h (fun v71 G70 _ h => ?_)
    refine Y.blk (pc' := 144) (L' := [some (.ref x26), none, none, some (.int x27), some (.long v65), none, none, none, none]) (st' := [.long v71.toInt64, .long v65]) (sg := [(.i2l, 0)]) (by decide +kernel) rfl ?_
    refine Y.callL (yC.S (As := [.long v65, .long v71.toInt64]) (st := []) hV.1 cb_X_mix lk_X_263 st_X_mix (by decide +kernel) rfl rfl (Nat.le_of_ble_eq_true rfl) (by decide)) (k_X_mix hV G70 v65 v71.toInt64) h (fun v74 G73 _ h => ?_)
    refine Y.blk (pc' := 152) (L' := [some (.ref x26), none, none, some (.int x27), some (.long v74), none, none, none, none]) (st' := [.ref x26, .long v74]) (sg := [(.lstore 4, 0), (.lload 4, 0), (.aload_n 0, 0)]) (by decide +kernel) rfl ?_
    refine Y.getA fl_X_10 (by decide +kernel) h (fun v75 h => ?_)
    refine Y.blk (pc' := 158) (L' := [some (.ref x26), none, none, some (.int x27), some (.long v74), none, none, none, none]) (st' := [.int (nI 7), .int x27, .ref v75, .long v74]) (sg := [(.iload_n 3, 0), (.bipush 7, nI 7)]) (by decide +kernel) rfl ?_
    obtain ⟨_, o77, e76, m78, h⟩ := gOb_inv h
    refine Y.callI (yC.Vi (b := v75) (As := [.int x27, .int (nI 7)]) (st := [.long v74]) (r := ("Partlister$Lists", T_I, 7)) hV.1 cb_I_countOf lk_X_189 in_I_countOf rfl se_I_countOf (by decide +kernel) rfl rfl (Nat.le_of_ble_eq_true rfl) (by decide) e76 m78) (k_I_countOf hV G73 v75 x27 (nI 7)) h (fun v80 G79 _ h => ?_)
    refine Y.blk (pc' := 162) (L' := [some (.ref x26), none, none, some (.int x27), some (.long v74), none, none, none, none]) (st' := [.long v80.toInt64, .long v74]) (sg := [(.i2l, 0)]) (by decide +kernel) rfl ?_
    refine Y.callL (yC.S (As := [.long v74, .long v80.toInt64]) (st := []) hV.1 cb_X_mix lk_X_263 st_X_mix (by decide +kernel) rfl rfl (Nat.le_of_ble_eq_true rfl) (by decide)) (k_X_mix hV G79 v74 v80.toInt64) h (fun v83 G82 _ h => ?_)
    refine Y.blk (pc' := 171) (L' := [some (.ref x26), none, none, some (.int x27), some (.long v83), none, none, none, none]) (st' := [.int x27, .ref x26, .long v83]) (sg := [(.lstore 4, 0), (.lload 4, 0), (.aload_n 0, 0), (.iload_n 3, 0)]) (by decide +kernel) rfl ?_
    obtain ⟨_, o85, e84, m86, h⟩ := gOb_inv h
    refine Y.callI (yC.Vi (b := x26) (As := [.int x27]) (st := [.long v83]) (r := ("Partlister", T_X, 5)) hV.1 cb_X_countSigns lk_X_323 in_X_countSigns rfl se_X_countSigns (by decide +kernel) rfl rfl (Nat.le_of_ble_eq_true rfl) (by decide) e84 m86) (k_X_countSigns hV G82 x26 x27) h (fun v88 G87 _ h => ?_)
    refine Y.blk (pc' := 175) (L' := [some (.ref x26), none, none, some (.int x27), some (.long v83), none, none, none, none]) (st' := [.long v88.toInt64, .long v83]) (sg := [(.i2l, 0)]) (by decide +kernel) rfl ?_
    refine Y.callL (yC.S (As := [.long v83, .long v88.toInt64]) (st := []) hV.1 cb_X_mix lk_X_263 st_X_mix (by decide +kernel) rfl rfl (Nat.le_of_ble_eq_true rfl) (by decide)) (k_X_mix hV G87 v83 v88.toInt64) h (fun v91 G90 _ h => ?_)
    refine Y.blk (pc' := 182) (L' := [some (.ref x26), none, none, some (.int x27), some (.long v91), none, none, none, none]) (st' := [.int (nI 2), .int x27]) (sg := [(.lstore 4, 0), (.iload_n 3, 0), (.iconst 2, nI 2)]) (by decide +kernel) rfl ?_
    refine Y.ic_lt (off := 36) (tgt := 218) (by decide +kernel) (by decide) h (fun c104 h => ?_) (fun c104 h => ?_)
    · refine Y.blk (pc' := 220) (L' := [some (.ref x26), none, none, some (.int x27), some (.long v91), none, none, none, none]) (st' := [.long v91]) (sg := [(.lload 4, 0)]) (by decide +kernel) rfl ?_
      exact Y.lret rfl (by decide +kernel) h
    · refine Y.blk (pc' := 188) (L' := [some (.ref x26), none, none, some (.int x27), some (.long v91), none, none, some (.int (nI 0)), none]) (st' := []) (sg := [(.iconst 0, nI 0), (.istore 7, 0)]) (by decide +kernel) rfl ?_
      refine k_X_mixList_L188 hV _ ?_  zFu G90 x26 x27 v91 (nI 0) h
      · intro G103 x102 h
        refine Y.blk (pc' := 220) (L' := [none, none, none, none, some (.long x102), none, none, none, none]) (st' := [.long x102]) (sg := [(.lload 4, 0)]) (by decide +kernel) rfl ?_
        exact Y.lret rfl (by decide +kernel) h
