def f_I_cellOf (G : gH) (a0 : Nat) (a1 : Int32) (a2 : Int32) : gR :=
  gFA G a0 1 3 fun v1 => gOb G v1 2 fun o3 => bI (f_N_read G v1 a1) fun v6 G5 => gFA G5 a0 1 4 fun v7 => gOb G5 v7 2 fun o9 => bI (f_N_read G5 v7 a1) fun v12 G11 => rI (((v6 * (nI 31)) + v12) + a2) G11
theorem k_I_cellOf {l : Launch} {D : va_G} {B : Nat} {O : State → Heap → Prop} (hV : zG l D B O) (G : gH) (a0 : Nat) (a1 : Int32) (a2 : Int32) : gMet (zVm l D B O) m_I_cellOf 2 [.ref a0, .int a1, .int a2] G (f_I_cellOf G a0 a1 a2) := by
  refine gMet.of (by decide +kernel) (Nat.le_of_ble_eq_true rfl) [some (.ref a0), some (.int a1), some (.int a2)] (fun ls h => zEn_ok (n := 3) h) ?_
  intro o Gf h
  unfold f_I_cellOf at h
  refine Y.blk (pc' := 1) (L' := [some (.ref a0), some (.int a1), some (.int a2)]) (st' := [.ref a0]) (sg := [(.aload_n 0, 0)]) (by decide +kernel) rfl ?_
  refine Y.getA fl_I_26 (by decide +kernel) h (fun v1 h => ?_)
  refine Y.blk (pc' := 5) (L' := [some (.ref a0), some (.int a1), some (.int a2)]) (st' := [.int a1, .ref v1]) (sg := [(.iload_n 1, 0)]) (by decide +kernel) rfl ?_
  obtain ⟨_, o3, e2, m4, h⟩ := gOb_inv h
  refine Y.callI (yC.Vi (b := v1) (As := [.int a1]) (st := []) (r := ("Partlister$Numbers", T_N, 1)) hV.1 cb_N_read lk_I_39 in_N_read rfl se_N_read (by decide +kernel) rfl rfl (Nat.le_of_ble_eq_true rfl) (by decide) e2 m4) (k_N_read hV G v1 a1) h (fun v6 G5 _ h => ?_)
  refine Y.blk (pc' := 12) (L' := [some (.ref a0), some (.int a1), some (.int a2)]) (st' := [.ref a0, .int (v6 * (nI 31))]) (sg := [(.bipush 31, nI 31), (.imul, 0), (.aload_n 0, 0)]) (by decide +kernel) rfl ?_
  refine Y.getA fl_I_29 (by decide +kernel) h (fun v7 h => ?_)
  refine Y.blk (pc' := 16) (L' := [some (.ref a0), some (.int a1), some (.int a2)]) (st' := [.int a1, .ref v7, .int (v6 * (nI 31))]) (sg := [(.iload_n 1, 0)]) (by decide +kernel) rfl ?_
  obtain ⟨_, o9, e8, m10, h⟩ := gOb_inv h
  refine Y.callI (yC.Vi (b := v7) (As := [.int a1]) (st := [.int (v6 * (nI 31))]) (r := ("Partlister$Numbers", T_N, 1)) hV.1 cb_N_read lk_I_39 in_N_read rfl se_N_read (by decide +kernel) rfl rfl (Nat.le_of_ble_eq_true rfl) (by decide) e8 m10) (k_N_read hV G5 v7 a1) h (fun v12 G11 _ h => ?_)
  refine Y.blk (pc' := 22) (L' := [some (.ref a0), some (.int a1), some (.int a2)]) (st' := [.int (((v6 * (nI 31)) + v12) + a2)]) (sg := [(.iadd, 0), (.iload_n 2, 0), (.iadd, 0)]) (by decide +kernel) rfl ?_
  exact Y.iret rfl (by decide +kernel) h

def f_I_thingAt (G : gH) (a0 : Nat) (a1 : Int32) (a2 : Int32) : gR :=
  gFA G a0 1 0 fun v1 => gOb G a0 1 fun o3 => bI (f_I_cellOf G a0 a1 a2) fun v6 G5 => gOb G5 v1 2 fun o8 => bI (f_N_read G5 v1 v6) fun v11 G10 => rI v11 G10
theorem k_I_thingAt {l : Launch} {D : va_G} {B : Nat} {O : State → Heap → Prop} (hV : zG l D B O) (G : gH) (a0 : Nat) (a1 : Int32) (a2 : Int32) : gMet (zVm l D B O) m_I_thingAt 3 [.ref a0, .int a1, .int a2] G (f_I_thingAt G a0 a1 a2) := by
  refine gMet.of (by decide +kernel) (Nat.le_of_ble_eq_true rfl) [some (.ref a0), some (.int a1), some (.int a2)] (fun ls h => zEn_ok (n := 3) h) ?_
  intro o Gf h
  unfold f_I_thingAt at h
  refine Y.blk (pc' := 1) (L' := [some (.ref a0), some (.int a1), some (.int a2)]) (st' := [.ref a0]) (sg := [(.aload_n 0, 0)]) (by decide +kernel) rfl ?_
  refine Y.getA fl_I_14 (by decide +kernel) h (fun v1 h => ?_)
  refine Y.blk (pc' := 7) (L' := [some (.ref a0), some (.int a1), some (.int a2)]) (st' := [.int a2, .int a1, .ref a0, .ref v1]) (sg := [(.aload_n 0, 0), (.iload_n 1, 0), (.iload_n 2, 0)]) (by decide +kernel) rfl ?_
  obtain ⟨_, o3, e2, m4, h⟩ := gOb_inv h
  refine Y.callI (yC.Vi (b := a0) (As := [.int a1, .int a2]) (st := [.ref v1]) (r := ("Partlister$Lists", T_I, 7)) hV.1 cb_I_cellOf lk_I_43 in_I_cellOf rfl se_I_cellOf (by decide +kernel) rfl rfl (Nat.le_of_ble_eq_true rfl) (by decide) e2 m4) (k_I_cellOf hV G a0 a1 a2) h (fun v6 G5 _ h => ?_)
  obtain ⟨_, o8, e7, m9, h⟩ := gOb_inv h
  refine Y.callI (yC.Vi (b := v1) (As := [.int v6]) (st := []) (r := ("Partlister$Numbers", T_N, 1)) hV.1 cb_N_read lk_I_39 in_N_read rfl se_N_read (by decide +kernel) rfl rfl (Nat.le_of_ble_eq_true rfl) (by decide) e7 m9) (k_N_read hV G5 v1 v6) h (fun v11 G10 _ h => ?_)
  exact Y.iret rfl (by decide +kernel) h

def f_I_write (G : gH) (a0 : Nat) (a1 : Int32) (a2 : Int32) (a3 : Int32) : gR :=
  gFA G a0 1 0 fun v1 => gOb G a0 1 fun o3 => bI (f_I_cellOf G a0 a1 a2) fun v6 G5 => gOb G5 v1 2 fun o8 => bV (f_N_write G5 v1 v6 a3) fun G10 => rV G10
theorem k_I_write {l : Launch} {D : va_G} {B : Nat} {O : State → Heap → Prop} (hV : zG l D B O) (G : gH) (a0 : Nat) (a1 : Int32) (a2 : Int32) (a3 : Int32) : gMet (zVm l D B O) m_I_write 3 [.ref a0, .int a1, .int a2, .int a3] G (f_I_write G a0 a1 a2 a3) := by
  refine gMet.of (by decide +kernel) (Nat.le_of_ble_eq_true rfl) [some (.ref a0), some (.int a1), some (.int a2), some (.int a3)] (fun ls h => zEn_ok (n := 4) h) ?_
  intro o Gf h
  unfold f_I_write at h
  refine Y.blk (pc' := 1) (L' := [some (.ref a0), some (.int a1), some (.int a2), some (.int a3)]) (st' := [.ref a0]) (sg := [(.aload_n 0, 0)]) (by decide +kernel) rfl ?_
  refine Y.getA fl_I_14 (by decide +kernel) h (fun v1 h => ?_)
  refine Y.blk (pc' := 7) (L' := [some (.ref a0), some (.int a1), some (.int a2), some (.int a3)]) (st' := [.int a2, .int a1, .ref a0, .ref v1]) (sg := [(.aload_n 0, 0), (.iload_n 1, 0), (.iload_n 2, 0)]) (by decide +kernel) rfl ?_
  obtain ⟨_, o3, e2, m4, h⟩ := gOb_inv h
  refine Y.callI (yC.Vi (b := a0) (As := [.int a1, .int a2]) (st := [.ref v1]) (r := ("Partlister$Lists", T_I, 7)) hV.1 cb_I_cellOf lk_I_43 in_I_cellOf rfl se_I_cellOf (by decide +kernel) rfl rfl (Nat.le_of_ble_eq_true rfl) (by decide) e2 m4) (k_I_cellOf hV G a0 a1 a2) h (fun v6 G5 _ h => ?_)
  refine Y.blk (pc' := 11) (L' := [some (.ref a0), some (.int a1), some (.int a2), some (.int a3)]) (st' := [.int a3, .int v6, .ref v1]) (sg := [(.iload_n 3, 0)]) (by decide +kernel) rfl ?_
  obtain ⟨_, o8, e7, m9, h⟩ := gOb_inv h
  refine Y.callN (yC.Vi (b := v1) (As := [.int v6, .int a3]) (st := []) (r := ("Partlister$Numbers", T_N, 1)) hV.1 cb_N_write lk_I_35 in_N_write rfl se_N_write (by decide +kernel) rfl rfl (Nat.le_of_ble_eq_true rfl) (by decide) e7 m9) (k_N_write hV G5 v1 v6 a3) h (fun G10 _ h => ?_)
  exact Y.vret rfl (by decide +kernel) h

def f_I_openGap_L29 (K60 : gH → Nat → Int32 → Int32 → gR) : Nat → gH → Nat → Int32 → Int32 → Int32 → Int32 → Int32 → gR
  | 0, _, _, _, _, _, _, _ => none
  | n + 1, G, x0, x1, x3, x4, x5, x6 =>
    if x6 < x5 then K60 G x0 x1 x3
    else gOb G x0 1 fun o18 => bI (f_I_thingAt G x0 x4 x6) fun v21 G20 => gOb G20 x0 1 fun o23 => bV (f_I_write G20 x0 x4 (x6 + x3) v21) fun G25 => f_I_openGap_L29 K60 n G25 x0 x1 x3 x4 x5 (x6 + (-1))
def f_I_openGap (G : gH) (a0 : Nat) (a1 : Int32) (a2 : Int32) (a3 : Int32) : gR :=
  gOb G a0 1 fun o2 => bI (f_I_rowOf G a0 a1) fun v5 G4 => gFA G4 a0 1 4 fun v6 => gOb G4 v6 2 fun o8 => bI (f_N_read G4 v6 a1) fun v11 G10 => gOb G10 a0 1 fun o13 => bI (f_I_lengthOf G10 a0 v5) fun v16 G15 => f_I_openGap_L29 (fun G30 x27 x28 x29 => gOb G30 x27 1 fun o32 => bV (f_I_lengthen G30 x27 x28 x29) fun G34 => rV G34) zFu G15 a0 a1 a3 v5 (v11 + a2) (v16 - (nI 1))
theorem k_I_openGap_L29 {l : Launch} {D : va_G} {B : Nat} {O : State → Heap → Prop} (hV : zG l D B O) {o : gO} {Gf : gH} (K60 : gH → Nat → Int32 → Int32 → gR) (hK60 : ∀ (G : gH) (x0 : Nat) (x1 : Int32) (x3 : Int32), K60 G x0 x1 x3 = some (o, Gf) → Y (zVm l D B O) m_I_openGap 4 o Gf 60 [some (.ref x0), some (.int x1), none, some (.int x3), none, none, none] [] G) : ∀ (n : Nat) (G : gH) (x0 : Nat) (x1 : Int32) (x3 : Int32) (x4 : Int32) (x5 : Int32) (x6 : Int32), f_I_openGap_L29 K60 n G x0 x1 x3 x4 x5 x6 = some (o, Gf) → Y (zVm l D B O) m_I_openGap 4 o Gf 29 [some (.ref x0), some (.int x1), none, some (.int x3), some (.int x4), some (.int x5), some (.int x6)] [] G := by
  intro n
  induction n with
  | zero => intro G x0 x1 x3 x4 x5 x6 h; cases h
  | succ n ih =>
    intro G x0 x1 x3 x4 x5 x6 h
    unfold f_I_openGap_L29 at h
    refine Y.blk (pc' := 33) (L' := [some (.ref x0), some (.int x1), none, some (.int x3), some (.int x4), some (.int x5), some (.int x6)]) (st' := [.int x5, .int x6]) (sg := [(.iload 6, 0), (.iload 5, 0)]) (by decide +kernel) rfl ?_
    refine Y.ic_lt (off := 27) (tgt := 60) (by decide +kernel) (by decide) h (fun c26 h => ?_) (fun c26 h => ?_)
    · refine Y.less (L' := [some (.ref x0), some (.int x1), none, some (.int x3), none, none, none]) (zLe_some (zLe_some (zLe_some (zLe_some (zLe_none (zLe_none (zLe_none (zLe_nil)))))))) ?_
      exact hK60 G x0 x1 x3 h
    · refine Y.blk (pc' := 48) (L' := [some (.ref x0), some (.int x1), none, some (.int x3), some (.int x4), some (.int x5), some (.int x6)]) (st' := [.int x6, .int x4, .ref x0, .int (x6 + x3), .int x4, .ref x0]) (sg := [(.aload_n 0, 0), (.iload 4, 0), (.iload 6, 0), (.iload_n 3, 0), (.iadd, 0), (.aload_n 0, 0), (.iload 4, 0), (.iload 6, 0)]) (by decide +kernel) rfl ?_
      obtain ⟨_, o18, e17, m19, h⟩ := gOb_inv h
      refine Y.callI (yC.Vi (b := x0) (As := [.int x4, .int x6]) (st := [.int (x6 + x3), .int x4, .ref x0]) (r := ("Partlister$Lists", T_I, 7)) hV.1 cb_I_thingAt lk_I_50 in_I_thingAt rfl se_I_thingAt (by decide +kernel) rfl rfl (Nat.le_of_ble_eq_true rfl) (by decide) e17 m19) (k_I_thingAt hV G x0 x4 x6) h (fun v21 G20 _ h => ?_)
      obtain ⟨_, o23, e22, m24, h⟩ := gOb_inv h
      refine Y.callN (yC.Vi (b := x0) (As := [.int x4, .int (x6 + x3), .int v21]) (st := []) (r := ("Partlister$Lists", T_I, 7)) hV.1 cb_I_write lk_I_53 in_I_write rfl se_I_write (by decide +kernel) rfl rfl (Nat.le_of_ble_eq_true rfl) (by decide) e22 m24) (k_I_write hV G20 x0 x4 (x6 + x3) v21) h (fun G25 _ h => ?_)
      refine Y.blk (pc' := 57) (L' := [some (.ref x0), some (.int x1), none, some (.int x3), some (.int x4), some (.int x5), some (.int (x6 + (-1)))]) (st' := []) (sg := [(.iinc 6 (-1), -1)]) (by decide +kernel) rfl ?_
      refine Y.goto (off := -28) (tgt := 29) (by decide +kernel) (by decide) ?_
      exact ih G25 x0 x1 x3 x4 x5 (x6 + (-1)) h
theorem k_I_openGap {l : Launch} {D : va_G} {B : Nat} {O : State → Heap → Prop} (hV : zG l D B O) (G : gH) (a0 : Nat) (a1 : Int32) (a2 : Int32) (a3 : Int32) : gMet (zVm l D B O) m_I_openGap 4 [.ref a0, .int a1, .int a2, .int a3] G (f_I_openGap G a0 a1 a2 a3) := by
  refine gMet.of (by decide +kernel) (Nat.le_of_ble_eq_true rfl) [some (.ref a0), some (.int a1), some (.int a2), some (.int a3), none, none, none] (fun ls h => zEn_ok (n := 7) h) ?_
  intro o Gf h
  unfold f_I_openGap at h
  refine Y.blk (pc' := 2) (L' := [some (.ref a0), some (.int a1), some (.int a2), some (.int a3), none, none, none]) (st' := [.int a1, .ref a0]) (sg := [(.aload_n 0, 0), (.iload_n 1, 0)]) (by decide +kernel) rfl ?_
  obtain ⟨_, o2, e1, m3, h⟩ := gOb_inv h
  refine Y.callI (yC.Vi (b := a0) (As := [.int a1]) (st := []) (r := ("Partlister$Lists", T_I, 7)) hV.1 cb_I_rowOf lk_I_56 in_I_rowOf rfl se_I_rowOf (by decide +kernel) rfl rfl (Nat.le_of_ble_eq_true rfl) (by decide) e1 m3) (k_I_rowOf hV G a0 a1) h (fun v5 G4 _ h => ?_)
  refine Y.blk (pc' := 8) (L' := [some (.ref a0), some (.int a1), some (.int a2), some (.int a3), some (.int v5), none, none]) (st' := [.ref a0]) (sg := [(.istore 4, 0), (.aload_n 0, 0)]) (by decide +kernel) rfl ?_
  refine Y.getA fl_I_29 (by decide +kernel) h (fun v6 h => ?_)
  refine Y.blk (pc' := 12) (L' := [some (.ref a0), some (.int a1), some (.int a2), some (.int a3), some (.int v5), none, none]) (st' := [.int a1, .ref v6]) (sg := [(.iload_n 1, 0)]) (by decide +kernel) rfl ?_
  obtain ⟨_, o8, e7, m9, h⟩ := gOb_inv h
  refine Y.callI (yC.Vi (b := v6) (As := [.int a1]) (st := []) (r := ("Partlister$Numbers", T_N, 1)) hV.1 cb_N_read lk_I_39 in_N_read rfl se_N_read (by decide +kernel) rfl rfl (Nat.le_of_ble_eq_true rfl) (by decide) e7 m9) (k_N_read hV G4 v6 a1) h (fun v11 G10 _ h => ?_)
  refine Y.blk (pc' := 22) (L' := [some (.ref a0), some (.int a1), some (.int a2), some (.int a3), some (.int v5), some (.int (v11 + a2)), none]) (st' := [.int v5, .ref a0]) (sg := [(.iload_n 2, 0), (.iadd, 0), (.istore 5, 0), (.aload_n 0, 0), (.iload 4, 0)]) (by decide +kernel) rfl ?_
  obtain ⟨_, o13, e12, m14, h⟩ := gOb_inv h
  refine Y.callI (yC.Vi (b := a0) (As := [.int v5]) (st := []) (r := ("Partlister$Lists", T_I, 7)) hV.1 cb_I_lengthOf lk_I_59 in_I_lengthOf rfl se_I_lengthOf (by decide +kernel) rfl rfl (Nat.le_of_ble_eq_true rfl) (by decide) e12 m14) (k_I_lengthOf hV G10 a0 v5) h (fun v16 G15 _ h => ?_)
  refine Y.blk (pc' := 29) (L' := [some (.ref a0), some (.int a1), some (.int a2), some (.int a3), some (.int v5), some (.int (v11 + a2)), some (.int (v16 - (nI 1)))]) (st' := []) (sg := [(.iconst 1, nI 1), (.isub, 0), (.istore 6, 0)]) (by decide +kernel) rfl ?_
  refine Y.less (L' := [some (.ref a0), some (.int a1), none, some (.int a3), some (.int v5), some (.int (v11 + a2)), some (.int (v16 - (nI 1)))]) (zLe_some (zLe_some (zLe_none (zLe_some (zLe_some (zLe_some (zLe_some (zLe_nil)))))))) ?_
  refine k_I_openGap_L29 hV _ ?_  zFu G15 a0 a1 a3 v5 (v11 + a2) (v16 - (nI 1)) h
  · intro G30 x27 x28 x29 h
    refine Y.blk (pc' := 63) (L' := [some (.ref x27), some (.int x28), none, some (.int x29), none, none, none]) (st' := [.int x29, .int x28, .ref x27]) (sg := [(.aload_n 0, 0), (.iload_n 1, 0), (.iload_n 3, 0)]) (by decide +kernel) rfl ?_
    obtain ⟨_, o32, e31, m33, h⟩ := gOb_inv h
    refine Y.callN (yC.Vi (b := x27) (As := [.int x28, .int x29]) (st := []) (r := ("Partlister$Lists", T_I, 7)) hV.1 cb_I_lengthen lk_I_62 in_I_lengthen rfl se_I_lengthen (by decide +kernel) rfl rfl (Nat.le_of_ble_eq_true rfl) (by decide) e31 m33) (k_I_lengthen hV G30 x27 x28 x29) h (fun G34 _ h => ?_)
    exact Y.vret rfl (by decide +kernel) h

def f_X_bringIn (G : gH) (a0 : Nat) (a1 : Int32) (a2 : Int32) (a3 : Int32) (a4 : Int32) : gR :=
  gFA G a0 3 0 fun v1 => gOb G v1 1 fun o3 => bV (f_I_openGap G v1 a1 a2 (nI 1)) fun G5 => gFA G5 a0 3 0 fun v6 => gOb G5 v6 1 fun o8 => bV (f_I_write G5 v6 a1 a2 a3) fun G10 => gOb G10 a0 3 fun o12 => bV (f_X_endByLength G10 a0 a1 a4) fun G14 => rV G14
theorem k_X_bringIn {l : Launch} {D : va_G} {B : Nat} {O : State → Heap → Prop} (hV : zG l D B O) (G : gH) (a0 : Nat) (a1 : Int32) (a2 : Int32) (a3 : Int32) (a4 : Int32) : gMet (zVm l D B O) m_X_bringIn 6 [.ref a0, .int a1, .int a2, .int a3, .int a4] G (f_X_bringIn G a0 a1 a2 a3 a4) := by
  refine gMet.of (by decide +kernel) (Nat.le_of_ble_eq_true rfl) [some (.ref a0), some (.int a1), some (.int a2), some (.int a3), some (.int a4)] (fun ls h => zEn_ok (n := 5) h) ?_
  intro o Gf h
  unfold f_X_bringIn at h
  refine Y.blk (pc' := 1) (L' := [some (.ref a0), some (.int a1), some (.int a2), some (.int a3), some (.int a4)]) (st' := [.ref a0]) (sg := [(.aload_n 0, 0)]) (by decide +kernel) rfl ?_
  refine Y.getA fl_X_10 (by decide +kernel) h (fun v1 h => ?_)
  refine Y.blk (pc' := 7) (L' := [some (.ref a0), some (.int a1), some (.int a2), some (.int a3), some (.int a4)]) (st' := [.int (nI 1), .int a2, .int a1, .ref v1]) (sg := [(.iload_n 1, 0), (.iload_n 2, 0), (.iconst 1, nI 1)]) (by decide +kernel) rfl ?_
  obtain ⟨_, o3, e2, m4, h⟩ := gOb_inv h
  refine Y.callN (yC.Vi (b := v1) (As := [.int a1, .int a2, .int (nI 1)]) (st := []) (r := ("Partlister$Lists", T_I, 7)) hV.1 cb_I_openGap lk_X_278 in_I_openGap rfl se_I_openGap (by decide +kernel) rfl rfl (Nat.le_of_ble_eq_true rfl) (by decide) e2 m4) (k_I_openGap hV G v1 a1 a2 (nI 1)) h (fun G5 _ h => ?_)
  refine Y.blk (pc' := 11) (L' := [some (.ref a0), some (.int a1), some (.int a2), some (.int a3), some (.int a4)]) (st' := [.ref a0]) (sg := [(.aload_n 0, 0)]) (by decide +kernel) rfl ?_
  refine Y.getA fl_X_10 (by decide +kernel) h (fun v6 h => ?_)
  refine Y.blk (pc' := 17) (L' := [some (.ref a0), some (.int a1), some (.int a2), some (.int a3), some (.int a4)]) (st' := [.int a3, .int a2, .int a1, .ref v6]) (sg := [(.iload_n 1, 0), (.iload_n 2, 0), (.iload_n 3, 0)]) (by decide +kernel) rfl ?_
  obtain ⟨_, o8, e7, m9, h⟩ := gOb_inv h
  refine Y.callN (yC.Vi (b := v6) (As := [.int a1, .int a2, .int a3]) (st := []) (r := ("Partlister$Lists", T_I, 7)) hV.1 cb_I_write lk_X_65 in_I_write rfl se_I_write (by decide +kernel) rfl rfl (Nat.le_of_ble_eq_true rfl) (by decide) e7 m9) (k_I_write hV G5 v6 a1 a2 a3) h (fun G10 _ h => ?_)
  refine Y.blk (pc' := 24) (L' := [some (.ref a0), some (.int a1), some (.int a2), some (.int a3), some (.int a4)]) (st' := [.int a4, .int a1, .ref a0]) (sg := [(.aload_n 0, 0), (.iload_n 1, 0), (.iload 4, 0)]) (by decide +kernel) rfl ?_
  obtain ⟨_, o12, e11, m13, h⟩ := gOb_inv h
  refine Y.callN (yC.Vi (b := a0) (As := [.int a1, .int a4]) (st := []) (r := ("Partlister", T_X, 5)) hV.1 cb_X_endByLength lk_X_281 in_X_endByLength rfl se_X_endByLength (by decide +kernel) rfl rfl (Nat.le_of_ble_eq_true rfl) (by decide) e11 m13) (k_X_endByLength hV G10 a0 a1 a4) h (fun G14 _ h => ?_)
  exact Y.vret rfl (by decide +kernel) h

def f_X_thingOf (G : gH) (a0 : Int32) (a1 : Int32) : gR :=
  rI ((a0 <<< ((nI 5) &&& 31)) ||| a1) G
theorem k_X_thingOf {l : Launch} {D : va_G} {B : Nat} {O : State → Heap → Prop} (hV : zG l D B O) (G : gH) (a0 : Int32) (a1 : Int32) : gMet (zVm l D B O) m_X_thingOf 1 [.int a0, .int a1] G (f_X_thingOf G a0 a1) := by
  refine gMet.of (by decide +kernel) (Nat.le_of_ble_eq_true rfl) [some (.int a0), some (.int a1)] (fun ls h => zEn_ok (n := 2) h) ?_
  intro o Gf h
  unfold f_X_thingOf at h
  refine Y.blk (pc' := 5) (L' := [some (.int a0), some (.int a1)]) (st' := [.int ((a0 <<< ((nI 5) &&& 31)) ||| a1)]) (sg := [(.iload_n 0, 0), (.iconst 5, nI 5), (.ishl, 0), (.iload_n 1, 0), (.ior, 0)]) (by decide +kernel) rfl ?_
  exact Y.iret rfl (by decide +kernel) h

def f_X_make (G : gH) (a0 : Nat) (a1 : Int32) : gR :=
  gFI G a0 3 2 fun v1 => bI (f_X_thingOf G v1 a1) fun v4 G3 => gFI G3 a0 3 2 fun v5 => gPut G3 a0 3 2 (.int (v5 + (nI 1))) fun G6 => rI v4 G6
theorem k_X_make {l : Launch} {D : va_G} {B : Nat} {O : State → Heap → Prop} (hV : zG l D B O) (G : gH) (a0 : Nat) (a1 : Int32) : gMet (zVm l D B O) m_X_make 2 [.ref a0, .int a1] G (f_X_make G a0 a1) := by
  refine gMet.of (by decide +kernel) (Nat.le_of_ble_eq_true rfl) [some (.ref a0), some (.int a1), none] (fun ls h => zEn_ok (n := 3) h) ?_
  intro o Gf h
  unfold f_X_make at h
  refine Y.blk (pc' := 1) (L' := [some (.ref a0), some (.int a1), none]) (st' := [.ref a0]) (sg := [(.aload_n 0, 0)]) (by decide +kernel) rfl ?_
  refine Y.getI fl_X_275 (by decide +kernel) h (fun v1 h => ?_)
  refine Y.blk (pc' := 5) (L' := [some (.ref a0), some (.int a1), none]) (st' := [.int a1, .int v1]) (sg := [(.iload_n 1, 0)]) (by decide +kernel) rfl ?_
  refine Y.callI (yC.S (As := [.int v1, .int a1]) (st := []) hV.1 cb_X_thingOf lk_X_100 st_X_thingOf (by decide +kernel) rfl rfl (Nat.le_of_ble_eq_true rfl) (by decide)) (k_X_thingOf hV G v1 a1) h (fun v4 G3 _ h => ?_)
  refine Y.blk (pc' := 11) (L' := [some (.ref a0), some (.int a1), some (.int v4)]) (st' := [.ref a0, .ref a0]) (sg := [(.istore_n 2, 0), (.aload_n 0, 0), (.dup, 0)]) (by decide +kernel) rfl ?_
  refine Y.getI fl_X_275 (by decide +kernel) h (fun v5 h => ?_)
  refine Y.blk (pc' := 16) (L' := [some (.ref a0), some (.int a1), some (.int v4)]) (st' := [.int (v5 + (nI 1)), .ref a0]) (sg := [(.iconst 1, nI 1), (.iadd, 0)]) (by decide +kernel) rfl ?_
  refine Y.putf fl_X_275 (by decide) rfl rfl (by decide +kernel) h (fun G6 _ _ h => ?_)
  refine Y.blk (pc' := 20) (L' := [some (.ref a0), some (.int a1), some (.int v4)]) (st' := [.int v4]) (sg := [(.iload_n 2, 0)]) (by decide +kernel) rfl ?_
  exact Y.iret rfl (by decide +kernel) h

def f_X_needKey (G : gH) (a0 : Nat) (a1 : Int32) : gR :=
  if a1 < 0 then gThrow "java/lang/IllegalArgumentException" G
  else if a1 < (nI 31) then rV G
    else gThrow "java/lang/IllegalArgumentException" G
theorem k_X_needKey {l : Launch} {D : va_G} {B : Nat} {O : State → Heap → Prop} (hV : zG l D B O) (G : gH) (a0 : Nat) (a1 : Int32) : gMet (zVm l D B O) m_X_needKey 6 [.ref a0, .int a1] G (f_X_needKey G a0 a1) := by
  refine gMet.of (by decide +kernel) (Nat.le_of_ble_eq_true rfl) [some (.ref a0), some (.int a1)] (fun ls h => zEn_ok (n := 2) h) ?_
  intro o Gf h
  unfold f_X_needKey at h
  refine Y.blk (pc' := 1) (L' := [some (.ref a0), some (.int a1)]) (st' := [.int a1]) (sg := [(.iload_n 1, 0)]) (by decide +kernel) rfl ?_
  refine Y.if_lt (off := 9) (tgt := 10) (by decide +kernel) (by decide) h (fun c2 h => ?_) (fun c2 h => ?_)
  · exact Y.throwSW (is := 341) (text := "key is not 0 to 30") (names := zNm) hV.1 (hV.2 _ _ _ (by decide +kernel)) (by decide +kernel) (by decide +kernel) ck_X_81 ini_IAE tw_X_85 tg_X_85 (by decide) (by decide) rfl (Nat.le_of_ble_eq_true rfl) (by decide +kernel) (by decide +kernel) (by decide +kernel) (by decide +kernel) (by decide +kernel) h
  · refine Y.blk (pc' := 7) (L' := [some (.ref a0), some (.int a1)]) (st' := [.int (nI 31), .int a1]) (sg := [(.iload_n 1, 0), (.bipush 31, nI 31)]) (by decide +kernel) rfl ?_
    refine Y.ic_lt (off := 14) (tgt := 21) (by decide +kernel) (by decide) h (fun c1 h => ?_) (fun c1 h => ?_)
    · exact Y.vret rfl (by decide +kernel) h
    · exact Y.throwSW (is := 341) (text := "key is not 0 to 30") (names := zNm) hV.1 (hV.2 _ _ _ (by decide +kernel)) (by decide +kernel) (by decide +kernel) ck_X_81 ini_IAE tw_X_85 tg_X_85 (by decide) (by decide) rfl (Nat.le_of_ble_eq_true rfl) (by decide +kernel) (by decide +kernel) (by decide +kernel) (by decide +kernel) (by decide +kernel) h

def f_X_needList (G : gH) (a0 : Nat) (a1 : Int32) : gR :=
  gFA G a0 3 0 fun v1 => gOb G v1 1 fun o3 => bI (f_I_isThere G v1 a1) fun v6 G5 => if v6 = 0 then gThrow "java/lang/IndexOutOfBoundsException" G5
  else rV G5
theorem k_X_needList {l : Launch} {D : va_G} {B : Nat} {O : State → Heap → Prop} (hV : zG l D B O) (G : gH) (a0 : Nat) (a1 : Int32) : gMet (zVm l D B O) m_X_needList 6 [.ref a0, .int a1] G (f_X_needList G a0 a1) := by
  refine gMet.of (by decide +kernel) (Nat.le_of_ble_eq_true rfl) [some (.ref a0), some (.int a1)] (fun ls h => zEn_ok (n := 2) h) ?_
  intro o Gf h
  unfold f_X_needList at h
  refine Y.blk (pc' := 1) (L' := [some (.ref a0), some (.int a1)]) (st' := [.ref a0]) (sg := [(.aload_n 0, 0)]) (by decide +kernel) rfl ?_
  refine Y.getA fl_X_10 (by decide +kernel) h (fun v1 h => ?_)
  refine Y.blk (pc' := 5) (L' := [some (.ref a0), some (.int a1)]) (st' := [.int a1, .ref v1]) (sg := [(.iload_n 1, 0)]) (by decide +kernel) rfl ?_
  obtain ⟨_, o3, e2, m4, h⟩ := gOb_inv h
  refine Y.callI (yC.Vi (b := v1) (As := [.int a1]) (st := []) (r := ("Partlister$Lists", T_I, 7)) hV.1 cb_I_isThere lk_X_155 in_I_isThere rfl se_I_isThere (by decide +kernel) rfl rfl (Nat.le_of_ble_eq_true rfl) (by decide) e2 m4) (k_I_isThere hV G v1 a1) h (fun v6 G5 _ h => ?_)
  refine Y.if_ne (off := 14) (tgt := 22) (by decide +kernel) (by decide) h (fun c7 h => ?_) (fun c7 h => ?_)
  · exact Y.throwSW (is := 329) (text := "there is no such LIST") (names := zNm) hV.1 (hV.2 _ _ _ (by decide +kernel)) (by decide +kernel) (by decide +kernel) ck_X_125 ini_IOE tw_X_129 tg_X_129 (by decide) (by decide) rfl (Nat.le_of_ble_eq_true rfl) (by decide +kernel) (by decide +kernel) (by decide +kernel) (by decide +kernel) (by decide +kernel) h
  · exact Y.vret rfl (by decide +kernel) h

def f_X_needRoom (G : gH) (a0 : Nat) (a1 : Int32) (a2 : Int32) : gR :=
  gFA G a0 3 0 fun v1 => gFA G a0 3 0 fun v2 => gOb G v2 1 fun o4 => bI (f_I_rowOf G v2 a1) fun v7 G6 => gOb G6 v1 1 fun o9 => bI (f_I_lengthOf G6 v1 v7) fun v12 G11 => if (v12 + a2) ≤ (nI 31) then rV G11
  else gThrow "java/lang/IllegalStateException" G11
theorem k_X_needRoom {l : Launch} {D : va_G} {B : Nat} {O : State → Heap → Prop} (hV : zG l D B O) (G : gH) (a0 : Nat) (a1 : Int32) (a2 : Int32) : gMet (zVm l D B O) m_X_needRoom 6 [.ref a0, .int a1, .int a2] G (f_X_needRoom G a0 a1 a2) := by
  refine gMet.of (by decide +kernel) (Nat.le_of_ble_eq_true rfl) [some (.ref a0), some (.int a1), some (.int a2)] (fun ls h => zEn_ok (n := 3) h) ?_
  intro o Gf h
  unfold f_X_needRoom at h
  refine Y.blk (pc' := 1) (L' := [some (.ref a0), some (.int a1), some (.int a2)]) (st' := [.ref a0]) (sg := [(.aload_n 0, 0)]) (by decide +kernel) rfl ?_
  refine Y.getA fl_X_10 (by decide +kernel) h (fun v1 h => ?_)
  refine Y.blk (pc' := 5) (L' := [some (.ref a0), some (.int a1), some (.int a2)]) (st' := [.ref a0, .ref v1]) (sg := [(.aload_n 0, 0)]) (by decide +kernel) rfl ?_
  refine Y.getA fl_X_10 (by decide +kernel) h (fun v2 h => ?_)
  refine Y.blk (pc' := 9) (L' := [some (.ref a0), some (.int a1), some (.int a2)]) (st' := [.int a1, .ref v2, .ref v1]) (sg := [(.iload_n 1, 0)]) (by decide +kernel) rfl ?_
  obtain ⟨_, o4, e3, m5, h⟩ := gOb_inv h
  refine Y.callI (yC.Vi (b := v2) (As := [.int a1]) (st := [.ref v1]) (r := ("Partlister$Lists", T_I, 7)) hV.1 cb_I_rowOf lk_X_299 in_I_rowOf rfl se_I_rowOf (by decide +kernel) rfl rfl (Nat.le_of_ble_eq_true rfl) (by decide) e3 m5) (k_I_rowOf hV G v2 a1) h (fun v7 G6 _ h => ?_)
  obtain ⟨_, o9, e8, m10, h⟩ := gOb_inv h
  refine Y.callI (yC.Vi (b := v1) (As := [.int v7]) (st := []) (r := ("Partlister$Lists", T_I, 7)) hV.1 cb_I_lengthOf lk_X_34 in_I_lengthOf rfl se_I_lengthOf (by decide +kernel) rfl rfl (Nat.le_of_ble_eq_true rfl) (by decide) e8 m10) (k_I_lengthOf hV G6 v1 v7) h (fun v12 G11 _ h => ?_)
  refine Y.blk (pc' := 19) (L' := [some (.ref a0), some (.int a1), some (.int a2)]) (st' := [.int (nI 31), .int (v12 + a2)]) (sg := [(.iload_n 2, 0), (.iadd, 0), (.bipush 31, nI 31)]) (by decide +kernel) rfl ?_
  refine Y.ic_le (off := 14) (tgt := 33) (by decide +kernel) (by decide) h (fun c13 h => ?_) (fun c13 h => ?_)
  · exact Y.vret rfl (by decide +kernel) h
  · exact Y.throwSW (is := 343) (text := "a ROW has at most 31") (names := zNm) hV.1 (hV.2 _ _ _ (by decide +kernel)) (by decide +kernel) (by decide +kernel) ck_X_134 ini_ISE tw_X_138 tg_X_138 (by decide) (by decide) rfl (Nat.le_of_ble_eq_true rfl) (by decide +kernel) (by decide +kernel) (by decide +kernel) (by decide +kernel) (by decide +kernel) h

def f_X_add (G : gH) (a0 : Nat) (a1 : Int32) (a2 : Int32) : gR :=
  gOb G a0 3 fun o2 => bV (f_X_needList G a0 a1) fun G4 => gOb G4 a0 3 fun o6 => bV (f_X_needKey G4 a0 a2) fun G8 => gOb G8 a0 3 fun o10 => bV (f_X_needRoom G8 a0 a1 (nI 1)) fun G12 => gFA G12 a0 3 0 fun v13 => gOb G12 v13 1 fun o15 => bI (f_I_lengthOf G12 v13 a1) fun v18 G17 => gOb G17 a0 3 fun o20 => bI (f_X_make G17 a0 a2) fun v23 G22 => gOb G22 a0 3 fun o25 => bV (f_X_bringIn G22 a0 a1 v18 v23 (-1)) fun G27 => gFA G27 a0 3 0 fun v28 => gOb G27 v28 1 fun o30 => bI (f_I_lengthOf G27 v28 a1) fun v33 G32 => rI v33 G32
theorem k_X_add {l : Launch} {D : va_G} {B : Nat} {O : State → Heap → Prop} (hV : zG l D B O) (G : gH) (a0 : Nat) (a1 : Int32) (a2 : Int32) : gMet (zVm l D B O) m_X_add 7 [.ref a0, .int a1, .int a2] G (f_X_add G a0 a1 a2) := by
  refine gMet.of (by decide +kernel) (Nat.le_of_ble_eq_true rfl) [some (.ref a0), some (.int a1), some (.int a2)] (fun ls h => zEn_ok (n := 3) h) ?_
  intro o Gf h
  unfold f_X_add at h
  refine Y.blk (pc' := 2) (L' := [some (.ref a0), some (.int a1), some (.int a2)]) (st' := [.int a1, .ref a0]) (sg := [(.aload_n 0, 0), (.iload_n 1, 0)]) (by decide +kernel) rfl ?_
  obtain ⟨_, o2, e1, m3, h⟩ := gOb_inv h
  refine Y.callN (yC.Vi (b := a0) (As := [.int a1]) (st := []) (r := ("Partlister", T_X, 5)) hV.1 cb_X_needList lk_X_23 in_X_needList rfl se_X_needList (by decide +kernel) rfl rfl (Nat.le_of_ble_eq_true rfl) (by decide) e1 m3) (k_X_needList hV G a0 a1) h (fun G4 _ h => ?_)
  refine Y.blk (pc' := 7) (L' := [some (.ref a0), some (.int a1), some (.int a2)]) (st' := [.int a2, .ref a0]) (sg := [(.aload_n 0, 0), (.iload_n 2, 0)]) (by decide +kernel) rfl ?_
  obtain ⟨_, o6, e5, m7, h⟩ := gOb_inv h
  refine Y.callN (yC.Vi (b := a0) (As := [.int a2]) (st := []) (r := ("Partlister", T_X, 5)) hV.1 cb_X_needKey lk_X_27 in_X_needKey rfl se_X_needKey (by decide +kernel) rfl rfl (Nat.le_of_ble_eq_true rfl) (by decide) e5 m7) (k_X_needKey hV G4 a0 a2) h (fun G8 _ h => ?_)
  refine Y.blk (pc' := 13) (L' := [some (.ref a0), some (.int a1), some (.int a2)]) (st' := [.int (nI 1), .int a1, .ref a0]) (sg := [(.aload_n 0, 0), (.iload_n 1, 0), (.iconst 1, nI 1)]) (by decide +kernel) rfl ?_
  obtain ⟨_, o10, e9, m11, h⟩ := gOb_inv h
  refine Y.callN (yC.Vi (b := a0) (As := [.int a1, .int (nI 1)]) (st := []) (r := ("Partlister", T_X, 5)) hV.1 cb_X_needRoom lk_X_30 in_X_needRoom rfl se_X_needRoom (by decide +kernel) rfl rfl (Nat.le_of_ble_eq_true rfl) (by decide) e9 m11) (k_X_needRoom hV G8 a0 a1 (nI 1)) h (fun G12 _ h => ?_)
  refine Y.blk (pc' := 19) (L' := [some (.ref a0), some (.int a1), some (.int a2)]) (st' := [.ref a0, .int a1, .ref a0]) (sg := [(.aload_n 0, 0), (.iload_n 1, 0), (.aload_n 0, 0)]) (by decide +kernel) rfl ?_
  refine Y.getA fl_X_10 (by decide +kernel) h (fun v13 h => ?_)
  refine Y.blk (pc' := 23) (L' := [some (.ref a0), some (.int a1), some (.int a2)]) (st' := [.int a1, .ref v13, .int a1, .ref a0]) (sg := [(.iload_n 1, 0)]) (by decide +kernel) rfl ?_
  obtain ⟨_, o15, e14, m16, h⟩ := gOb_inv h
  refine Y.callI (yC.Vi (b := v13) (As := [.int a1]) (st := [.int a1, .ref a0]) (r := ("Partlister$Lists", T_I, 7)) hV.1 cb_I_lengthOf lk_X_34 in_I_lengthOf rfl se_I_lengthOf (by decide +kernel) rfl rfl (Nat.le_of_ble_eq_true rfl) (by decide) e14 m16) (k_I_lengthOf hV G12 v13 a1) h (fun v18 G17 _ h => ?_)
  refine Y.blk (pc' := 28) (L' := [some (.ref a0), some (.int a1), some (.int a2)]) (st' := [.int a2, .ref a0, .int v18, .int a1, .ref a0]) (sg := [(.aload_n 0, 0), (.iload_n 2, 0)]) (by decide +kernel) rfl ?_
  obtain ⟨_, o20, e19, m21, h⟩ := gOb_inv h
  refine Y.callI (yC.Vi (b := a0) (As := [.int a2]) (st := [.int v18, .int a1, .ref a0]) (r := ("Partlister", T_X, 5)) hV.1 cb_X_make lk_X_38 in_X_make rfl se_X_make (by decide +kernel) rfl rfl (Nat.le_of_ble_eq_true rfl) (by decide) e19 m21) (k_X_make hV G17 a0 a2) h (fun v23 G22 _ h => ?_)
  refine Y.blk (pc' := 32) (L' := [some (.ref a0), some (.int a1), some (.int a2)]) (st' := [.int (-1), .int v23, .int v18, .int a1, .ref a0]) (sg := [(.iconst (-1), -1)]) (by decide +kernel) rfl ?_
  obtain ⟨_, o25, e24, m26, h⟩ := gOb_inv h
  refine Y.callN (yC.Vi (b := a0) (As := [.int a1, .int v18, .int v23, .int (-1)]) (st := []) (r := ("Partlister", T_X, 5)) hV.1 cb_X_bringIn lk_X_41 in_X_bringIn rfl se_X_bringIn (by decide +kernel) rfl rfl (Nat.le_of_ble_eq_true rfl) (by decide) e24 m26) (k_X_bringIn hV G22 a0 a1 v18 v23 (-1)) h (fun G27 _ h => ?_)
  refine Y.blk (pc' := 36) (L' := [some (.ref a0), some (.int a1), some (.int a2)]) (st' := [.ref a0]) (sg := [(.aload_n 0, 0)]) (by decide +kernel) rfl ?_
  refine Y.getA fl_X_10 (by decide +kernel) h (fun v28 h => ?_)
  refine Y.blk (pc' := 40) (L' := [some (.ref a0), some (.int a1), some (.int a2)]) (st' := [.int a1, .ref v28]) (sg := [(.iload_n 1, 0)]) (by decide +kernel) rfl ?_
  obtain ⟨_, o30, e29, m31, h⟩ := gOb_inv h
  refine Y.callI (yC.Vi (b := v28) (As := [.int a1]) (st := []) (r := ("Partlister$Lists", T_I, 7)) hV.1 cb_I_lengthOf lk_X_34 in_I_lengthOf rfl se_I_lengthOf (by decide +kernel) rfl rfl (Nat.le_of_ble_eq_true rfl) (by decide) e29 m31) (k_I_lengthOf hV G27 v28 a1) h (fun v33 G32 _ h => ?_)
  exact Y.iret rfl (by decide +kernel) h

def f_X_bringAll_L24 (K59 : gH → Nat → Int32 → Int32 → gR) : Nat → gH → Nat → Int32 → Int32 → Int32 → Int32 → Int32 → gR
  | 0, _, _, _, _, _, _, _ => none
  | n + 1, G, x0, x1, x2, x3, x4, x5 =>
    if x4 ≤ x5 then K59 G x0 x1 x4
    else gFA G x0 3 0 fun v12 => gFA G x0 3 0 fun v13 => gOb G v13 1 fun o15 => bI (f_I_thingAt G v13 x3 x5) fun v18 G17 => gOb G17 v12 1 fun o20 => bV (f_I_write G17 v12 x1 (x2 + x5) v18) fun G22 => f_X_bringAll_L24 K59 n G22 x0 x1 x2 x3 x4 (x5 + (nI 1))
def f_X_bringAll (G : gH) (a0 : Nat) (a1 : Int32) (a2 : Int32) (a3 : Int32) : gR :=
  gFA G a0 3 0 fun v1 => gOb G v1 1 fun o3 => bI (f_I_lengthOf G v1 a3) fun v6 G5 => gFA G5 a0 3 0 fun v7 => gOb G5 v7 1 fun o9 => bV (f_I_openGap G5 v7 a1 a2 v6) fun G11 => f_X_bringAll_L24 (fun G27 x24 x25 x26 => if x26 ≤ 0 then rI x26 G27
    else gOb G27 x24 3 fun o29 => bV (f_X_endByLength G27 x24 x25 (-1)) fun G31 => rI x26 G31) zFu G11 a0 a1 a2 a3 v6 (nI 0)
theorem k_X_bringAll_L24 {l : Launch} {D : va_G} {B : Nat} {O : State → Heap → Prop} (hV : zG l D B O) {o : gO} {Gf : gH} (K59 : gH → Nat → Int32 → Int32 → gR) (hK59 : ∀ (G : gH) (x0 : Nat) (x1 : Int32) (x4 : Int32), K59 G x0 x1 x4 = some (o, Gf) → Y (zVm l D B O) m_X_bringAll 6 o Gf 59 [some (.ref x0), some (.int x1), none, none, some (.int x4), none] [] G) : ∀ (n : Nat) (G : gH) (x0 : Nat) (x1 : Int32) (x2 : Int32) (x3 : Int32) (x4 : Int32) (x5 : Int32), f_X_bringAll_L24 K59 n G x0 x1 x2 x3 x4 x5 = some (o, Gf) → Y (zVm l D B O) m_X_bringAll 6 o Gf 24 [some (.ref x0), some (.int x1), some (.int x2), some (.int x3), some (.int x4), some (.int x5)] [] G := by
  intro n
  induction n with
  | zero => intro G x0 x1 x2 x3 x4 x5 h; cases h
  | succ n ih =>
    intro G x0 x1 x2 x3 x4 x5 h
    unfold f_X_bringAll_L24 at h
    refine Y.blk (pc' := 28) (L' := [some (.ref x0), some (.int x1), some (.int x2), some (.int x3), some (.int x4), some (.int x5)]) (st' := [.int x4, .int x5]) (sg := [(.iload 5, 0), (.iload 4, 0)]) (by decide +kernel) rfl ?_
    refine Y.ic_ge (off := 31) (tgt := 59) (by decide +kernel) (by decide) h (fun c23 h => ?_) (fun c23 h => ?_)
    · refine Y.less (L' := [some (.ref x0), some (.int x1), none, none, some (.int x4), none]) (zLe_some (zLe_some (zLe_none (zLe_none (zLe_some (zLe_none (zLe_nil))))))) ?_
      exact hK59 G x0 x1 x4 h
    · refine Y.blk (pc' := 32) (L' := [some (.ref x0), some (.int x1), some (.int x2), some (.int x3), some (.int x4), some (.int x5)]) (st' := [.ref x0]) (sg := [(.aload_n 0, 0)]) (by decide +kernel) rfl ?_
      refine Y.getA fl_X_10 (by decide +kernel) h (fun v12 h => ?_)
      refine Y.blk (pc' := 41) (L' := [some (.ref x0), some (.int x1), some (.int x2), some (.int x3), some (.int x4), some (.int x5)]) (st' := [.ref x0, .int (x2 + x5), .int x1, .ref v12]) (sg := [(.iload_n 1, 0), (.iload_n 2, 0), (.iload 5, 0), (.iadd, 0), (.aload_n 0, 0)]) (by decide +kernel) rfl ?_
      refine Y.getA fl_X_10 (by decide +kernel) h (fun v13 h => ?_)
      refine Y.blk (pc' := 47) (L' := [some (.ref x0), some (.int x1), some (.int x2), some (.int x3), some (.int x4), some (.int x5)]) (st' := [.int x5, .int x3, .ref v13, .int (x2 + x5), .int x1, .ref v12]) (sg := [(.iload_n 3, 0), (.iload 5, 0)]) (by decide +kernel) rfl ?_
      obtain ⟨_, o15, e14, m16, h⟩ := gOb_inv h
      refine Y.callI (yC.Vi (b := v13) (As := [.int x3, .int x5]) (st := [.int (x2 + x5), .int x1, .ref v12]) (r := ("Partlister$Lists", T_I, 7)) hV.1 cb_I_thingAt lk_X_94 in_I_thingAt rfl se_I_thingAt (by decide +kernel) rfl rfl (Nat.le_of_ble_eq_true rfl) (by decide) e14 m16) (k_I_thingAt hV G v13 x3 x5) h (fun v18 G17 _ h => ?_)
      obtain ⟨_, o20, e19, m21, h⟩ := gOb_inv h
      refine Y.callN (yC.Vi (b := v12) (As := [.int x1, .int (x2 + x5), .int v18]) (st := []) (r := ("Partlister$Lists", T_I, 7)) hV.1 cb_I_write lk_X_65 in_I_write rfl se_I_write (by decide +kernel) rfl rfl (Nat.le_of_ble_eq_true rfl) (by decide) e19 m21) (k_I_write hV G17 v12 x1 (x2 + x5) v18) h (fun G22 _ h => ?_)
      refine Y.blk (pc' := 56) (L' := [some (.ref x0), some (.int x1), some (.int x2), some (.int x3), some (.int x4), some (.int (x5 + (nI 1)))]) (st' := []) (sg := [(.iinc 5 1, nI 1)]) (by decide +kernel) rfl ?_
      refine Y.goto (off := -32) (tgt := 24) (by decide +kernel) (by decide) ?_
      exact ih G22 x0 x1 x2 x3 x4 (x5 + (nI 1)) h
theorem k_X_bringAll {l : Launch} {D : va_G} {B : Nat} {O : State → Heap → Prop} (hV : zG l D B O) (G : gH) (a0 : Nat) (a1 : Int32) (a2 : Int32) (a3 : Int32) : gMet (zVm l D B O) m_X_bringAll 6 [.ref a0, .int a1, .int a2, .int a3] G (f_X_bringAll G a0 a1 a2 a3) := by
  refine gMet.of (by decide +kernel) (Nat.le_of_ble_eq_true rfl) [some (.ref a0), some (.int a1), some (.int a2), some (.int a3), none, none] (fun ls h => zEn_ok (n := 6) h) ?_
  intro o Gf h
  unfold f_X_bringAll at h
  refine Y.blk (pc' := 1) (L' := [some (.ref a0), some (.int a1), some (.int a2), some (.int a3), none, none]) (st' := [.ref a0]) (sg := [(.aload_n 0, 0)]) (by decide +kernel) rfl ?_
  refine Y.getA fl_X_10 (by decide +kernel) h (fun v1 h => ?_)
  refine Y.blk (pc' := 5) (L' := [some (.ref a0), some (.int a1), some (.int a2), some (.int a3), none, none]) (st' := [.int a3, .ref v1]) (sg := [(.iload_n 3, 0)]) (by decide +kernel) rfl ?_
  obtain ⟨_, o3, e2, m4, h⟩ := gOb_inv h
  refine Y.callI (yC.Vi (b := v1) (As := [.int a3]) (st := []) (r := ("Partlister$Lists", T_I, 7)) hV.1 cb_I_lengthOf lk_X_34 in_I_lengthOf rfl se_I_lengthOf (by decide +kernel) rfl rfl (Nat.le_of_ble_eq_true rfl) (by decide) e2 m4) (k_I_lengthOf hV G v1 a3) h (fun v6 G5 _ h => ?_)
  refine Y.blk (pc' := 11) (L' := [some (.ref a0), some (.int a1), some (.int a2), some (.int a3), some (.int v6), none]) (st' := [.ref a0]) (sg := [(.istore 4, 0), (.aload_n 0, 0)]) (by decide +kernel) rfl ?_
  refine Y.getA fl_X_10 (by decide +kernel) h (fun v7 h => ?_)
  refine Y.blk (pc' := 18) (L' := [some (.ref a0), some (.int a1), some (.int a2), some (.int a3), some (.int v6), none]) (st' := [.int v6, .int a2, .int a1, .ref v7]) (sg := [(.iload_n 1, 0), (.iload_n 2, 0), (.iload 4, 0)]) (by decide +kernel) rfl ?_
  obtain ⟨_, o9, e8, m10, h⟩ := gOb_inv h
  refine Y.callN (yC.Vi (b := v7) (As := [.int a1, .int a2, .int v6]) (st := []) (r := ("Partlister$Lists", T_I, 7)) hV.1 cb_I_openGap lk_X_278 in_I_openGap rfl se_I_openGap (by decide +kernel) rfl rfl (Nat.le_of_ble_eq_true rfl) (by decide) e8 m10) (k_I_openGap hV G5 v7 a1 a2 v6) h (fun G11 _ h => ?_)
  refine Y.blk (pc' := 24) (L' := [some (.ref a0), some (.int a1), some (.int a2), some (.int a3), some (.int v6), some (.int (nI 0))]) (st' := []) (sg := [(.iconst 0, nI 0), (.istore 5, 0)]) (by decide +kernel) rfl ?_
  refine k_X_bringAll_L24 hV _ ?_  zFu G11 a0 a1 a2 a3 v6 (nI 0) h
  · intro G27 x24 x25 x26 h
    refine Y.blk (pc' := 61) (L' := [some (.ref x24), some (.int x25), none, none, some (.int x26), none]) (st' := [.int x26]) (sg := [(.iload 4, 0)]) (by decide +kernel) rfl ?_
    refine Y.if_le (off := 9) (tgt := 70) (by decide +kernel) (by decide) h (fun c32 h => ?_) (fun c32 h => ?_)
    · refine Y.blk (pc' := 72) (L' := [some (.ref x24), some (.int x25), none, none, some (.int x26), none]) (st' := [.int x26]) (sg := [(.iload 4, 0)]) (by decide +kernel) rfl ?_
      exact Y.iret rfl (by decide +kernel) h
    · refine Y.blk (pc' := 67) (L' := [some (.ref x24), some (.int x25), none, none, some (.int x26), none]) (st' := [.int (-1), .int x25, .ref x24]) (sg := [(.aload_n 0, 0), (.iload_n 1, 0), (.iconst (-1), -1)]) (by decide +kernel) rfl ?_
      obtain ⟨_, o29, e28, m30, h⟩ := gOb_inv h
      refine Y.callN (yC.Vi (b := x24) (As := [.int x25, .int (-1)]) (st := []) (r := ("Partlister", T_X, 5)) hV.1 cb_X_endByLength lk_X_281 in_X_endByLength rfl se_X_endByLength (by decide +kernel) rfl rfl (Nat.le_of_ble_eq_true rfl) (by decide) e28 m30) (k_X_endByLength hV G27 x24 x25 (-1)) h (fun G31 _ h => ?_)
      refine Y.blk (pc' := 72) (L' := [some (.ref x24), some (.int x25), none, none, some (.int x26), none]) (st' := [.int x26]) (sg := [(.iload 4, 0)]) (by decide +kernel) rfl ?_
      exact Y.iret rfl (by decide +kernel) h

def f_X_needGap (G : gH) (a0 : Nat) (a1 : Int32) (a2 : Int32) : gR :=
  if a2 < 0 then gThrow "java/lang/IndexOutOfBoundsException" G
  else gFA G a0 3 0 fun v1 => gOb G v1 1 fun o3 => bI (f_I_lengthOf G v1 a1) fun v6 G5 => if a2 ≤ v6 then rV G5
    else gThrow "java/lang/IndexOutOfBoundsException" G5
theorem k_X_needGap {l : Launch} {D : va_G} {B : Nat} {O : State → Heap → Prop} (hV : zG l D B O) (G : gH) (a0 : Nat) (a1 : Int32) (a2 : Int32) : gMet (zVm l D B O) m_X_needGap 6 [.ref a0, .int a1, .int a2] G (f_X_needGap G a0 a1 a2) := by
  refine gMet.of (by decide +kernel) (Nat.le_of_ble_eq_true rfl) [some (.ref a0), some (.int a1), some (.int a2)] (fun ls h => zEn_ok (n := 3) h) ?_
  intro o Gf h
  unfold f_X_needGap at h
  refine Y.blk (pc' := 1) (L' := [some (.ref a0), some (.int a1), some (.int a2)]) (st' := [.int a2]) (sg := [(.iload_n 2, 0)]) (by decide +kernel) rfl ?_
  refine Y.if_lt (off := 15) (tgt := 16) (by decide +kernel) (by decide) h (fun c8 h => ?_) (fun c8 h => ?_)
  · exact Y.throwSW (is := 339) (text := "not 0 to LENGTH") (names := zNm) hV.1 (hV.2 _ _ _ (by decide +kernel)) (by decide +kernel) (by decide +kernel) ck_X_125 ini_IOE tw_X_129 tg_X_129 (by decide) (by decide) rfl (Nat.le_of_ble_eq_true rfl) (by decide +kernel) (by decide +kernel) (by decide +kernel) (by decide +kernel) (by decide +kernel) h
  · refine Y.blk (pc' := 6) (L' := [some (.ref a0), some (.int a1), some (.int a2)]) (st' := [.ref a0, .int a2]) (sg := [(.iload_n 2, 0), (.aload_n 0, 0)]) (by decide +kernel) rfl ?_
    refine Y.getA fl_X_10 (by decide +kernel) h (fun v1 h => ?_)
    refine Y.blk (pc' := 10) (L' := [some (.ref a0), some (.int a1), some (.int a2)]) (st' := [.int a1, .ref v1, .int a2]) (sg := [(.iload_n 1, 0)]) (by decide +kernel) rfl ?_
    obtain ⟨_, o3, e2, m4, h⟩ := gOb_inv h
    refine Y.callI (yC.Vi (b := v1) (As := [.int a1]) (st := [.int a2]) (r := ("Partlister$Lists", T_I, 7)) hV.1 cb_I_lengthOf lk_X_34 in_I_lengthOf rfl se_I_lengthOf (by decide +kernel) rfl rfl (Nat.le_of_ble_eq_true rfl) (by decide) e2 m4) (k_I_lengthOf hV G v1 a1) h (fun v6 G5 _ h => ?_)
    refine Y.ic_le (off := 14) (tgt := 27) (by decide +kernel) (by decide) h (fun c7 h => ?_) (fun c7 h => ?_)
    · exact Y.vret rfl (by decide +kernel) h
    · exact Y.throwSW (is := 339) (text := "not 0 to LENGTH") (names := zNm) hV.1 (hV.2 _ _ _ (by decide +kernel)) (by decide +kernel) (by decide +kernel) ck_X_125 ini_IOE tw_X_129 tg_X_129 (by decide) (by decide) rfl (Nat.le_of_ble_eq_true rfl) (by decide +kernel) (by decide +kernel) (by decide +kernel) (by decide +kernel) (by decide +kernel) h

def f_X_needOtherRow (G : gH) (a0 : Nat) (a1 : Int32) (a2 : Int32) : gR :=
  gFA G a0 3 0 fun v1 => gOb G v1 1 fun o3 => bI (f_I_rowOf G v1 a1) fun v6 G5 => gFA G5 a0 3 0 fun v7 => gOb G5 v7 1 fun o9 => bI (f_I_rowOf G5 v7 a2) fun v12 G11 => if v6 = v12 then gThrow "java/lang/IllegalStateException" G11
  else rV G11
theorem k_X_needOtherRow {l : Launch} {D : va_G} {B : Nat} {O : State → Heap → Prop} (hV : zG l D B O) (G : gH) (a0 : Nat) (a1 : Int32) (a2 : Int32) : gMet (zVm l D B O) m_X_needOtherRow 6 [.ref a0, .int a1, .int a2] G (f_X_needOtherRow G a0 a1 a2) := by
  refine gMet.of (by decide +kernel) (Nat.le_of_ble_eq_true rfl) [some (.ref a0), some (.int a1), some (.int a2)] (fun ls h => zEn_ok (n := 3) h) ?_
  intro o Gf h
  unfold f_X_needOtherRow at h
  refine Y.blk (pc' := 1) (L' := [some (.ref a0), some (.int a1), some (.int a2)]) (st' := [.ref a0]) (sg := [(.aload_n 0, 0)]) (by decide +kernel) rfl ?_
  refine Y.getA fl_X_10 (by decide +kernel) h (fun v1 h => ?_)
  refine Y.blk (pc' := 5) (L' := [some (.ref a0), some (.int a1), some (.int a2)]) (st' := [.int a1, .ref v1]) (sg := [(.iload_n 1, 0)]) (by decide +kernel) rfl ?_
  obtain ⟨_, o3, e2, m4, h⟩ := gOb_inv h
  refine Y.callI (yC.Vi (b := v1) (As := [.int a1]) (st := []) (r := ("Partlister$Lists", T_I, 7)) hV.1 cb_I_rowOf lk_X_299 in_I_rowOf rfl se_I_rowOf (by decide +kernel) rfl rfl (Nat.le_of_ble_eq_true rfl) (by decide) e2 m4) (k_I_rowOf hV G v1 a1) h (fun v6 G5 _ h => ?_)
  refine Y.blk (pc' := 9) (L' := [some (.ref a0), some (.int a1), some (.int a2)]) (st' := [.ref a0, .int v6]) (sg := [(.aload_n 0, 0)]) (by decide +kernel) rfl ?_
  refine Y.getA fl_X_10 (by decide +kernel) h (fun v7 h => ?_)
  refine Y.blk (pc' := 13) (L' := [some (.ref a0), some (.int a1), some (.int a2)]) (st' := [.int a2, .ref v7, .int v6]) (sg := [(.iload_n 2, 0)]) (by decide +kernel) rfl ?_
  obtain ⟨_, o9, e8, m10, h⟩ := gOb_inv h
  refine Y.callI (yC.Vi (b := v7) (As := [.int a2]) (st := [.int v6]) (r := ("Partlister$Lists", T_I, 7)) hV.1 cb_I_rowOf lk_X_299 in_I_rowOf rfl se_I_rowOf (by decide +kernel) rfl rfl (Nat.le_of_ble_eq_true rfl) (by decide) e8 m10) (k_I_rowOf hV G5 v7 a2) h (fun v12 G11 _ h => ?_)
  refine Y.ic_ne (off := 14) (tgt := 30) (by decide +kernel) (by decide) h (fun c13 h => ?_) (fun c13 h => ?_)
  · exact Y.throwSW (is := 345) (text := "both are of the same ROW") (names := zNm) hV.1 (hV.2 _ _ _ (by decide +kernel)) (by decide +kernel) (by decide +kernel) ck_X_134 ini_ISE tw_X_138 tg_X_138 (by decide) (by decide) rfl (Nat.le_of_ble_eq_true rfl) (by decide +kernel) (by decide +kernel) (by decide +kernel) (by decide +kernel) (by decide +kernel) h
  · exact Y.vret rfl (by decide +kernel) h

def f_X_addAll (G : gH) (a0 : Nat) (a1 : Int32) (a2 : Int32) (a3 : Int32) : gR :=
  gOb G a0 3 fun o2 => bV (f_X_needList G a0 a1) fun G4 => gOb G4 a0 3 fun o6 => bV (f_X_needList G4 a0 a3) fun G8 => gOb G8 a0 3 fun o10 => bV (f_X_needGap G8 a0 a1 a2) fun G12 => gOb G12 a0 3 fun o14 => bV (f_X_needOtherRow G12 a0 a1 a3) fun G16 => gFA G16 a0 3 0 fun v17 => gOb G16 v17 1 fun o19 => bI (f_I_lengthOf G16 v17 a3) fun v22 G21 => gOb G21 a0 3 fun o24 => bV (f_X_needRoom G21 a0 a1 v22) fun G26 => gOb G26 a0 3 fun o28 => bI (f_X_bringAll G26 a0 a1 a2 a3) fun v31 G30 => rI v31 G30
theorem k_X_addAll {l : Launch} {D : va_G} {B : Nat} {O : State → Heap → Prop} (hV : zG l D B O) (G : gH) (a0 : Nat) (a1 : Int32) (a2 : Int32) (a3 : Int32) : gMet (zVm l D B O) m_X_addAll 7 [.ref a0, .int a1, .int a2, .int a3] G (f_X_addAll G a0 a1 a2 a3) := by
  refine gMet.of (by decide +kernel) (Nat.le_of_ble_eq_true rfl) [some (.ref a0), some (.int a1), some (.int a2), some (.int a3)] (fun ls h => zEn_ok (n := 4) h) ?_
  intro o Gf h
  unfold f_X_addAll at h
  refine Y.blk (pc' := 2) (L' := [some (.ref a0), some (.int a1), some (.int a2), some (.int a3)]) (st' := [.int a1, .ref a0]) (sg := [(.aload_n 0, 0), (.iload_n 1, 0)]) (by decide +kernel) rfl ?_
  obtain ⟨_, o2, e1, m3, h⟩ := gOb_inv h
  refine Y.callN (yC.Vi (b := a0) (As := [.int a1]) (st := []) (r := ("Partlister", T_X, 5)) hV.1 cb_X_needList lk_X_23 in_X_needList rfl se_X_needList (by decide +kernel) rfl rfl (Nat.le_of_ble_eq_true rfl) (by decide) e1 m3) (k_X_needList hV G a0 a1) h (fun G4 _ h => ?_)
  refine Y.blk (pc' := 7) (L' := [some (.ref a0), some (.int a1), some (.int a2), some (.int a3)]) (st' := [.int a3, .ref a0]) (sg := [(.aload_n 0, 0), (.iload_n 3, 0)]) (by decide +kernel) rfl ?_
  obtain ⟨_, o6, e5, m7, h⟩ := gOb_inv h
  refine Y.callN (yC.Vi (b := a0) (As := [.int a3]) (st := []) (r := ("Partlister", T_X, 5)) hV.1 cb_X_needList lk_X_23 in_X_needList rfl se_X_needList (by decide +kernel) rfl rfl (Nat.le_of_ble_eq_true rfl) (by decide) e5 m7) (k_X_needList hV G4 a0 a3) h (fun G8 _ h => ?_)
  refine Y.blk (pc' := 13) (L' := [some (.ref a0), some (.int a1), some (.int a2), some (.int a3)]) (st' := [.int a2, .int a1, .ref a0]) (sg := [(.aload_n 0, 0), (.iload_n 1, 0), (.iload_n 2, 0)]) (by decide +kernel) rfl ?_
  obtain ⟨_, o10, e9, m11, h⟩ := gOb_inv h
  refine Y.callN (yC.Vi (b := a0) (As := [.int a1, .int a2]) (st := []) (r := ("Partlister", T_X, 5)) hV.1 cb_X_needGap lk_X_45 in_X_needGap rfl se_X_needGap (by decide +kernel) rfl rfl (Nat.le_of_ble_eq_true rfl) (by decide) e9 m11) (k_X_needGap hV G8 a0 a1 a2) h (fun G12 _ h => ?_)
  refine Y.blk (pc' := 19) (L' := [some (.ref a0), some (.int a1), some (.int a2), some (.int a3)]) (st' := [.int a3, .int a1, .ref a0]) (sg := [(.aload_n 0, 0), (.iload_n 1, 0), (.iload_n 3, 0)]) (by decide +kernel) rfl ?_
  obtain ⟨_, o14, e13, m15, h⟩ := gOb_inv h
  refine Y.callN (yC.Vi (b := a0) (As := [.int a1, .int a3]) (st := []) (r := ("Partlister", T_X, 5)) hV.1 cb_X_needOtherRow lk_X_51 in_X_needOtherRow rfl se_X_needOtherRow (by decide +kernel) rfl rfl (Nat.le_of_ble_eq_true rfl) (by decide) e13 m15) (k_X_needOtherRow hV G12 a0 a1 a3) h (fun G16 _ h => ?_)
  refine Y.blk (pc' := 25) (L' := [some (.ref a0), some (.int a1), some (.int a2), some (.int a3)]) (st' := [.ref a0, .int a1, .ref a0]) (sg := [(.aload_n 0, 0), (.iload_n 1, 0), (.aload_n 0, 0)]) (by decide +kernel) rfl ?_
  refine Y.getA fl_X_10 (by decide +kernel) h (fun v17 h => ?_)
  refine Y.blk (pc' := 29) (L' := [some (.ref a0), some (.int a1), some (.int a2), some (.int a3)]) (st' := [.int a3, .ref v17, .int a1, .ref a0]) (sg := [(.iload_n 3, 0)]) (by decide +kernel) rfl ?_
  obtain ⟨_, o19, e18, m20, h⟩ := gOb_inv h
  refine Y.callI (yC.Vi (b := v17) (As := [.int a3]) (st := [.int a1, .ref a0]) (r := ("Partlister$Lists", T_I, 7)) hV.1 cb_I_lengthOf lk_X_34 in_I_lengthOf rfl se_I_lengthOf (by decide +kernel) rfl rfl (Nat.le_of_ble_eq_true rfl) (by decide) e18 m20) (k_I_lengthOf hV G16 v17 a3) h (fun v22 G21 _ h => ?_)
  obtain ⟨_, o24, e23, m25, h⟩ := gOb_inv h
  refine Y.callN (yC.Vi (b := a0) (As := [.int a1, .int v22]) (st := []) (r := ("Partlister", T_X, 5)) hV.1 cb_X_needRoom lk_X_30 in_X_needRoom rfl se_X_needRoom (by decide +kernel) rfl rfl (Nat.le_of_ble_eq_true rfl) (by decide) e23 m25) (k_X_needRoom hV G21 a0 a1 v22) h (fun G26 _ h => ?_)
  refine Y.blk (pc' := 39) (L' := [some (.ref a0), some (.int a1), some (.int a2), some (.int a3)]) (st' := [.int a3, .int a2, .int a1, .ref a0]) (sg := [(.aload_n 0, 0), (.iload_n 1, 0), (.iload_n 2, 0), (.iload_n 3, 0)]) (by decide +kernel) rfl ?_
  obtain ⟨_, o28, e27, m29, h⟩ := gOb_inv h
  refine Y.callI (yC.Vi (b := a0) (As := [.int a1, .int a2, .int a3]) (st := []) (r := ("Partlister", T_X, 5)) hV.1 cb_X_bringAll lk_X_54 in_X_bringAll rfl se_X_bringAll (by decide +kernel) rfl rfl (Nat.le_of_ble_eq_true rfl) (by decide) e27 m29) (k_X_bringAll hV G26 a0 a1 a2 a3) h (fun v31 G30 _ h => ?_)
  exact Y.iret rfl (by decide +kernel) h

def f_X_tagOf (G : gH) (a0 : Int32) : gR :=
  rI (a0 >>> ((nI 5) &&& 31)) G
theorem k_X_tagOf {l : Launch} {D : va_G} {B : Nat} {O : State → Heap → Prop} (hV : zG l D B O) (G : gH) (a0 : Int32) : gMet (zVm l D B O) m_X_tagOf 1 [.int a0] G (f_X_tagOf G a0) := by
  refine gMet.of (by decide +kernel) (Nat.le_of_ble_eq_true rfl) [some (.int a0)] (fun ls h => zEn_ok (n := 1) h) ?_
  intro o Gf h
  unfold f_X_tagOf at h
  refine Y.blk (pc' := 3) (L' := [some (.int a0)]) (st' := [.int (a0 >>> ((nI 5) &&& 31))]) (sg := [(.iload_n 0, 0), (.iconst 5, nI 5), (.ishr, 0)]) (by decide +kernel) rfl ?_
  exact Y.iret rfl (by decide +kernel) h

def f_X_addAt (G : gH) (a0 : Nat) (a1 : Int32) (a2 : Int32) (a3 : Int32) : gR :=
  gOb G a0 3 fun o2 => bV (f_X_needList G a0 a1) fun G4 => gOb G4 a0 3 fun o6 => bV (f_X_needGap G4 a0 a1 a2) fun G8 => gOb G8 a0 3 fun o10 => bV (f_X_needKey G8 a0 a3) fun G12 => gOb G12 a0 3 fun o14 => bV (f_X_needRoom G12 a0 a1 (nI 1)) fun G16 => gOb G16 a0 3 fun o18 => bI (f_X_make G16 a0 a3) fun v21 G20 => gOb G20 a0 3 fun o23 => bV (f_X_bringIn G20 a0 a1 a2 v21 (-1)) fun G25 => bI (f_X_tagOf G25 v21) fun v28 G27 => rI v28 G27
theorem k_X_addAt {l : Launch} {D : va_G} {B : Nat} {O : State → Heap → Prop} (hV : zG l D B O) (G : gH) (a0 : Nat) (a1 : Int32) (a2 : Int32) (a3 : Int32) : gMet (zVm l D B O) m_X_addAt 7 [.ref a0, .int a1, .int a2, .int a3] G (f_X_addAt G a0 a1 a2 a3) := by
  refine gMet.of (by decide +kernel) (Nat.le_of_ble_eq_true rfl) [some (.ref a0), some (.int a1), some (.int a2), some (.int a3), none] (fun ls h => zEn_ok (n := 5) h) ?_
  intro o Gf h
  unfold f_X_addAt at h
  refine Y.blk (pc' := 2) (L' := [some (.ref a0), some (.int a1), some (.int a2), some (.int a3), none]) (st' := [.int a1, .ref a0]) (sg := [(.aload_n 0, 0), (.iload_n 1, 0)]) (by decide +kernel) rfl ?_
  obtain ⟨_, o2, e1, m3, h⟩ := gOb_inv h
  refine Y.callN (yC.Vi (b := a0) (As := [.int a1]) (st := []) (r := ("Partlister", T_X, 5)) hV.1 cb_X_needList lk_X_23 in_X_needList rfl se_X_needList (by decide +kernel) rfl rfl (Nat.le_of_ble_eq_true rfl) (by decide) e1 m3) (k_X_needList hV G a0 a1) h (fun G4 _ h => ?_)
  refine Y.blk (pc' := 8) (L' := [some (.ref a0), some (.int a1), some (.int a2), some (.int a3), none]) (st' := [.int a2, .int a1, .ref a0]) (sg := [(.aload_n 0, 0), (.iload_n 1, 0), (.iload_n 2, 0)]) (by decide +kernel) rfl ?_
  obtain ⟨_, o6, e5, m7, h⟩ := gOb_inv h
  refine Y.callN (yC.Vi (b := a0) (As := [.int a1, .int a2]) (st := []) (r := ("Partlister", T_X, 5)) hV.1 cb_X_needGap lk_X_45 in_X_needGap rfl se_X_needGap (by decide +kernel) rfl rfl (Nat.le_of_ble_eq_true rfl) (by decide) e5 m7) (k_X_needGap hV G4 a0 a1 a2) h (fun G8 _ h => ?_)
  refine Y.blk (pc' := 13) (L' := [some (.ref a0), some (.int a1), some (.int a2), some (.int a3), none]) (st' := [.int a3, .ref a0]) (sg := [(.aload_n 0, 0), (.iload_n 3, 0)]) (by decide +kernel) rfl ?_
  obtain ⟨_, o10, e9, m11, h⟩ := gOb_inv h
  refine Y.callN (yC.Vi (b := a0) (As := [.int a3]) (st := []) (r := ("Partlister", T_X, 5)) hV.1 cb_X_needKey lk_X_27 in_X_needKey rfl se_X_needKey (by decide +kernel) rfl rfl (Nat.le_of_ble_eq_true rfl) (by decide) e9 m11) (k_X_needKey hV G8 a0 a3) h (fun G12 _ h => ?_)
  refine Y.blk (pc' := 19) (L' := [some (.ref a0), some (.int a1), some (.int a2), some (.int a3), none]) (st' := [.int (nI 1), .int a1, .ref a0]) (sg := [(.aload_n 0, 0), (.iload_n 1, 0), (.iconst 1, nI 1)]) (by decide +kernel) rfl ?_
  obtain ⟨_, o14, e13, m15, h⟩ := gOb_inv h
  refine Y.callN (yC.Vi (b := a0) (As := [.int a1, .int (nI 1)]) (st := []) (r := ("Partlister", T_X, 5)) hV.1 cb_X_needRoom lk_X_30 in_X_needRoom rfl se_X_needRoom (by decide +kernel) rfl rfl (Nat.le_of_ble_eq_true rfl) (by decide) e13 m15) (k_X_needRoom hV G12 a0 a1 (nI 1)) h (fun G16 _ h => ?_)
  refine Y.blk (pc' := 24) (L' := [some (.ref a0), some (.int a1), some (.int a2), some (.int a3), none]) (st' := [.int a3, .ref a0]) (sg := [(.aload_n 0, 0), (.iload_n 3, 0)]) (by decide +kernel) rfl ?_
  obtain ⟨_, o18, e17, m19, h⟩ := gOb_inv h
  refine Y.callI (yC.Vi (b := a0) (As := [.int a3]) (st := []) (r := ("Partlister", T_X, 5)) hV.1 cb_X_make lk_X_38 in_X_make rfl se_X_make (by decide +kernel) rfl rfl (Nat.le_of_ble_eq_true rfl) (by decide) e17 m19) (k_X_make hV G16 a0 a3) h (fun v21 G20 _ h => ?_)
  refine Y.blk (pc' := 35) (L' := [some (.ref a0), some (.int a1), some (.int a2), some (.int a3), some (.int v21)]) (st' := [.int (-1), .int v21, .int a2, .int a1, .ref a0]) (sg := [(.istore 4, 0), (.aload_n 0, 0), (.iload_n 1, 0), (.iload_n 2, 0), (.iload 4, 0), (.iconst (-1), -1)]) (by decide +kernel) rfl ?_
  obtain ⟨_, o23, e22, m24, h⟩ := gOb_inv h
  refine Y.callN (yC.Vi (b := a0) (As := [.int a1, .int a2, .int v21, .int (-1)]) (st := []) (r := ("Partlister", T_X, 5)) hV.1 cb_X_bringIn lk_X_41 in_X_bringIn rfl se_X_bringIn (by decide +kernel) rfl rfl (Nat.le_of_ble_eq_true rfl) (by decide) e22 m24) (k_X_bringIn hV G20 a0 a1 a2 v21 (-1)) h (fun G25 _ h => ?_)
  refine Y.blk (pc' := 40) (L' := [some (.ref a0), some (.int a1), some (.int a2), some (.int a3), some (.int v21)]) (st' := [.int v21]) (sg := [(.iload 4, 0)]) (by decide +kernel) rfl ?_
  refine Y.callI (yC.S (As := [.int v21]) (st := []) hV.1 cb_X_tagOf lk_X_48 st_X_tagOf (by decide +kernel) rfl rfl (Nat.le_of_ble_eq_true rfl) (by decide)) (k_X_tagOf hV G25 v21) h (fun v28 G27 _ h => ?_)
  exact Y.iret rfl (by decide +kernel) h

def f_X_append (G : gH) (a0 : Nat) (a1 : Int32) (a2 : Int32) : gR :=
  gOb G a0 3 fun o2 => bV (f_X_needList G a0 a1) fun G4 => gOb G4 a0 3 fun o6 => bV (f_X_needList G4 a0 a2) fun G8 => gOb G8 a0 3 fun o10 => bV (f_X_needOtherRow G8 a0 a1 a2) fun G12 => gFA G12 a0 3 0 fun v13 => gOb G12 v13 1 fun o15 => bI (f_I_lengthOf G12 v13 a2) fun v18 G17 => gOb G17 a0 3 fun o20 => bV (f_X_needRoom G17 a0 a1 v18) fun G22 => gFA G22 a0 3 0 fun v23 => gOb G22 v23 1 fun o25 => bI (f_I_lengthOf G22 v23 a1) fun v28 G27 => gOb G27 a0 3 fun o30 => bI (f_X_bringAll G27 a0 a1 v28 a2) fun v33 G32 => gFA G32 a0 3 0 fun v34 => gOb G32 v34 1 fun o36 => bI (f_I_lengthOf G32 v34 a1) fun v39 G38 => rI v39 G38
theorem k_X_append {l : Launch} {D : va_G} {B : Nat} {O : State → Heap → Prop} (hV : zG l D B O) (G : gH) (a0 : Nat) (a1 : Int32) (a2 : Int32) : gMet (zVm l D B O) m_X_append 7 [.ref a0, .int a1, .int a2] G (f_X_append G a0 a1 a2) := by
  refine gMet.of (by decide +kernel) (Nat.le_of_ble_eq_true rfl) [some (.ref a0), some (.int a1), some (.int a2)] (fun ls h => zEn_ok (n := 3) h) ?_
  intro o Gf h
  unfold f_X_append at h
  refine Y.blk (pc' := 2) (L' := [some (.ref a0), some (.int a1), some (.int a2)]) (st' := [.int a1, .ref a0]) (sg := [(.aload_n 0, 0), (.iload_n 1, 0)]) (by decide +kernel) rfl ?_
  obtain ⟨_, o2, e1, m3, h⟩ := gOb_inv h
  refine Y.callN (yC.Vi (b := a0) (As := [.int a1]) (st := []) (r := ("Partlister", T_X, 5)) hV.1 cb_X_needList lk_X_23 in_X_needList rfl se_X_needList (by decide +kernel) rfl rfl (Nat.le_of_ble_eq_true rfl) (by decide) e1 m3) (k_X_needList hV G a0 a1) h (fun G4 _ h => ?_)
  refine Y.blk (pc' := 7) (L' := [some (.ref a0), some (.int a1), some (.int a2)]) (st' := [.int a2, .ref a0]) (sg := [(.aload_n 0, 0), (.iload_n 2, 0)]) (by decide +kernel) rfl ?_
  obtain ⟨_, o6, e5, m7, h⟩ := gOb_inv h
  refine Y.callN (yC.Vi (b := a0) (As := [.int a2]) (st := []) (r := ("Partlister", T_X, 5)) hV.1 cb_X_needList lk_X_23 in_X_needList rfl se_X_needList (by decide +kernel) rfl rfl (Nat.le_of_ble_eq_true rfl) (by decide) e5 m7) (k_X_needList hV G4 a0 a2) h (fun G8 _ h => ?_)
  refine Y.blk (pc' := 13) (L' := [some (.ref a0), some (.int a1), some (.int a2)]) (st' := [.int a2, .int a1, .ref a0]) (sg := [(.aload_n 0, 0), (.iload_n 1, 0), (.iload_n 2, 0)]) (by decide +kernel) rfl ?_
  obtain ⟨_, o10, e9, m11, h⟩ := gOb_inv h
  refine Y.callN (yC.Vi (b := a0) (As := [.int a1, .int a2]) (st := []) (r := ("Partlister", T_X, 5)) hV.1 cb_X_needOtherRow lk_X_51 in_X_needOtherRow rfl se_X_needOtherRow (by decide +kernel) rfl rfl (Nat.le_of_ble_eq_true rfl) (by decide) e9 m11) (k_X_needOtherRow hV G8 a0 a1 a2) h (fun G12 _ h => ?_)
  refine Y.blk (pc' := 19) (L' := [some (.ref a0), some (.int a1), some (.int a2)]) (st' := [.ref a0, .int a1, .ref a0]) (sg := [(.aload_n 0, 0), (.iload_n 1, 0), (.aload_n 0, 0)]) (by decide +kernel) rfl ?_
  refine Y.getA fl_X_10 (by decide +kernel) h (fun v13 h => ?_)
  refine Y.blk (pc' := 23) (L' := [some (.ref a0), some (.int a1), some (.int a2)]) (st' := [.int a2, .ref v13, .int a1, .ref a0]) (sg := [(.iload_n 2, 0)]) (by decide +kernel) rfl ?_
  obtain ⟨_, o15, e14, m16, h⟩ := gOb_inv h
  refine Y.callI (yC.Vi (b := v13) (As := [.int a2]) (st := [.int a1, .ref a0]) (r := ("Partlister$Lists", T_I, 7)) hV.1 cb_I_lengthOf lk_X_34 in_I_lengthOf rfl se_I_lengthOf (by decide +kernel) rfl rfl (Nat.le_of_ble_eq_true rfl) (by decide) e14 m16) (k_I_lengthOf hV G12 v13 a2) h (fun v18 G17 _ h => ?_)
  obtain ⟨_, o20, e19, m21, h⟩ := gOb_inv h
  refine Y.callN (yC.Vi (b := a0) (As := [.int a1, .int v18]) (st := []) (r := ("Partlister", T_X, 5)) hV.1 cb_X_needRoom lk_X_30 in_X_needRoom rfl se_X_needRoom (by decide +kernel) rfl rfl (Nat.le_of_ble_eq_true rfl) (by decide) e19 m21) (k_X_needRoom hV G17 a0 a1 v18) h (fun G22 _ h => ?_)
  refine Y.blk (pc' := 32) (L' := [some (.ref a0), some (.int a1), some (.int a2)]) (st' := [.ref a0, .int a1, .ref a0]) (sg := [(.aload_n 0, 0), (.iload_n 1, 0), (.aload_n 0, 0)]) (by decide +kernel) rfl ?_
  refine Y.getA fl_X_10 (by decide +kernel) h (fun v23 h => ?_)
  refine Y.blk (pc' := 36) (L' := [some (.ref a0), some (.int a1), some (.int a2)]) (st' := [.int a1, .ref v23, .int a1, .ref a0]) (sg := [(.iload_n 1, 0)]) (by decide +kernel) rfl ?_
  obtain ⟨_, o25, e24, m26, h⟩ := gOb_inv h
  refine Y.callI (yC.Vi (b := v23) (As := [.int a1]) (st := [.int a1, .ref a0]) (r := ("Partlister$Lists", T_I, 7)) hV.1 cb_I_lengthOf lk_X_34 in_I_lengthOf rfl se_I_lengthOf (by decide +kernel) rfl rfl (Nat.le_of_ble_eq_true rfl) (by decide) e24 m26) (k_I_lengthOf hV G22 v23 a1) h (fun v28 G27 _ h => ?_)
  refine Y.blk (pc' := 40) (L' := [some (.ref a0), some (.int a1), some (.int a2)]) (st' := [.int a2, .int v28, .int a1, .ref a0]) (sg := [(.iload_n 2, 0)]) (by decide +kernel) rfl ?_
  obtain ⟨_, o30, e29, m31, h⟩ := gOb_inv h
  refine Y.callI (yC.Vi (b := a0) (As := [.int a1, .int v28, .int a2]) (st := []) (r := ("Partlister", T_X, 5)) hV.1 cb_X_bringAll lk_X_54 in_X_bringAll rfl se_X_bringAll (by decide +kernel) rfl rfl (Nat.le_of_ble_eq_true rfl) (by decide) e29 m31) (k_X_bringAll hV G27 a0 a1 v28 a2) h (fun v33 G32 _ h => ?_)
  refine Y.blk (pc' := 45) (L' := [some (.ref a0), some (.int a1), some (.int a2)]) (st' := [.ref a0]) (sg := [(.pop, 0), (.aload_n 0, 0)]) (by decide +kernel) rfl ?_
  refine Y.getA fl_X_10 (by decide +kernel) h (fun v34 h => ?_)
  refine Y.blk (pc' := 49) (L' := [some (.ref a0), some (.int a1), some (.int a2)]) (st' := [.int a1, .ref v34]) (sg := [(.iload_n 1, 0)]) (by decide +kernel) rfl ?_
  obtain ⟨_, o36, e35, m37, h⟩ := gOb_inv h
  refine Y.callI (yC.Vi (b := v34) (As := [.int a1]) (st := []) (r := ("Partlister$Lists", T_I, 7)) hV.1 cb_I_lengthOf lk_X_34 in_I_lengthOf rfl se_I_lengthOf (by decide +kernel) rfl rfl (Nat.le_of_ble_eq_true rfl) (by decide) e35 m37) (k_I_lengthOf hV G32 v34 a1) h (fun v39 G38 _ h => ?_)
  exact Y.iret rfl (by decide +kernel) h

def f_X_keyOf (G : gH) (a0 : Int32) : gR :=
  rI (a0 &&& (nI 31)) G
theorem k_X_keyOf {l : Launch} {D : va_G} {B : Nat} {O : State → Heap → Prop} (hV : zG l D B O) (G : gH) (a0 : Int32) : gMet (zVm l D B O) m_X_keyOf 1 [.int a0] G (f_X_keyOf G a0) := by
  refine gMet.of (by decide +kernel) (Nat.le_of_ble_eq_true rfl) [some (.int a0)] (fun ls h => zEn_ok (n := 1) h) ?_
  intro o Gf h
  unfold f_X_keyOf at h
  refine Y.blk (pc' := 4) (L' := [some (.int a0)]) (st' := [.int (a0 &&& (nI 31))]) (sg := [(.iload_n 0, 0), (.bipush 31, nI 31), (.iand, 0)]) (by decide +kernel) rfl ?_
  exact Y.iret rfl (by decide +kernel) h

def f_I_keyAt (G : gH) (a0 : Nat) (a1 : Int32) (a2 : Int32) : gR :=
  gFA G a0 1 0 fun v1 => gOb G a0 1 fun o3 => bI (f_I_cellOf G a0 a1 a2) fun v6 G5 => gOb G5 v1 2 fun o8 => bI (f_N_read G5 v1 v6) fun v11 G10 => bI (f_X_keyOf G10 v11) fun v14 G13 => rI v14 G13
theorem k_I_keyAt {l : Launch} {D : va_G} {B : Nat} {O : State → Heap → Prop} (hV : zG l D B O) (G : gH) (a0 : Nat) (a1 : Int32) (a2 : Int32) : gMet (zVm l D B O) m_I_keyAt 3 [.ref a0, .int a1, .int a2] G (f_I_keyAt G a0 a1 a2) := by
  refine gMet.of (by decide +kernel) (Nat.le_of_ble_eq_true rfl) [some (.ref a0), some (.int a1), some (.int a2)] (fun ls h => zEn_ok (n := 3) h) ?_
  intro o Gf h
  unfold f_I_keyAt at h
  refine Y.blk (pc' := 1) (L' := [some (.ref a0), some (.int a1), some (.int a2)]) (st' := [.ref a0]) (sg := [(.aload_n 0, 0)]) (by decide +kernel) rfl ?_
  refine Y.getA fl_I_14 (by decide +kernel) h (fun v1 h => ?_)
  refine Y.blk (pc' := 7) (L' := [some (.ref a0), some (.int a1), some (.int a2)]) (st' := [.int a2, .int a1, .ref a0, .ref v1]) (sg := [(.aload_n 0, 0), (.iload_n 1, 0), (.iload_n 2, 0)]) (by decide +kernel) rfl ?_
  obtain ⟨_, o3, e2, m4, h⟩ := gOb_inv h
  refine Y.callI (yC.Vi (b := a0) (As := [.int a1, .int a2]) (st := [.ref v1]) (r := ("Partlister$Lists", T_I, 7)) hV.1 cb_I_cellOf lk_I_43 in_I_cellOf rfl se_I_cellOf (by decide +kernel) rfl rfl (Nat.le_of_ble_eq_true rfl) (by decide) e2 m4) (k_I_cellOf hV G a0 a1 a2) h (fun v6 G5 _ h => ?_)
  obtain ⟨_, o8, e7, m9, h⟩ := gOb_inv h
  refine Y.callI (yC.Vi (b := v1) (As := [.int v6]) (st := []) (r := ("Partlister$Numbers", T_N, 1)) hV.1 cb_N_read lk_I_39 in_N_read rfl se_N_read (by decide +kernel) rfl rfl (Nat.le_of_ble_eq_true rfl) (by decide) e7 m9) (k_N_read hV G5 v1 v6) h (fun v11 G10 _ h => ?_)
  refine Y.callI (yC.SN (As := [.int v11]) (st := []) hV.1 cb_X_keyOf lk_I_47 st_X_keyOf (by decide +kernel) rfl rfl (Nat.le_of_ble_eq_true rfl) (by decide)) (k_X_keyOf hV G10 v11) h (fun v14 G13 _ h => ?_)
  exact Y.iret rfl (by decide +kernel) h

def f_I_keysOf_L11 (K35 : gH → Int32 → gR) : Nat → gH → Nat → Int32 → Int32 → Int32 → Int32 → gR
  | 0, _, _, _, _, _, _ => none
  | n + 1, G, x0, x1, x2, x3, x4 =>
    if x2 ≤ x4 then K35 G x3
    else gOb G x0 1 fun o7 => bI (f_I_keyAt G x0 x1 x4) fun v10 G9 => f_I_keysOf_L11 K35 n G9 x0 x1 x2 (x3 ||| ((nI 1) <<< (v10 &&& 31))) (x4 + (nI 1))
def f_I_keysOf (G : gH) (a0 : Nat) (a1 : Int32) : gR :=
  gOb G a0 1 fun o2 => bI (f_I_lengthOf G a0 a1) fun v5 G4 => f_I_keysOf_L11 (fun G13 x12 => rI x12 G13) zFu G4 a0 a1 v5 (nI 0) (nI 0)
theorem k_I_keysOf_L11 {l : Launch} {D : va_G} {B : Nat} {O : State → Heap → Prop} (hV : zG l D B O) {o : gO} {Gf : gH} (K35 : gH → Int32 → gR) (hK35 : ∀ (G : gH) (x3 : Int32), K35 G x3 = some (o, Gf) → Y (zVm l D B O) m_I_keysOf 4 o Gf 35 [none, none, none, some (.int x3), none] [] G) : ∀ (n : Nat) (G : gH) (x0 : Nat) (x1 : Int32) (x2 : Int32) (x3 : Int32) (x4 : Int32), f_I_keysOf_L11 K35 n G x0 x1 x2 x3 x4 = some (o, Gf) → Y (zVm l D B O) m_I_keysOf 4 o Gf 11 [some (.ref x0), some (.int x1), some (.int x2), some (.int x3), some (.int x4)] [] G := by
  intro n
  induction n with
  | zero => intro G x0 x1 x2 x3 x4 h; cases h
  | succ n ih =>
    intro G x0 x1 x2 x3 x4 h
    unfold f_I_keysOf_L11 at h
    refine Y.blk (pc' := 14) (L' := [some (.ref x0), some (.int x1), some (.int x2), some (.int x3), some (.int x4)]) (st' := [.int x2, .int x4]) (sg := [(.iload 4, 0), (.iload_n 2, 0)]) (by decide +kernel) rfl ?_
    refine Y.ic_ge (off := 21) (tgt := 35) (by decide +kernel) (by decide) h (fun c11 h => ?_) (fun c11 h => ?_)
    · refine Y.less (L' := [none, none, none, some (.int x3), none]) (zLe_none (zLe_none (zLe_none (zLe_some (zLe_none (zLe_nil)))))) ?_
      exact hK35 G x3 h
    · refine Y.blk (pc' := 23) (L' := [some (.ref x0), some (.int x1), some (.int x2), some (.int x3), some (.int x4)]) (st' := [.int x4, .int x1, .ref x0, .int (nI 1), .int x3]) (sg := [(.iload_n 3, 0), (.iconst 1, nI 1), (.aload_n 0, 0), (.iload_n 1, 0), (.iload 4, 0)]) (by decide +kernel) rfl ?_
      obtain ⟨_, o7, e6, m8, h⟩ := gOb_inv h
      refine Y.callI (yC.Vi (b := x0) (As := [.int x1, .int x4]) (st := [.int (nI 1), .int x3]) (r := ("Partlister$Lists", T_I, 7)) hV.1 cb_I_keyAt lk_I_101 in_I_keyAt rfl se_I_keyAt (by decide +kernel) rfl rfl (Nat.le_of_ble_eq_true rfl) (by decide) e6 m8) (k_I_keyAt hV G x0 x1 x4) h (fun v10 G9 _ h => ?_)
      refine Y.blk (pc' := 32) (L' := [some (.ref x0), some (.int x1), some (.int x2), some (.int (x3 ||| ((nI 1) <<< (v10 &&& 31)))), some (.int (x4 + (nI 1)))]) (st' := []) (sg := [(.ishl, 0), (.ior, 0), (.istore_n 3, 0), (.iinc 4 1, nI 1)]) (by decide +kernel) rfl ?_
      refine Y.goto (off := -21) (tgt := 11) (by decide +kernel) (by decide) ?_
      exact ih G9 x0 x1 x2 (x3 ||| ((nI 1) <<< (v10 &&& 31))) (x4 + (nI 1)) h
theorem k_I_keysOf {l : Launch} {D : va_G} {B : Nat} {O : State → Heap → Prop} (hV : zG l D B O) (G : gH) (a0 : Nat) (a1 : Int32) : gMet (zVm l D B O) m_I_keysOf 4 [.ref a0, .int a1] G (f_I_keysOf G a0 a1) := by
  refine gMet.of (by decide +kernel) (Nat.le_of_ble_eq_true rfl) [some (.ref a0), some (.int a1), none, none, none] (fun ls h => zEn_ok (n := 5) h) ?_
  intro o Gf h
  unfold f_I_keysOf at h
  refine Y.blk (pc' := 2) (L' := [some (.ref a0), some (.int a1), none, none, none]) (st' := [.int a1, .ref a0]) (sg := [(.aload_n 0, 0), (.iload_n 1, 0)]) (by decide +kernel) rfl ?_
  obtain ⟨_, o2, e1, m3, h⟩ := gOb_inv h
  refine Y.callI (yC.Vi (b := a0) (As := [.int a1]) (st := []) (r := ("Partlister$Lists", T_I, 7)) hV.1 cb_I_lengthOf lk_I_59 in_I_lengthOf rfl se_I_lengthOf (by decide +kernel) rfl rfl (Nat.le_of_ble_eq_true rfl) (by decide) e1 m3) (k_I_lengthOf hV G a0 a1) h (fun v5 G4 _ h => ?_)
  refine Y.blk (pc' := 11) (L' := [some (.ref a0), some (.int a1), some (.int v5), some (.int (nI 0)), some (.int (nI 0))]) (st' := []) (sg := [(.istore_n 2, 0), (.iconst 0, nI 0), (.istore_n 3, 0), (.iconst 0, nI 0), (.istore 4, 0)]) (by decide +kernel) rfl ?_
  refine k_I_keysOf_L11 hV _ ?_  zFu G4 a0 a1 v5 (nI 0) (nI 0) h
  · intro G13 x12 h
    refine Y.blk (pc' := 36) (L' := [none, none, none, some (.int x12), none]) (st' := [.int x12]) (sg := [(.iload_n 3, 0)]) (by decide +kernel) rfl ?_
    exact Y.iret rfl (by decide +kernel) h

def f_I_shareNoKey (G : gH) (a0 : Nat) (a1 : Int32) (a2 : Int32) : gR :=
  gOb G a0 1 fun o2 => bI (f_I_keysOf G a0 a1) fun v5 G4 => gOb G4 a0 1 fun o7 => bI (f_I_keysOf G4 a0 a2) fun v10 G9 => if (v5 &&& v10) = 0 then rZ (nI 1) G9
  else rZ (nI 0) G9
theorem k_I_shareNoKey {l : Launch} {D : va_G} {B : Nat} {O : State → Heap → Prop} (hV : zG l D B O) (G : gH) (a0 : Nat) (a1 : Int32) (a2 : Int32) : gMet (zVm l D B O) m_I_shareNoKey 5 [.ref a0, .int a1, .int a2] G (f_I_shareNoKey G a0 a1 a2) := by
  refine gMet.of (by decide +kernel) (Nat.le_of_ble_eq_true rfl) [some (.ref a0), some (.int a1), some (.int a2)] (fun ls h => zEn_ok (n := 3) h) ?_
  intro o Gf h
  unfold f_I_shareNoKey at h
  refine Y.blk (pc' := 2) (L' := [some (.ref a0), some (.int a1), some (.int a2)]) (st' := [.int a1, .ref a0]) (sg := [(.aload_n 0, 0), (.iload_n 1, 0)]) (by decide +kernel) rfl ?_
  obtain ⟨_, o2, e1, m3, h⟩ := gOb_inv h
  refine Y.callI (yC.Vi (b := a0) (As := [.int a1]) (st := []) (r := ("Partlister$Lists", T_I, 7)) hV.1 cb_I_keysOf lk_I_104 in_I_keysOf rfl se_I_keysOf (by decide +kernel) rfl rfl (Nat.le_of_ble_eq_true rfl) (by decide) e1 m3) (k_I_keysOf hV G a0 a1) h (fun v5 G4 _ h => ?_)
  refine Y.blk (pc' := 7) (L' := [some (.ref a0), some (.int a1), some (.int a2)]) (st' := [.int a2, .ref a0, .int v5]) (sg := [(.aload_n 0, 0), (.iload_n 2, 0)]) (by decide +kernel) rfl ?_
  obtain ⟨_, o7, e6, m8, h⟩ := gOb_inv h
  refine Y.callI (yC.Vi (b := a0) (As := [.int a2]) (st := [.int v5]) (r := ("Partlister$Lists", T_I, 7)) hV.1 cb_I_keysOf lk_I_104 in_I_keysOf rfl se_I_keysOf (by decide +kernel) rfl rfl (Nat.le_of_ble_eq_true rfl) (by decide) e6 m8) (k_I_keysOf hV G4 a0 a2) h (fun v10 G9 _ h => ?_)
  refine Y.blk (pc' := 11) (L' := [some (.ref a0), some (.int a1), some (.int a2)]) (st' := [.int (v5 &&& v10)]) (sg := [(.iand, 0)]) (by decide +kernel) rfl ?_
  refine Y.if_ne (off := 7) (tgt := 18) (by decide +kernel) (by decide) h (fun c11 h => ?_) (fun c11 h => ?_)
  · refine Y.blk (pc' := 15) (L' := [some (.ref a0), some (.int a1), some (.int a2)]) (st' := [.int (nI 1)]) (sg := [(.iconst 1, nI 1)]) (by decide +kernel) rfl ?_
    refine Y.goto (off := 4) (tgt := 19) (by decide +kernel) (by decide) ?_
    exact Y.zret rfl (by decide +kernel) h
  · refine Y.blk (pc' := 19) (L' := [some (.ref a0), some (.int a1), some (.int a2)]) (st' := [.int (nI 0)]) (sg := [(.iconst 0, nI 0)]) (by decide +kernel) rfl ?_
    exact Y.zret rfl (by decide +kernel) h
