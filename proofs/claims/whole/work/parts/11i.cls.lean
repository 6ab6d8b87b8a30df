def f_X_failWith (G : gH) (a0 : Nat) (a1 : Int32) : gR :=
  gFI G a0 3 3 fun v1 => gPut G a0 3 3 (.int (v1 + (nI 1))) fun G2 => rI a1 G2
theorem k_X_failWith {l : Launch} {D : va_G} {B : Nat} {O : State → Heap → Prop} (hV : zG l D B O) (G : gH) (a0 : Nat) (a1 : Int32) : gMet (zVm l D B O) m_X_failWith 1 [.ref a0, .int a1] G (f_X_failWith G a0 a1) := by
  have hdd : lSa m_X_failWith 0 [(.aload_n 0, 0), (.dup, 0)] = true ∧ lIa m_X_failWith 2 (.getfield 302) 3 = true ∧ lSa m_X_failWith 5 [(.iconst 1, nI 1), (.iadd, 0)] = true ∧ lIa m_X_failWith 7 (.putfield 302) 3 = true ∧ lSa m_X_failWith 10 [(.iload_n 1, 0)] = true ∧ lIa m_X_failWith 11 (.ireturn) 1 = true := by decide +kernel
  obtain ⟨dd0, dd1, dd2, dd3, dd4, dd5⟩ := hdd
  refine gMet.of (by decide +kernel) (Nat.le_of_ble_eq_true rfl) [some (.ref a0), some (.int a1)] (fun ls h => zEn_ok (n := 2) h) ?_
  intro o Gf h
  unfold f_X_failWith at h
  refine Y.blk (pc' := 2) (L' := [some (.ref a0), some (.int a1)]) (st' := [.ref a0, .ref a0]) (sg := [(.aload_n 0, 0), (.dup, 0)]) (lSa_ok dd0) rfl ?_
  refine Y.getI fl_X_302 (lIa_ok dd1) h (fun v1 h => ?_)
  refine Y.blk (pc' := 7) (L' := [some (.ref a0), some (.int a1)]) (st' := [.int (v1 + (nI 1)), .ref a0]) (sg := [(.iconst 1, nI 1), (.iadd, 0)]) (lSa_ok dd2) rfl ?_
  refine Y.putf fl_X_302 (by decide) rfl rfl (lIa_ok dd3) h (fun G2 _ _ h => ?_)
  refine Y.blk (pc' := 11) (L' := [some (.ref a0), some (.int a1)]) (st' := [.int a1]) (sg := [(.iload_n 1, 0)]) (lSa_ok dd4) rfl ?_
  exact Y.iret rfl (lIa_ok dd5) h

def f_X_needCursor (G : gH) (a0 : Nat) (a1 : Int32) : gR :=
  gFA G a0 3 1 fun v1 => gOb G v1 0 fun o3 => bI (f_U_isThere G v1 a1) fun v6 G5 => if v6 = 0 then gThrow "java/lang/IndexOutOfBoundsException" G5
  else rV G5
theorem k_X_needCursor {l : Launch} {D : va_G} {B : Nat} {O : State → Heap → Prop} (hV : zG l D B O) (G : gH) (a0 : Nat) (a1 : Int32) : gMet (zVm l D B O) m_X_needCursor 6 [.ref a0, .int a1] G (f_X_needCursor G a0 a1) := by
  have hdd : lSa m_X_needCursor 0 [(.aload_n 0, 0)] = true ∧ lIa m_X_needCursor 1 (.getfield 19) 3 = true ∧ lSa m_X_needCursor 4 [(.iload_n 1, 0)] = true ∧ lIa m_X_needCursor 5 (.invokevirtual 148) 3 = true ∧ lIa m_X_needCursor 8 (.ifCond .ne 14) 3 = true ∧ lIa m_X_needCursor 11 (.new 125) 3 = true ∧ lIa m_X_needCursor 14 (.dup) 1 = true ∧ lIa m_X_needCursor 15 (.ldc_w 335) 3 = true ∧ lIa m_X_needCursor 18 (.invokespecial 129) 3 = true ∧ lIa m_X_needCursor 21 (.athrow) 1 = true ∧ lIa m_X_needCursor 22 (.return_) 1 = true := by decide +kernel
  refine lA8 hdd (fun dd0 dd1 dd2 dd3 dd4 dd5 dd6 dd7 hdd => ?_)
  obtain ⟨dd8, dd9, dd10⟩ := hdd
  refine gMet.of (by decide +kernel) (Nat.le_of_ble_eq_true rfl) [some (.ref a0), some (.int a1)] (fun ls h => zEn_ok (n := 2) h) ?_
  intro o Gf h
  unfold f_X_needCursor at h
  refine Y.blk (pc' := 1) (L' := [some (.ref a0), some (.int a1)]) (st' := [.ref a0]) (sg := [(.aload_n 0, 0)]) (lSa_ok dd0) rfl ?_
  refine Y.getA fl_X_19 (lIa_ok dd1) h (fun v1 h => ?_)
  refine Y.blk (pc' := 5) (L' := [some (.ref a0), some (.int a1)]) (st' := [.int a1, .ref v1]) (sg := [(.iload_n 1, 0)]) (lSa_ok dd2) rfl ?_
  obtain ⟨_, o3, e2, m4, h⟩ := gOb_inv h
  refine Y.callI (yC.Vi (b := v1) (As := [.int a1]) (st := []) (r := ("Partlister$Cursors", T_U, 5)) hV.1 cb_U_isThere lk_X_148 in_U_isThere rfl se_U_isThere (lIa_ok dd3) rfl rfl (Nat.le_of_ble_eq_true rfl) (by decide) e2 m4) (k_U_isThere hV G v1 a1) h (fun v6 G5 _ h => ?_)
  refine Y.if_ne (off := 14) (tgt := 22) (lIa_ok dd4) (by decide) h (fun c7 h => ?_) (fun c7 h => ?_)
  · exact Y.throwSW (is := 335) (text := "there is no such CURSOR") (names := zNm) hV.1 (hV.2 _ _ _ (by decide +kernel)) (by decide +kernel) (by decide +kernel) ck_X_125 ini_IOE tw_X_129 tg_X_129 (by decide) (by decide) rfl (Nat.le_of_ble_eq_true rfl) (lIa_ok dd5) (lIa_ok dd6) (lIa_ok dd7) (lIa_ok dd8) (lIa_ok dd9) h
  · exact Y.vret rfl (lIa_ok dd10) h

def f_I_closeGap_L27 (K56 : gH → Nat → Int32 → gR) : Nat → gH → Nat → Int32 → Int32 → Int32 → Int32 → gR
  | 0, _, _, _, _, _, _ => none
  | n + 1, G, x0, x1, x3, x4, x5 =>
    if x4 ≤ x5 then K56 G x0 x1
    else gOb G x0 1 fun o18 => bI (f_I_thingAt G x0 x3 x5) fun v21 G20 => gOb G20 x0 1 fun o23 => bV (f_I_write G20 x0 x3 (x5 - (nI 1)) v21) fun G25 => f_I_closeGap_L27 K56 n G25 x0 x1 x3 x4 (x5 + (nI 1))
def f_I_closeGap (G : gH) (a0 : Nat) (a1 : Int32) (a2 : Int32) : gR :=
  gOb G a0 1 fun o2 => bI (f_I_rowOf G a0 a1) fun v5 G4 => gOb G4 a0 1 fun o7 => bI (f_I_lengthOf G4 a0 v5) fun v10 G9 => gFA G9 a0 1 4 fun v11 => gOb G9 v11 2 fun o13 => bI (f_N_read G9 v11 a1) fun v16 G15 => f_I_closeGap_L27 (fun G29 x27 x28 => gOb G29 x27 1 fun o31 => bV (f_I_lengthen G29 x27 x28 (-1)) fun G33 => rV G33) zFu G15 a0 a1 v5 v10 ((v16 + a2) + (nI 1))
theorem k_I_closeGap_L27 {l : Launch} {D : va_G} {B : Nat} {O : State → Heap → Prop} (hV : zG l D B O) {o : gO} {Gf : gH} (K56 : gH → Nat → Int32 → gR) (hK56 : ∀ (G : gH) (x0 : Nat) (x1 : Int32), K56 G x0 x1 = some (o, Gf) → Y (zVm l D B O) m_I_closeGap 4 o Gf 56 [some (.ref x0), some (.int x1), none, none, none, none] [] G) : ∀ (n : Nat) (G : gH) (x0 : Nat) (x1 : Int32) (x3 : Int32) (x4 : Int32) (x5 : Int32), f_I_closeGap_L27 K56 n G x0 x1 x3 x4 x5 = some (o, Gf) → Y (zVm l D B O) m_I_closeGap 4 o Gf 27 [some (.ref x0), some (.int x1), none, some (.int x3), some (.int x4), some (.int x5)] [] G := by
  have hdd : lSa m_I_closeGap 27 [(.iload 5, 0), (.iload 4, 0)] = true ∧ lIa m_I_closeGap 31 (.if_icmp .ge 25) 3 = true ∧ lSa m_I_closeGap 34 [(.aload_n 0, 0), (.iload_n 3, 0), (.iload 5, 0), (.iconst 1, nI 1), (.isub, 0), (.aload_n 0, 0), (.iload_n 3, 0), (.iload 5, 0)] = true ∧ lIa m_I_closeGap 44 (.invokevirtual 50) 3 = true ∧ lIa m_I_closeGap 47 (.invokevirtual 53) 3 = true ∧ lSa m_I_closeGap 50 [(.iinc 5 1, nI 1)] = true ∧ lIa m_I_closeGap 53 (.goto (-26)) 3 = true := by decide +kernel
  obtain ⟨dd0, dd1, dd2, dd3, dd4, dd5, dd6⟩ := hdd
  intro n
  induction n with
  | zero => intro G x0 x1 x3 x4 x5 h; cases h
  | succ n ih =>
    intro G x0 x1 x3 x4 x5 h
    unfold f_I_closeGap_L27 at h
    refine Y.blk (pc' := 31) (L' := [some (.ref x0), some (.int x1), none, some (.int x3), some (.int x4), some (.int x5)]) (st' := [.int x4, .int x5]) (sg := [(.iload 5, 0), (.iload 4, 0)]) (lSa_ok dd0) rfl ?_
    refine Y.ic_ge (off := 25) (tgt := 56) (lIa_ok dd1) (by decide) h (fun c26 h => ?_) (fun c26 h => ?_)
    · refine Y.less (L' := [some (.ref x0), some (.int x1), none, none, none, none]) (zLe_some (zLe_some (zLe_some (zLe_none (zLe_none (zLe_none (zLe_nil))))))) ?_
      exact hK56 G x0 x1 h
    · refine Y.blk (pc' := 44) (L' := [some (.ref x0), some (.int x1), none, some (.int x3), some (.int x4), some (.int x5)]) (st' := [.int x5, .int x3, .ref x0, .int (x5 - (nI 1)), .int x3, .ref x0]) (sg := [(.aload_n 0, 0), (.iload_n 3, 0), (.iload 5, 0), (.iconst 1, nI 1), (.isub, 0), (.aload_n 0, 0), (.iload_n 3, 0), (.iload 5, 0)]) (lSa_ok dd2) rfl ?_
      obtain ⟨_, o18, e17, m19, h⟩ := gOb_inv h
      refine Y.callI (yC.Vi (b := x0) (As := [.int x3, .int x5]) (st := [.int (x5 - (nI 1)), .int x3, .ref x0]) (r := ("Partlister$Lists", T_I, 7)) hV.1 cb_I_thingAt lk_I_50 in_I_thingAt rfl se_I_thingAt (lIa_ok dd3) rfl rfl (Nat.le_of_ble_eq_true rfl) (by decide) e17 m19) (k_I_thingAt hV G x0 x3 x5) h (fun v21 G20 _ h => ?_)
      obtain ⟨_, o23, e22, m24, h⟩ := gOb_inv h
      refine Y.callN (yC.Vi (b := x0) (As := [.int x3, .int (x5 - (nI 1)), .int v21]) (st := []) (r := ("Partlister$Lists", T_I, 7)) hV.1 cb_I_write lk_I_53 in_I_write rfl se_I_write (lIa_ok dd4) rfl rfl (Nat.le_of_ble_eq_true rfl) (by decide) e22 m24) (k_I_write hV G20 x0 x3 (x5 - (nI 1)) v21) h (fun G25 _ h => ?_)
      refine Y.blk (pc' := 53) (L' := [some (.ref x0), some (.int x1), none, some (.int x3), some (.int x4), some (.int (x5 + (nI 1)))]) (st' := []) (sg := [(.iinc 5 1, nI 1)]) (lSa_ok dd5) rfl ?_
      refine Y.goto (off := -26) (tgt := 27) (lIa_ok dd6) (by decide) ?_
      exact ih G25 x0 x1 x3 x4 (x5 + (nI 1)) h
theorem k_I_closeGap {l : Launch} {D : va_G} {B : Nat} {O : State → Heap → Prop} (hV : zG l D B O) (G : gH) (a0 : Nat) (a1 : Int32) (a2 : Int32) : gMet (zVm l D B O) m_I_closeGap 4 [.ref a0, .int a1, .int a2] G (f_I_closeGap G a0 a1 a2) := by
  have hdd : lSa m_I_closeGap 0 [(.aload_n 0, 0), (.iload_n 1, 0)] = true ∧ lIa m_I_closeGap 2 (.invokevirtual 56) 3 = true ∧ lSa m_I_closeGap 5 [(.istore_n 3, 0), (.aload_n 0, 0), (.iload_n 3, 0)] = true ∧ lIa m_I_closeGap 8 (.invokevirtual 59) 3 = true ∧ lSa m_I_closeGap 11 [(.istore 4, 0), (.aload_n 0, 0)] = true ∧ lIa m_I_closeGap 14 (.getfield 29) 3 = true ∧ lSa m_I_closeGap 17 [(.iload_n 1, 0)] = true ∧ lIa m_I_closeGap 18 (.invokevirtual 39) 3 = true ∧ lSa m_I_closeGap 21 [(.iload_n 2, 0), (.iadd, 0), (.iconst 1, nI 1), (.iadd, 0), (.istore 5, 0)] = true ∧ lSa m_I_closeGap 56 [(.aload_n 0, 0), (.iload_n 1, 0), (.iconst (-1), -1)] = true ∧ lIa m_I_closeGap 59 (.invokevirtual 62) 3 = true ∧ lIa m_I_closeGap 62 (.return_) 1 = true := by decide +kernel
  refine lA8 hdd (fun dd0 dd1 dd2 dd3 dd4 dd5 dd6 dd7 hdd => ?_)
  obtain ⟨dd8, dd9, dd10, dd11⟩ := hdd
  refine gMet.of (by decide +kernel) (Nat.le_of_ble_eq_true rfl) [some (.ref a0), some (.int a1), some (.int a2), none, none, none] (fun ls h => zEn_ok (n := 6) h) ?_
  intro o Gf h
  unfold f_I_closeGap at h
  refine Y.blk (pc' := 2) (L' := [some (.ref a0), some (.int a1), some (.int a2), none, none, none]) (st' := [.int a1, .ref a0]) (sg := [(.aload_n 0, 0), (.iload_n 1, 0)]) (lSa_ok dd0) rfl ?_
  obtain ⟨_, o2, e1, m3, h⟩ := gOb_inv h
  refine Y.callI (yC.Vi (b := a0) (As := [.int a1]) (st := []) (r := ("Partlister$Lists", T_I, 7)) hV.1 cb_I_rowOf lk_I_56 in_I_rowOf rfl se_I_rowOf (lIa_ok dd1) rfl rfl (Nat.le_of_ble_eq_true rfl) (by decide) e1 m3) (k_I_rowOf hV G a0 a1) h (fun v5 G4 _ h => ?_)
  refine Y.blk (pc' := 8) (L' := [some (.ref a0), some (.int a1), some (.int a2), some (.int v5), none, none]) (st' := [.int v5, .ref a0]) (sg := [(.istore_n 3, 0), (.aload_n 0, 0), (.iload_n 3, 0)]) (lSa_ok dd2) rfl ?_
  obtain ⟨_, o7, e6, m8, h⟩ := gOb_inv h
  refine Y.callI (yC.Vi (b := a0) (As := [.int v5]) (st := []) (r := ("Partlister$Lists", T_I, 7)) hV.1 cb_I_lengthOf lk_I_59 in_I_lengthOf rfl se_I_lengthOf (lIa_ok dd3) rfl rfl (Nat.le_of_ble_eq_true rfl) (by decide) e6 m8) (k_I_lengthOf hV G4 a0 v5) h (fun v10 G9 _ h => ?_)
  refine Y.blk (pc' := 14) (L' := [some (.ref a0), some (.int a1), some (.int a2), some (.int v5), some (.int v10), none]) (st' := [.ref a0]) (sg := [(.istore 4, 0), (.aload_n 0, 0)]) (lSa_ok dd4) rfl ?_
  refine Y.getA fl_I_29 (lIa_ok dd5) h (fun v11 h => ?_)
  refine Y.blk (pc' := 18) (L' := [some (.ref a0), some (.int a1), some (.int a2), some (.int v5), some (.int v10), none]) (st' := [.int a1, .ref v11]) (sg := [(.iload_n 1, 0)]) (lSa_ok dd6) rfl ?_
  obtain ⟨_, o13, e12, m14, h⟩ := gOb_inv h
  refine Y.callI (yC.Vi (b := v11) (As := [.int a1]) (st := []) (r := ("Partlister$Numbers", T_N, 1)) hV.1 cb_N_read lk_I_39 in_N_read rfl se_N_read (lIa_ok dd7) rfl rfl (Nat.le_of_ble_eq_true rfl) (by decide) e12 m14) (k_N_read hV G9 v11 a1) h (fun v16 G15 _ h => ?_)
  refine Y.blk (pc' := 27) (L' := [some (.ref a0), some (.int a1), some (.int a2), some (.int v5), some (.int v10), some (.int ((v16 + a2) + (nI 1)))]) (st' := []) (sg := [(.iload_n 2, 0), (.iadd, 0), (.iconst 1, nI 1), (.iadd, 0), (.istore 5, 0)]) (lSa_ok dd8) rfl ?_
  refine Y.less (L' := [some (.ref a0), some (.int a1), none, some (.int v5), some (.int v10), some (.int ((v16 + a2) + (nI 1)))]) (zLe_some (zLe_some (zLe_none (zLe_some (zLe_some (zLe_some (zLe_nil))))))) ?_
  refine k_I_closeGap_L27 hV _ ?_  zFu G15 a0 a1 v5 v10 ((v16 + a2) + (nI 1)) h
  · intro G29 x27 x28 h
    refine Y.blk (pc' := 59) (L' := [some (.ref x27), some (.int x28), none, none, none, none]) (st' := [.int (-1), .int x28, .ref x27]) (sg := [(.aload_n 0, 0), (.iload_n 1, 0), (.iconst (-1), -1)]) (lSa_ok dd9) rfl ?_
    obtain ⟨_, o31, e30, m32, h⟩ := gOb_inv h
    refine Y.callN (yC.Vi (b := x27) (As := [.int x28, .int (-1)]) (st := []) (r := ("Partlister$Lists", T_I, 7)) hV.1 cb_I_lengthen lk_I_62 in_I_lengthen rfl se_I_lengthen (lIa_ok dd10) rfl rfl (Nat.le_of_ble_eq_true rfl) (by decide) e30 m32) (k_I_lengthen hV G29 x27 x28 (-1)) h (fun G33 _ h => ?_)
    exact Y.vret rfl (lIa_ok dd11) h

def f_X_takeOut (G : gH) (a0 : Nat) (a1 : Int32) (a2 : Int32) (a3 : Int32) : gR :=
  gFA G a0 3 0 fun v1 => gOb G v1 1 fun o3 => bI (f_I_thingAt G v1 a1 a2) fun v6 G5 => gFA G5 a0 3 0 fun v7 => gOb G5 v7 1 fun o9 => bV (f_I_closeGap G5 v7 a1 a2) fun G11 => gOb G11 a0 3 fun o13 => bV (f_X_endByLength G11 a0 a1 a3) fun G15 => rI v6 G15
theorem k_X_takeOut {l : Launch} {D : va_G} {B : Nat} {O : State → Heap → Prop} (hV : zG l D B O) (G : gH) (a0 : Nat) (a1 : Int32) (a2 : Int32) (a3 : Int32) : gMet (zVm l D B O) m_X_takeOut 6 [.ref a0, .int a1, .int a2, .int a3] G (f_X_takeOut G a0 a1 a2 a3) := by
  have hdd : lSa m_X_takeOut 0 [(.aload_n 0, 0)] = true ∧ lIa m_X_takeOut 1 (.getfield 10) 3 = true ∧ lSa m_X_takeOut 4 [(.iload_n 1, 0), (.iload_n 2, 0)] = true ∧ lIa m_X_takeOut 6 (.invokevirtual 94) 3 = true ∧ lSa m_X_takeOut 9 [(.istore 4, 0), (.aload_n 0, 0)] = true ∧ lIa m_X_takeOut 12 (.getfield 10) 3 = true ∧ lSa m_X_takeOut 15 [(.iload_n 1, 0), (.iload_n 2, 0)] = true ∧ lIa m_X_takeOut 17 (.invokevirtual 284) 3 = true ∧ lSa m_X_takeOut 20 [(.aload_n 0, 0), (.iload_n 1, 0), (.iload_n 3, 0)] = true ∧ lIa m_X_takeOut 23 (.invokevirtual 281) 3 = true ∧ lSa m_X_takeOut 26 [(.iload 4, 0)] = true ∧ lIa m_X_takeOut 28 (.ireturn) 1 = true := by decide +kernel
  refine lA8 hdd (fun dd0 dd1 dd2 dd3 dd4 dd5 dd6 dd7 hdd => ?_)
  obtain ⟨dd8, dd9, dd10, dd11⟩ := hdd
  refine gMet.of (by decide +kernel) (Nat.le_of_ble_eq_true rfl) [some (.ref a0), some (.int a1), some (.int a2), some (.int a3), none] (fun ls h => zEn_ok (n := 5) h) ?_
  intro o Gf h
  unfold f_X_takeOut at h
  refine Y.blk (pc' := 1) (L' := [some (.ref a0), some (.int a1), some (.int a2), some (.int a3), none]) (st' := [.ref a0]) (sg := [(.aload_n 0, 0)]) (lSa_ok dd0) rfl ?_
  refine Y.getA fl_X_10 (lIa_ok dd1) h (fun v1 h => ?_)
  refine Y.blk (pc' := 6) (L' := [some (.ref a0), some (.int a1), some (.int a2), some (.int a3), none]) (st' := [.int a2, .int a1, .ref v1]) (sg := [(.iload_n 1, 0), (.iload_n 2, 0)]) (lSa_ok dd2) rfl ?_
  obtain ⟨_, o3, e2, m4, h⟩ := gOb_inv h
  refine Y.callI (yC.Vi (b := v1) (As := [.int a1, .int a2]) (st := []) (r := ("Partlister$Lists", T_I, 7)) hV.1 cb_I_thingAt lk_X_94 in_I_thingAt rfl se_I_thingAt (lIa_ok dd3) rfl rfl (Nat.le_of_ble_eq_true rfl) (by decide) e2 m4) (k_I_thingAt hV G v1 a1 a2) h (fun v6 G5 _ h => ?_)
  refine Y.blk (pc' := 12) (L' := [some (.ref a0), some (.int a1), some (.int a2), some (.int a3), some (.int v6)]) (st' := [.ref a0]) (sg := [(.istore 4, 0), (.aload_n 0, 0)]) (lSa_ok dd4) rfl ?_
  refine Y.getA fl_X_10 (lIa_ok dd5) h (fun v7 h => ?_)
  refine Y.blk (pc' := 17) (L' := [some (.ref a0), some (.int a1), some (.int a2), some (.int a3), some (.int v6)]) (st' := [.int a2, .int a1, .ref v7]) (sg := [(.iload_n 1, 0), (.iload_n 2, 0)]) (lSa_ok dd6) rfl ?_
  obtain ⟨_, o9, e8, m10, h⟩ := gOb_inv h
  refine Y.callN (yC.Vi (b := v7) (As := [.int a1, .int a2]) (st := []) (r := ("Partlister$Lists", T_I, 7)) hV.1 cb_I_closeGap lk_X_284 in_I_closeGap rfl se_I_closeGap (lIa_ok dd7) rfl rfl (Nat.le_of_ble_eq_true rfl) (by decide) e8 m10) (k_I_closeGap hV G5 v7 a1 a2) h (fun G11 _ h => ?_)
  refine Y.blk (pc' := 23) (L' := [some (.ref a0), some (.int a1), some (.int a2), some (.int a3), some (.int v6)]) (st' := [.int a3, .int a1, .ref a0]) (sg := [(.aload_n 0, 0), (.iload_n 1, 0), (.iload_n 3, 0)]) (lSa_ok dd8) rfl ?_
  obtain ⟨_, o13, e12, m14, h⟩ := gOb_inv h
  refine Y.callN (yC.Vi (b := a0) (As := [.int a1, .int a3]) (st := []) (r := ("Partlister", T_X, 5)) hV.1 cb_X_endByLength lk_X_281 in_X_endByLength rfl se_X_endByLength (lIa_ok dd9) rfl rfl (Nat.le_of_ble_eq_true rfl) (by decide) e12 m14) (k_X_endByLength hV G11 a0 a1 a3) h (fun G15 _ h => ?_)
  refine Y.blk (pc' := 28) (L' := [some (.ref a0), some (.int a1), some (.int a2), some (.int a3), some (.int v6)]) (st' := [.int v6]) (sg := [(.iload 4, 0)]) (lSa_ok dd10) rfl ?_
  exact Y.iret rfl (lIa_ok dd11) h

def f_X_drop (G : gH) (a0 : Nat) (a1 : Int32) : gR :=
  gOb G a0 3 fun o2 => bV (f_X_needCursor G a0 a1) fun G4 => gFA G4 a0 3 1 fun v5 => gOb G4 v5 0 fun o7 => bI (f_U_isStale G4 v5 a1) fun v10 G9 => if v10 = 0 then (gFA G9 a0 3 1 fun v11 => gOb G9 v11 0 fun o13 => bI (f_U_lastOf G9 v11 a1) fun v16 G15 => if v16 = (-1) then gOb G15 a0 3 fun o18 => bI (f_X_failWith G15 a0 (-7)) fun v21 G20 => rI v21 G20
    else gFA G15 a0 3 1 fun v22 => gOb G15 v22 0 fun o24 => bI (f_U_listOf G15 v22 a1) fun v27 G26 => gOb G26 a0 3 fun o29 => bI (f_X_takeOut G26 a0 v27 v16 a1) fun v32 G31 => gFA G31 a0 3 1 fun v33 => gOb G31 v33 0 fun o35 => bV (f_U_stand G31 v33 a1 v16 (-1)) fun G37 => gFA G37 a0 3 0 fun v38 => gOb G37 v38 1 fun o40 => bI (f_I_lengthOf G37 v38 v27) fun v43 G42 => rI v43 G42)
  else gOb G9 a0 3 fun o46 => bI (f_X_failWith G9 a0 (-9)) fun v49 G48 => rI v49 G48
theorem k_X_drop {l : Launch} {D : va_G} {B : Nat} {O : State → Heap → Prop} (hV : zG l D B O) (G : gH) (a0 : Nat) (a1 : Int32) : gMet (zVm l D B O) m_X_drop 7 [.ref a0, .int a1] G (f_X_drop G a0 a1) := by
  have hdd : lSa m_X_drop 0 [(.aload_n 0, 0), (.iload_n 1, 0)] = true ∧ lIa m_X_drop 2 (.invokevirtual 167) 3 = true ∧ lSa m_X_drop 5 [(.aload_n 0, 0)] = true ∧ lIa m_X_drop 6 (.getfield 19) 3 = true ∧ lSa m_X_drop 9 [(.iload_n 1, 0)] = true ∧ lIa m_X_drop 10 (.invokevirtual 170) 3 = true ∧ lIa m_X_drop 13 (.ifCond .eq 10) 3 = true ∧ lSa m_X_drop 23 [(.aload_n 0, 0)] = true ∧ lIa m_X_drop 24 (.getfield 19) 3 = true ∧ lSa m_X_drop 27 [(.iload_n 1, 0)] = true ∧ lIa m_X_drop 28 (.invokevirtual 182) 3 = true ∧ lSa m_X_drop 31 [(.istore_n 2, 0), (.iload_n 2, 0), (.iconst (-1), -1)] = true ∧ lIa m_X_drop 34 (.if_icmp .ne 10) 3 = true ∧ lSa m_X_drop 37 [(.aload_n 0, 0), (.bipush (-7), -7)] = true ∧ lIa m_X_drop 40 (.invokevirtual 173) 3 = true ∧ lIa m_X_drop 43 (.ireturn) 1 = true ∧ lSa m_X_drop 44 [(.aload_n 0, 0)] = true ∧ lIa m_X_drop 45 (.getfield 19) 3 = true ∧ lSa m_X_drop 48 [(.iload_n 1, 0)] = true ∧ lIa m_X_drop 49 (.invokevirtual 152) 3 = true ∧ lSa m_X_drop 52 [(.istore_n 3, 0), (.aload_n 0, 0), (.iload_n 3, 0), (.iload_n 2, 0), (.iload_n 1, 0)] = true ∧ lIa m_X_drop 57 (.invokevirtual 69) 3 = true ∧ lSa m_X_drop 60 [(.pop, 0), (.aload_n 0, 0)] = true ∧ lIa m_X_drop 62 (.getfield 19) 3 = true ∧ lSa m_X_drop 65 [(.iload_n 1, 0), (.iload_n 2, 0), (.iconst (-1), -1)] = true ∧ lIa m_X_drop 68 (.invokevirtual 179) 3 = true ∧ lSa m_X_drop 71 [(.aload_n 0, 0)] = true ∧ lIa m_X_drop 72 (.getfield 10) 3 = true ∧ lSa m_X_drop 75 [(.iload_n 3, 0)] = true ∧ lIa m_X_drop 76 (.invokevirtual 34) 3 = true ∧ lIa m_X_drop 79 (.ireturn) 1 = true ∧ lSa m_X_drop 16 [(.aload_n 0, 0), (.bipush (-9), -9)] = true ∧ lIa m_X_drop 19 (.invokevirtual 173) 3 = true ∧ lIa m_X_drop 22 (.ireturn) 1 = true := by decide +kernel
  refine lA8 hdd (fun dd0 dd1 dd2 dd3 dd4 dd5 dd6 dd7 hdd => ?_)
  refine lA8 hdd (fun dd8 dd9 dd10 dd11 dd12 dd13 dd14 dd15 hdd => ?_)
  refine lA8 hdd (fun dd16 dd17 dd18 dd19 dd20 dd21 dd22 dd23 hdd => ?_)
  refine lA8 hdd (fun dd24 dd25 dd26 dd27 dd28 dd29 dd30 dd31 hdd => ?_)
  obtain ⟨dd32, dd33⟩ := hdd
  refine gMet.of (by decide +kernel) (Nat.le_of_ble_eq_true rfl) [some (.ref a0), some (.int a1), none, none] (fun ls h => zEn_ok (n := 4) h) ?_
  intro o Gf h
  unfold f_X_drop at h
  refine Y.blk (pc' := 2) (L' := [some (.ref a0), some (.int a1), none, none]) (st' := [.int a1, .ref a0]) (sg := [(.aload_n 0, 0), (.iload_n 1, 0)]) (lSa_ok dd0) rfl ?_
  obtain ⟨_, o2, e1, m3, h⟩ := gOb_inv h
  refine Y.callN (yC.Vi (b := a0) (As := [.int a1]) (st := []) (r := ("Partlister", T_X, 5)) hV.1 cb_X_needCursor lk_X_167 in_X_needCursor rfl se_X_needCursor (lIa_ok dd1) rfl rfl (Nat.le_of_ble_eq_true rfl) (by decide) e1 m3) (k_X_needCursor hV G a0 a1) h (fun G4 _ h => ?_)
  refine Y.blk (pc' := 6) (L' := [some (.ref a0), some (.int a1), none, none]) (st' := [.ref a0]) (sg := [(.aload_n 0, 0)]) (lSa_ok dd2) rfl ?_
  refine Y.getA fl_X_19 (lIa_ok dd3) h (fun v5 h => ?_)
  refine Y.blk (pc' := 10) (L' := [some (.ref a0), some (.int a1), none, none]) (st' := [.int a1, .ref v5]) (sg := [(.iload_n 1, 0)]) (lSa_ok dd4) rfl ?_
  obtain ⟨_, o7, e6, m8, h⟩ := gOb_inv h
  refine Y.callI (yC.Vi (b := v5) (As := [.int a1]) (st := []) (r := ("Partlister$Cursors", T_U, 5)) hV.1 cb_U_isStale lk_X_170 in_U_isStale rfl se_U_isStale (lIa_ok dd5) rfl rfl (Nat.le_of_ble_eq_true rfl) (by decide) e6 m8) (k_U_isStale hV G4 v5 a1) h (fun v10 G9 _ h => ?_)
  refine Y.if_eq (off := 10) (tgt := 23) (lIa_ok dd6) (by decide) h (fun c50 h => ?_) (fun c50 h => ?_)
  · refine Y.blk (pc' := 24) (L' := [some (.ref a0), some (.int a1), none, none]) (st' := [.ref a0]) (sg := [(.aload_n 0, 0)]) (lSa_ok dd7) rfl ?_
    refine Y.getA fl_X_19 (lIa_ok dd8) h (fun v11 h => ?_)
    refine Y.blk (pc' := 28) (L' := [some (.ref a0), some (.int a1), none, none]) (st' := [.int a1, .ref v11]) (sg := [(.iload_n 1, 0)]) (lSa_ok dd9) rfl ?_
    obtain ⟨_, o13, e12, m14, h⟩ := gOb_inv h
    refine Y.callI (yC.Vi (b := v11) (As := [.int a1]) (st := []) (r := ("Partlister$Cursors", T_U, 5)) hV.1 cb_U_lastOf lk_X_182 in_U_lastOf rfl se_U_lastOf (lIa_ok dd10) rfl rfl (Nat.le_of_ble_eq_true rfl) (by decide) e12 m14) (k_U_lastOf hV G9 v11 a1) h (fun v16 G15 _ h => ?_)
    refine Y.blk (pc' := 34) (L' := [some (.ref a0), some (.int a1), some (.int v16), none]) (st' := [.int (-1), .int v16]) (sg := [(.istore_n 2, 0), (.iload_n 2, 0), (.iconst (-1), -1)]) (lSa_ok dd11) rfl ?_
    refine Y.ic_ne (off := 10) (tgt := 44) (lIa_ok dd12) (by decide) h (fun c44 h => ?_) (fun c44 h => ?_)
    · refine Y.blk (pc' := 40) (L' := [some (.ref a0), some (.int a1), some (.int v16), none]) (st' := [.int (-7), .ref a0]) (sg := [(.aload_n 0, 0), (.bipush (-7), -7)]) (lSa_ok dd13) rfl ?_
      obtain ⟨_, o18, e17, m19, h⟩ := gOb_inv h
      refine Y.callI (yC.Vi (b := a0) (As := [.int (-7)]) (st := []) (r := ("Partlister", T_X, 5)) hV.1 cb_X_failWith lk_X_173 in_X_failWith rfl se_X_failWith (lIa_ok dd14) rfl rfl (Nat.le_of_ble_eq_true rfl) (by decide) e17 m19) (k_X_failWith hV G15 a0 (-7)) h (fun v21 G20 _ h => ?_)
      exact Y.iret rfl (lIa_ok dd15) h
    · refine Y.blk (pc' := 45) (L' := [some (.ref a0), some (.int a1), some (.int v16), none]) (st' := [.ref a0]) (sg := [(.aload_n 0, 0)]) (lSa_ok dd16) rfl ?_
      refine Y.getA fl_X_19 (lIa_ok dd17) h (fun v22 h => ?_)
      refine Y.blk (pc' := 49) (L' := [some (.ref a0), some (.int a1), some (.int v16), none]) (st' := [.int a1, .ref v22]) (sg := [(.iload_n 1, 0)]) (lSa_ok dd18) rfl ?_
      obtain ⟨_, o24, e23, m25, h⟩ := gOb_inv h
      refine Y.callI (yC.Vi (b := v22) (As := [.int a1]) (st := []) (r := ("Partlister$Cursors", T_U, 5)) hV.1 cb_U_listOf lk_X_152 in_U_listOf rfl se_U_listOf (lIa_ok dd19) rfl rfl (Nat.le_of_ble_eq_true rfl) (by decide) e23 m25) (k_U_listOf hV G15 v22 a1) h (fun v27 G26 _ h => ?_)
      refine Y.blk (pc' := 57) (L' := [some (.ref a0), some (.int a1), some (.int v16), some (.int v27)]) (st' := [.int a1, .int v16, .int v27, .ref a0]) (sg := [(.istore_n 3, 0), (.aload_n 0, 0), (.iload_n 3, 0), (.iload_n 2, 0), (.iload_n 1, 0)]) (lSa_ok dd20) rfl ?_
      obtain ⟨_, o29, e28, m30, h⟩ := gOb_inv h
      refine Y.callI (yC.Vi (b := a0) (As := [.int v27, .int v16, .int a1]) (st := []) (r := ("Partlister", T_X, 5)) hV.1 cb_X_takeOut lk_X_69 in_X_takeOut rfl se_X_takeOut (lIa_ok dd21) rfl rfl (Nat.le_of_ble_eq_true rfl) (by decide) e28 m30) (k_X_takeOut hV G26 a0 v27 v16 a1) h (fun v32 G31 _ h => ?_)
      refine Y.blk (pc' := 62) (L' := [some (.ref a0), some (.int a1), some (.int v16), some (.int v27)]) (st' := [.ref a0]) (sg := [(.pop, 0), (.aload_n 0, 0)]) (lSa_ok dd22) rfl ?_
      refine Y.getA fl_X_19 (lIa_ok dd23) h (fun v33 h => ?_)
      refine Y.blk (pc' := 68) (L' := [some (.ref a0), some (.int a1), some (.int v16), some (.int v27)]) (st' := [.int (-1), .int v16, .int a1, .ref v33]) (sg := [(.iload_n 1, 0), (.iload_n 2, 0), (.iconst (-1), -1)]) (lSa_ok dd24) rfl ?_
      obtain ⟨_, o35, e34, m36, h⟩ := gOb_inv h
      refine Y.callN (yC.Vi (b := v33) (As := [.int a1, .int v16, .int (-1)]) (st := []) (r := ("Partlister$Cursors", T_U, 5)) hV.1 cb_U_stand lk_X_179 in_U_stand rfl se_U_stand (lIa_ok dd25) rfl rfl (Nat.le_of_ble_eq_true rfl) (by decide) e34 m36) (k_U_stand hV G31 v33 a1 v16 (-1)) h (fun G37 _ h => ?_)
      refine Y.blk (pc' := 72) (L' := [some (.ref a0), some (.int a1), some (.int v16), some (.int v27)]) (st' := [.ref a0]) (sg := [(.aload_n 0, 0)]) (lSa_ok dd26) rfl ?_
      refine Y.getA fl_X_10 (lIa_ok dd27) h (fun v38 h => ?_)
      refine Y.blk (pc' := 76) (L' := [some (.ref a0), some (.int a1), some (.int v16), some (.int v27)]) (st' := [.int v27, .ref v38]) (sg := [(.iload_n 3, 0)]) (lSa_ok dd28) rfl ?_
      obtain ⟨_, o40, e39, m41, h⟩ := gOb_inv h
      refine Y.callI (yC.Vi (b := v38) (As := [.int v27]) (st := []) (r := ("Partlister$Lists", T_I, 7)) hV.1 cb_I_lengthOf lk_X_34 in_I_lengthOf rfl se_I_lengthOf (lIa_ok dd29) rfl rfl (Nat.le_of_ble_eq_true rfl) (by decide) e39 m41) (k_I_lengthOf hV G37 v38 v27) h (fun v43 G42 _ h => ?_)
      exact Y.iret rfl (lIa_ok dd30) h
  · refine Y.blk (pc' := 19) (L' := [some (.ref a0), some (.int a1), none, none]) (st' := [.int (-9), .ref a0]) (sg := [(.aload_n 0, 0), (.bipush (-9), -9)]) (lSa_ok dd31) rfl ?_
    obtain ⟨_, o46, e45, m47, h⟩ := gOb_inv h
    refine Y.callI (yC.Vi (b := a0) (As := [.int (-9)]) (st := []) (r := ("Partlister", T_X, 5)) hV.1 cb_X_failWith lk_X_173 in_X_failWith rfl se_X_failWith (lIa_ok dd32) rfl rfl (Nat.le_of_ble_eq_true rfl) (by decide) e45 m47) (k_X_failWith hV G9 a0 (-9)) h (fun v49 G48 _ h => ?_)
    exact Y.iret rfl (lIa_ok dd33) h

def f_X_end (G : gH) (a0 : Nat) (a1 : Int32) : gR :=
  gOb G a0 3 fun o2 => bV (f_X_needCursor G a0 a1) fun G4 => gFA G4 a0 3 1 fun v5 => gOb G4 v5 0 fun o7 => bI (f_U_isStale G4 v5 a1) fun v10 G9 => gFA G9 a0 3 1 fun v11 => gOb G9 v11 0 fun o13 => bV (f_U_finish G9 v11 a1) fun G15 => rZ v10 G15
theorem k_X_end {l : Launch} {D : va_G} {B : Nat} {O : State → Heap → Prop} (hV : zG l D B O) (G : gH) (a0 : Nat) (a1 : Int32) : gMet (zVm l D B O) m_X_end 7 [.ref a0, .int a1] G (f_X_end G a0 a1) := by
  have hdd : lSa m_X_end 0 [(.aload_n 0, 0), (.iload_n 1, 0)] = true ∧ lIa m_X_end 2 (.invokevirtual 167) 3 = true ∧ lSa m_X_end 5 [(.aload_n 0, 0)] = true ∧ lIa m_X_end 6 (.getfield 19) 3 = true ∧ lSa m_X_end 9 [(.iload_n 1, 0)] = true ∧ lIa m_X_end 10 (.invokevirtual 170) 3 = true ∧ lSa m_X_end 13 [(.istore_n 2, 0), (.aload_n 0, 0)] = true ∧ lIa m_X_end 15 (.getfield 19) 3 = true ∧ lSa m_X_end 18 [(.iload_n 1, 0)] = true ∧ lIa m_X_end 19 (.invokevirtual 156) 3 = true ∧ lSa m_X_end 22 [(.iload_n 2, 0)] = true ∧ lIa m_X_end 23 (.ireturn) 1 = true := by decide +kernel
  refine lA8 hdd (fun dd0 dd1 dd2 dd3 dd4 dd5 dd6 dd7 hdd => ?_)
  obtain ⟨dd8, dd9, dd10, dd11⟩ := hdd
  refine gMet.of (by decide +kernel) (Nat.le_of_ble_eq_true rfl) [some (.ref a0), some (.int a1), none] (fun ls h => zEn_ok (n := 3) h) ?_
  intro o Gf h
  unfold f_X_end at h
  refine Y.blk (pc' := 2) (L' := [some (.ref a0), some (.int a1), none]) (st' := [.int a1, .ref a0]) (sg := [(.aload_n 0, 0), (.iload_n 1, 0)]) (lSa_ok dd0) rfl ?_
  obtain ⟨_, o2, e1, m3, h⟩ := gOb_inv h
  refine Y.callN (yC.Vi (b := a0) (As := [.int a1]) (st := []) (r := ("Partlister", T_X, 5)) hV.1 cb_X_needCursor lk_X_167 in_X_needCursor rfl se_X_needCursor (lIa_ok dd1) rfl rfl (Nat.le_of_ble_eq_true rfl) (by decide) e1 m3) (k_X_needCursor hV G a0 a1) h (fun G4 _ h => ?_)
  refine Y.blk (pc' := 6) (L' := [some (.ref a0), some (.int a1), none]) (st' := [.ref a0]) (sg := [(.aload_n 0, 0)]) (lSa_ok dd2) rfl ?_
  refine Y.getA fl_X_19 (lIa_ok dd3) h (fun v5 h => ?_)
  refine Y.blk (pc' := 10) (L' := [some (.ref a0), some (.int a1), none]) (st' := [.int a1, .ref v5]) (sg := [(.iload_n 1, 0)]) (lSa_ok dd4) rfl ?_
  obtain ⟨_, o7, e6, m8, h⟩ := gOb_inv h
  refine Y.callI (yC.Vi (b := v5) (As := [.int a1]) (st := []) (r := ("Partlister$Cursors", T_U, 5)) hV.1 cb_U_isStale lk_X_170 in_U_isStale rfl se_U_isStale (lIa_ok dd5) rfl rfl (Nat.le_of_ble_eq_true rfl) (by decide) e6 m8) (k_U_isStale hV G4 v5 a1) h (fun v10 G9 _ h => ?_)
  refine Y.blk (pc' := 15) (L' := [some (.ref a0), some (.int a1), some (.int v10)]) (st' := [.ref a0]) (sg := [(.istore_n 2, 0), (.aload_n 0, 0)]) (lSa_ok dd6) rfl ?_
  refine Y.getA fl_X_19 (lIa_ok dd7) h (fun v11 h => ?_)
  refine Y.blk (pc' := 19) (L' := [some (.ref a0), some (.int a1), some (.int v10)]) (st' := [.int a1, .ref v11]) (sg := [(.iload_n 1, 0)]) (lSa_ok dd8) rfl ?_
  obtain ⟨_, o13, e12, m14, h⟩ := gOb_inv h
  refine Y.callN (yC.Vi (b := v11) (As := [.int a1]) (st := []) (r := ("Partlister$Cursors", T_U, 5)) hV.1 cb_U_finish lk_X_156 in_U_finish rfl se_U_finish (lIa_ok dd9) rfl rfl (Nat.le_of_ble_eq_true rfl) (by decide) e12 m14) (k_U_finish hV G9 v11 a1) h (fun G15 _ h => ?_)
  refine Y.blk (pc' := 23) (L' := [some (.ref a0), some (.int a1), some (.int v10)]) (st' := [.int v10]) (sg := [(.iload_n 2, 0)]) (lSa_ok dd10) rfl ?_
  exact Y.zret rfl (lIa_ok dd11) h

def f_X_needPlace (G : gH) (a0 : Nat) (a1 : Int32) (a2 : Int32) : gR :=
  if a2 < 0 then gThrow "java/lang/IndexOutOfBoundsException" G
  else gFA G a0 3 0 fun v1 => gOb G v1 1 fun o3 => bI (f_I_lengthOf G v1 a1) fun v6 G5 => if a2 < v6 then rV G5
    else gThrow "java/lang/IndexOutOfBoundsException" G5
theorem k_X_needPlace {l : Launch} {D : va_G} {B : Nat} {O : State → Heap → Prop} (hV : zG l D B O) (G : gH) (a0 : Nat) (a1 : Int32) (a2 : Int32) : gMet (zVm l D B O) m_X_needPlace 6 [.ref a0, .int a1, .int a2] G (f_X_needPlace G a0 a1 a2) := by
  have hdd : lSa m_X_needPlace 0 [(.iload_n 2, 0)] = true ∧ lIa m_X_needPlace 1 (.ifCond .lt 15) 3 = true ∧ lIa m_X_needPlace 16 (.new 125) 3 = true ∧ lIa m_X_needPlace 19 (.dup) 1 = true ∧ lIa m_X_needPlace 20 (.ldc_w 337) 3 = true ∧ lIa m_X_needPlace 23 (.invokespecial 129) 3 = true ∧ lIa m_X_needPlace 26 (.athrow) 1 = true ∧ lSa m_X_needPlace 4 [(.iload_n 2, 0), (.aload_n 0, 0)] = true ∧ lIa m_X_needPlace 6 (.getfield 10) 3 = true ∧ lSa m_X_needPlace 9 [(.iload_n 1, 0)] = true ∧ lIa m_X_needPlace 10 (.invokevirtual 34) 3 = true ∧ lIa m_X_needPlace 13 (.if_icmp .lt 14) 3 = true ∧ lIa m_X_needPlace 27 (.return_) 1 = true := by decide +kernel
  refine lA8 hdd (fun dd0 dd1 dd2 dd3 dd4 dd5 dd6 dd7 hdd => ?_)
  obtain ⟨dd8, dd9, dd10, dd11, dd12⟩ := hdd
  refine gMet.of (by decide +kernel) (Nat.le_of_ble_eq_true rfl) [some (.ref a0), some (.int a1), some (.int a2)] (fun ls h => zEn_ok (n := 3) h) ?_
  intro o Gf h
  unfold f_X_needPlace at h
  refine Y.blk (pc' := 1) (L' := [some (.ref a0), some (.int a1), some (.int a2)]) (st' := [.int a2]) (sg := [(.iload_n 2, 0)]) (lSa_ok dd0) rfl ?_
  refine Y.if_lt (off := 15) (tgt := 16) (lIa_ok dd1) (by decide) h (fun c8 h => ?_) (fun c8 h => ?_)
  · exact Y.throwSW (is := 337) (text := "there is no such PLACE") (names := zNm) hV.1 (hV.2 _ _ _ (by decide +kernel)) (by decide +kernel) (by decide +kernel) ck_X_125 ini_IOE tw_X_129 tg_X_129 (by decide) (by decide) rfl (Nat.le_of_ble_eq_true rfl) (lIa_ok dd2) (lIa_ok dd3) (lIa_ok dd4) (lIa_ok dd5) (lIa_ok dd6) h
  · refine Y.blk (pc' := 6) (L' := [some (.ref a0), some (.int a1), some (.int a2)]) (st' := [.ref a0, .int a2]) (sg := [(.iload_n 2, 0), (.aload_n 0, 0)]) (lSa_ok dd7) rfl ?_
    refine Y.getA fl_X_10 (lIa_ok dd8) h (fun v1 h => ?_)
    refine Y.blk (pc' := 10) (L' := [some (.ref a0), some (.int a1), some (.int a2)]) (st' := [.int a1, .ref v1, .int a2]) (sg := [(.iload_n 1, 0)]) (lSa_ok dd9) rfl ?_
    obtain ⟨_, o3, e2, m4, h⟩ := gOb_inv h
    refine Y.callI (yC.Vi (b := v1) (As := [.int a1]) (st := [.int a2]) (r := ("Partlister$Lists", T_I, 7)) hV.1 cb_I_lengthOf lk_X_34 in_I_lengthOf rfl se_I_lengthOf (lIa_ok dd10) rfl rfl (Nat.le_of_ble_eq_true rfl) (by decide) e2 m4) (k_I_lengthOf hV G v1 a1) h (fun v6 G5 _ h => ?_)
    refine Y.ic_lt (off := 14) (tgt := 27) (lIa_ok dd11) (by decide) h (fun c7 h => ?_) (fun c7 h => ?_)
    · exact Y.vret rfl (lIa_ok dd12) h
    · exact Y.throwSW (is := 337) (text := "there is no such PLACE") (names := zNm) hV.1 (hV.2 _ _ _ (by decide +kernel)) (by decide +kernel) (by decide +kernel) ck_X_125 ini_IOE tw_X_129 tg_X_129 (by decide) (by decide) rfl (Nat.le_of_ble_eq_true rfl) (lIa_ok dd2) (lIa_ok dd3) (lIa_ok dd4) (lIa_ok dd5) (lIa_ok dd6) h

def f_I_swap (G : gH) (a0 : Nat) (a1 : Int32) (a2 : Int32) (a3 : Int32) : gR :=
  gOb G a0 1 fun o2 => bI (f_I_thingAt G a0 a1 a2) fun v5 G4 => gOb G4 a0 1 fun o7 => bI (f_I_thingAt G4 a0 a1 a3) fun v10 G9 => gOb G9 a0 1 fun o12 => bV (f_I_write G9 a0 a1 a2 v10) fun G14 => gOb G14 a0 1 fun o16 => bV (f_I_write G14 a0 a1 a3 v5) fun G18 => rV G18
theorem k_I_swap {l : Launch} {D : va_G} {B : Nat} {O : State → Heap → Prop} (hV : zG l D B O) (G : gH) (a0 : Nat) (a1 : Int32) (a2 : Int32) (a3 : Int32) : gMet (zVm l D B O) m_I_swap 4 [.ref a0, .int a1, .int a2, .int a3] G (f_I_swap G a0 a1 a2 a3) := by
  have hdd : lSa m_I_swap 0 [(.aload_n 0, 0), (.iload_n 1, 0), (.iload_n 2, 0)] = true ∧ lIa m_I_swap 3 (.invokevirtual 50) 3 = true ∧ lSa m_I_swap 6 [(.istore 4, 0), (.aload_n 0, 0), (.iload_n 1, 0), (.iload_n 2, 0), (.aload_n 0, 0), (.iload_n 1, 0), (.iload_n 3, 0)] = true ∧ lIa m_I_swap 14 (.invokevirtual 50) 3 = true ∧ lIa m_I_swap 17 (.invokevirtual 53) 3 = true ∧ lSa m_I_swap 20 [(.aload_n 0, 0), (.iload_n 1, 0), (.iload_n 3, 0), (.iload 4, 0)] = true ∧ lIa m_I_swap 25 (.invokevirtual 53) 3 = true ∧ lIa m_I_swap 28 (.return_) 1 = true := by decide +kernel
  obtain ⟨dd0, dd1, dd2, dd3, dd4, dd5, dd6, dd7⟩ := hdd
  refine gMet.of (by decide +kernel) (Nat.le_of_ble_eq_true rfl) [some (.ref a0), some (.int a1), some (.int a2), some (.int a3), none] (fun ls h => zEn_ok (n := 5) h) ?_
  intro o Gf h
  unfold f_I_swap at h
  refine Y.blk (pc' := 3) (L' := [some (.ref a0), some (.int a1), some (.int a2), some (.int a3), none]) (st' := [.int a2, .int a1, .ref a0]) (sg := [(.aload_n 0, 0), (.iload_n 1, 0), (.iload_n 2, 0)]) (lSa_ok dd0) rfl ?_
  obtain ⟨_, o2, e1, m3, h⟩ := gOb_inv h
  refine Y.callI (yC.Vi (b := a0) (As := [.int a1, .int a2]) (st := []) (r := ("Partlister$Lists", T_I, 7)) hV.1 cb_I_thingAt lk_I_50 in_I_thingAt rfl se_I_thingAt (lIa_ok dd1) rfl rfl (Nat.le_of_ble_eq_true rfl) (by decide) e1 m3) (k_I_thingAt hV G a0 a1 a2) h (fun v5 G4 _ h => ?_)
  refine Y.blk (pc' := 14) (L' := [some (.ref a0), some (.int a1), some (.int a2), some (.int a3), some (.int v5)]) (st' := [.int a3, .int a1, .ref a0, .int a2, .int a1, .ref a0]) (sg := [(.istore 4, 0), (.aload_n 0, 0), (.iload_n 1, 0), (.iload_n 2, 0), (.aload_n 0, 0), (.iload_n 1, 0), (.iload_n 3, 0)]) (lSa_ok dd2) rfl ?_
  obtain ⟨_, o7, e6, m8, h⟩ := gOb_inv h
  refine Y.callI (yC.Vi (b := a0) (As := [.int a1, .int a3]) (st := [.int a2, .int a1, .ref a0]) (r := ("Partlister$Lists", T_I, 7)) hV.1 cb_I_thingAt lk_I_50 in_I_thingAt rfl se_I_thingAt (lIa_ok dd3) rfl rfl (Nat.le_of_ble_eq_true rfl) (by decide) e6 m8) (k_I_thingAt hV G4 a0 a1 a3) h (fun v10 G9 _ h => ?_)
  obtain ⟨_, o12, e11, m13, h⟩ := gOb_inv h
  refine Y.callN (yC.Vi (b := a0) (As := [.int a1, .int a2, .int v10]) (st := []) (r := ("Partlister$Lists", T_I, 7)) hV.1 cb_I_write lk_I_53 in_I_write rfl se_I_write (lIa_ok dd4) rfl rfl (Nat.le_of_ble_eq_true rfl) (by decide) e11 m13) (k_I_write hV G9 a0 a1 a2 v10) h (fun G14 _ h => ?_)
  refine Y.blk (pc' := 25) (L' := [some (.ref a0), some (.int a1), some (.int a2), some (.int a3), some (.int v5)]) (st' := [.int v5, .int a3, .int a1, .ref a0]) (sg := [(.aload_n 0, 0), (.iload_n 1, 0), (.iload_n 3, 0), (.iload 4, 0)]) (lSa_ok dd5) rfl ?_
  obtain ⟨_, o16, e15, m17, h⟩ := gOb_inv h
  refine Y.callN (yC.Vi (b := a0) (As := [.int a1, .int a3, .int v5]) (st := []) (r := ("Partlister$Lists", T_I, 7)) hV.1 cb_I_write lk_I_53 in_I_write rfl se_I_write (lIa_ok dd6) rfl rfl (Nat.le_of_ble_eq_true rfl) (by decide) e15 m17) (k_I_write hV G14 a0 a1 a3 v5) h (fun G18 _ h => ?_)
  exact Y.vret rfl (lIa_ok dd7) h

def f_X_exchange (G : gH) (a0 : Nat) (a1 : Int32) (a2 : Int32) (a3 : Int32) : gR :=
  gOb G a0 3 fun o2 => bV (f_X_needList G a0 a1) fun G4 => gOb G4 a0 3 fun o6 => bV (f_X_needPlace G4 a0 a1 a2) fun G8 => gOb G8 a0 3 fun o10 => bV (f_X_needPlace G8 a0 a1 a3) fun G12 => gFA G12 a0 3 0 fun v13 => gOb G12 v13 1 fun o15 => bV (f_I_swap G12 v13 a1 a2 a3) fun G17 => gFA G17 a0 3 0 fun v18 => gOb G17 v18 1 fun o20 => bI (f_I_keyAt G17 v18 a1 a2) fun v23 G22 => gFA G22 a0 3 0 fun v24 => gOb G22 v24 1 fun o26 => bI (f_I_keyAt G22 v24 a1 a3) fun v29 G28 => if v23 = v29 then rZ (nI 1) G28
  else rZ (nI 0) G28
theorem k_X_exchange {l : Launch} {D : va_G} {B : Nat} {O : State → Heap → Prop} (hV : zG l D B O) (G : gH) (a0 : Nat) (a1 : Int32) (a2 : Int32) (a3 : Int32) : gMet (zVm l D B O) m_X_exchange 7 [.ref a0, .int a1, .int a2, .int a3] G (f_X_exchange G a0 a1 a2 a3) := by
  have hdd : lSa m_X_exchange 0 [(.aload_n 0, 0), (.iload_n 1, 0)] = true ∧ lIa m_X_exchange 2 (.invokevirtual 23) 3 = true ∧ lSa m_X_exchange 5 [(.aload_n 0, 0), (.iload_n 1, 0), (.iload_n 2, 0)] = true ∧ lIa m_X_exchange 8 (.invokevirtual 58) 3 = true ∧ lSa m_X_exchange 11 [(.aload_n 0, 0), (.iload_n 1, 0), (.iload_n 3, 0)] = true ∧ lIa m_X_exchange 14 (.invokevirtual 58) 3 = true ∧ lSa m_X_exchange 17 [(.aload_n 0, 0)] = true ∧ lIa m_X_exchange 18 (.getfield 10) 3 = true ∧ lSa m_X_exchange 21 [(.iload_n 1, 0), (.iload_n 2, 0), (.iload_n 3, 0)] = true ∧ lIa m_X_exchange 24 (.invokevirtual 117) 3 = true ∧ lSa m_X_exchange 27 [(.aload_n 0, 0)] = true ∧ lIa m_X_exchange 28 (.getfield 10) 3 = true ∧ lSa m_X_exchange 31 [(.iload_n 1, 0), (.iload_n 2, 0)] = true ∧ lIa m_X_exchange 33 (.invokevirtual 61) 3 = true ∧ lSa m_X_exchange 36 [(.aload_n 0, 0)] = true ∧ lIa m_X_exchange 37 (.getfield 10) 3 = true ∧ lSa m_X_exchange 40 [(.iload_n 1, 0), (.iload_n 3, 0)] = true ∧ lIa m_X_exchange 42 (.invokevirtual 61) 3 = true ∧ lIa m_X_exchange 45 (.if_icmp .ne 7) 3 = true ∧ lSa m_X_exchange 48 [(.iconst 1, nI 1)] = true ∧ lIa m_X_exchange 49 (.goto 4) 3 = true ∧ lIa m_X_exchange 53 (.ireturn) 1 = true ∧ lSa m_X_exchange 52 [(.iconst 0, nI 0)] = true := by decide +kernel
  refine lA8 hdd (fun dd0 dd1 dd2 dd3 dd4 dd5 dd6 dd7 hdd => ?_)
  refine lA8 hdd (fun dd8 dd9 dd10 dd11 dd12 dd13 dd14 dd15 hdd => ?_)
  obtain ⟨dd16, dd17, dd18, dd19, dd20, dd21, dd22⟩ := hdd
  refine gMet.of (by decide +kernel) (Nat.le_of_ble_eq_true rfl) [some (.ref a0), some (.int a1), some (.int a2), some (.int a3)] (fun ls h => zEn_ok (n := 4) h) ?_
  intro o Gf h
  unfold f_X_exchange at h
  refine Y.blk (pc' := 2) (L' := [some (.ref a0), some (.int a1), some (.int a2), some (.int a3)]) (st' := [.int a1, .ref a0]) (sg := [(.aload_n 0, 0), (.iload_n 1, 0)]) (lSa_ok dd0) rfl ?_
  obtain ⟨_, o2, e1, m3, h⟩ := gOb_inv h
  refine Y.callN (yC.Vi (b := a0) (As := [.int a1]) (st := []) (r := ("Partlister", T_X, 5)) hV.1 cb_X_needList lk_X_23 in_X_needList rfl se_X_needList (lIa_ok dd1) rfl rfl (Nat.le_of_ble_eq_true rfl) (by decide) e1 m3) (k_X_needList hV G a0 a1) h (fun G4 _ h => ?_)
  refine Y.blk (pc' := 8) (L' := [some (.ref a0), some (.int a1), some (.int a2), some (.int a3)]) (st' := [.int a2, .int a1, .ref a0]) (sg := [(.aload_n 0, 0), (.iload_n 1, 0), (.iload_n 2, 0)]) (lSa_ok dd2) rfl ?_
  obtain ⟨_, o6, e5, m7, h⟩ := gOb_inv h
  refine Y.callN (yC.Vi (b := a0) (As := [.int a1, .int a2]) (st := []) (r := ("Partlister", T_X, 5)) hV.1 cb_X_needPlace lk_X_58 in_X_needPlace rfl se_X_needPlace (lIa_ok dd3) rfl rfl (Nat.le_of_ble_eq_true rfl) (by decide) e5 m7) (k_X_needPlace hV G4 a0 a1 a2) h (fun G8 _ h => ?_)
  refine Y.blk (pc' := 14) (L' := [some (.ref a0), some (.int a1), some (.int a2), some (.int a3)]) (st' := [.int a3, .int a1, .ref a0]) (sg := [(.aload_n 0, 0), (.iload_n 1, 0), (.iload_n 3, 0)]) (lSa_ok dd4) rfl ?_
  obtain ⟨_, o10, e9, m11, h⟩ := gOb_inv h
  refine Y.callN (yC.Vi (b := a0) (As := [.int a1, .int a3]) (st := []) (r := ("Partlister", T_X, 5)) hV.1 cb_X_needPlace lk_X_58 in_X_needPlace rfl se_X_needPlace (lIa_ok dd5) rfl rfl (Nat.le_of_ble_eq_true rfl) (by decide) e9 m11) (k_X_needPlace hV G8 a0 a1 a3) h (fun G12 _ h => ?_)
  refine Y.blk (pc' := 18) (L' := [some (.ref a0), some (.int a1), some (.int a2), some (.int a3)]) (st' := [.ref a0]) (sg := [(.aload_n 0, 0)]) (lSa_ok dd6) rfl ?_
  refine Y.getA fl_X_10 (lIa_ok dd7) h (fun v13 h => ?_)
  refine Y.blk (pc' := 24) (L' := [some (.ref a0), some (.int a1), some (.int a2), some (.int a3)]) (st' := [.int a3, .int a2, .int a1, .ref v13]) (sg := [(.iload_n 1, 0), (.iload_n 2, 0), (.iload_n 3, 0)]) (lSa_ok dd8) rfl ?_
  obtain ⟨_, o15, e14, m16, h⟩ := gOb_inv h
  refine Y.callN (yC.Vi (b := v13) (As := [.int a1, .int a2, .int a3]) (st := []) (r := ("Partlister$Lists", T_I, 7)) hV.1 cb_I_swap lk_X_117 in_I_swap rfl se_I_swap (lIa_ok dd9) rfl rfl (Nat.le_of_ble_eq_true rfl) (by decide) e14 m16) (k_I_swap hV G12 v13 a1 a2 a3) h (fun G17 _ h => ?_)
  refine Y.blk (pc' := 28) (L' := [some (.ref a0), some (.int a1), some (.int a2), some (.int a3)]) (st' := [.ref a0]) (sg := [(.aload_n 0, 0)]) (lSa_ok dd10) rfl ?_
  refine Y.getA fl_X_10 (lIa_ok dd11) h (fun v18 h => ?_)
  refine Y.blk (pc' := 33) (L' := [some (.ref a0), some (.int a1), some (.int a2), some (.int a3)]) (st' := [.int a2, .int a1, .ref v18]) (sg := [(.iload_n 1, 0), (.iload_n 2, 0)]) (lSa_ok dd12) rfl ?_
  obtain ⟨_, o20, e19, m21, h⟩ := gOb_inv h
  refine Y.callI (yC.Vi (b := v18) (As := [.int a1, .int a2]) (st := []) (r := ("Partlister$Lists", T_I, 7)) hV.1 cb_I_keyAt lk_X_61 in_I_keyAt rfl se_I_keyAt (lIa_ok dd13) rfl rfl (Nat.le_of_ble_eq_true rfl) (by decide) e19 m21) (k_I_keyAt hV G17 v18 a1 a2) h (fun v23 G22 _ h => ?_)
  refine Y.blk (pc' := 37) (L' := [some (.ref a0), some (.int a1), some (.int a2), some (.int a3)]) (st' := [.ref a0, .int v23]) (sg := [(.aload_n 0, 0)]) (lSa_ok dd14) rfl ?_
  refine Y.getA fl_X_10 (lIa_ok dd15) h (fun v24 h => ?_)
  refine Y.blk (pc' := 42) (L' := [some (.ref a0), some (.int a1), some (.int a2), some (.int a3)]) (st' := [.int a3, .int a1, .ref v24, .int v23]) (sg := [(.iload_n 1, 0), (.iload_n 3, 0)]) (lSa_ok dd16) rfl ?_
  obtain ⟨_, o26, e25, m27, h⟩ := gOb_inv h
  refine Y.callI (yC.Vi (b := v24) (As := [.int a1, .int a3]) (st := [.int v23]) (r := ("Partlister$Lists", T_I, 7)) hV.1 cb_I_keyAt lk_X_61 in_I_keyAt rfl se_I_keyAt (lIa_ok dd17) rfl rfl (Nat.le_of_ble_eq_true rfl) (by decide) e25 m27) (k_I_keyAt hV G22 v24 a1 a3) h (fun v29 G28 _ h => ?_)
  refine Y.ic_ne (off := 7) (tgt := 52) (lIa_ok dd18) (by decide) h (fun c30 h => ?_) (fun c30 h => ?_)
  · refine Y.blk (pc' := 49) (L' := [some (.ref a0), some (.int a1), some (.int a2), some (.int a3)]) (st' := [.int (nI 1)]) (sg := [(.iconst 1, nI 1)]) (lSa_ok dd19) rfl ?_
    refine Y.goto (off := 4) (tgt := 53) (lIa_ok dd20) (by decide) ?_
    exact Y.zret rfl (lIa_ok dd21) h
  · refine Y.blk (pc' := 53) (L' := [some (.ref a0), some (.int a1), some (.int a2), some (.int a3)]) (st' := [.int (nI 0)]) (sg := [(.iconst 0, nI 0)]) (lSa_ok dd22) rfl ?_
    exact Y.zret rfl (lIa_ok dd21) h

def f_X_extreme (G : gH) (a0 : Nat) (a1 : Int32) (a2 : Int32) : gR :=
  gOb G a0 3 fun o2 => bV (f_X_needList G a0 a1) fun G4 => gFA G4 a0 3 0 fun v5 => gOb G4 v5 1 fun o7 => bI (f_I_extremeKey G4 v5 a1 a2) fun v10 G9 => rI v10 G9
theorem k_X_extreme {l : Launch} {D : va_G} {B : Nat} {O : State → Heap → Prop} (hV : zG l D B O) (G : gH) (a0 : Nat) (a1 : Int32) (a2 : Int32) : gMet (zVm l D B O) m_X_extreme 7 [.ref a0, .int a1, .int a2] G (f_X_extreme G a0 a1 a2) := by
  have hdd : lSa m_X_extreme 0 [(.aload_n 0, 0), (.iload_n 1, 0)] = true ∧ lIa m_X_extreme 2 (.invokevirtual 23) 3 = true ∧ lSa m_X_extreme 5 [(.aload_n 0, 0)] = true ∧ lIa m_X_extreme 6 (.getfield 10) 3 = true ∧ lSa m_X_extreme 9 [(.iload_n 1, 0), (.iload_n 2, 0)] = true ∧ lIa m_X_extreme 11 (.invokevirtual 213) 3 = true ∧ lIa m_X_extreme 14 (.ireturn) 1 = true := by decide +kernel
  obtain ⟨dd0, dd1, dd2, dd3, dd4, dd5, dd6⟩ := hdd
  refine gMet.of (by decide +kernel) (Nat.le_of_ble_eq_true rfl) [some (.ref a0), some (.int a1), some (.int a2)] (fun ls h => zEn_ok (n := 3) h) ?_
  intro o Gf h
  unfold f_X_extreme at h
  refine Y.blk (pc' := 2) (L' := [some (.ref a0), some (.int a1), some (.int a2)]) (st' := [.int a1, .ref a0]) (sg := [(.aload_n 0, 0), (.iload_n 1, 0)]) (lSa_ok dd0) rfl ?_
  obtain ⟨_, o2, e1, m3, h⟩ := gOb_inv h
  refine Y.callN (yC.Vi (b := a0) (As := [.int a1]) (st := []) (r := ("Partlister", T_X, 5)) hV.1 cb_X_needList lk_X_23 in_X_needList rfl se_X_needList (lIa_ok dd1) rfl rfl (Nat.le_of_ble_eq_true rfl) (by decide) e1 m3) (k_X_needList hV G a0 a1) h (fun G4 _ h => ?_)
  refine Y.blk (pc' := 6) (L' := [some (.ref a0), some (.int a1), some (.int a2)]) (st' := [.ref a0]) (sg := [(.aload_n 0, 0)]) (lSa_ok dd2) rfl ?_
  refine Y.getA fl_X_10 (lIa_ok dd3) h (fun v5 h => ?_)
  refine Y.blk (pc' := 11) (L' := [some (.ref a0), some (.int a1), some (.int a2)]) (st' := [.int a2, .int a1, .ref v5]) (sg := [(.iload_n 1, 0), (.iload_n 2, 0)]) (lSa_ok dd4) rfl ?_
  obtain ⟨_, o7, e6, m8, h⟩ := gOb_inv h
  refine Y.callI (yC.Vi (b := v5) (As := [.int a1, .int a2]) (st := []) (r := ("Partlister$Lists", T_I, 7)) hV.1 cb_I_extremeKey lk_X_213 in_I_extremeKey rfl se_I_extremeKey (lIa_ok dd5) rfl rfl (Nat.le_of_ble_eq_true rfl) (by decide) e6 m8) (k_I_extremeKey hV G4 v5 a1 a2) h (fun v10 G9 _ h => ?_)
  exact Y.iret rfl (lIa_ok dd6) h

def f_X_find (G : gH) (a0 : Nat) (a1 : Int32) (a2 : Int32) : gR :=
  gOb G a0 3 fun o2 => bV (f_X_needList G a0 a1) fun G4 => gOb G4 a0 3 fun o6 => bV (f_X_needList G4 a0 a2) fun G8 => gFA G8 a0 3 0 fun v9 => gOb G8 v9 1 fun o11 => bI (f_I_placeOf G8 v9 a1 a2) fun v14 G13 => rI v14 G13
theorem k_X_find {l : Launch} {D : va_G} {B : Nat} {O : State → Heap → Prop} (hV : zG l D B O) (G : gH) (a0 : Nat) (a1 : Int32) (a2 : Int32) : gMet (zVm l D B O) m_X_find 7 [.ref a0, .int a1, .int a2] G (f_X_find G a0 a1 a2) := by
  have hdd : lSa m_X_find 0 [(.aload_n 0, 0), (.iload_n 1, 0)] = true ∧ lIa m_X_find 2 (.invokevirtual 23) 3 = true ∧ lSa m_X_find 5 [(.aload_n 0, 0), (.iload_n 2, 0)] = true ∧ lIa m_X_find 7 (.invokevirtual 23) 3 = true ∧ lSa m_X_find 10 [(.aload_n 0, 0)] = true ∧ lIa m_X_find 11 (.getfield 10) 3 = true ∧ lSa m_X_find 14 [(.iload_n 1, 0), (.iload_n 2, 0)] = true ∧ lIa m_X_find 16 (.invokevirtual 202) 3 = true ∧ lIa m_X_find 19 (.ireturn) 1 = true := by decide +kernel
  refine lA8 hdd (fun dd0 dd1 dd2 dd3 dd4 dd5 dd6 dd7 hdd => ?_)
  have dd8 := hdd
  refine gMet.of (by decide +kernel) (Nat.le_of_ble_eq_true rfl) [some (.ref a0), some (.int a1), some (.int a2)] (fun ls h => zEn_ok (n := 3) h) ?_
  intro o Gf h
  unfold f_X_find at h
  refine Y.blk (pc' := 2) (L' := [some (.ref a0), some (.int a1), some (.int a2)]) (st' := [.int a1, .ref a0]) (sg := [(.aload_n 0, 0), (.iload_n 1, 0)]) (lSa_ok dd0) rfl ?_
  obtain ⟨_, o2, e1, m3, h⟩ := gOb_inv h
  refine Y.callN (yC.Vi (b := a0) (As := [.int a1]) (st := []) (r := ("Partlister", T_X, 5)) hV.1 cb_X_needList lk_X_23 in_X_needList rfl se_X_needList (lIa_ok dd1) rfl rfl (Nat.le_of_ble_eq_true rfl) (by decide) e1 m3) (k_X_needList hV G a0 a1) h (fun G4 _ h => ?_)
  refine Y.blk (pc' := 7) (L' := [some (.ref a0), some (.int a1), some (.int a2)]) (st' := [.int a2, .ref a0]) (sg := [(.aload_n 0, 0), (.iload_n 2, 0)]) (lSa_ok dd2) rfl ?_
  obtain ⟨_, o6, e5, m7, h⟩ := gOb_inv h
  refine Y.callN (yC.Vi (b := a0) (As := [.int a2]) (st := []) (r := ("Partlister", T_X, 5)) hV.1 cb_X_needList lk_X_23 in_X_needList rfl se_X_needList (lIa_ok dd3) rfl rfl (Nat.le_of_ble_eq_true rfl) (by decide) e5 m7) (k_X_needList hV G4 a0 a2) h (fun G8 _ h => ?_)
  refine Y.blk (pc' := 11) (L' := [some (.ref a0), some (.int a1), some (.int a2)]) (st' := [.ref a0]) (sg := [(.aload_n 0, 0)]) (lSa_ok dd4) rfl ?_
  refine Y.getA fl_X_10 (lIa_ok dd5) h (fun v9 h => ?_)
  refine Y.blk (pc' := 16) (L' := [some (.ref a0), some (.int a1), some (.int a2)]) (st' := [.int a2, .int a1, .ref v9]) (sg := [(.iload_n 1, 0), (.iload_n 2, 0)]) (lSa_ok dd6) rfl ?_
  obtain ⟨_, o11, e10, m12, h⟩ := gOb_inv h
  refine Y.callI (yC.Vi (b := v9) (As := [.int a1, .int a2]) (st := []) (r := ("Partlister$Lists", T_I, 7)) hV.1 cb_I_placeOf lk_X_202 in_I_placeOf rfl se_I_placeOf (lIa_ok dd7) rfl rfl (Nat.le_of_ble_eq_true rfl) (by decide) e10 m12) (k_I_placeOf hV G8 v9 a1 a2) h (fun v14 G13 _ h => ?_)
  exact Y.iret rfl (lIa_ok dd8) h

def f_X_first (G : gH) (a0 : Nat) (a1 : Int32) (a2 : Int32) : gR :=
  gOb G a0 3 fun o2 => bV (f_X_needList G a0 a1) fun G4 => gOb G4 a0 3 fun o6 => bV (f_X_needKey G4 a0 a2) fun G8 => gFA G8 a0 3 0 fun v9 => gOb G8 v9 1 fun o11 => bI (f_I_firstOf G8 v9 a1 a2) fun v14 G13 => rI v14 G13
theorem k_X_first {l : Launch} {D : va_G} {B : Nat} {O : State → Heap → Prop} (hV : zG l D B O) (G : gH) (a0 : Nat) (a1 : Int32) (a2 : Int32) : gMet (zVm l D B O) m_X_first 7 [.ref a0, .int a1, .int a2] G (f_X_first G a0 a1 a2) := by
  have hdd : lSa m_X_first 0 [(.aload_n 0, 0), (.iload_n 1, 0)] = true ∧ lIa m_X_first 2 (.invokevirtual 23) 3 = true ∧ lSa m_X_first 5 [(.aload_n 0, 0), (.iload_n 2, 0)] = true ∧ lIa m_X_first 7 (.invokevirtual 27) 3 = true ∧ lSa m_X_first 10 [(.aload_n 0, 0)] = true ∧ lIa m_X_first 11 (.getfield 10) 3 = true ∧ lSa m_X_first 14 [(.iload_n 1, 0), (.iload_n 2, 0)] = true ∧ lIa m_X_first 16 (.invokevirtual 72) 3 = true ∧ lIa m_X_first 19 (.ireturn) 1 = true := by decide +kernel
  refine lA8 hdd (fun dd0 dd1 dd2 dd3 dd4 dd5 dd6 dd7 hdd => ?_)
  have dd8 := hdd
  refine gMet.of (by decide +kernel) (Nat.le_of_ble_eq_true rfl) [some (.ref a0), some (.int a1), some (.int a2)] (fun ls h => zEn_ok (n := 3) h) ?_
  intro o Gf h
  unfold f_X_first at h
  refine Y.blk (pc' := 2) (L' := [some (.ref a0), some (.int a1), some (.int a2)]) (st' := [.int a1, .ref a0]) (sg := [(.aload_n 0, 0), (.iload_n 1, 0)]) (lSa_ok dd0) rfl ?_
  obtain ⟨_, o2, e1, m3, h⟩ := gOb_inv h
  refine Y.callN (yC.Vi (b := a0) (As := [.int a1]) (st := []) (r := ("Partlister", T_X, 5)) hV.1 cb_X_needList lk_X_23 in_X_needList rfl se_X_needList (lIa_ok dd1) rfl rfl (Nat.le_of_ble_eq_true rfl) (by decide) e1 m3) (k_X_needList hV G a0 a1) h (fun G4 _ h => ?_)
  refine Y.blk (pc' := 7) (L' := [some (.ref a0), some (.int a1), some (.int a2)]) (st' := [.int a2, .ref a0]) (sg := [(.aload_n 0, 0), (.iload_n 2, 0)]) (lSa_ok dd2) rfl ?_
  obtain ⟨_, o6, e5, m7, h⟩ := gOb_inv h
  refine Y.callN (yC.Vi (b := a0) (As := [.int a2]) (st := []) (r := ("Partlister", T_X, 5)) hV.1 cb_X_needKey lk_X_27 in_X_needKey rfl se_X_needKey (lIa_ok dd3) rfl rfl (Nat.le_of_ble_eq_true rfl) (by decide) e5 m7) (k_X_needKey hV G4 a0 a2) h (fun G8 _ h => ?_)
  refine Y.blk (pc' := 11) (L' := [some (.ref a0), some (.int a1), some (.int a2)]) (st' := [.ref a0]) (sg := [(.aload_n 0, 0)]) (lSa_ok dd4) rfl ?_
  refine Y.getA fl_X_10 (lIa_ok dd5) h (fun v9 h => ?_)
  refine Y.blk (pc' := 16) (L' := [some (.ref a0), some (.int a1), some (.int a2)]) (st' := [.int a2, .int a1, .ref v9]) (sg := [(.iload_n 1, 0), (.iload_n 2, 0)]) (lSa_ok dd6) rfl ?_
  obtain ⟨_, o11, e10, m12, h⟩ := gOb_inv h
  refine Y.callI (yC.Vi (b := v9) (As := [.int a1, .int a2]) (st := []) (r := ("Partlister$Lists", T_I, 7)) hV.1 cb_I_firstOf lk_X_72 in_I_firstOf rfl se_I_firstOf (lIa_ok dd7) rfl rfl (Nat.le_of_ble_eq_true rfl) (by decide) e10 m12) (k_I_firstOf hV G8 v9 a1 a2) h (fun v14 G13 _ h => ?_)
  exact Y.iret rfl (lIa_ok dd8) h

def f_X_hasAll (G : gH) (a0 : Nat) (a1 : Int32) (a2 : Int32) : gR :=
  gOb G a0 3 fun o2 => bV (f_X_needList G a0 a1) fun G4 => gOb G4 a0 3 fun o6 => bV (f_X_needList G4 a0 a2) fun G8 => gFA G8 a0 3 0 fun v9 => gOb G8 v9 1 fun o11 => bI (f_I_holdsKeys G8 v9 a1 a2) fun v14 G13 => rZ v14 G13
theorem k_X_hasAll {l : Launch} {D : va_G} {B : Nat} {O : State → Heap → Prop} (hV : zG l D B O) (G : gH) (a0 : Nat) (a1 : Int32) (a2 : Int32) : gMet (zVm l D B O) m_X_hasAll 7 [.ref a0, .int a1, .int a2] G (f_X_hasAll G a0 a1 a2) := by
  have hdd : lSa m_X_hasAll 0 [(.aload_n 0, 0), (.iload_n 1, 0)] = true ∧ lIa m_X_hasAll 2 (.invokevirtual 23) 3 = true ∧ lSa m_X_hasAll 5 [(.aload_n 0, 0), (.iload_n 2, 0)] = true ∧ lIa m_X_hasAll 7 (.invokevirtual 23) 3 = true ∧ lSa m_X_hasAll 10 [(.aload_n 0, 0)] = true ∧ lIa m_X_hasAll 11 (.getfield 10) 3 = true ∧ lSa m_X_hasAll 14 [(.iload_n 1, 0), (.iload_n 2, 0)] = true ∧ lIa m_X_hasAll 16 (.invokevirtual 192) 3 = true ∧ lIa m_X_hasAll 19 (.ireturn) 1 = true := by decide +kernel
  refine lA8 hdd (fun dd0 dd1 dd2 dd3 dd4 dd5 dd6 dd7 hdd => ?_)
  have dd8 := hdd
  refine gMet.of (by decide +kernel) (Nat.le_of_ble_eq_true rfl) [some (.ref a0), some (.int a1), some (.int a2)] (fun ls h => zEn_ok (n := 3) h) ?_
  intro o Gf h
  unfold f_X_hasAll at h
  refine Y.blk (pc' := 2) (L' := [some (.ref a0), some (.int a1), some (.int a2)]) (st' := [.int a1, .ref a0]) (sg := [(.aload_n 0, 0), (.iload_n 1, 0)]) (lSa_ok dd0) rfl ?_
  obtain ⟨_, o2, e1, m3, h⟩ := gOb_inv h
  refine Y.callN (yC.Vi (b := a0) (As := [.int a1]) (st := []) (r := ("Partlister", T_X, 5)) hV.1 cb_X_needList lk_X_23 in_X_needList rfl se_X_needList (lIa_ok dd1) rfl rfl (Nat.le_of_ble_eq_true rfl) (by decide) e1 m3) (k_X_needList hV G a0 a1) h (fun G4 _ h => ?_)
  refine Y.blk (pc' := 7) (L' := [some (.ref a0), some (.int a1), some (.int a2)]) (st' := [.int a2, .ref a0]) (sg := [(.aload_n 0, 0), (.iload_n 2, 0)]) (lSa_ok dd2) rfl ?_
  obtain ⟨_, o6, e5, m7, h⟩ := gOb_inv h
  refine Y.callN (yC.Vi (b := a0) (As := [.int a2]) (st := []) (r := ("Partlister", T_X, 5)) hV.1 cb_X_needList lk_X_23 in_X_needList rfl se_X_needList (lIa_ok dd3) rfl rfl (Nat.le_of_ble_eq_true rfl) (by decide) e5 m7) (k_X_needList hV G4 a0 a2) h (fun G8 _ h => ?_)
  refine Y.blk (pc' := 11) (L' := [some (.ref a0), some (.int a1), some (.int a2)]) (st' := [.ref a0]) (sg := [(.aload_n 0, 0)]) (lSa_ok dd4) rfl ?_
  refine Y.getA fl_X_10 (lIa_ok dd5) h (fun v9 h => ?_)
  refine Y.blk (pc' := 16) (L' := [some (.ref a0), some (.int a1), some (.int a2)]) (st' := [.int a2, .int a1, .ref v9]) (sg := [(.iload_n 1, 0), (.iload_n 2, 0)]) (lSa_ok dd6) rfl ?_
  obtain ⟨_, o11, e10, m12, h⟩ := gOb_inv h
  refine Y.callI (yC.Vi (b := v9) (As := [.int a1, .int a2]) (st := []) (r := ("Partlister$Lists", T_I, 7)) hV.1 cb_I_holdsKeys lk_X_192 in_I_holdsKeys rfl se_I_holdsKeys (lIa_ok dd7) rfl rfl (Nat.le_of_ble_eq_true rfl) (by decide) e10 m12) (k_I_holdsKeys hV G8 v9 a1 a2) h (fun v14 G13 _ h => ?_)
  exact Y.zret rfl (lIa_ok dd8) h

def f_X_hash (G : gH) (a0 : Nat) (a1 : Int32) : gR :=
  gOb G a0 3 fun o2 => bV (f_X_needList G a0 a1) fun G4 => gFA G4 a0 3 0 fun v5 => gOb G4 v5 1 fun o7 => bI (f_I_hashOf G4 v5 a1) fun v10 G9 => rI v10 G9
theorem k_X_hash {l : Launch} {D : va_G} {B : Nat} {O : State → Heap → Prop} (hV : zG l D B O) (G : gH) (a0 : Nat) (a1 : Int32) : gMet (zVm l D B O) m_X_hash 7 [.ref a0, .int a1] G (f_X_hash G a0 a1) := by
  have hdd : lSa m_X_hash 0 [(.aload_n 0, 0), (.iload_n 1, 0)] = true ∧ lIa m_X_hash 2 (.invokevirtual 23) 3 = true ∧ lSa m_X_hash 5 [(.aload_n 0, 0)] = true ∧ lIa m_X_hash 6 (.getfield 10) 3 = true ∧ lSa m_X_hash 9 [(.iload_n 1, 0)] = true ∧ lIa m_X_hash 10 (.invokevirtual 217) 3 = true ∧ lIa m_X_hash 13 (.ireturn) 1 = true := by decide +kernel
  obtain ⟨dd0, dd1, dd2, dd3, dd4, dd5, dd6⟩ := hdd
  refine gMet.of (by decide +kernel) (Nat.le_of_ble_eq_true rfl) [some (.ref a0), some (.int a1)] (fun ls h => zEn_ok (n := 2) h) ?_
  intro o Gf h
  unfold f_X_hash at h
  refine Y.blk (pc' := 2) (L' := [some (.ref a0), some (.int a1)]) (st' := [.int a1, .ref a0]) (sg := [(.aload_n 0, 0), (.iload_n 1, 0)]) (lSa_ok dd0) rfl ?_
  obtain ⟨_, o2, e1, m3, h⟩ := gOb_inv h
  refine Y.callN (yC.Vi (b := a0) (As := [.int a1]) (st := []) (r := ("Partlister", T_X, 5)) hV.1 cb_X_needList lk_X_23 in_X_needList rfl se_X_needList (lIa_ok dd1) rfl rfl (Nat.le_of_ble_eq_true rfl) (by decide) e1 m3) (k_X_needList hV G a0 a1) h (fun G4 _ h => ?_)
  refine Y.blk (pc' := 6) (L' := [some (.ref a0), some (.int a1)]) (st' := [.ref a0]) (sg := [(.aload_n 0, 0)]) (lSa_ok dd2) rfl ?_
  refine Y.getA fl_X_10 (lIa_ok dd3) h (fun v5 h => ?_)
  refine Y.blk (pc' := 10) (L' := [some (.ref a0), some (.int a1)]) (st' := [.int a1, .ref v5]) (sg := [(.iload_n 1, 0)]) (lSa_ok dd4) rfl ?_
  obtain ⟨_, o7, e6, m8, h⟩ := gOb_inv h
  refine Y.callI (yC.Vi (b := v5) (As := [.int a1]) (st := []) (r := ("Partlister$Lists", T_I, 7)) hV.1 cb_I_hashOf lk_X_217 in_I_hashOf rfl se_I_hashOf (lIa_ok dd5) rfl rfl (Nat.le_of_ble_eq_true rfl) (by decide) e6 m8) (k_I_hashOf hV G4 v5 a1) h (fun v10 G9 _ h => ?_)
  exact Y.iret rfl (lIa_ok dd6) h

def f_X_house (G : gH) (a0 : Nat) (a1 : Int32) : gR :=
  if a1 < 0 then gThrow "java/lang/IllegalArgumentException" G
  else if a1 < (nI 8) then gOb G a0 3 fun o2 => bI (f_X_worthOfHouse G a0 a1) fun v5 G4 => rI v5 G4
    else gThrow "java/lang/IllegalArgumentException" G
theorem k_X_house {l : Launch} {D : va_G} {B : Nat} {O : State → Heap → Prop} (hV : zG l D B O) (G : gH) (a0 : Nat) (a1 : Int32) : gMet (zVm l D B O) m_X_house 6 [.ref a0, .int a1] G (f_X_house G a0 a1) := by
  have hdd : lSa m_X_house 0 [(.iload_n 1, 0)] = true ∧ lIa m_X_house 1 (.ifCond .lt 9) 3 = true ∧ lIa m_X_house 10 (.new 81) 3 = true ∧ lIa m_X_house 13 (.dup) 1 = true ∧ lIa m_X_house 14 (.ldc 248) 2 = true ∧ lIa m_X_house 16 (.invokespecial 85) 3 = true ∧ lIa m_X_house 19 (.athrow) 1 = true ∧ lSa m_X_house 4 [(.iload_n 1, 0), (.bipush 8, nI 8)] = true ∧ lIa m_X_house 7 (.if_icmp .lt 13) 3 = true ∧ lSa m_X_house 20 [(.aload_n 0, 0), (.iload_n 1, 0)] = true ∧ lIa m_X_house 22 (.invokevirtual 250) 3 = true ∧ lIa m_X_house 25 (.ireturn) 1 = true := by decide +kernel
  refine lA8 hdd (fun dd0 dd1 dd2 dd3 dd4 dd5 dd6 dd7 hdd => ?_)
  obtain ⟨dd8, dd9, dd10, dd11⟩ := hdd
  refine gMet.of (by decide +kernel) (Nat.le_of_ble_eq_true rfl) [some (.ref a0), some (.int a1)] (fun ls h => zEn_ok (n := 2) h) ?_
  intro o Gf h
  unfold f_X_house at h
  refine Y.blk (pc' := 1) (L' := [some (.ref a0), some (.int a1)]) (st' := [.int a1]) (sg := [(.iload_n 1, 0)]) (lSa_ok dd0) rfl ?_
  refine Y.if_lt (off := 9) (tgt := 10) (lIa_ok dd1) (by decide) h (fun c7 h => ?_) (fun c7 h => ?_)
  · exact Y.throwS (is := 248) (text := "what is not 0 to 7") (names := zNm) hV.1 (hV.2 _ _ _ (by decide +kernel)) (by decide +kernel) (by decide +kernel) ck_X_81 ini_IAE tw_X_85 tg_X_85 (by decide) (by decide) rfl (Nat.le_of_ble_eq_true rfl) (lIa_ok dd2) (lIa_ok dd3) (lIa_ok dd4) (lIa_ok dd5) (lIa_ok dd6) h
  · refine Y.blk (pc' := 7) (L' := [some (.ref a0), some (.int a1)]) (st' := [.int (nI 8), .int a1]) (sg := [(.iload_n 1, 0), (.bipush 8, nI 8)]) (lSa_ok dd7) rfl ?_
    refine Y.ic_lt (off := 13) (tgt := 20) (lIa_ok dd8) (by decide) h (fun c6 h => ?_) (fun c6 h => ?_)
    · refine Y.blk (pc' := 22) (L' := [some (.ref a0), some (.int a1)]) (st' := [.int a1, .ref a0]) (sg := [(.aload_n 0, 0), (.iload_n 1, 0)]) (lSa_ok dd9) rfl ?_
      obtain ⟨_, o2, e1, m3, h⟩ := gOb_inv h
      refine Y.callI (yC.Vi (b := a0) (As := [.int a1]) (st := []) (r := ("Partlister", T_X, 5)) hV.1 cb_X_worthOfHouse lk_X_250 in_X_worthOfHouse rfl se_X_worthOfHouse (lIa_ok dd10) rfl rfl (Nat.le_of_ble_eq_true rfl) (by decide) e1 m3) (k_X_worthOfHouse hV G a0 a1) h (fun v5 G4 _ h => ?_)
      exact Y.iret rfl (lIa_ok dd11) h
    · exact Y.throwS (is := 248) (text := "what is not 0 to 7") (names := zNm) hV.1 (hV.2 _ _ _ (by decide +kernel)) (by decide +kernel) (by decide +kernel) ck_X_81 ini_IAE tw_X_85 tg_X_85 (by decide) (by decide) rfl (Nat.le_of_ble_eq_true rfl) (lIa_ok dd2) (lIa_ok dd3) (lIa_ok dd4) (lIa_ok dd5) (lIa_ok dd6) h

def f_X_insert (G : gH) (a0 : Nat) (a1 : Int32) (a2 : Int32) : gR :=
  gOb G a0 3 fun o2 => bV (f_X_needCursor G a0 a1) fun G4 => gOb G4 a0 3 fun o6 => bV (f_X_needKey G4 a0 a2) fun G8 => gFA G8 a0 3 1 fun v9 => gOb G8 v9 0 fun o11 => bI (f_U_listOf G8 v9 a1) fun v14 G13 => gOb G13 a0 3 fun o16 => bV (f_X_needRoom G13 a0 v14 (nI 1)) fun G18 => gFA G18 a0 3 1 fun v19 => gOb G18 v19 0 fun o21 => bI (f_U_isStale G18 v19 a1) fun v24 G23 => if v24 = 0 then gFA G23 a0 3 1 fun v25 => gOb G23 v25 0 fun o27 => bI (f_U_nextOf G23 v25 a1) fun v30 G29 => gOb G29 a0 3 fun o32 => bI (f_X_make G29 a0 a2) fun v35 G34 => gOb G34 a0 3 fun o37 => bV (f_X_bringIn G34 a0 v14 v30 v35 a1) fun G39 => gFA G39 a0 3 1 fun v40 => gOb G39 v40 0 fun o42 => bV (f_U_stand G39 v40 a1 (v30 + (nI 1)) (-1)) fun G44 => bI (f_X_tagOf G44 v35) fun v47 G46 => rI v47 G46
  else gOb G23 a0 3 fun o49 => bI (f_X_failWith G23 a0 (-9)) fun v52 G51 => rI v52 G51
theorem k_X_insert {l : Launch} {D : va_G} {B : Nat} {O : State → Heap → Prop} (hV : zG l D B O) (G : gH) (a0 : Nat) (a1 : Int32) (a2 : Int32) : gMet (zVm l D B O) m_X_insert 7 [.ref a0, .int a1, .int a2] G (f_X_insert G a0 a1 a2) := by
  have hdd : lSa m_X_insert 0 [(.aload_n 0, 0), (.iload_n 1, 0)] = true ∧ lIa m_X_insert 2 (.invokevirtual 167) 3 = true ∧ lSa m_X_insert 5 [(.aload_n 0, 0), (.iload_n 2, 0)] = true ∧ lIa m_X_insert 7 (.invokevirtual 27) 3 = true ∧ lSa m_X_insert 10 [(.aload_n 0, 0)] = true ∧ lIa m_X_insert 11 (.getfield 19) 3 = true ∧ lSa m_X_insert 14 [(.iload_n 1, 0)] = true ∧ lIa m_X_insert 15 (.invokevirtual 152) 3 = true ∧ lSa m_X_insert 18 [(.istore_n 3, 0), (.aload_n 0, 0), (.iload_n 3, 0), (.iconst 1, nI 1)] = true ∧ lIa m_X_insert 22 (.invokevirtual 30) 3 = true ∧ lSa m_X_insert 25 [(.aload_n 0, 0)] = true ∧ lIa m_X_insert 26 (.getfield 19) 3 = true ∧ lSa m_X_insert 29 [(.iload_n 1, 0)] = true ∧ lIa m_X_insert 30 (.invokevirtual 170) 3 = true ∧ lIa m_X_insert 33 (.ifCond .eq 10) 3 = true ∧ lSa m_X_insert 43 [(.aload_n 0, 0)] = true ∧ lIa m_X_insert 44 (.getfield 19) 3 = true ∧ lSa m_X_insert 47 [(.iload_n 1, 0)] = true ∧ lIa m_X_insert 48 (.invokevirtual 176) 3 = true ∧ lSa m_X_insert 51 [(.istore 4, 0), (.aload_n 0, 0), (.iload_n 2, 0)] = true ∧ lIa m_X_insert 55 (.invokevirtual 38) 3 = true ∧ lSa m_X_insert 58 [(.istore 5, 0), (.aload_n 0, 0), (.iload_n 3, 0), (.iload 4, 0), (.iload 5, 0), (.iload_n 1, 0)] = true ∧ lIa m_X_insert 67 (.invokevirtual 41) 3 = true ∧ lSa m_X_insert 70 [(.aload_n 0, 0)] = true ∧ lIa m_X_insert 71 (.getfield 19) 3 = true ∧ lSa m_X_insert 74 [(.iload_n 1, 0), (.iload 4, 0), (.iconst 1, nI 1), (.iadd, 0), (.iconst (-1), -1)] = true ∧ lIa m_X_insert 80 (.invokevirtual 179) 3 = true ∧ lSa m_X_insert 83 [(.iload 5, 0)] = true ∧ lIa m_X_insert 85 (.invokestatic 48) 3 = true ∧ lIa m_X_insert 88 (.ireturn) 1 = true ∧ lSa m_X_insert 36 [(.aload_n 0, 0), (.bipush (-9), -9)] = true ∧ lIa m_X_insert 39 (.invokevirtual 173) 3 = true ∧ lIa m_X_insert 42 (.ireturn) 1 = true := by decide +kernel
  refine lA8 hdd (fun dd0 dd1 dd2 dd3 dd4 dd5 dd6 dd7 hdd => ?_)
  refine lA8 hdd (fun dd8 dd9 dd10 dd11 dd12 dd13 dd14 dd15 hdd => ?_)
  refine lA8 hdd (fun dd16 dd17 dd18 dd19 dd20 dd21 dd22 dd23 hdd => ?_)
  refine lA8 hdd (fun dd24 dd25 dd26 dd27 dd28 dd29 dd30 dd31 hdd => ?_)
  have dd32 := hdd
  refine gMet.of (by decide +kernel) (Nat.le_of_ble_eq_true rfl) [some (.ref a0), some (.int a1), some (.int a2), none, none, none] (fun ls h => zEn_ok (n := 6) h) ?_
  intro o Gf h
  unfold f_X_insert at h
  refine Y.blk (pc' := 2) (L' := [some (.ref a0), some (.int a1), some (.int a2), none, none, none]) (st' := [.int a1, .ref a0]) (sg := [(.aload_n 0, 0), (.iload_n 1, 0)]) (lSa_ok dd0) rfl ?_
  obtain ⟨_, o2, e1, m3, h⟩ := gOb_inv h
  refine Y.callN (yC.Vi (b := a0) (As := [.int a1]) (st := []) (r := ("Partlister", T_X, 5)) hV.1 cb_X_needCursor lk_X_167 in_X_needCursor rfl se_X_needCursor (lIa_ok dd1) rfl rfl (Nat.le_of_ble_eq_true rfl) (by decide) e1 m3) (k_X_needCursor hV G a0 a1) h (fun G4 _ h => ?_)
  refine Y.blk (pc' := 7) (L' := [some (.ref a0), some (.int a1), some (.int a2), none, none, none]) (st' := [.int a2, .ref a0]) (sg := [(.aload_n 0, 0), (.iload_n 2, 0)]) (lSa_ok dd2) rfl ?_
  obtain ⟨_, o6, e5, m7, h⟩ := gOb_inv h
  refine Y.callN (yC.Vi (b := a0) (As := [.int a2]) (st := []) (r := ("Partlister", T_X, 5)) hV.1 cb_X_needKey lk_X_27 in_X_needKey rfl se_X_needKey (lIa_ok dd3) rfl rfl (Nat.le_of_ble_eq_true rfl) (by decide) e5 m7) (k_X_needKey hV G4 a0 a2) h (fun G8 _ h => ?_)
  refine Y.blk (pc' := 11) (L' := [some (.ref a0), some (.int a1), some (.int a2), none, none, none]) (st' := [.ref a0]) (sg := [(.aload_n 0, 0)]) (lSa_ok dd4) rfl ?_
  refine Y.getA fl_X_19 (lIa_ok dd5) h (fun v9 h => ?_)
  refine Y.blk (pc' := 15) (L' := [some (.ref a0), some (.int a1), some (.int a2), none, none, none]) (st' := [.int a1, .ref v9]) (sg := [(.iload_n 1, 0)]) (lSa_ok dd6) rfl ?_
  obtain ⟨_, o11, e10, m12, h⟩ := gOb_inv h
  refine Y.callI (yC.Vi (b := v9) (As := [.int a1]) (st := []) (r := ("Partlister$Cursors", T_U, 5)) hV.1 cb_U_listOf lk_X_152 in_U_listOf rfl se_U_listOf (lIa_ok dd7) rfl rfl (Nat.le_of_ble_eq_true rfl) (by decide) e10 m12) (k_U_listOf hV G8 v9 a1) h (fun v14 G13 _ h => ?_)
  refine Y.blk (pc' := 22) (L' := [some (.ref a0), some (.int a1), some (.int a2), some (.int v14), none, none]) (st' := [.int (nI 1), .int v14, .ref a0]) (sg := [(.istore_n 3, 0), (.aload_n 0, 0), (.iload_n 3, 0), (.iconst 1, nI 1)]) (lSa_ok dd8) rfl ?_
  obtain ⟨_, o16, e15, m17, h⟩ := gOb_inv h
  refine Y.callN (yC.Vi (b := a0) (As := [.int v14, .int (nI 1)]) (st := []) (r := ("Partlister", T_X, 5)) hV.1 cb_X_needRoom lk_X_30 in_X_needRoom rfl se_X_needRoom (lIa_ok dd9) rfl rfl (Nat.le_of_ble_eq_true rfl) (by decide) e15 m17) (k_X_needRoom hV G13 a0 v14 (nI 1)) h (fun G18 _ h => ?_)
  refine Y.blk (pc' := 26) (L' := [some (.ref a0), some (.int a1), some (.int a2), some (.int v14), none, none]) (st' := [.ref a0]) (sg := [(.aload_n 0, 0)]) (lSa_ok dd10) rfl ?_
  refine Y.getA fl_X_19 (lIa_ok dd11) h (fun v19 h => ?_)
  refine Y.blk (pc' := 30) (L' := [some (.ref a0), some (.int a1), some (.int a2), some (.int v14), none, none]) (st' := [.int a1, .ref v19]) (sg := [(.iload_n 1, 0)]) (lSa_ok dd12) rfl ?_
  obtain ⟨_, o21, e20, m22, h⟩ := gOb_inv h
  refine Y.callI (yC.Vi (b := v19) (As := [.int a1]) (st := []) (r := ("Partlister$Cursors", T_U, 5)) hV.1 cb_U_isStale lk_X_170 in_U_isStale rfl se_U_isStale (lIa_ok dd13) rfl rfl (Nat.le_of_ble_eq_true rfl) (by decide) e20 m22) (k_U_isStale hV G18 v19 a1) h (fun v24 G23 _ h => ?_)
  refine Y.if_eq (off := 10) (tgt := 43) (lIa_ok dd14) (by decide) h (fun c53 h => ?_) (fun c53 h => ?_)
  · refine Y.blk (pc' := 44) (L' := [some (.ref a0), some (.int a1), some (.int a2), some (.int v14), none, none]) (st' := [.ref a0]) (sg := [(.aload_n 0, 0)]) (lSa_ok dd15) rfl ?_
    refine Y.getA fl_X_19 (lIa_ok dd16) h (fun v25 h => ?_)
    refine Y.blk (pc' := 48) (L' := [some (.ref a0), some (.int a1), some (.int a2), some (.int v14), none, none]) (st' := [.int a1, .ref v25]) (sg := [(.iload_n 1, 0)]) (lSa_ok dd17) rfl ?_
    obtain ⟨_, o27, e26, m28, h⟩ := gOb_inv h
    refine Y.callI (yC.Vi (b := v25) (As := [.int a1]) (st := []) (r := ("Partlister$Cursors", T_U, 5)) hV.1 cb_U_nextOf lk_X_176 in_U_nextOf rfl se_U_nextOf (lIa_ok dd18) rfl rfl (Nat.le_of_ble_eq_true rfl) (by decide) e26 m28) (k_U_nextOf hV G23 v25 a1) h (fun v30 G29 _ h => ?_)
    refine Y.blk (pc' := 55) (L' := [some (.ref a0), some (.int a1), some (.int a2), some (.int v14), some (.int v30), none]) (st' := [.int a2, .ref a0]) (sg := [(.istore 4, 0), (.aload_n 0, 0), (.iload_n 2, 0)]) (lSa_ok dd19) rfl ?_
    obtain ⟨_, o32, e31, m33, h⟩ := gOb_inv h
    refine Y.callI (yC.Vi (b := a0) (As := [.int a2]) (st := []) (r := ("Partlister", T_X, 5)) hV.1 cb_X_make lk_X_38 in_X_make rfl se_X_make (lIa_ok dd20) rfl rfl (Nat.le_of_ble_eq_true rfl) (by decide) e31 m33) (k_X_make hV G29 a0 a2) h (fun v35 G34 _ h => ?_)
    refine Y.blk (pc' := 67) (L' := [some (.ref a0), some (.int a1), some (.int a2), some (.int v14), some (.int v30), some (.int v35)]) (st' := [.int a1, .int v35, .int v30, .int v14, .ref a0]) (sg := [(.istore 5, 0), (.aload_n 0, 0), (.iload_n 3, 0), (.iload 4, 0), (.iload 5, 0), (.iload_n 1, 0)]) (lSa_ok dd21) rfl ?_
    obtain ⟨_, o37, e36, m38, h⟩ := gOb_inv h
    refine Y.callN (yC.Vi (b := a0) (As := [.int v14, .int v30, .int v35, .int a1]) (st := []) (r := ("Partlister", T_X, 5)) hV.1 cb_X_bringIn lk_X_41 in_X_bringIn rfl se_X_bringIn (lIa_ok dd22) rfl rfl (Nat.le_of_ble_eq_true rfl) (by decide) e36 m38) (k_X_bringIn hV G34 a0 v14 v30 v35 a1) h (fun G39 _ h => ?_)
    refine Y.blk (pc' := 71) (L' := [some (.ref a0), some (.int a1), some (.int a2), some (.int v14), some (.int v30), some (.int v35)]) (st' := [.ref a0]) (sg := [(.aload_n 0, 0)]) (lSa_ok dd23) rfl ?_
    refine Y.getA fl_X_19 (lIa_ok dd24) h (fun v40 h => ?_)
    refine Y.blk (pc' := 80) (L' := [some (.ref a0), some (.int a1), some (.int a2), some (.int v14), some (.int v30), some (.int v35)]) (st' := [.int (-1), .int (v30 + (nI 1)), .int a1, .ref v40]) (sg := [(.iload_n 1, 0), (.iload 4, 0), (.iconst 1, nI 1), (.iadd, 0), (.iconst (-1), -1)]) (lSa_ok dd25) rfl ?_
    obtain ⟨_, o42, e41, m43, h⟩ := gOb_inv h
    refine Y.callN (yC.Vi (b := v40) (As := [.int a1, .int (v30 + (nI 1)), .int (-1)]) (st := []) (r := ("Partlister$Cursors", T_U, 5)) hV.1 cb_U_stand lk_X_179 in_U_stand rfl se_U_stand (lIa_ok dd26) rfl rfl (Nat.le_of_ble_eq_true rfl) (by decide) e41 m43) (k_U_stand hV G39 v40 a1 (v30 + (nI 1)) (-1)) h (fun G44 _ h => ?_)
    refine Y.blk (pc' := 85) (L' := [some (.ref a0), some (.int a1), some (.int a2), some (.int v14), some (.int v30), some (.int v35)]) (st' := [.int v35]) (sg := [(.iload 5, 0)]) (lSa_ok dd27) rfl ?_
    refine Y.callI (yC.S (As := [.int v35]) (st := []) hV.1 cb_X_tagOf lk_X_48 st_X_tagOf (lIa_ok dd28) rfl rfl (Nat.le_of_ble_eq_true rfl) (by decide)) (k_X_tagOf hV G44 v35) h (fun v47 G46 _ h => ?_)
    exact Y.iret rfl (lIa_ok dd29) h
  · refine Y.blk (pc' := 39) (L' := [some (.ref a0), some (.int a1), some (.int a2), some (.int v14), none, none]) (st' := [.int (-9), .ref a0]) (sg := [(.aload_n 0, 0), (.bipush (-9), -9)]) (lSa_ok dd30) rfl ?_
    obtain ⟨_, o49, e48, m50, h⟩ := gOb_inv h
    refine Y.callI (yC.Vi (b := a0) (As := [.int (-9)]) (st := []) (r := ("Partlister", T_X, 5)) hV.1 cb_X_failWith lk_X_173 in_X_failWith rfl se_X_failWith (lIa_ok dd31) rfl rfl (Nat.le_of_ble_eq_true rfl) (by decide) e48 m50) (k_X_failWith hV G23 a0 (-9)) h (fun v52 G51 _ h => ?_)
    exact Y.iret rfl (lIa_ok dd32) h
