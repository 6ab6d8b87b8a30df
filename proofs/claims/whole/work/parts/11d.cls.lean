def f_X_takeOutAll (G : gH) (a0 : Nat) (a1 : Int32) (a2 : Int32) : gR :=
  gFA G a0 3 0 fun v1 => gOb G v1 1 fun o3 => bI (f_I_sweepOut G v1 a1 a2) fun v6 G5 => if v6 ≤ 0 then rI v6 G5
  else gOb G5 a0 3 fun o8 => bV (f_X_endByLength G5 a0 a1 (-1)) fun G10 => rI v6 G10
theorem k_X_takeOutAll {l : Launch} {D : va_G} {B : Nat} {O : State → Heap → Prop} (hV : zG l D B O) (G : gH) (a0 : Nat) (a1 : Int32) (a2 : Int32) : gMet (zVm l D B O) m_X_takeOutAll 6 [.ref a0, .int a1, .int a2] G (f_X_takeOutAll G a0 a1 a2) := by
  have hdd : lSa m_X_takeOutAll 0 [(.aload_n 0, 0)] = true ∧ lIa m_X_takeOutAll 1 (.getfield 10) 3 = true ∧ lSa m_X_takeOutAll 4 [(.iload_n 1, 0), (.iload_n 2, 0)] = true ∧ lIa m_X_takeOutAll 6 (.invokevirtual 287) 3 = true ∧ lSa m_X_takeOutAll 9 [(.istore_n 3, 0), (.iload_n 3, 0)] = true ∧ lIa m_X_takeOutAll 11 (.ifCond .le 9) 3 = true ∧ lSa m_X_takeOutAll 20 [(.iload_n 3, 0)] = true ∧ lIa m_X_takeOutAll 21 (.ireturn) 1 = true ∧ lSa m_X_takeOutAll 14 [(.aload_n 0, 0), (.iload_n 1, 0), (.iconst (-1), -1)] = true ∧ lIa m_X_takeOutAll 17 (.invokevirtual 281) 3 = true := by decide +kernel
  refine lA8 hdd (fun dd0 dd1 dd2 dd3 dd4 dd5 dd6 dd7 hdd => ?_)
  obtain ⟨dd8, dd9⟩ := hdd
  refine gMet.of (by decide +kernel) (Nat.le_of_ble_eq_true rfl) [some (.ref a0), some (.int a1), some (.int a2), none] (fun ls h => zEn_ok (n := 4) h) ?_
  intro o Gf h
  unfold f_X_takeOutAll at h
  refine Y.blk (pc' := 1) (L' := [some (.ref a0), some (.int a1), some (.int a2), none]) (st' := [.ref a0]) (sg := [(.aload_n 0, 0)]) (lSa_ok dd0) rfl ?_
  refine Y.getA fl_X_10 (lIa_ok dd1) h (fun v1 h => ?_)
  refine Y.blk (pc' := 6) (L' := [some (.ref a0), some (.int a1), some (.int a2), none]) (st' := [.int a2, .int a1, .ref v1]) (sg := [(.iload_n 1, 0), (.iload_n 2, 0)]) (lSa_ok dd2) rfl ?_
  obtain ⟨_, o3, e2, m4, h⟩ := gOb_inv h
  refine Y.callI (yC.Vi (b := v1) (As := [.int a1, .int a2]) (st := []) (r := ("Partlister$Lists", T_I, 7)) hV.1 cb_I_sweepOut lk_X_287 in_I_sweepOut rfl se_I_sweepOut (lIa_ok dd3) rfl rfl (Nat.le_of_ble_eq_true rfl) (by decide) e2 m4) (k_I_sweepOut hV G v1 a1 a2) h (fun v6 G5 _ h => ?_)
  refine Y.blk (pc' := 11) (L' := [some (.ref a0), some (.int a1), some (.int a2), some (.int v6)]) (st' := [.int v6]) (sg := [(.istore_n 3, 0), (.iload_n 3, 0)]) (lSa_ok dd4) rfl ?_
  refine Y.if_le (off := 9) (tgt := 20) (lIa_ok dd5) (by decide) h (fun c11 h => ?_) (fun c11 h => ?_)
  · refine Y.blk (pc' := 21) (L' := [some (.ref a0), some (.int a1), some (.int a2), some (.int v6)]) (st' := [.int v6]) (sg := [(.iload_n 3, 0)]) (lSa_ok dd6) rfl ?_
    exact Y.iret rfl (lIa_ok dd7) h
  · refine Y.blk (pc' := 17) (L' := [some (.ref a0), some (.int a1), some (.int a2), some (.int v6)]) (st' := [.int (-1), .int a1, .ref a0]) (sg := [(.aload_n 0, 0), (.iload_n 1, 0), (.iconst (-1), -1)]) (lSa_ok dd8) rfl ?_
    obtain ⟨_, o8, e7, m9, h⟩ := gOb_inv h
    refine Y.callN (yC.Vi (b := a0) (As := [.int a1, .int (-1)]) (st := []) (r := ("Partlister", T_X, 5)) hV.1 cb_X_endByLength lk_X_281 in_X_endByLength rfl se_X_endByLength (lIa_ok dd9) rfl rfl (Nat.le_of_ble_eq_true rfl) (by decide) e7 m9) (k_X_endByLength hV G5 a0 a1 (-1)) h (fun G10 _ h => ?_)
    refine Y.blk (pc' := 21) (L' := [some (.ref a0), some (.int a1), some (.int a2), some (.int v6)]) (st' := [.int v6]) (sg := [(.iload_n 3, 0)]) (lSa_ok dd6) rfl ?_
    exact Y.iret rfl (lIa_ok dd7) h

def f_X_clear (G : gH) (a0 : Nat) (a1 : Int32) : gR :=
  gOb G a0 3 fun o2 => bV (f_X_needList G a0 a1) fun G4 => gOb G4 a0 3 fun o6 => bI (f_X_takeOutAll G4 a0 a1 (-1)) fun v9 G8 => rI v9 G8
theorem k_X_clear {l : Launch} {D : va_G} {B : Nat} {O : State → Heap → Prop} (hV : zG l D B O) (G : gH) (a0 : Nat) (a1 : Int32) : gMet (zVm l D B O) m_X_clear 7 [.ref a0, .int a1] G (f_X_clear G a0 a1) := by
  have hdd : lSa m_X_clear 0 [(.aload_n 0, 0), (.iload_n 1, 0)] = true ∧ lIa m_X_clear 2 (.invokevirtual 23) 3 = true ∧ lSa m_X_clear 5 [(.aload_n 0, 0), (.iload_n 1, 0), (.iconst (-1), -1)] = true ∧ lIa m_X_clear 8 (.invokevirtual 78) 3 = true ∧ lIa m_X_clear 11 (.ireturn) 1 = true := by decide +kernel
  obtain ⟨dd0, dd1, dd2, dd3, dd4⟩ := hdd
  refine gMet.of (by decide +kernel) (Nat.le_of_ble_eq_true rfl) [some (.ref a0), some (.int a1)] (fun ls h => zEn_ok (n := 2) h) ?_
  intro o Gf h
  unfold f_X_clear at h
  refine Y.blk (pc' := 2) (L' := [some (.ref a0), some (.int a1)]) (st' := [.int a1, .ref a0]) (sg := [(.aload_n 0, 0), (.iload_n 1, 0)]) (lSa_ok dd0) rfl ?_
  obtain ⟨_, o2, e1, m3, h⟩ := gOb_inv h
  refine Y.callN (yC.Vi (b := a0) (As := [.int a1]) (st := []) (r := ("Partlister", T_X, 5)) hV.1 cb_X_needList lk_X_23 in_X_needList rfl se_X_needList (lIa_ok dd1) rfl rfl (Nat.le_of_ble_eq_true rfl) (by decide) e1 m3) (k_X_needList hV G a0 a1) h (fun G4 _ h => ?_)
  refine Y.blk (pc' := 8) (L' := [some (.ref a0), some (.int a1)]) (st' := [.int (-1), .int a1, .ref a0]) (sg := [(.aload_n 0, 0), (.iload_n 1, 0), (.iconst (-1), -1)]) (lSa_ok dd2) rfl ?_
  obtain ⟨_, o6, e5, m7, h⟩ := gOb_inv h
  refine Y.callI (yC.Vi (b := a0) (As := [.int a1, .int (-1)]) (st := []) (r := ("Partlister", T_X, 5)) hV.1 cb_X_takeOutAll lk_X_78 in_X_takeOutAll rfl se_X_takeOutAll (lIa_ok dd3) rfl rfl (Nat.le_of_ble_eq_true rfl) (by decide) e5 m7) (k_X_takeOutAll hV G4 a0 a1 (-1)) h (fun v9 G8 _ h => ?_)
  exact Y.iret rfl (lIa_ok dd4) h

def f_X_needPart (G : gH) (a0 : Nat) (a1 : Int32) : gR :=
  if a1 < (nI 2) then gThrow "java/lang/IndexOutOfBoundsException" G
  else gFA G a0 3 0 fun v1 => gOb G v1 1 fun o3 => bI (f_I_isThere G v1 a1) fun v6 G5 => if v6 = 0 then gThrow "java/lang/IndexOutOfBoundsException" G5
    else rV G5
theorem k_X_needPart {l : Launch} {D : va_G} {B : Nat} {O : State → Heap → Prop} (hV : zG l D B O) (G : gH) (a0 : Nat) (a1 : Int32) : gMet (zVm l D B O) m_X_needPart 6 [.ref a0, .int a1] G (f_X_needPart G a0 a1) := by
  have hdd : lSa m_X_needPart 0 [(.iload_n 1, 0), (.iconst 2, nI 2)] = true ∧ lIa m_X_needPart 2 (.if_icmp .lt 14) 3 = true ∧ lIa m_X_needPart 16 (.new 125) 3 = true ∧ lIa m_X_needPart 19 (.dup) 1 = true ∧ lIa m_X_needPart 20 (.ldc_w 333) 3 = true ∧ lIa m_X_needPart 23 (.invokespecial 129) 3 = true ∧ lIa m_X_needPart 26 (.athrow) 1 = true ∧ lSa m_X_needPart 5 [(.aload_n 0, 0)] = true ∧ lIa m_X_needPart 6 (.getfield 10) 3 = true ∧ lSa m_X_needPart 9 [(.iload_n 1, 0)] = true ∧ lIa m_X_needPart 10 (.invokevirtual 155) 3 = true ∧ lIa m_X_needPart 13 (.ifCond .ne 14) 3 = true ∧ lIa m_X_needPart 27 (.return_) 1 = true := by decide +kernel
  refine lA8 hdd (fun dd0 dd1 dd2 dd3 dd4 dd5 dd6 dd7 hdd => ?_)
  obtain ⟨dd8, dd9, dd10, dd11, dd12⟩ := hdd
  refine gMet.of (by decide +kernel) (Nat.le_of_ble_eq_true rfl) [some (.ref a0), some (.int a1)] (fun ls h => zEn_ok (n := 2) h) ?_
  intro o Gf h
  unfold f_X_needPart at h
  refine Y.blk (pc' := 2) (L' := [some (.ref a0), some (.int a1)]) (st' := [.int (nI 2), .int a1]) (sg := [(.iload_n 1, 0), (.iconst 2, nI 2)]) (lSa_ok dd0) rfl ?_
  refine Y.ic_lt (off := 14) (tgt := 16) (lIa_ok dd1) (by decide) h (fun c8 h => ?_) (fun c8 h => ?_)
  · exact Y.throwSW (is := 333) (text := "there is no such PART") (names := zNm) hV.1 (hV.2 _ _ _ (by decide +kernel)) (by decide +kernel) (by decide +kernel) ck_X_125 ini_IOE tw_X_129 tg_X_129 (by decide) (by decide) rfl (Nat.le_of_ble_eq_true rfl) (lIa_ok dd2) (lIa_ok dd3) (lIa_ok dd4) (lIa_ok dd5) (lIa_ok dd6) h
  · refine Y.blk (pc' := 6) (L' := [some (.ref a0), some (.int a1)]) (st' := [.ref a0]) (sg := [(.aload_n 0, 0)]) (lSa_ok dd7) rfl ?_
    refine Y.getA fl_X_10 (lIa_ok dd8) h (fun v1 h => ?_)
    refine Y.blk (pc' := 10) (L' := [some (.ref a0), some (.int a1)]) (st' := [.int a1, .ref v1]) (sg := [(.iload_n 1, 0)]) (lSa_ok dd9) rfl ?_
    obtain ⟨_, o3, e2, m4, h⟩ := gOb_inv h
    refine Y.callI (yC.Vi (b := v1) (As := [.int a1]) (st := []) (r := ("Partlister$Lists", T_I, 7)) hV.1 cb_I_isThere lk_X_155 in_I_isThere rfl se_I_isThere (lIa_ok dd10) rfl rfl (Nat.le_of_ble_eq_true rfl) (by decide) e2 m4) (k_I_isThere hV G v1 a1) h (fun v6 G5 _ h => ?_)
    refine Y.if_ne (off := 14) (tgt := 27) (lIa_ok dd11) (by decide) h (fun c7 h => ?_) (fun c7 h => ?_)
    · exact Y.throwSW (is := 333) (text := "there is no such PART") (names := zNm) hV.1 (hV.2 _ _ _ (by decide +kernel)) (by decide +kernel) (by decide +kernel) ck_X_125 ini_IOE tw_X_129 tg_X_129 (by decide) (by decide) rfl (Nat.le_of_ble_eq_true rfl) (lIa_ok dd2) (lIa_ok dd3) (lIa_ok dd4) (lIa_ok dd5) (lIa_ok dd6) h
    · exact Y.vret rfl (lIa_ok dd12) h

def f_I_endWithin_L4 (K41 : gH → Int32 → gR) : Nat → gH → Nat → Int32 → Int32 → Int32 → gR
  | 0, _, _, _, _, _ => none
  | n + 1, G, x0, x1, x2, x3 =>
    if (nI 6) ≤ x3 then K41 G x2
    else gOb G x0 1 fun o2 => bI (f_I_isThere G x0 x3) fun v5 G4 => if v5 = 0 then f_I_endWithin_L4 K41 n G4 x0 x1 x2 (x3 + (nI 1))
      else gOb G4 x0 1 fun o7 => bI (f_I_isWithin G4 x0 x3 x1) fun v10 G9 => if v10 = 0 then f_I_endWithin_L4 K41 n G9 x0 x1 x2 (x3 + (nI 1))
        else gOb G9 x0 1 fun o12 => bV (f_I_finish G9 x0 x3) fun G14 => f_I_endWithin_L4 K41 n G14 x0 x1 (x2 + (nI 1)) (x3 + (nI 1))
def f_I_endWithin (G : gH) (a0 : Nat) (a1 : Int32) : gR :=
  f_I_endWithin_L4 (fun G19 x18 => rI x18 G19) zFu G a0 a1 (nI 0) (nI 2)
theorem k_I_endWithin_L4 {l : Launch} {D : va_G} {B : Nat} {O : State → Heap → Prop} (hV : zG l D B O) {o : gO} {Gf : gH} (K41 : gH → Int32 → gR) (hK41 : ∀ (G : gH) (x2 : Int32), K41 G x2 = some (o, Gf) → Y (zVm l D B O) m_I_endWithin 3 o Gf 41 [none, none, some (.int x2), none] [] G) : ∀ (n : Nat) (G : gH) (x0 : Nat) (x1 : Int32) (x2 : Int32) (x3 : Int32), f_I_endWithin_L4 K41 n G x0 x1 x2 x3 = some (o, Gf) → Y (zVm l D B O) m_I_endWithin 3 o Gf 4 [some (.ref x0), some (.int x1), some (.int x2), some (.int x3)] [] G := by
  have hdd : lSa m_I_endWithin 4 [(.iload_n 3, 0), (.bipush 6, nI 6)] = true ∧ lIa m_I_endWithin 7 (.if_icmp .ge 34) 3 = true ∧ lSa m_I_endWithin 10 [(.aload_n 0, 0), (.iload_n 3, 0)] = true ∧ lIa m_I_endWithin 12 (.invokevirtual 86) 3 = true ∧ lIa m_I_endWithin 15 (.ifCond .eq 20) 3 = true ∧ lSa m_I_endWithin 35 [(.iinc 3 1, nI 1)] = true ∧ lIa m_I_endWithin 38 (.goto (-34)) 3 = true ∧ lSa m_I_endWithin 18 [(.aload_n 0, 0), (.iload_n 3, 0), (.iload_n 1, 0)] = true ∧ lIa m_I_endWithin 21 (.invokevirtual 90) 3 = true ∧ lIa m_I_endWithin 24 (.ifCond .eq 11) 3 = true ∧ lSa m_I_endWithin 27 [(.aload_n 0, 0), (.iload_n 3, 0)] = true ∧ lIa m_I_endWithin 29 (.invokevirtual 94) 3 = true ∧ lSa m_I_endWithin 32 [(.iinc 2 1, nI 1), (.iinc 3 1, nI 1)] = true := by decide +kernel
  refine lA8 hdd (fun dd0 dd1 dd2 dd3 dd4 dd5 dd6 dd7 hdd => ?_)
  obtain ⟨dd8, dd9, dd10, dd11, dd12⟩ := hdd
  intro n
  induction n with
  | zero => intro G x0 x1 x2 x3 h; cases h
  | succ n ih =>
    intro G x0 x1 x2 x3 h
    unfold f_I_endWithin_L4 at h
    refine Y.blk (pc' := 7) (L' := [some (.ref x0), some (.int x1), some (.int x2), some (.int x3)]) (st' := [.int (nI 6), .int x3]) (sg := [(.iload_n 3, 0), (.bipush 6, nI 6)]) (lSa_ok dd0) rfl ?_
    refine Y.ic_ge (off := 34) (tgt := 41) (lIa_ok dd1) (by decide) h (fun c17 h => ?_) (fun c17 h => ?_)
    · refine Y.less (L' := [none, none, some (.int x2), none]) (zLe_none (zLe_none (zLe_some (zLe_none (zLe_nil))))) ?_
      exact hK41 G x2 h
    · refine Y.blk (pc' := 12) (L' := [some (.ref x0), some (.int x1), some (.int x2), some (.int x3)]) (st' := [.int x3, .ref x0]) (sg := [(.aload_n 0, 0), (.iload_n 3, 0)]) (lSa_ok dd2) rfl ?_
      obtain ⟨_, o2, e1, m3, h⟩ := gOb_inv h
      refine Y.callI (yC.Vi (b := x0) (As := [.int x3]) (st := []) (r := ("Partlister$Lists", T_I, 7)) hV.1 cb_I_isThere lk_I_86 in_I_isThere rfl se_I_isThere (lIa_ok dd3) rfl rfl (Nat.le_of_ble_eq_true rfl) (by decide) e1 m3) (k_I_isThere hV G x0 x3) h (fun v5 G4 _ h => ?_)
      refine Y.if_eq (off := 20) (tgt := 35) (lIa_ok dd4) (by decide) h (fun c16 h => ?_) (fun c16 h => ?_)
      · refine Y.blk (pc' := 38) (L' := [some (.ref x0), some (.int x1), some (.int x2), some (.int (x3 + (nI 1)))]) (st' := []) (sg := [(.iinc 3 1, nI 1)]) (lSa_ok dd5) rfl ?_
        refine Y.goto (off := -34) (tgt := 4) (lIa_ok dd6) (by decide) ?_
        exact ih G4 x0 x1 x2 (x3 + (nI 1)) h
      · refine Y.blk (pc' := 21) (L' := [some (.ref x0), some (.int x1), some (.int x2), some (.int x3)]) (st' := [.int x1, .int x3, .ref x0]) (sg := [(.aload_n 0, 0), (.iload_n 3, 0), (.iload_n 1, 0)]) (lSa_ok dd7) rfl ?_
        obtain ⟨_, o7, e6, m8, h⟩ := gOb_inv h
        refine Y.callI (yC.Vi (b := x0) (As := [.int x3, .int x1]) (st := []) (r := ("Partlister$Lists", T_I, 7)) hV.1 cb_I_isWithin lk_I_90 in_I_isWithin rfl se_I_isWithin (lIa_ok dd8) rfl rfl (Nat.le_of_ble_eq_true rfl) (by decide) e6 m8) (k_I_isWithin hV G4 x0 x3 x1) h (fun v10 G9 _ h => ?_)
        refine Y.if_eq (off := 11) (tgt := 35) (lIa_ok dd9) (by decide) h (fun c15 h => ?_) (fun c15 h => ?_)
        · refine Y.blk (pc' := 38) (L' := [some (.ref x0), some (.int x1), some (.int x2), some (.int (x3 + (nI 1)))]) (st' := []) (sg := [(.iinc 3 1, nI 1)]) (lSa_ok dd5) rfl ?_
          refine Y.goto (off := -34) (tgt := 4) (lIa_ok dd6) (by decide) ?_
          exact ih G9 x0 x1 x2 (x3 + (nI 1)) h
        · refine Y.blk (pc' := 29) (L' := [some (.ref x0), some (.int x1), some (.int x2), some (.int x3)]) (st' := [.int x3, .ref x0]) (sg := [(.aload_n 0, 0), (.iload_n 3, 0)]) (lSa_ok dd10) rfl ?_
          obtain ⟨_, o12, e11, m13, h⟩ := gOb_inv h
          refine Y.callN (yC.Vi (b := x0) (As := [.int x3]) (st := []) (r := ("Partlister$Lists", T_I, 7)) hV.1 cb_I_finish lk_I_94 in_I_finish rfl se_I_finish (lIa_ok dd11) rfl rfl (Nat.le_of_ble_eq_true rfl) (by decide) e11 m13) (k_I_finish hV G9 x0 x3) h (fun G14 _ h => ?_)
          refine Y.blk (pc' := 38) (L' := [some (.ref x0), some (.int x1), some (.int (x2 + (nI 1))), some (.int (x3 + (nI 1)))]) (st' := []) (sg := [(.iinc 2 1, nI 1), (.iinc 3 1, nI 1)]) (lSa_ok dd12) rfl ?_
          refine Y.goto (off := -34) (tgt := 4) (lIa_ok dd6) (by decide) ?_
          exact ih G14 x0 x1 (x2 + (nI 1)) (x3 + (nI 1)) h
theorem k_I_endWithin {l : Launch} {D : va_G} {B : Nat} {O : State → Heap → Prop} (hV : zG l D B O) (G : gH) (a0 : Nat) (a1 : Int32) : gMet (zVm l D B O) m_I_endWithin 3 [.ref a0, .int a1] G (f_I_endWithin G a0 a1) := by
  have hdd : lSa m_I_endWithin 0 [(.iconst 0, nI 0), (.istore_n 2, 0), (.iconst 2, nI 2), (.istore_n 3, 0)] = true ∧ lSa m_I_endWithin 41 [(.iload_n 2, 0)] = true ∧ lIa m_I_endWithin 42 (.ireturn) 1 = true := by decide +kernel
  obtain ⟨dd0, dd1, dd2⟩ := hdd
  refine gMet.of (by decide +kernel) (Nat.le_of_ble_eq_true rfl) [some (.ref a0), some (.int a1), none, none] (fun ls h => zEn_ok (n := 4) h) ?_
  intro o Gf h
  unfold f_I_endWithin at h
  refine Y.blk (pc' := 4) (L' := [some (.ref a0), some (.int a1), some (.int (nI 0)), some (.int (nI 2))]) (st' := []) (sg := [(.iconst 0, nI 0), (.istore_n 2, 0), (.iconst 2, nI 2), (.istore_n 3, 0)]) (lSa_ok dd0) rfl ?_
  refine k_I_endWithin_L4 hV _ ?_  zFu G a0 a1 (nI 0) (nI 2) h
  · intro G19 x18 h
    refine Y.blk (pc' := 42) (L' := [none, none, some (.int x18), none]) (st' := [.int x18]) (sg := [(.iload_n 2, 0)]) (lSa_ok dd1) rfl ?_
    exact Y.iret rfl (lIa_ok dd2) h

def f_X_close_L16 (K64 : gH → Int32 → gR) : Nat → gH → Nat → Int32 → Int32 → gR
  | 0, _, _, _, _ => none
  | n + 1, G, x0, x2, x3 =>
    if (nI 3) ≤ x3 then K64 G x2
    else gFA G x0 3 1 fun v11 => gOb G v11 0 fun o13 => bI (f_U_isThere G v11 x3) fun v16 G15 => if v16 = 0 then f_X_close_L16 K64 n G15 x0 x2 (x3 + (nI 1))
      else gFA G15 x0 3 0 fun v17 => gFA G15 x0 3 1 fun v18 => gOb G15 v18 0 fun o20 => bI (f_U_listOf G15 v18 x3) fun v23 G22 => gOb G22 v17 1 fun o25 => bI (f_I_isThere G22 v17 v23) fun v28 G27 => if v28 = 0 then gFA G27 x0 3 1 fun v29 => gOb G27 v29 0 fun o31 => bV (f_U_finish G27 v29 x3) fun G33 => f_X_close_L16 K64 n G33 x0 x2 (x3 + (nI 1))
        else f_X_close_L16 K64 n G27 x0 x2 (x3 + (nI 1))
def f_X_close (G : gH) (a0 : Nat) (a1 : Int32) : gR :=
  gOb G a0 3 fun o2 => bV (f_X_needPart G a0 a1) fun G4 => gFA G4 a0 3 0 fun v5 => gOb G4 v5 1 fun o7 => bI (f_I_endWithin G4 v5 a1) fun v10 G9 => f_X_close_L16 (fun G38 x37 => rI x37 G38) zFu G9 a0 v10 (nI 0)
theorem k_X_close_L16 {l : Launch} {D : va_G} {B : Nat} {O : State → Heap → Prop} (hV : zG l D B O) {o : gO} {Gf : gH} (K64 : gH → Int32 → gR) (hK64 : ∀ (G : gH) (x2 : Int32), K64 G x2 = some (o, Gf) → Y (zVm l D B O) m_X_close 7 o Gf 64 [none, none, some (.int x2), none] [] G) : ∀ (n : Nat) (G : gH) (x0 : Nat) (x2 : Int32) (x3 : Int32), f_X_close_L16 K64 n G x0 x2 x3 = some (o, Gf) → Y (zVm l D B O) m_X_close 7 o Gf 16 [some (.ref x0), none, some (.int x2), some (.int x3)] [] G := by
  have hdd : lSa m_X_close 16 [(.iload_n 3, 0), (.iconst 3, nI 3)] = true ∧ lIa m_X_close 18 (.if_icmp .ge 46) 3 = true ∧ lSa m_X_close 21 [(.aload_n 0, 0)] = true ∧ lIa m_X_close 22 (.getfield 19) 3 = true ∧ lSa m_X_close 25 [(.iload_n 3, 0)] = true ∧ lIa m_X_close 26 (.invokevirtual 148) 3 = true ∧ lIa m_X_close 29 (.ifCond .eq 29) 3 = true ∧ lSa m_X_close 58 [(.iinc 3 1, nI 1)] = true ∧ lIa m_X_close 61 (.goto (-45)) 3 = true ∧ lSa m_X_close 32 [(.aload_n 0, 0)] = true ∧ lIa m_X_close 33 (.getfield 10) 3 = true ∧ lSa m_X_close 36 [(.aload_n 0, 0)] = true ∧ lIa m_X_close 37 (.getfield 19) 3 = true ∧ lSa m_X_close 40 [(.iload_n 3, 0)] = true ∧ lIa m_X_close 41 (.invokevirtual 152) 3 = true ∧ lIa m_X_close 44 (.invokevirtual 155) 3 = true ∧ lIa m_X_close 47 (.ifCond .ne 11) 3 = true ∧ lSa m_X_close 50 [(.aload_n 0, 0)] = true ∧ lIa m_X_close 51 (.getfield 19) 3 = true ∧ lSa m_X_close 54 [(.iload_n 3, 0)] = true ∧ lIa m_X_close 55 (.invokevirtual 156) 3 = true := by decide +kernel
  refine lA8 hdd (fun dd0 dd1 dd2 dd3 dd4 dd5 dd6 dd7 hdd => ?_)
  refine lA8 hdd (fun dd8 dd9 dd10 dd11 dd12 dd13 dd14 dd15 hdd => ?_)
  obtain ⟨dd16, dd17, dd18, dd19, dd20⟩ := hdd
  intro n
  induction n with
  | zero => intro G x0 x2 x3 h; cases h
  | succ n ih =>
    intro G x0 x2 x3 h
    unfold f_X_close_L16 at h
    refine Y.blk (pc' := 18) (L' := [some (.ref x0), none, some (.int x2), some (.int x3)]) (st' := [.int (nI 3), .int x3]) (sg := [(.iload_n 3, 0), (.iconst 3, nI 3)]) (lSa_ok dd0) rfl ?_
    refine Y.ic_ge (off := 46) (tgt := 64) (lIa_ok dd1) (by decide) h (fun c36 h => ?_) (fun c36 h => ?_)
    · refine Y.less (L' := [none, none, some (.int x2), none]) (zLe_none (zLe_some (zLe_some (zLe_none (zLe_nil))))) ?_
      exact hK64 G x2 h
    · refine Y.blk (pc' := 22) (L' := [some (.ref x0), none, some (.int x2), some (.int x3)]) (st' := [.ref x0]) (sg := [(.aload_n 0, 0)]) (lSa_ok dd2) rfl ?_
      refine Y.getA fl_X_19 (lIa_ok dd3) h (fun v11 h => ?_)
      refine Y.blk (pc' := 26) (L' := [some (.ref x0), none, some (.int x2), some (.int x3)]) (st' := [.int x3, .ref v11]) (sg := [(.iload_n 3, 0)]) (lSa_ok dd4) rfl ?_
      obtain ⟨_, o13, e12, m14, h⟩ := gOb_inv h
      refine Y.callI (yC.Vi (b := v11) (As := [.int x3]) (st := []) (r := ("Partlister$Cursors", T_U, 5)) hV.1 cb_U_isThere lk_X_148 in_U_isThere rfl se_U_isThere (lIa_ok dd5) rfl rfl (Nat.le_of_ble_eq_true rfl) (by decide) e12 m14) (k_U_isThere hV G v11 x3) h (fun v16 G15 _ h => ?_)
      refine Y.if_eq (off := 29) (tgt := 58) (lIa_ok dd6) (by decide) h (fun c35 h => ?_) (fun c35 h => ?_)
      · refine Y.blk (pc' := 61) (L' := [some (.ref x0), none, some (.int x2), some (.int (x3 + (nI 1)))]) (st' := []) (sg := [(.iinc 3 1, nI 1)]) (lSa_ok dd7) rfl ?_
        refine Y.goto (off := -45) (tgt := 16) (lIa_ok dd8) (by decide) ?_
        exact ih G15 x0 x2 (x3 + (nI 1)) h
      · refine Y.blk (pc' := 33) (L' := [some (.ref x0), none, some (.int x2), some (.int x3)]) (st' := [.ref x0]) (sg := [(.aload_n 0, 0)]) (lSa_ok dd9) rfl ?_
        refine Y.getA fl_X_10 (lIa_ok dd10) h (fun v17 h => ?_)
        refine Y.blk (pc' := 37) (L' := [some (.ref x0), none, some (.int x2), some (.int x3)]) (st' := [.ref x0, .ref v17]) (sg := [(.aload_n 0, 0)]) (lSa_ok dd11) rfl ?_
        refine Y.getA fl_X_19 (lIa_ok dd12) h (fun v18 h => ?_)
        refine Y.blk (pc' := 41) (L' := [some (.ref x0), none, some (.int x2), some (.int x3)]) (st' := [.int x3, .ref v18, .ref v17]) (sg := [(.iload_n 3, 0)]) (lSa_ok dd13) rfl ?_
        obtain ⟨_, o20, e19, m21, h⟩ := gOb_inv h
        refine Y.callI (yC.Vi (b := v18) (As := [.int x3]) (st := [.ref v17]) (r := ("Partlister$Cursors", T_U, 5)) hV.1 cb_U_listOf lk_X_152 in_U_listOf rfl se_U_listOf (lIa_ok dd14) rfl rfl (Nat.le_of_ble_eq_true rfl) (by decide) e19 m21) (k_U_listOf hV G15 v18 x3) h (fun v23 G22 _ h => ?_)
        obtain ⟨_, o25, e24, m26, h⟩ := gOb_inv h
        refine Y.callI (yC.Vi (b := v17) (As := [.int v23]) (st := []) (r := ("Partlister$Lists", T_I, 7)) hV.1 cb_I_isThere lk_X_155 in_I_isThere rfl se_I_isThere (lIa_ok dd15) rfl rfl (Nat.le_of_ble_eq_true rfl) (by decide) e24 m26) (k_I_isThere hV G22 v17 v23) h (fun v28 G27 _ h => ?_)
        refine Y.if_ne (off := 11) (tgt := 58) (lIa_ok dd16) (by decide) h (fun c34 h => ?_) (fun c34 h => ?_)
        · refine Y.blk (pc' := 51) (L' := [some (.ref x0), none, some (.int x2), some (.int x3)]) (st' := [.ref x0]) (sg := [(.aload_n 0, 0)]) (lSa_ok dd17) rfl ?_
          refine Y.getA fl_X_19 (lIa_ok dd18) h (fun v29 h => ?_)
          refine Y.blk (pc' := 55) (L' := [some (.ref x0), none, some (.int x2), some (.int x3)]) (st' := [.int x3, .ref v29]) (sg := [(.iload_n 3, 0)]) (lSa_ok dd19) rfl ?_
          obtain ⟨_, o31, e30, m32, h⟩ := gOb_inv h
          refine Y.callN (yC.Vi (b := v29) (As := [.int x3]) (st := []) (r := ("Partlister$Cursors", T_U, 5)) hV.1 cb_U_finish lk_X_156 in_U_finish rfl se_U_finish (lIa_ok dd20) rfl rfl (Nat.le_of_ble_eq_true rfl) (by decide) e30 m32) (k_U_finish hV G27 v29 x3) h (fun G33 _ h => ?_)
          refine Y.blk (pc' := 61) (L' := [some (.ref x0), none, some (.int x2), some (.int (x3 + (nI 1)))]) (st' := []) (sg := [(.iinc 3 1, nI 1)]) (lSa_ok dd7) rfl ?_
          refine Y.goto (off := -45) (tgt := 16) (lIa_ok dd8) (by decide) ?_
          exact ih G33 x0 x2 (x3 + (nI 1)) h
        · refine Y.blk (pc' := 61) (L' := [some (.ref x0), none, some (.int x2), some (.int (x3 + (nI 1)))]) (st' := []) (sg := [(.iinc 3 1, nI 1)]) (lSa_ok dd7) rfl ?_
          refine Y.goto (off := -45) (tgt := 16) (lIa_ok dd8) (by decide) ?_
          exact ih G27 x0 x2 (x3 + (nI 1)) h
theorem k_X_close {l : Launch} {D : va_G} {B : Nat} {O : State → Heap → Prop} (hV : zG l D B O) (G : gH) (a0 : Nat) (a1 : Int32) : gMet (zVm l D B O) m_X_close 7 [.ref a0, .int a1] G (f_X_close G a0 a1) := by
  have hdd : lSa m_X_close 0 [(.aload_n 0, 0), (.iload_n 1, 0)] = true ∧ lIa m_X_close 2 (.invokevirtual 142) 3 = true ∧ lSa m_X_close 5 [(.aload_n 0, 0)] = true ∧ lIa m_X_close 6 (.getfield 10) 3 = true ∧ lSa m_X_close 9 [(.iload_n 1, 0)] = true ∧ lIa m_X_close 10 (.invokevirtual 145) 3 = true ∧ lSa m_X_close 13 [(.istore_n 2, 0), (.iconst 0, nI 0), (.istore_n 3, 0)] = true ∧ lSa m_X_close 64 [(.iload_n 2, 0)] = true ∧ lIa m_X_close 65 (.ireturn) 1 = true := by decide +kernel
  refine lA8 hdd (fun dd0 dd1 dd2 dd3 dd4 dd5 dd6 dd7 hdd => ?_)
  have dd8 := hdd
  refine gMet.of (by decide +kernel) (Nat.le_of_ble_eq_true rfl) [some (.ref a0), some (.int a1), none, none] (fun ls h => zEn_ok (n := 4) h) ?_
  intro o Gf h
  unfold f_X_close at h
  refine Y.blk (pc' := 2) (L' := [some (.ref a0), some (.int a1), none, none]) (st' := [.int a1, .ref a0]) (sg := [(.aload_n 0, 0), (.iload_n 1, 0)]) (lSa_ok dd0) rfl ?_
  obtain ⟨_, o2, e1, m3, h⟩ := gOb_inv h
  refine Y.callN (yC.Vi (b := a0) (As := [.int a1]) (st := []) (r := ("Partlister", T_X, 5)) hV.1 cb_X_needPart lk_X_142 in_X_needPart rfl se_X_needPart (lIa_ok dd1) rfl rfl (Nat.le_of_ble_eq_true rfl) (by decide) e1 m3) (k_X_needPart hV G a0 a1) h (fun G4 _ h => ?_)
  refine Y.blk (pc' := 6) (L' := [some (.ref a0), some (.int a1), none, none]) (st' := [.ref a0]) (sg := [(.aload_n 0, 0)]) (lSa_ok dd2) rfl ?_
  refine Y.getA fl_X_10 (lIa_ok dd3) h (fun v5 h => ?_)
  refine Y.blk (pc' := 10) (L' := [some (.ref a0), some (.int a1), none, none]) (st' := [.int a1, .ref v5]) (sg := [(.iload_n 1, 0)]) (lSa_ok dd4) rfl ?_
  obtain ⟨_, o7, e6, m8, h⟩ := gOb_inv h
  refine Y.callI (yC.Vi (b := v5) (As := [.int a1]) (st := []) (r := ("Partlister$Lists", T_I, 7)) hV.1 cb_I_endWithin lk_X_145 in_I_endWithin rfl se_I_endWithin (lIa_ok dd5) rfl rfl (Nat.le_of_ble_eq_true rfl) (by decide) e6 m8) (k_I_endWithin hV G4 v5 a1) h (fun v10 G9 _ h => ?_)
  refine Y.blk (pc' := 16) (L' := [some (.ref a0), some (.int a1), some (.int v10), some (.int (nI 0))]) (st' := []) (sg := [(.istore_n 2, 0), (.iconst 0, nI 0), (.istore_n 3, 0)]) (lSa_ok dd6) rfl ?_
  refine Y.less (L' := [some (.ref a0), none, some (.int v10), some (.int (nI 0))]) (zLe_some (zLe_none (zLe_some (zLe_some (zLe_nil))))) ?_
  refine k_X_close_L16 hV _ ?_  zFu G9 a0 v10 (nI 0) h
  · intro G38 x37 h
    refine Y.blk (pc' := 65) (L' := [none, none, some (.int x37), none]) (st' := [.int x37]) (sg := [(.iload_n 2, 0)]) (lSa_ok dd7) rfl ?_
    exact Y.iret rfl (lIa_ok dd8) h

def f_X_countDigits_L9 (K33 : gH → Int32 → gR) : Nat → gH → Int32 → Int32 → Int32 → gR
  | 0, _, _, _, _ => none
  | n + 1, G, x1, x2, x3 =>
    if (nI 10) ≤ x3 then K33 G x1
    else if x2 ≤ 0 then K33 G x1
      else gDiv x2 (nI 10) fun v2 => f_X_countDigits_L9 K33 n G (x1 + (nI 1)) v2 (x3 + (nI 1))
def f_X_countDigits (G : gH) (a0 : Int32) : gR :=
  gDiv a0 (nI 10) fun v1 => f_X_countDigits_L9 (fun G6 x5 => rI x5 G6) zFu G (nI 1) v1 (nI 1)
theorem k_X_countDigits_L9 {l : Launch} {D : va_G} {B : Nat} {O : State → Heap → Prop} (hV : zG l D B O) {o : gO} {Gf : gH} (K33 : gH → Int32 → gR) (hK33 : ∀ (G : gH) (x1 : Int32), K33 G x1 = some (o, Gf) → Y (zVm l D B O) m_X_countDigits 1 o Gf 33 [none, some (.int x1), none, none] [] G) : ∀ (n : Nat) (G : gH) (x1 : Int32) (x2 : Int32) (x3 : Int32), f_X_countDigits_L9 K33 n G x1 x2 x3 = some (o, Gf) → Y (zVm l D B O) m_X_countDigits 1 o Gf 9 [none, some (.int x1), some (.int x2), some (.int x3)] [] G := by
  have hdd : lSa m_X_countDigits 9 [(.iload_n 3, 0), (.bipush 10, nI 10)] = true ∧ lIa m_X_countDigits 12 (.if_icmp .ge 21) 3 = true ∧ lSa m_X_countDigits 15 [(.iload_n 2, 0)] = true ∧ lIa m_X_countDigits 16 (.ifCond .le 17) 3 = true ∧ lSa m_X_countDigits 19 [(.iinc 1 1, nI 1), (.iload_n 2, 0), (.bipush 10, nI 10)] = true ∧ lIa m_X_countDigits 25 (.idiv) 1 = true ∧ lSa m_X_countDigits 26 [(.istore_n 2, 0), (.iinc 3 1, nI 1)] = true ∧ lIa m_X_countDigits 30 (.goto (-21)) 3 = true := by decide +kernel
  obtain ⟨dd0, dd1, dd2, dd3, dd4, dd5, dd6, dd7⟩ := hdd
  intro n
  induction n with
  | zero => intro G x1 x2 x3 h; cases h
  | succ n ih =>
    intro G x1 x2 x3 h
    unfold f_X_countDigits_L9 at h
    refine Y.blk (pc' := 12) (L' := [none, some (.int x1), some (.int x2), some (.int x3)]) (st' := [.int (nI 10), .int x3]) (sg := [(.iload_n 3, 0), (.bipush 10, nI 10)]) (lSa_ok dd0) rfl ?_
    refine Y.ic_ge (off := 21) (tgt := 33) (lIa_ok dd1) (by decide) h (fun c4 h => ?_) (fun c4 h => ?_)
    · refine Y.less (L' := [none, some (.int x1), none, none]) (zLe_some (zLe_some (zLe_none (zLe_none (zLe_nil))))) ?_
      exact hK33 G x1 h
    · refine Y.blk (pc' := 16) (L' := [none, some (.int x1), some (.int x2), some (.int x3)]) (st' := [.int x2]) (sg := [(.iload_n 2, 0)]) (lSa_ok dd2) rfl ?_
      refine Y.if_le (off := 17) (tgt := 33) (lIa_ok dd3) (by decide) h (fun c3 h => ?_) (fun c3 h => ?_)
      · refine Y.less (L' := [none, some (.int x1), none, none]) (zLe_some (zLe_some (zLe_none (zLe_none (zLe_nil))))) ?_
        exact hK33 G x1 h
      · refine Y.blk (pc' := 25) (L' := [none, some (.int (x1 + (nI 1))), some (.int x2), some (.int x3)]) (st' := [.int (nI 10), .int x2]) (sg := [(.iinc 1 1, nI 1), (.iload_n 2, 0), (.bipush 10, nI 10)]) (lSa_ok dd4) rfl ?_
        refine Y.idiv (lIa_ok dd5) h (fun v2 h => ?_)
        refine Y.blk (pc' := 30) (L' := [none, some (.int (x1 + (nI 1))), some (.int v2), some (.int (x3 + (nI 1)))]) (st' := []) (sg := [(.istore_n 2, 0), (.iinc 3 1, nI 1)]) (lSa_ok dd6) rfl ?_
        refine Y.goto (off := -21) (tgt := 9) (lIa_ok dd7) (by decide) ?_
        exact ih G (x1 + (nI 1)) v2 (x3 + (nI 1)) h
theorem k_X_countDigits {l : Launch} {D : va_G} {B : Nat} {O : State → Heap → Prop} (hV : zG l D B O) (G : gH) (a0 : Int32) : gMet (zVm l D B O) m_X_countDigits 1 [.int a0] G (f_X_countDigits G a0) := by
  have hdd : lSa m_X_countDigits 0 [(.iconst 1, nI 1), (.istore_n 1, 0), (.iload_n 0, 0), (.bipush 10, nI 10)] = true ∧ lIa m_X_countDigits 5 (.idiv) 1 = true ∧ lSa m_X_countDigits 6 [(.istore_n 2, 0), (.iconst 1, nI 1), (.istore_n 3, 0)] = true ∧ lSa m_X_countDigits 33 [(.iload_n 1, 0)] = true ∧ lIa m_X_countDigits 34 (.ireturn) 1 = true := by decide +kernel
  obtain ⟨dd0, dd1, dd2, dd3, dd4⟩ := hdd
  refine gMet.of (by decide +kernel) (Nat.le_of_ble_eq_true rfl) [some (.int a0), none, none, none] (fun ls h => zEn_ok (n := 4) h) ?_
  intro o Gf h
  unfold f_X_countDigits at h
  refine Y.blk (pc' := 5) (L' := [some (.int a0), some (.int (nI 1)), none, none]) (st' := [.int (nI 10), .int a0]) (sg := [(.iconst 1, nI 1), (.istore_n 1, 0), (.iload_n 0, 0), (.bipush 10, nI 10)]) (lSa_ok dd0) rfl ?_
  refine Y.idiv (lIa_ok dd1) h (fun v1 h => ?_)
  refine Y.blk (pc' := 9) (L' := [some (.int a0), some (.int (nI 1)), some (.int v1), some (.int (nI 1))]) (st' := []) (sg := [(.istore_n 2, 0), (.iconst 1, nI 1), (.istore_n 3, 0)]) (lSa_ok dd2) rfl ?_
  refine Y.less (L' := [none, some (.int (nI 1)), some (.int v1), some (.int (nI 1))]) (zLe_none (zLe_some (zLe_some (zLe_some (zLe_nil))))) ?_
  refine k_X_countDigits_L9 hV _ ?_  zFu G (nI 1) v1 (nI 1) h
  · intro G6 x5 h
    refine Y.blk (pc' := 34) (L' := [none, some (.int x5), none, none]) (st' := [.int x5]) (sg := [(.iload_n 1, 0)]) (lSa_ok dd3) rfl ?_
    exact Y.iret rfl (lIa_ok dd4) h

def f_X_countSigns_L22 (K68 : gH → Int32 → gR) : Nat → gH → Nat → Int32 → Int32 → Int32 → Int32 → gR
  | 0, _, _, _, _, _, _ => none
  | n + 1, G, x0, x1, x2, x3, x4 =>
    if x2 ≤ x4 then K68 G x3
    else gFA G x0 3 0 fun v7 => gOb G v7 1 fun o9 => bI (f_I_thingAt G v7 x1 x4) fun v12 G11 => bI (f_X_keyOf G11 v12) fun v15 G14 => bI (f_X_countDigits G14 v15) fun v18 G17 => bI (f_X_tagOf G17 v12) fun v21 G20 => bI (f_X_countDigits G20 v21) fun v24 G23 => f_X_countSigns_L22 K68 n G23 x0 x1 x2 (x3 + ((v18 + (nI 1)) + v24)) (x4 + (nI 1))
def f_X_countSigns (G : gH) (a0 : Nat) (a1 : Int32) : gR :=
  gFA G a0 3 0 fun v1 => gOb G v1 1 fun o3 => bI (f_I_lengthOf G v1 a1) fun v6 G5 => if v6 = 0 then rI (nI 1) G5
  else f_X_countSigns_L22 (fun G27 x26 => rI x26 G27) zFu G5 a0 a1 v6 (v6 - (nI 1)) (nI 0)
theorem k_X_countSigns_L22 {l : Launch} {D : va_G} {B : Nat} {O : State → Heap → Prop} (hV : zG l D B O) {o : gO} {Gf : gH} (K68 : gH → Int32 → gR) (hK68 : ∀ (G : gH) (x3 : Int32), K68 G x3 = some (o, Gf) → Y (zVm l D B O) m_X_countSigns 4 o Gf 68 [none, none, none, some (.int x3), none, none] [] G) : ∀ (n : Nat) (G : gH) (x0 : Nat) (x1 : Int32) (x2 : Int32) (x3 : Int32) (x4 : Int32), f_X_countSigns_L22 K68 n G x0 x1 x2 x3 x4 = some (o, Gf) → Y (zVm l D B O) m_X_countSigns 4 o Gf 22 [some (.ref x0), some (.int x1), some (.int x2), some (.int x3), some (.int x4), none] [] G := by
  have hdd : lSa m_X_countSigns 22 [(.iload 4, 0), (.iload_n 2, 0)] = true ∧ lIa m_X_countSigns 25 (.if_icmp .ge 43) 3 = true ∧ lSa m_X_countSigns 28 [(.aload_n 0, 0)] = true ∧ lIa m_X_countSigns 29 (.getfield 10) 3 = true ∧ lSa m_X_countSigns 32 [(.iload_n 1, 0), (.iload 4, 0)] = true ∧ lIa m_X_countSigns 35 (.invokevirtual 94) 3 = true ∧ lSa m_X_countSigns 38 [(.istore 5, 0), (.iload_n 3, 0), (.iload 5, 0)] = true ∧ lIa m_X_countSigns 43 (.invokestatic 97) 3 = true ∧ lIa m_X_countSigns 46 (.invokestatic 326) 3 = true ∧ lSa m_X_countSigns 49 [(.iconst 1, nI 1), (.iadd, 0), (.iload 5, 0)] = true ∧ lIa m_X_countSigns 53 (.invokestatic 48) 3 = true ∧ lIa m_X_countSigns 56 (.invokestatic 326) 3 = true ∧ lSa m_X_countSigns 59 [(.iadd, 0), (.iadd, 0), (.istore_n 3, 0), (.iinc 4 1, nI 1)] = true ∧ lIa m_X_countSigns 65 (.goto (-43)) 3 = true := by decide +kernel
  refine lA8 hdd (fun dd0 dd1 dd2 dd3 dd4 dd5 dd6 dd7 hdd => ?_)
  obtain ⟨dd8, dd9, dd10, dd11, dd12, dd13⟩ := hdd
  intro n
  induction n with
  | zero => intro G x0 x1 x2 x3 x4 h; cases h
  | succ n ih =>
    intro G x0 x1 x2 x3 x4 h
    unfold f_X_countSigns_L22 at h
    refine Y.blk (pc' := 25) (L' := [some (.ref x0), some (.int x1), some (.int x2), some (.int x3), some (.int x4), none]) (st' := [.int x2, .int x4]) (sg := [(.iload 4, 0), (.iload_n 2, 0)]) (lSa_ok dd0) rfl ?_
    refine Y.ic_ge (off := 43) (tgt := 68) (lIa_ok dd1) (by decide) h (fun c25 h => ?_) (fun c25 h => ?_)
    · refine Y.less (L' := [none, none, none, some (.int x3), none, none]) (zLe_none (zLe_none (zLe_none (zLe_some (zLe_none (zLe_some (zLe_nil))))))) ?_
      exact hK68 G x3 h
    · refine Y.blk (pc' := 29) (L' := [some (.ref x0), some (.int x1), some (.int x2), some (.int x3), some (.int x4), none]) (st' := [.ref x0]) (sg := [(.aload_n 0, 0)]) (lSa_ok dd2) rfl ?_
      refine Y.getA fl_X_10 (lIa_ok dd3) h (fun v7 h => ?_)
      refine Y.blk (pc' := 35) (L' := [some (.ref x0), some (.int x1), some (.int x2), some (.int x3), some (.int x4), none]) (st' := [.int x4, .int x1, .ref v7]) (sg := [(.iload_n 1, 0), (.iload 4, 0)]) (lSa_ok dd4) rfl ?_
      obtain ⟨_, o9, e8, m10, h⟩ := gOb_inv h
      refine Y.callI (yC.Vi (b := v7) (As := [.int x1, .int x4]) (st := []) (r := ("Partlister$Lists", T_I, 7)) hV.1 cb_I_thingAt lk_X_94 in_I_thingAt rfl se_I_thingAt (lIa_ok dd5) rfl rfl (Nat.le_of_ble_eq_true rfl) (by decide) e8 m10) (k_I_thingAt hV G v7 x1 x4) h (fun v12 G11 _ h => ?_)
      refine Y.blk (pc' := 43) (L' := [some (.ref x0), some (.int x1), some (.int x2), some (.int x3), some (.int x4), some (.int v12)]) (st' := [.int v12, .int x3]) (sg := [(.istore 5, 0), (.iload_n 3, 0), (.iload 5, 0)]) (lSa_ok dd6) rfl ?_
      refine Y.callI (yC.S (As := [.int v12]) (st := [.int x3]) hV.1 cb_X_keyOf lk_X_97 st_X_keyOf (lIa_ok dd7) rfl rfl (Nat.le_of_ble_eq_true rfl) (by decide)) (k_X_keyOf hV G11 v12) h (fun v15 G14 _ h => ?_)
      refine Y.callI (yC.S (As := [.int v15]) (st := [.int x3]) hV.1 cb_X_countDigits lk_X_326 st_X_countDigits (lIa_ok dd8) rfl rfl (Nat.le_of_ble_eq_true rfl) (by decide)) (k_X_countDigits hV G14 v15) h (fun v18 G17 _ h => ?_)
      refine Y.blk (pc' := 53) (L' := [some (.ref x0), some (.int x1), some (.int x2), some (.int x3), some (.int x4), some (.int v12)]) (st' := [.int v12, .int (v18 + (nI 1)), .int x3]) (sg := [(.iconst 1, nI 1), (.iadd, 0), (.iload 5, 0)]) (lSa_ok dd9) rfl ?_
      refine Y.callI (yC.S (As := [.int v12]) (st := [.int (v18 + (nI 1)), .int x3]) hV.1 cb_X_tagOf lk_X_48 st_X_tagOf (lIa_ok dd10) rfl rfl (Nat.le_of_ble_eq_true rfl) (by decide)) (k_X_tagOf hV G17 v12) h (fun v21 G20 _ h => ?_)
      refine Y.callI (yC.S (As := [.int v21]) (st := [.int (v18 + (nI 1)), .int x3]) hV.1 cb_X_countDigits lk_X_326 st_X_countDigits (lIa_ok dd11) rfl rfl (Nat.le_of_ble_eq_true rfl) (by decide)) (k_X_countDigits hV G20 v21) h (fun v24 G23 _ h => ?_)
      refine Y.blk (pc' := 65) (L' := [some (.ref x0), some (.int x1), some (.int x2), some (.int (x3 + ((v18 + (nI 1)) + v24))), some (.int (x4 + (nI 1))), some (.int v12)]) (st' := []) (sg := [(.iadd, 0), (.iadd, 0), (.istore_n 3, 0), (.iinc 4 1, nI 1)]) (lSa_ok dd12) rfl ?_
      refine Y.goto (off := -43) (tgt := 22) (lIa_ok dd13) (by decide) ?_
      refine Y.less (L' := [some (.ref x0), some (.int x1), some (.int x2), some (.int (x3 + ((v18 + (nI 1)) + v24))), some (.int (x4 + (nI 1))), none]) (zLe_some (zLe_some (zLe_some (zLe_some (zLe_some (zLe_none (zLe_nil))))))) ?_
      exact ih G23 x0 x1 x2 (x3 + ((v18 + (nI 1)) + v24)) (x4 + (nI 1)) h
theorem k_X_countSigns {l : Launch} {D : va_G} {B : Nat} {O : State → Heap → Prop} (hV : zG l D B O) (G : gH) (a0 : Nat) (a1 : Int32) : gMet (zVm l D B O) m_X_countSigns 4 [.ref a0, .int a1] G (f_X_countSigns G a0 a1) := by
  have hdd : lSa m_X_countSigns 0 [(.aload_n 0, 0)] = true ∧ lIa m_X_countSigns 1 (.getfield 10) 3 = true ∧ lSa m_X_countSigns 4 [(.iload_n 1, 0)] = true ∧ lIa m_X_countSigns 5 (.invokevirtual 34) 3 = true ∧ lSa m_X_countSigns 8 [(.istore_n 2, 0), (.iload_n 2, 0)] = true ∧ lIa m_X_countSigns 10 (.ifCond .ne 5) 3 = true ∧ lSa m_X_countSigns 13 [(.iconst 1, nI 1)] = true ∧ lIa m_X_countSigns 14 (.ireturn) 1 = true ∧ lSa m_X_countSigns 15 [(.iload_n 2, 0), (.iconst 1, nI 1), (.isub, 0), (.istore_n 3, 0), (.iconst 0, nI 0), (.istore 4, 0)] = true ∧ lSa m_X_countSigns 68 [(.iload_n 3, 0)] = true ∧ lIa m_X_countSigns 69 (.ireturn) 1 = true := by decide +kernel
  refine lA8 hdd (fun dd0 dd1 dd2 dd3 dd4 dd5 dd6 dd7 hdd => ?_)
  obtain ⟨dd8, dd9, dd10⟩ := hdd
  refine gMet.of (by decide +kernel) (Nat.le_of_ble_eq_true rfl) [some (.ref a0), some (.int a1), none, none, none, none] (fun ls h => zEn_ok (n := 6) h) ?_
  intro o Gf h
  unfold f_X_countSigns at h
  refine Y.blk (pc' := 1) (L' := [some (.ref a0), some (.int a1), none, none, none, none]) (st' := [.ref a0]) (sg := [(.aload_n 0, 0)]) (lSa_ok dd0) rfl ?_
  refine Y.getA fl_X_10 (lIa_ok dd1) h (fun v1 h => ?_)
  refine Y.blk (pc' := 5) (L' := [some (.ref a0), some (.int a1), none, none, none, none]) (st' := [.int a1, .ref v1]) (sg := [(.iload_n 1, 0)]) (lSa_ok dd2) rfl ?_
  obtain ⟨_, o3, e2, m4, h⟩ := gOb_inv h
  refine Y.callI (yC.Vi (b := v1) (As := [.int a1]) (st := []) (r := ("Partlister$Lists", T_I, 7)) hV.1 cb_I_lengthOf lk_X_34 in_I_lengthOf rfl se_I_lengthOf (lIa_ok dd3) rfl rfl (Nat.le_of_ble_eq_true rfl) (by decide) e2 m4) (k_I_lengthOf hV G v1 a1) h (fun v6 G5 _ h => ?_)
  refine Y.blk (pc' := 10) (L' := [some (.ref a0), some (.int a1), some (.int v6), none, none, none]) (st' := [.int v6]) (sg := [(.istore_n 2, 0), (.iload_n 2, 0)]) (lSa_ok dd4) rfl ?_
  refine Y.if_ne (off := 5) (tgt := 15) (lIa_ok dd5) (by decide) h (fun c28 h => ?_) (fun c28 h => ?_)
  · refine Y.blk (pc' := 14) (L' := [some (.ref a0), some (.int a1), some (.int v6), none, none, none]) (st' := [.int (nI 1)]) (sg := [(.iconst 1, nI 1)]) (lSa_ok dd6) rfl ?_
    exact Y.iret rfl (lIa_ok dd7) h
  · refine Y.blk (pc' := 22) (L' := [some (.ref a0), some (.int a1), some (.int v6), some (.int (v6 - (nI 1))), some (.int (nI 0)), none]) (st' := []) (sg := [(.iload_n 2, 0), (.iconst 1, nI 1), (.isub, 0), (.istore_n 3, 0), (.iconst 0, nI 0), (.istore 4, 0)]) (lSa_ok dd8) rfl ?_
    refine k_X_countSigns_L22 hV _ ?_  zFu G5 a0 a1 v6 (v6 - (nI 1)) (nI 0) h
    · intro G27 x26 h
      refine Y.blk (pc' := 69) (L' := [none, none, none, some (.int x26), none, none]) (st' := [.int x26]) (sg := [(.iload_n 3, 0)]) (lSa_ok dd9) rfl ?_
      exact Y.iret rfl (lIa_ok dd10) h

def f_U_freeCursor_L2 (K15 : gH → Int32 → gR) (K23 : gH → gR) : Nat → gH → Nat → Int32 → gR
  | 0, _, _, _ => none
  | n + 1, G, x0, x1 =>
    if (nI 3) ≤ x1 then K23 G
    else gOb G x0 0 fun o2 => bI (f_U_isThere G x0 x1) fun v5 G4 => if v5 = 0 then K15 G4 x1
      else f_U_freeCursor_L2 K15 K23 n G4 x0 (x1 + (nI 1))
def f_U_freeCursor (G : gH) (a0 : Nat) : gR :=
  f_U_freeCursor_L2 (fun G9 x8 => rI x8 G9) (fun G10 => rI (-1) G10) zFu G a0 (nI 0)
theorem k_U_freeCursor_L2 {l : Launch} {D : va_G} {B : Nat} {O : State → Heap → Prop} (hV : zG l D B O) {o : gO} {Gf : gH} (K15 : gH → Int32 → gR) (K23 : gH → gR) (hK15 : ∀ (G : gH) (x1 : Int32), K15 G x1 = some (o, Gf) → Y (zVm l D B O) m_U_freeCursor 4 o Gf 15 [none, some (.int x1)] [] G) (hK23 : ∀ (G : gH), K23 G  = some (o, Gf) → Y (zVm l D B O) m_U_freeCursor 4 o Gf 23 [none, none] [] G) : ∀ (n : Nat) (G : gH) (x0 : Nat) (x1 : Int32), f_U_freeCursor_L2 K15 K23 n G x0 x1 = some (o, Gf) → Y (zVm l D B O) m_U_freeCursor 4 o Gf 2 [some (.ref x0), some (.int x1)] [] G := by
  have hdd : lSa m_U_freeCursor 2 [(.iload_n 1, 0), (.iconst 3, nI 3)] = true ∧ lIa m_U_freeCursor 4 (.if_icmp .ge 19) 3 = true ∧ lSa m_U_freeCursor 7 [(.aload_n 0, 0), (.iload_n 1, 0)] = true ∧ lIa m_U_freeCursor 9 (.invokevirtual 37) 3 = true ∧ lIa m_U_freeCursor 12 (.ifCond .ne 5) 3 = true ∧ lSa m_U_freeCursor 17 [(.iinc 1 1, nI 1)] = true ∧ lIa m_U_freeCursor 20 (.goto (-18)) 3 = true := by decide +kernel
  obtain ⟨dd0, dd1, dd2, dd3, dd4, dd5, dd6⟩ := hdd
  intro n
  induction n with
  | zero => intro G x0 x1 h; cases h
  | succ n ih =>
    intro G x0 x1 h
    unfold f_U_freeCursor_L2 at h
    refine Y.blk (pc' := 4) (L' := [some (.ref x0), some (.int x1)]) (st' := [.int (nI 3), .int x1]) (sg := [(.iload_n 1, 0), (.iconst 3, nI 3)]) (lSa_ok dd0) rfl ?_
    refine Y.ic_ge (off := 19) (tgt := 23) (lIa_ok dd1) (by decide) h (fun c7 h => ?_) (fun c7 h => ?_)
    · refine Y.less (L' := [none, none]) (zLe_none (zLe_none (zLe_nil))) ?_
      exact hK23 G  h
    · refine Y.blk (pc' := 9) (L' := [some (.ref x0), some (.int x1)]) (st' := [.int x1, .ref x0]) (sg := [(.aload_n 0, 0), (.iload_n 1, 0)]) (lSa_ok dd2) rfl ?_
      obtain ⟨_, o2, e1, m3, h⟩ := gOb_inv h
      refine Y.callI (yC.Vi (b := x0) (As := [.int x1]) (st := []) (r := ("Partlister$Cursors", T_U, 5)) hV.1 cb_U_isThere lk_U_37 in_U_isThere rfl se_U_isThere (lIa_ok dd3) rfl rfl (Nat.le_of_ble_eq_true rfl) (by decide) e1 m3) (k_U_isThere hV G x0 x1) h (fun v5 G4 _ h => ?_)
      refine Y.if_ne (off := 5) (tgt := 17) (lIa_ok dd4) (by decide) h (fun c6 h => ?_) (fun c6 h => ?_)
      · refine Y.less (L' := [none, some (.int x1)]) (zLe_none (zLe_some (zLe_nil))) ?_
        exact hK15 G4 x1 h
      · refine Y.blk (pc' := 20) (L' := [some (.ref x0), some (.int (x1 + (nI 1)))]) (st' := []) (sg := [(.iinc 1 1, nI 1)]) (lSa_ok dd5) rfl ?_
        refine Y.goto (off := -18) (tgt := 2) (lIa_ok dd6) (by decide) ?_
        exact ih G4 x0 (x1 + (nI 1)) h
theorem k_U_freeCursor {l : Launch} {D : va_G} {B : Nat} {O : State → Heap → Prop} (hV : zG l D B O) (G : gH) (a0 : Nat) : gMet (zVm l D B O) m_U_freeCursor 4 [.ref a0] G (f_U_freeCursor G a0) := by
  have hdd : lSa m_U_freeCursor 0 [(.iconst 0, nI 0), (.istore_n 1, 0)] = true ∧ lSa m_U_freeCursor 15 [(.iload_n 1, 0)] = true ∧ lIa m_U_freeCursor 16 (.ireturn) 1 = true ∧ lSa m_U_freeCursor 23 [(.iconst (-1), -1)] = true ∧ lIa m_U_freeCursor 24 (.ireturn) 1 = true := by decide +kernel
  obtain ⟨dd0, dd1, dd2, dd3, dd4⟩ := hdd
  refine gMet.of (by decide +kernel) (Nat.le_of_ble_eq_true rfl) [some (.ref a0), none] (fun ls h => zEn_ok (n := 2) h) ?_
  intro o Gf h
  unfold f_U_freeCursor at h
  refine Y.blk (pc' := 2) (L' := [some (.ref a0), some (.int (nI 0))]) (st' := []) (sg := [(.iconst 0, nI 0), (.istore_n 1, 0)]) (lSa_ok dd0) rfl ?_
  refine k_U_freeCursor_L2 hV _ _ ?_ ?_  zFu G a0 (nI 0) h
  · intro G9 x8 h
    refine Y.blk (pc' := 16) (L' := [none, some (.int x8)]) (st' := [.int x8]) (sg := [(.iload_n 1, 0)]) (lSa_ok dd1) rfl ?_
    exact Y.iret rfl (lIa_ok dd2) h
  · intro G10 h
    refine Y.blk (pc' := 24) (L' := [none, none]) (st' := [.int (-1)]) (sg := [(.iconst (-1), -1)]) (lSa_ok dd3) rfl ?_
    exact Y.iret rfl (lIa_ok dd4) h

def f_U_stand (G : gH) (a0 : Nat) (a1 : Int32) (a2 : Int32) (a3 : Int32) : gR :=
  gFA G a0 0 2 fun v1 => gOb G v1 2 fun o3 => bV (f_N_write G v1 a1 a2) fun G5 => gFA G5 a0 0 3 fun v6 => gOb G5 v6 2 fun o8 => bV (f_N_write G5 v6 a1 a3) fun G10 => rV G10
theorem k_U_stand {l : Launch} {D : va_G} {B : Nat} {O : State → Heap → Prop} (hV : zG l D B O) (G : gH) (a0 : Nat) (a1 : Int32) (a2 : Int32) (a3 : Int32) : gMet (zVm l D B O) m_U_stand 2 [.ref a0, .int a1, .int a2, .int a3] G (f_U_stand G a0 a1 a2 a3) := by
  have hdd : lSa m_U_stand 0 [(.aload_n 0, 0)] = true ∧ lIa m_U_stand 1 (.getfield 23) 3 = true ∧ lSa m_U_stand 4 [(.iload_n 1, 0), (.iload_n 2, 0)] = true ∧ lIa m_U_stand 6 (.invokevirtual 40) 3 = true ∧ lSa m_U_stand 9 [(.aload_n 0, 0)] = true ∧ lIa m_U_stand 10 (.getfield 26) 3 = true ∧ lSa m_U_stand 13 [(.iload_n 1, 0), (.iload_n 3, 0)] = true ∧ lIa m_U_stand 15 (.invokevirtual 40) 3 = true ∧ lIa m_U_stand 18 (.return_) 1 = true := by decide +kernel
  refine lA8 hdd (fun dd0 dd1 dd2 dd3 dd4 dd5 dd6 dd7 hdd => ?_)
  have dd8 := hdd
  refine gMet.of (by decide +kernel) (Nat.le_of_ble_eq_true rfl) [some (.ref a0), some (.int a1), some (.int a2), some (.int a3)] (fun ls h => zEn_ok (n := 4) h) ?_
  intro o Gf h
  unfold f_U_stand at h
  refine Y.blk (pc' := 1) (L' := [some (.ref a0), some (.int a1), some (.int a2), some (.int a3)]) (st' := [.ref a0]) (sg := [(.aload_n 0, 0)]) (lSa_ok dd0) rfl ?_
  refine Y.getA fl_U_23 (lIa_ok dd1) h (fun v1 h => ?_)
  refine Y.blk (pc' := 6) (L' := [some (.ref a0), some (.int a1), some (.int a2), some (.int a3)]) (st' := [.int a2, .int a1, .ref v1]) (sg := [(.iload_n 1, 0), (.iload_n 2, 0)]) (lSa_ok dd2) rfl ?_
  obtain ⟨_, o3, e2, m4, h⟩ := gOb_inv h
  refine Y.callN (yC.Vi (b := v1) (As := [.int a1, .int a2]) (st := []) (r := ("Partlister$Numbers", T_N, 1)) hV.1 cb_N_write lk_U_40 in_N_write rfl se_N_write (lIa_ok dd3) rfl rfl (Nat.le_of_ble_eq_true rfl) (by decide) e2 m4) (k_N_write hV G v1 a1 a2) h (fun G5 _ h => ?_)
  refine Y.blk (pc' := 10) (L' := [some (.ref a0), some (.int a1), some (.int a2), some (.int a3)]) (st' := [.ref a0]) (sg := [(.aload_n 0, 0)]) (lSa_ok dd4) rfl ?_
  refine Y.getA fl_U_26 (lIa_ok dd5) h (fun v6 h => ?_)
  refine Y.blk (pc' := 15) (L' := [some (.ref a0), some (.int a1), some (.int a2), some (.int a3)]) (st' := [.int a3, .int a1, .ref v6]) (sg := [(.iload_n 1, 0), (.iload_n 3, 0)]) (lSa_ok dd6) rfl ?_
  obtain ⟨_, o8, e7, m9, h⟩ := gOb_inv h
  refine Y.callN (yC.Vi (b := v6) (As := [.int a1, .int a3]) (st := []) (r := ("Partlister$Numbers", T_N, 1)) hV.1 cb_N_write lk_U_40 in_N_write rfl se_N_write (lIa_ok dd7) rfl rfl (Nat.le_of_ble_eq_true rfl) (by decide) e7 m9) (k_N_write hV G5 v6 a1 a3) h (fun G10 _ h => ?_)
  exact Y.vret rfl (lIa_ok dd8) h

def f_U_start (G : gH) (a0 : Nat) (a1 : Int32) (a2 : Int32) (a3 : Int32) : gR :=
  gFA G a0 0 0 fun v1 => gOb G v1 2 fun o3 => bV (f_N_write G v1 a1 (nI 1)) fun G5 => gFA G5 a0 0 1 fun v6 => gOb G5 v6 2 fun o8 => bV (f_N_write G5 v6 a1 a2) fun G10 => gOb G10 a0 0 fun o12 => bV (f_U_stand G10 a0 a1 a3 (-1)) fun G14 => rV G14
theorem k_U_start {l : Launch} {D : va_G} {B : Nat} {O : State → Heap → Prop} (hV : zG l D B O) (G : gH) (a0 : Nat) (a1 : Int32) (a2 : Int32) (a3 : Int32) : gMet (zVm l D B O) m_U_start 3 [.ref a0, .int a1, .int a2, .int a3] G (f_U_start G a0 a1 a2 a3) := by
  have hdd : lSa m_U_start 0 [(.aload_n 0, 0)] = true ∧ lIa m_U_start 1 (.getfield 14) 3 = true ∧ lSa m_U_start 4 [(.iload_n 1, 0), (.iconst 1, nI 1)] = true ∧ lIa m_U_start 6 (.invokevirtual 40) 3 = true ∧ lSa m_U_start 9 [(.aload_n 0, 0)] = true ∧ lIa m_U_start 10 (.getfield 20) 3 = true ∧ lSa m_U_start 13 [(.iload_n 1, 0), (.iload_n 2, 0)] = true ∧ lIa m_U_start 15 (.invokevirtual 40) 3 = true ∧ lSa m_U_start 18 [(.aload_n 0, 0), (.iload_n 1, 0), (.iload_n 3, 0), (.iconst (-1), -1)] = true ∧ lIa m_U_start 22 (.invokevirtual 44) 3 = true ∧ lIa m_U_start 25 (.return_) 1 = true := by decide +kernel
  refine lA8 hdd (fun dd0 dd1 dd2 dd3 dd4 dd5 dd6 dd7 hdd => ?_)
  obtain ⟨dd8, dd9, dd10⟩ := hdd
  refine gMet.of (by decide +kernel) (Nat.le_of_ble_eq_true rfl) [some (.ref a0), some (.int a1), some (.int a2), some (.int a3)] (fun ls h => zEn_ok (n := 4) h) ?_
  intro o Gf h
  unfold f_U_start at h
  refine Y.blk (pc' := 1) (L' := [some (.ref a0), some (.int a1), some (.int a2), some (.int a3)]) (st' := [.ref a0]) (sg := [(.aload_n 0, 0)]) (lSa_ok dd0) rfl ?_
  refine Y.getA fl_U_14 (lIa_ok dd1) h (fun v1 h => ?_)
  refine Y.blk (pc' := 6) (L' := [some (.ref a0), some (.int a1), some (.int a2), some (.int a3)]) (st' := [.int (nI 1), .int a1, .ref v1]) (sg := [(.iload_n 1, 0), (.iconst 1, nI 1)]) (lSa_ok dd2) rfl ?_
  obtain ⟨_, o3, e2, m4, h⟩ := gOb_inv h
  refine Y.callN (yC.Vi (b := v1) (As := [.int a1, .int (nI 1)]) (st := []) (r := ("Partlister$Numbers", T_N, 1)) hV.1 cb_N_write lk_U_40 in_N_write rfl se_N_write (lIa_ok dd3) rfl rfl (Nat.le_of_ble_eq_true rfl) (by decide) e2 m4) (k_N_write hV G v1 a1 (nI 1)) h (fun G5 _ h => ?_)
  refine Y.blk (pc' := 10) (L' := [some (.ref a0), some (.int a1), some (.int a2), some (.int a3)]) (st' := [.ref a0]) (sg := [(.aload_n 0, 0)]) (lSa_ok dd4) rfl ?_
  refine Y.getA fl_U_20 (lIa_ok dd5) h (fun v6 h => ?_)
  refine Y.blk (pc' := 15) (L' := [some (.ref a0), some (.int a1), some (.int a2), some (.int a3)]) (st' := [.int a2, .int a1, .ref v6]) (sg := [(.iload_n 1, 0), (.iload_n 2, 0)]) (lSa_ok dd6) rfl ?_
  obtain ⟨_, o8, e7, m9, h⟩ := gOb_inv h
  refine Y.callN (yC.Vi (b := v6) (As := [.int a1, .int a2]) (st := []) (r := ("Partlister$Numbers", T_N, 1)) hV.1 cb_N_write lk_U_40 in_N_write rfl se_N_write (lIa_ok dd7) rfl rfl (Nat.le_of_ble_eq_true rfl) (by decide) e7 m9) (k_N_write hV G5 v6 a1 a2) h (fun G10 _ h => ?_)
  refine Y.blk (pc' := 22) (L' := [some (.ref a0), some (.int a1), some (.int a2), some (.int a3)]) (st' := [.int (-1), .int a3, .int a1, .ref a0]) (sg := [(.aload_n 0, 0), (.iload_n 1, 0), (.iload_n 3, 0), (.iconst (-1), -1)]) (lSa_ok dd8) rfl ?_
  obtain ⟨_, o12, e11, m13, h⟩ := gOb_inv h
  refine Y.callN (yC.Vi (b := a0) (As := [.int a1, .int a3, .int (-1)]) (st := []) (r := ("Partlister$Cursors", T_U, 5)) hV.1 cb_U_stand lk_U_44 in_U_stand rfl se_U_stand (lIa_ok dd9) rfl rfl (Nat.le_of_ble_eq_true rfl) (by decide) e11 m13) (k_U_stand hV G10 a0 a1 a3 (-1)) h (fun G14 _ h => ?_)
  exact Y.vret rfl (lIa_ok dd10) h

def f_X_cursor (G : gH) (a0 : Nat) (a1 : Int32) (a2 : Int32) : gR :=
  gOb G a0 3 fun o2 => bV (f_X_needList G a0 a1) fun G4 => gOb G4 a0 3 fun o6 => bV (f_X_needGap G4 a0 a1 a2) fun G8 => gFA G8 a0 3 1 fun v9 => gOb G8 v9 0 fun o11 => bI (f_U_freeCursor G8 v9) fun v14 G13 => if v14 = (-1) then gThrow "java/lang/IllegalStateException" G13
  else gFA G13 a0 3 1 fun v15 => gOb G13 v15 0 fun o17 => bV (f_U_start G13 v15 v14 a1 a2) fun G19 => rI v14 G19
theorem k_X_cursor {l : Launch} {D : va_G} {B : Nat} {O : State → Heap → Prop} (hV : zG l D B O) (G : gH) (a0 : Nat) (a1 : Int32) (a2 : Int32) : gMet (zVm l D B O) m_X_cursor 7 [.ref a0, .int a1, .int a2] G (f_X_cursor G a0 a1 a2) := by
  have hdd : lSa m_X_cursor 0 [(.aload_n 0, 0), (.iload_n 1, 0)] = true ∧ lIa m_X_cursor 2 (.invokevirtual 23) 3 = true ∧ lSa m_X_cursor 5 [(.aload_n 0, 0), (.iload_n 1, 0), (.iload_n 2, 0)] = true ∧ lIa m_X_cursor 8 (.invokevirtual 45) 3 = true ∧ lSa m_X_cursor 11 [(.aload_n 0, 0)] = true ∧ lIa m_X_cursor 12 (.getfield 19) 3 = true ∧ lIa m_X_cursor 15 (.invokevirtual 159) 3 = true ∧ lSa m_X_cursor 18 [(.istore_n 3, 0), (.iload_n 3, 0), (.iconst (-1), -1)] = true ∧ lIa m_X_cursor 21 (.if_icmp .ne 13) 3 = true ∧ lIa m_X_cursor 24 (.new 134) 3 = true ∧ lIa m_X_cursor 27 (.dup) 1 = true ∧ lIa m_X_cursor 28 (.ldc 162) 2 = true ∧ lIa m_X_cursor 30 (.invokespecial 138) 3 = true ∧ lIa m_X_cursor 33 (.athrow) 1 = true ∧ lSa m_X_cursor 34 [(.aload_n 0, 0)] = true ∧ lIa m_X_cursor 35 (.getfield 19) 3 = true ∧ lSa m_X_cursor 38 [(.iload_n 3, 0), (.iload_n 1, 0), (.iload_n 2, 0)] = true ∧ lIa m_X_cursor 41 (.invokevirtual 164) 3 = true ∧ lSa m_X_cursor 44 [(.iload_n 3, 0)] = true ∧ lIa m_X_cursor 45 (.ireturn) 1 = true := by decide +kernel
  refine lA8 hdd (fun dd0 dd1 dd2 dd3 dd4 dd5 dd6 dd7 hdd => ?_)
  refine lA8 hdd (fun dd8 dd9 dd10 dd11 dd12 dd13 dd14 dd15 hdd => ?_)
  obtain ⟨dd16, dd17, dd18, dd19⟩ := hdd
  refine gMet.of (by decide +kernel) (Nat.le_of_ble_eq_true rfl) [some (.ref a0), some (.int a1), some (.int a2), none] (fun ls h => zEn_ok (n := 4) h) ?_
  intro o Gf h
  unfold f_X_cursor at h
  refine Y.blk (pc' := 2) (L' := [some (.ref a0), some (.int a1), some (.int a2), none]) (st' := [.int a1, .ref a0]) (sg := [(.aload_n 0, 0), (.iload_n 1, 0)]) (lSa_ok dd0) rfl ?_
  obtain ⟨_, o2, e1, m3, h⟩ := gOb_inv h
  refine Y.callN (yC.Vi (b := a0) (As := [.int a1]) (st := []) (r := ("Partlister", T_X, 5)) hV.1 cb_X_needList lk_X_23 in_X_needList rfl se_X_needList (lIa_ok dd1) rfl rfl (Nat.le_of_ble_eq_true rfl) (by decide) e1 m3) (k_X_needList hV G a0 a1) h (fun G4 _ h => ?_)
  refine Y.blk (pc' := 8) (L' := [some (.ref a0), some (.int a1), some (.int a2), none]) (st' := [.int a2, .int a1, .ref a0]) (sg := [(.aload_n 0, 0), (.iload_n 1, 0), (.iload_n 2, 0)]) (lSa_ok dd2) rfl ?_
  obtain ⟨_, o6, e5, m7, h⟩ := gOb_inv h
  refine Y.callN (yC.Vi (b := a0) (As := [.int a1, .int a2]) (st := []) (r := ("Partlister", T_X, 5)) hV.1 cb_X_needGap lk_X_45 in_X_needGap rfl se_X_needGap (lIa_ok dd3) rfl rfl (Nat.le_of_ble_eq_true rfl) (by decide) e5 m7) (k_X_needGap hV G4 a0 a1 a2) h (fun G8 _ h => ?_)
  refine Y.blk (pc' := 12) (L' := [some (.ref a0), some (.int a1), some (.int a2), none]) (st' := [.ref a0]) (sg := [(.aload_n 0, 0)]) (lSa_ok dd4) rfl ?_
  refine Y.getA fl_X_19 (lIa_ok dd5) h (fun v9 h => ?_)
  obtain ⟨_, o11, e10, m12, h⟩ := gOb_inv h
  refine Y.callI (yC.Vi (b := v9) (As := []) (st := []) (r := ("Partlister$Cursors", T_U, 5)) hV.1 cb_U_freeCursor lk_X_159 in_U_freeCursor rfl se_U_freeCursor (lIa_ok dd6) rfl rfl (Nat.le_of_ble_eq_true rfl) (by decide) e10 m12) (k_U_freeCursor hV G8 v9) h (fun v14 G13 _ h => ?_)
  refine Y.blk (pc' := 21) (L' := [some (.ref a0), some (.int a1), some (.int a2), some (.int v14)]) (st' := [.int (-1), .int v14]) (sg := [(.istore_n 3, 0), (.iload_n 3, 0), (.iconst (-1), -1)]) (lSa_ok dd7) rfl ?_
  refine Y.ic_ne (off := 13) (tgt := 34) (lIa_ok dd8) (by decide) h (fun c20 h => ?_) (fun c20 h => ?_)
  · exact Y.throwS (is := 162) (text := "there are three CURSORS") (names := zNm) hV.1 (hV.2 _ _ _ (by decide +kernel)) (by decide +kernel) (by decide +kernel) ck_X_134 ini_ISE tw_X_138 tg_X_138 (by decide) (by decide) rfl (Nat.le_of_ble_eq_true rfl) (lIa_ok dd9) (lIa_ok dd10) (lIa_ok dd11) (lIa_ok dd12) (lIa_ok dd13) h
  · refine Y.blk (pc' := 35) (L' := [some (.ref a0), some (.int a1), some (.int a2), some (.int v14)]) (st' := [.ref a0]) (sg := [(.aload_n 0, 0)]) (lSa_ok dd14) rfl ?_
    refine Y.getA fl_X_19 (lIa_ok dd15) h (fun v15 h => ?_)
    refine Y.blk (pc' := 41) (L' := [some (.ref a0), some (.int a1), some (.int a2), some (.int v14)]) (st' := [.int a2, .int a1, .int v14, .ref v15]) (sg := [(.iload_n 3, 0), (.iload_n 1, 0), (.iload_n 2, 0)]) (lSa_ok dd16) rfl ?_
    obtain ⟨_, o17, e16, m18, h⟩ := gOb_inv h
    refine Y.callN (yC.Vi (b := v15) (As := [.int v14, .int a1, .int a2]) (st := []) (r := ("Partlister$Cursors", T_U, 5)) hV.1 cb_U_start lk_X_164 in_U_start rfl se_U_start (lIa_ok dd17) rfl rfl (Nat.le_of_ble_eq_true rfl) (by decide) e16 m18) (k_U_start hV G13 v15 v14 a1 a2) h (fun G19 _ h => ?_)
    refine Y.blk (pc' := 45) (L' := [some (.ref a0), some (.int a1), some (.int a2), some (.int v14)]) (st' := [.int v14]) (sg := [(.iload_n 3, 0)]) (lSa_ok dd18) rfl ?_
    exact Y.iret rfl (lIa_ok dd19) h

def f_X_mix (G : gH) (a0 : Int64) (a2 : Int64) : gR :=
  rL ((a0 * (lN 31)) + a2) G
theorem k_X_mix {l : Launch} {D : va_G} {B : Nat} {O : State → Heap → Prop} (hV : zG l D B O) (G : gH) (a0 : Int64) (a2 : Int64) : gMet (zVm l D B O) m_X_mix 1 [.long a0, .long a2] G (f_X_mix G a0 a2) := by
  have hdd : lSa m_X_mix 0 [(.lload_n 0, 0)] = true ∧ lIa m_X_mix 1 (.ldc2_w 321) 3 = true ∧ lSa m_X_mix 4 [(.lmul, 0), (.lload_n 2, 0), (.ladd, 0)] = true ∧ lIa m_X_mix 7 (.lreturn) 1 = true := by decide +kernel
  obtain ⟨dd0, dd1, dd2, dd3⟩ := hdd
  refine gMet.of (by decide +kernel) (Nat.le_of_ble_eq_true rfl) [some (.long a0), none, some (.long a2), none] (fun ls h => zEn_ok (n := 4) h) ?_
  intro o Gf h
  unfold f_X_mix at h
  refine Y.blk (pc' := 1) (L' := [some (.long a0), none, some (.long a2), none]) (st' := [.long a0]) (sg := [(.lload_n 0, 0)]) (lSa_ok dd0) rfl ?_
  refine Y.ldc2 (v := lN 31) co_X_321 (lIa_ok dd1) ?_
  refine Y.blk (pc' := 7) (L' := [some (.long a0), none, some (.long a2), none]) (st' := [.long ((a0 * (lN 31)) + a2)]) (sg := [(.lmul, 0), (.lload_n 2, 0), (.ladd, 0)]) (lSa_ok dd2) rfl ?_
  exact Y.lret rfl (lIa_ok dd3) h

def f_I_countOf_L12 (K38 : gH → Int32 → gR) : Nat → gH → Nat → Int32 → Int32 → Int32 → Int32 → Int32 → gR
  | 0, _, _, _, _, _, _, _ => none
  | n + 1, G, x0, x1, x2, x3, x4, x5 =>
    if x3 ≤ x5 then K38 G x4
    else gOb G x0 1 fun o7 => bI (f_I_keyAt G x0 x1 x5) fun v10 G9 => if v10 = x2 then f_I_countOf_L12 K38 n G9 x0 x1 x2 x3 (x4 + (nI 1)) (x5 + (nI 1))
      else f_I_countOf_L12 K38 n G9 x0 x1 x2 x3 x4 (x5 + (nI 1))
def f_I_countOf (G : gH) (a0 : Nat) (a1 : Int32) (a2 : Int32) : gR :=
  gOb G a0 1 fun o2 => bI (f_I_lengthOf G a0 a1) fun v5 G4 => f_I_countOf_L12 (fun G14 x13 => rI x13 G14) zFu G4 a0 a1 a2 v5 (nI 0) (nI 0)
theorem k_I_countOf_L12 {l : Launch} {D : va_G} {B : Nat} {O : State → Heap → Prop} (hV : zG l D B O) {o : gO} {Gf : gH} (K38 : gH → Int32 → gR) (hK38 : ∀ (G : gH) (x4 : Int32), K38 G x4 = some (o, Gf) → Y (zVm l D B O) m_I_countOf 4 o Gf 38 [none, none, none, none, some (.int x4), none] [] G) : ∀ (n : Nat) (G : gH) (x0 : Nat) (x1 : Int32) (x2 : Int32) (x3 : Int32) (x4 : Int32) (x5 : Int32), f_I_countOf_L12 K38 n G x0 x1 x2 x3 x4 x5 = some (o, Gf) → Y (zVm l D B O) m_I_countOf 4 o Gf 12 [some (.ref x0), some (.int x1), some (.int x2), some (.int x3), some (.int x4), some (.int x5)] [] G := by
  have hdd : lSa m_I_countOf 12 [(.iload 5, 0), (.iload_n 3, 0)] = true ∧ lIa m_I_countOf 15 (.if_icmp .ge 23) 3 = true ∧ lSa m_I_countOf 18 [(.aload_n 0, 0), (.iload_n 1, 0), (.iload 5, 0)] = true ∧ lIa m_I_countOf 22 (.invokevirtual 101) 3 = true ∧ lSa m_I_countOf 25 [(.iload_n 2, 0)] = true ∧ lIa m_I_countOf 26 (.if_icmp .ne 6) 3 = true ∧ lSa m_I_countOf 29 [(.iinc 4 1, nI 1), (.iinc 5 1, nI 1)] = true ∧ lIa m_I_countOf 35 (.goto (-23)) 3 = true ∧ lSa m_I_countOf 32 [(.iinc 5 1, nI 1)] = true := by decide +kernel
  refine lA8 hdd (fun dd0 dd1 dd2 dd3 dd4 dd5 dd6 dd7 hdd => ?_)
  have dd8 := hdd
  intro n
  induction n with
  | zero => intro G x0 x1 x2 x3 x4 x5 h; cases h
  | succ n ih =>
    intro G x0 x1 x2 x3 x4 x5 h
    unfold f_I_countOf_L12 at h
    refine Y.blk (pc' := 15) (L' := [some (.ref x0), some (.int x1), some (.int x2), some (.int x3), some (.int x4), some (.int x5)]) (st' := [.int x3, .int x5]) (sg := [(.iload 5, 0), (.iload_n 3, 0)]) (lSa_ok dd0) rfl ?_
    refine Y.ic_ge (off := 23) (tgt := 38) (lIa_ok dd1) (by decide) h (fun c12 h => ?_) (fun c12 h => ?_)
    · refine Y.less (L' := [none, none, none, none, some (.int x4), none]) (zLe_none (zLe_none (zLe_none (zLe_none (zLe_some (zLe_none (zLe_nil))))))) ?_
      exact hK38 G x4 h
    · refine Y.blk (pc' := 22) (L' := [some (.ref x0), some (.int x1), some (.int x2), some (.int x3), some (.int x4), some (.int x5)]) (st' := [.int x5, .int x1, .ref x0]) (sg := [(.aload_n 0, 0), (.iload_n 1, 0), (.iload 5, 0)]) (lSa_ok dd2) rfl ?_
      obtain ⟨_, o7, e6, m8, h⟩ := gOb_inv h
      refine Y.callI (yC.Vi (b := x0) (As := [.int x1, .int x5]) (st := []) (r := ("Partlister$Lists", T_I, 7)) hV.1 cb_I_keyAt lk_I_101 in_I_keyAt rfl se_I_keyAt (lIa_ok dd3) rfl rfl (Nat.le_of_ble_eq_true rfl) (by decide) e6 m8) (k_I_keyAt hV G x0 x1 x5) h (fun v10 G9 _ h => ?_)
      refine Y.blk (pc' := 26) (L' := [some (.ref x0), some (.int x1), some (.int x2), some (.int x3), some (.int x4), some (.int x5)]) (st' := [.int x2, .int v10]) (sg := [(.iload_n 2, 0)]) (lSa_ok dd4) rfl ?_
      refine Y.ic_ne (off := 6) (tgt := 32) (lIa_ok dd5) (by decide) h (fun c11 h => ?_) (fun c11 h => ?_)
      · refine Y.blk (pc' := 35) (L' := [some (.ref x0), some (.int x1), some (.int x2), some (.int x3), some (.int (x4 + (nI 1))), some (.int (x5 + (nI 1)))]) (st' := []) (sg := [(.iinc 4 1, nI 1), (.iinc 5 1, nI 1)]) (lSa_ok dd6) rfl ?_
        refine Y.goto (off := -23) (tgt := 12) (lIa_ok dd7) (by decide) ?_
        exact ih G9 x0 x1 x2 x3 (x4 + (nI 1)) (x5 + (nI 1)) h
      · refine Y.blk (pc' := 35) (L' := [some (.ref x0), some (.int x1), some (.int x2), some (.int x3), some (.int x4), some (.int (x5 + (nI 1)))]) (st' := []) (sg := [(.iinc 5 1, nI 1)]) (lSa_ok dd8) rfl ?_
        refine Y.goto (off := -23) (tgt := 12) (lIa_ok dd7) (by decide) ?_
        exact ih G9 x0 x1 x2 x3 x4 (x5 + (nI 1)) h
theorem k_I_countOf {l : Launch} {D : va_G} {B : Nat} {O : State → Heap → Prop} (hV : zG l D B O) (G : gH) (a0 : Nat) (a1 : Int32) (a2 : Int32) : gMet (zVm l D B O) m_I_countOf 4 [.ref a0, .int a1, .int a2] G (f_I_countOf G a0 a1 a2) := by
  have hdd : lSa m_I_countOf 0 [(.aload_n 0, 0), (.iload_n 1, 0)] = true ∧ lIa m_I_countOf 2 (.invokevirtual 59) 3 = true ∧ lSa m_I_countOf 5 [(.istore_n 3, 0), (.iconst 0, nI 0), (.istore 4, 0), (.iconst 0, nI 0), (.istore 5, 0)] = true ∧ lSa m_I_countOf 38 [(.iload 4, 0)] = true ∧ lIa m_I_countOf 40 (.ireturn) 1 = true := by decide +kernel
  obtain ⟨dd0, dd1, dd2, dd3, dd4⟩ := hdd
  refine gMet.of (by decide +kernel) (Nat.le_of_ble_eq_true rfl) [some (.ref a0), some (.int a1), some (.int a2), none, none, none] (fun ls h => zEn_ok (n := 6) h) ?_
  intro o Gf h
  unfold f_I_countOf at h
  refine Y.blk (pc' := 2) (L' := [some (.ref a0), some (.int a1), some (.int a2), none, none, none]) (st' := [.int a1, .ref a0]) (sg := [(.aload_n 0, 0), (.iload_n 1, 0)]) (lSa_ok dd0) rfl ?_
  obtain ⟨_, o2, e1, m3, h⟩ := gOb_inv h
  refine Y.callI (yC.Vi (b := a0) (As := [.int a1]) (st := []) (r := ("Partlister$Lists", T_I, 7)) hV.1 cb_I_lengthOf lk_I_59 in_I_lengthOf rfl se_I_lengthOf (lIa_ok dd1) rfl rfl (Nat.le_of_ble_eq_true rfl) (by decide) e1 m3) (k_I_lengthOf hV G a0 a1) h (fun v5 G4 _ h => ?_)
  refine Y.blk (pc' := 12) (L' := [some (.ref a0), some (.int a1), some (.int a2), some (.int v5), some (.int (nI 0)), some (.int (nI 0))]) (st' := []) (sg := [(.istore_n 3, 0), (.iconst 0, nI 0), (.istore 4, 0), (.iconst 0, nI 0), (.istore 5, 0)]) (lSa_ok dd2) rfl ?_
  refine k_I_countOf_L12 hV _ ?_  zFu G4 a0 a1 a2 v5 (nI 0) (nI 0) h
  · intro G14 x13 h
    refine Y.blk (pc' := 40) (L' := [none, none, none, none, some (.int x13), none]) (st' := [.int x13]) (sg := [(.iload 4, 0)]) (lSa_ok dd3) rfl ?_
    exact Y.iret rfl (lIa_ok dd4) h

def f_I_extremeKey_L12 (K64 : gH → Int32 → gR) : Nat → gH → Nat → Int32 → Int32 → Int32 → Int32 → Int32 → gR
  | 0, _, _, _, _, _, _, _ => none
  | n + 1, G, x0, x1, x2, x3, x4, x5 =>
    if x3 ≤ x5 then K64 G x4
    else gOb G x0 1 fun o7 => bI (f_I_keyAt G x0 x1 x5) fun v10 G9 => if x4 = (-1) then f_I_extremeKey_L12 K64 n G9 x0 x1 x2 x3 v10 (x5 + (nI 1))
      else if x2 = 0 then (if v10 ≤ x4 then f_I_extremeKey_L12 K64 n G9 x0 x1 x2 x3 x4 (x5 + (nI 1))
          else f_I_extremeKey_L12 K64 n G9 x0 x1 x2 x3 v10 (x5 + (nI 1)))
        else if x4 ≤ v10 then f_I_extremeKey_L12 K64 n G9 x0 x1 x2 x3 x4 (x5 + (nI 1))
          else f_I_extremeKey_L12 K64 n G9 x0 x1 x2 x3 v10 (x5 + (nI 1))
def f_I_extremeKey (G : gH) (a0 : Nat) (a1 : Int32) (a2 : Int32) : gR :=
  gOb G a0 1 fun o2 => bI (f_I_lengthOf G a0 a1) fun v5 G4 => f_I_extremeKey_L12 (fun G17 x16 => rI x16 G17) zFu G4 a0 a1 a2 v5 (-1) (nI 0)
theorem k_I_extremeKey_L12 {l : Launch} {D : va_G} {B : Nat} {O : State → Heap → Prop} (hV : zG l D B O) {o : gO} {Gf : gH} (K64 : gH → Int32 → gR) (hK64 : ∀ (G : gH) (x4 : Int32), K64 G x4 = some (o, Gf) → Y (zVm l D B O) m_I_extremeKey 4 o Gf 64 [none, none, none, none, some (.int x4), none, none] [] G) : ∀ (n : Nat) (G : gH) (x0 : Nat) (x1 : Int32) (x2 : Int32) (x3 : Int32) (x4 : Int32) (x5 : Int32), f_I_extremeKey_L12 K64 n G x0 x1 x2 x3 x4 x5 = some (o, Gf) → Y (zVm l D B O) m_I_extremeKey 4 o Gf 12 [some (.ref x0), some (.int x1), some (.int x2), some (.int x3), some (.int x4), some (.int x5), none] [] G := by
  have hdd : lSa m_I_extremeKey 12 [(.iload 5, 0), (.iload_n 3, 0)] = true ∧ lIa m_I_extremeKey 15 (.if_icmp .ge 49) 3 = true ∧ lSa m_I_extremeKey 18 [(.aload_n 0, 0), (.iload_n 1, 0), (.iload 5, 0)] = true ∧ lIa m_I_extremeKey 22 (.invokevirtual 101) 3 = true ∧ lSa m_I_extremeKey 25 [(.istore 6, 0), (.iload 4, 0), (.iconst (-1), -1)] = true ∧ lIa m_I_extremeKey 30 (.if_icmp .eq 24) 3 = true ∧ lSa m_I_extremeKey 54 [(.iload 6, 0), (.istore 4, 0), (.iinc 5 1, nI 1)] = true ∧ lIa m_I_extremeKey 61 (.goto (-49)) 3 = true ∧ lSa m_I_extremeKey 33 [(.iload_n 2, 0)] = true ∧ lIa m_I_extremeKey 34 (.ifCond .eq 13) 3 = true ∧ lSa m_I_extremeKey 47 [(.iload 6, 0), (.iload 4, 0)] = true ∧ lIa m_I_extremeKey 51 (.if_icmp .le 7) 3 = true ∧ lSa m_I_extremeKey 58 [(.iinc 5 1, nI 1)] = true ∧ lSa m_I_extremeKey 37 [(.iload 6, 0), (.iload 4, 0)] = true ∧ lIa m_I_extremeKey 41 (.if_icmp .ge 17) 3 = true ∧ lIa m_I_extremeKey 44 (.goto 10) 3 = true := by decide +kernel
  refine lA8 hdd (fun dd0 dd1 dd2 dd3 dd4 dd5 dd6 dd7 hdd => ?_)
  obtain ⟨dd8, dd9, dd10, dd11, dd12, dd13, dd14, dd15⟩ := hdd
  intro n
  induction n with
  | zero => intro G x0 x1 x2 x3 x4 x5 h; cases h
  | succ n ih =>
    intro G x0 x1 x2 x3 x4 x5 h
    unfold f_I_extremeKey_L12 at h
    refine Y.blk (pc' := 15) (L' := [some (.ref x0), some (.int x1), some (.int x2), some (.int x3), some (.int x4), some (.int x5), none]) (st' := [.int x3, .int x5]) (sg := [(.iload 5, 0), (.iload_n 3, 0)]) (lSa_ok dd0) rfl ?_
    refine Y.ic_ge (off := 49) (tgt := 64) (lIa_ok dd1) (by decide) h (fun c15 h => ?_) (fun c15 h => ?_)
    · refine Y.less (L' := [none, none, none, none, some (.int x4), none, none]) (zLe_none (zLe_none (zLe_none (zLe_none (zLe_some (zLe_none (zLe_some (zLe_nil)))))))) ?_
      exact hK64 G x4 h
    · refine Y.blk (pc' := 22) (L' := [some (.ref x0), some (.int x1), some (.int x2), some (.int x3), some (.int x4), some (.int x5), none]) (st' := [.int x5, .int x1, .ref x0]) (sg := [(.aload_n 0, 0), (.iload_n 1, 0), (.iload 5, 0)]) (lSa_ok dd2) rfl ?_
      obtain ⟨_, o7, e6, m8, h⟩ := gOb_inv h
      refine Y.callI (yC.Vi (b := x0) (As := [.int x1, .int x5]) (st := []) (r := ("Partlister$Lists", T_I, 7)) hV.1 cb_I_keyAt lk_I_101 in_I_keyAt rfl se_I_keyAt (lIa_ok dd3) rfl rfl (Nat.le_of_ble_eq_true rfl) (by decide) e6 m8) (k_I_keyAt hV G x0 x1 x5) h (fun v10 G9 _ h => ?_)
      refine Y.blk (pc' := 30) (L' := [some (.ref x0), some (.int x1), some (.int x2), some (.int x3), some (.int x4), some (.int x5), some (.int v10)]) (st' := [.int (-1), .int x4]) (sg := [(.istore 6, 0), (.iload 4, 0), (.iconst (-1), -1)]) (lSa_ok dd4) rfl ?_
      refine Y.ic_eq (off := 24) (tgt := 54) (lIa_ok dd5) (by decide) h (fun c14 h => ?_) (fun c14 h => ?_)
      · refine Y.blk (pc' := 61) (L' := [some (.ref x0), some (.int x1), some (.int x2), some (.int x3), some (.int v10), some (.int (x5 + (nI 1))), some (.int v10)]) (st' := []) (sg := [(.iload 6, 0), (.istore 4, 0), (.iinc 5 1, nI 1)]) (lSa_ok dd6) rfl ?_
        refine Y.goto (off := -49) (tgt := 12) (lIa_ok dd7) (by decide) ?_
        refine Y.less (L' := [some (.ref x0), some (.int x1), some (.int x2), some (.int x3), some (.int v10), some (.int (x5 + (nI 1))), none]) (zLe_some (zLe_some (zLe_some (zLe_some (zLe_some (zLe_some (zLe_none (zLe_nil)))))))) ?_
        exact ih G9 x0 x1 x2 x3 v10 (x5 + (nI 1)) h
      · refine Y.blk (pc' := 34) (L' := [some (.ref x0), some (.int x1), some (.int x2), some (.int x3), some (.int x4), some (.int x5), some (.int v10)]) (st' := [.int x2]) (sg := [(.iload_n 2, 0)]) (lSa_ok dd8) rfl ?_
        refine Y.if_eq (off := 13) (tgt := 47) (lIa_ok dd9) (by decide) h (fun c13 h => ?_) (fun c13 h => ?_)
        · refine Y.blk (pc' := 51) (L' := [some (.ref x0), some (.int x1), some (.int x2), some (.int x3), some (.int x4), some (.int x5), some (.int v10)]) (st' := [.int x4, .int v10]) (sg := [(.iload 6, 0), (.iload 4, 0)]) (lSa_ok dd10) rfl ?_
          refine Y.ic_le (off := 7) (tgt := 58) (lIa_ok dd11) (by decide) h (fun c11 h => ?_) (fun c11 h => ?_)
          · refine Y.blk (pc' := 61) (L' := [some (.ref x0), some (.int x1), some (.int x2), some (.int x3), some (.int x4), some (.int (x5 + (nI 1))), some (.int v10)]) (st' := []) (sg := [(.iinc 5 1, nI 1)]) (lSa_ok dd12) rfl ?_
            refine Y.goto (off := -49) (tgt := 12) (lIa_ok dd7) (by decide) ?_
            refine Y.less (L' := [some (.ref x0), some (.int x1), some (.int x2), some (.int x3), some (.int x4), some (.int (x5 + (nI 1))), none]) (zLe_some (zLe_some (zLe_some (zLe_some (zLe_some (zLe_some (zLe_none (zLe_nil)))))))) ?_
            exact ih G9 x0 x1 x2 x3 x4 (x5 + (nI 1)) h
          · refine Y.blk (pc' := 61) (L' := [some (.ref x0), some (.int x1), some (.int x2), some (.int x3), some (.int v10), some (.int (x5 + (nI 1))), some (.int v10)]) (st' := []) (sg := [(.iload 6, 0), (.istore 4, 0), (.iinc 5 1, nI 1)]) (lSa_ok dd6) rfl ?_
            refine Y.goto (off := -49) (tgt := 12) (lIa_ok dd7) (by decide) ?_
            refine Y.less (L' := [some (.ref x0), some (.int x1), some (.int x2), some (.int x3), some (.int v10), some (.int (x5 + (nI 1))), none]) (zLe_some (zLe_some (zLe_some (zLe_some (zLe_some (zLe_some (zLe_none (zLe_nil)))))))) ?_
            exact ih G9 x0 x1 x2 x3 v10 (x5 + (nI 1)) h
        · refine Y.blk (pc' := 41) (L' := [some (.ref x0), some (.int x1), some (.int x2), some (.int x3), some (.int x4), some (.int x5), some (.int v10)]) (st' := [.int x4, .int v10]) (sg := [(.iload 6, 0), (.iload 4, 0)]) (lSa_ok dd13) rfl ?_
          refine Y.ic_ge (off := 17) (tgt := 58) (lIa_ok dd14) (by decide) h (fun c12 h => ?_) (fun c12 h => ?_)
          · refine Y.blk (pc' := 61) (L' := [some (.ref x0), some (.int x1), some (.int x2), some (.int x3), some (.int x4), some (.int (x5 + (nI 1))), some (.int v10)]) (st' := []) (sg := [(.iinc 5 1, nI 1)]) (lSa_ok dd12) rfl ?_
            refine Y.goto (off := -49) (tgt := 12) (lIa_ok dd7) (by decide) ?_
            refine Y.less (L' := [some (.ref x0), some (.int x1), some (.int x2), some (.int x3), some (.int x4), some (.int (x5 + (nI 1))), none]) (zLe_some (zLe_some (zLe_some (zLe_some (zLe_some (zLe_some (zLe_none (zLe_nil)))))))) ?_
            exact ih G9 x0 x1 x2 x3 x4 (x5 + (nI 1)) h
          · refine Y.goto (off := 10) (tgt := 54) (lIa_ok dd15) (by decide) ?_
            refine Y.blk (pc' := 61) (L' := [some (.ref x0), some (.int x1), some (.int x2), some (.int x3), some (.int v10), some (.int (x5 + (nI 1))), some (.int v10)]) (st' := []) (sg := [(.iload 6, 0), (.istore 4, 0), (.iinc 5 1, nI 1)]) (lSa_ok dd6) rfl ?_
            refine Y.goto (off := -49) (tgt := 12) (lIa_ok dd7) (by decide) ?_
            refine Y.less (L' := [some (.ref x0), some (.int x1), some (.int x2), some (.int x3), some (.int v10), some (.int (x5 + (nI 1))), none]) (zLe_some (zLe_some (zLe_some (zLe_some (zLe_some (zLe_some (zLe_none (zLe_nil)))))))) ?_
            exact ih G9 x0 x1 x2 x3 v10 (x5 + (nI 1)) h
theorem k_I_extremeKey {l : Launch} {D : va_G} {B : Nat} {O : State → Heap → Prop} (hV : zG l D B O) (G : gH) (a0 : Nat) (a1 : Int32) (a2 : Int32) : gMet (zVm l D B O) m_I_extremeKey 4 [.ref a0, .int a1, .int a2] G (f_I_extremeKey G a0 a1 a2) := by
  have hdd : lSa m_I_extremeKey 0 [(.aload_n 0, 0), (.iload_n 1, 0)] = true ∧ lIa m_I_extremeKey 2 (.invokevirtual 59) 3 = true ∧ lSa m_I_extremeKey 5 [(.istore_n 3, 0), (.iconst (-1), -1), (.istore 4, 0), (.iconst 0, nI 0), (.istore 5, 0)] = true ∧ lSa m_I_extremeKey 64 [(.iload 4, 0)] = true ∧ lIa m_I_extremeKey 66 (.ireturn) 1 = true := by decide +kernel
  obtain ⟨dd0, dd1, dd2, dd3, dd4⟩ := hdd
  refine gMet.of (by decide +kernel) (Nat.le_of_ble_eq_true rfl) [some (.ref a0), some (.int a1), some (.int a2), none, none, none, none] (fun ls h => zEn_ok (n := 7) h) ?_
  intro o Gf h
  unfold f_I_extremeKey at h
  refine Y.blk (pc' := 2) (L' := [some (.ref a0), some (.int a1), some (.int a2), none, none, none, none]) (st' := [.int a1, .ref a0]) (sg := [(.aload_n 0, 0), (.iload_n 1, 0)]) (lSa_ok dd0) rfl ?_
  obtain ⟨_, o2, e1, m3, h⟩ := gOb_inv h
  refine Y.callI (yC.Vi (b := a0) (As := [.int a1]) (st := []) (r := ("Partlister$Lists", T_I, 7)) hV.1 cb_I_lengthOf lk_I_59 in_I_lengthOf rfl se_I_lengthOf (lIa_ok dd1) rfl rfl (Nat.le_of_ble_eq_true rfl) (by decide) e1 m3) (k_I_lengthOf hV G a0 a1) h (fun v5 G4 _ h => ?_)
  refine Y.blk (pc' := 12) (L' := [some (.ref a0), some (.int a1), some (.int a2), some (.int v5), some (.int (-1)), some (.int (nI 0)), none]) (st' := []) (sg := [(.istore_n 3, 0), (.iconst (-1), -1), (.istore 4, 0), (.iconst 0, nI 0), (.istore 5, 0)]) (lSa_ok dd2) rfl ?_
  refine k_I_extremeKey_L12 hV _ ?_  zFu G4 a0 a1 a2 v5 (-1) (nI 0) h
  · intro G17 x16 h
    refine Y.blk (pc' := 66) (L' := [none, none, none, none, some (.int x16), none, none]) (st' := [.int x16]) (sg := [(.iload 4, 0)]) (lSa_ok dd3) rfl ?_
    exact Y.iret rfl (lIa_ok dd4) h
