def f_X_set (G : gH) (a0 : Nat) (a1 : Int32) (a2 : Int32) (a3 : Int32) : gR :=
  gOb G a0 3 fun o2 => bV (f_X_needList G a0 a1) fun G4 => gOb G4 a0 3 fun o6 => bV (f_X_needPlace G4 a0 a1 a2) fun G8 => gOb G8 a0 3 fun o10 => bV (f_X_needKey G8 a0 a3) fun G12 => gFA G12 a0 3 0 fun v13 => gOb G12 v13 1 fun o15 => bI (f_I_keyAt G12 v13 a1 a2) fun v18 G17 => gFA G17 a0 3 0 fun v19 => gOb G17 a0 3 fun o21 => bI (f_X_make G17 a0 a3) fun v24 G23 => gOb G23 v19 1 fun o26 => bV (f_I_write G23 v19 a1 a2 v24) fun G28 => rI v18 G28
theorem k_X_set {l : Launch} {D : va_G} {B : Nat} {O : State → Heap → Prop} (hV : zG l D B O) (G : gH) (a0 : Nat) (a1 : Int32) (a2 : Int32) (a3 : Int32) : gMet (zVm l D B O) m_X_set 7 [.ref a0, .int a1, .int a2, .int a3] G (f_X_set G a0 a1 a2 a3) := by
  have hdd : lSa m_X_set 0 [(.aload_n 0, 0), (.iload_n 1, 0)] = true ∧ lIa m_X_set 2 (.invokevirtual 23) 3 = true ∧ lSa m_X_set 5 [(.aload_n 0, 0), (.iload_n 1, 0), (.iload_n 2, 0)] = true ∧ lIa m_X_set 8 (.invokevirtual 58) 3 = true ∧ lSa m_X_set 11 [(.aload_n 0, 0), (.iload_n 3, 0)] = true ∧ lIa m_X_set 13 (.invokevirtual 27) 3 = true ∧ lSa m_X_set 16 [(.aload_n 0, 0)] = true ∧ lIa m_X_set 17 (.getfield 10) 3 = true ∧ lSa m_X_set 20 [(.iload_n 1, 0), (.iload_n 2, 0)] = true ∧ lIa m_X_set 22 (.invokevirtual 61) 3 = true ∧ lSa m_X_set 25 [(.istore 4, 0), (.aload_n 0, 0)] = true ∧ lIa m_X_set 28 (.getfield 10) 3 = true ∧ lSa m_X_set 31 [(.iload_n 1, 0), (.iload_n 2, 0), (.aload_n 0, 0), (.iload_n 3, 0)] = true ∧ lIa m_X_set 35 (.invokevirtual 38) 3 = true ∧ lIa m_X_set 38 (.invokevirtual 65) 3 = true ∧ lSa m_X_set 41 [(.iload 4, 0)] = true ∧ lIa m_X_set 43 (.ireturn) 1 = true := by decide +kernel
  refine lA8 hdd (fun dd0 dd1 dd2 dd3 dd4 dd5 dd6 dd7 hdd => ?_)
  refine lA8 hdd (fun dd8 dd9 dd10 dd11 dd12 dd13 dd14 dd15 hdd => ?_)
  have dd16 := hdd
  refine gMet.of (by decide +kernel) (Nat.le_of_ble_eq_true rfl) [some (.ref a0), some (.int a1), some (.int a2), some (.int a3), none] (fun ls h => zEn_ok (n := 5) h) ?_
  intro o Gf h
  unfold f_X_set at h
  refine Y.blk (pc' := 2) (L' := [some (.ref a0), some (.int a1), some (.int a2), some (.int a3), none]) (st' := [.int a1, .ref a0]) (sg := [(.aload_n 0, 0), (.iload_n 1, 0)]) (lSa_ok dd0) rfl ?_
  obtain ⟨_, o2, e1, m3, h⟩ := gOb_inv h
  refine Y.callN (yC.Vi (b := a0) (As := [.int a1]) (st := []) (r := ("Partlister", T_X, 5)) hV.1 cb_X_needList lk_X_23 in_X_needList rfl se_X_needList (lIa_ok dd1) rfl rfl (Nat.le_of_ble_eq_true rfl) (by decide) e1 m3) (k_X_needList hV G a0 a1) h (fun G4 _ h => ?_)
  refine Y.blk (pc' := 8) (L' := [some (.ref a0), some (.int a1), some (.int a2), some (.int a3), none]) (st' := [.int a2, .int a1, .ref a0]) (sg := [(.aload_n 0, 0), (.iload_n 1, 0), (.iload_n 2, 0)]) (lSa_ok dd2) rfl ?_
  obtain ⟨_, o6, e5, m7, h⟩ := gOb_inv h
  refine Y.callN (yC.Vi (b := a0) (As := [.int a1, .int a2]) (st := []) (r := ("Partlister", T_X, 5)) hV.1 cb_X_needPlace lk_X_58 in_X_needPlace rfl se_X_needPlace (lIa_ok dd3) rfl rfl (Nat.le_of_ble_eq_true rfl) (by decide) e5 m7) (k_X_needPlace hV G4 a0 a1 a2) h (fun G8 _ h => ?_)
  refine Y.blk (pc' := 13) (L' := [some (.ref a0), some (.int a1), some (.int a2), some (.int a3), none]) (st' := [.int a3, .ref a0]) (sg := [(.aload_n 0, 0), (.iload_n 3, 0)]) (lSa_ok dd4) rfl ?_
  obtain ⟨_, o10, e9, m11, h⟩ := gOb_inv h
  refine Y.callN (yC.Vi (b := a0) (As := [.int a3]) (st := []) (r := ("Partlister", T_X, 5)) hV.1 cb_X_needKey lk_X_27 in_X_needKey rfl se_X_needKey (lIa_ok dd5) rfl rfl (Nat.le_of_ble_eq_true rfl) (by decide) e9 m11) (k_X_needKey hV G8 a0 a3) h (fun G12 _ h => ?_)
  refine Y.blk (pc' := 17) (L' := [some (.ref a0), some (.int a1), some (.int a2), some (.int a3), none]) (st' := [.ref a0]) (sg := [(.aload_n 0, 0)]) (lSa_ok dd6) rfl ?_
  refine Y.getA fl_X_10 (lIa_ok dd7) h (fun v13 h => ?_)
  refine Y.blk (pc' := 22) (L' := [some (.ref a0), some (.int a1), some (.int a2), some (.int a3), none]) (st' := [.int a2, .int a1, .ref v13]) (sg := [(.iload_n 1, 0), (.iload_n 2, 0)]) (lSa_ok dd8) rfl ?_
  obtain ⟨_, o15, e14, m16, h⟩ := gOb_inv h
  refine Y.callI (yC.Vi (b := v13) (As := [.int a1, .int a2]) (st := []) (r := ("Partlister$Lists", T_I, 7)) hV.1 cb_I_keyAt lk_X_61 in_I_keyAt rfl se_I_keyAt (lIa_ok dd9) rfl rfl (Nat.le_of_ble_eq_true rfl) (by decide) e14 m16) (k_I_keyAt hV G12 v13 a1 a2) h (fun v18 G17 _ h => ?_)
  refine Y.blk (pc' := 28) (L' := [some (.ref a0), some (.int a1), some (.int a2), some (.int a3), some (.int v18)]) (st' := [.ref a0]) (sg := [(.istore 4, 0), (.aload_n 0, 0)]) (lSa_ok dd10) rfl ?_
  refine Y.getA fl_X_10 (lIa_ok dd11) h (fun v19 h => ?_)
  refine Y.blk (pc' := 35) (L' := [some (.ref a0), some (.int a1), some (.int a2), some (.int a3), some (.int v18)]) (st' := [.int a3, .ref a0, .int a2, .int a1, .ref v19]) (sg := [(.iload_n 1, 0), (.iload_n 2, 0), (.aload_n 0, 0), (.iload_n 3, 0)]) (lSa_ok dd12) rfl ?_
  obtain ⟨_, o21, e20, m22, h⟩ := gOb_inv h
  refine Y.callI (yC.Vi (b := a0) (As := [.int a3]) (st := [.int a2, .int a1, .ref v19]) (r := ("Partlister", T_X, 5)) hV.1 cb_X_make lk_X_38 in_X_make rfl se_X_make (lIa_ok dd13) rfl rfl (Nat.le_of_ble_eq_true rfl) (by decide) e20 m22) (k_X_make hV G17 a0 a3) h (fun v24 G23 _ h => ?_)
  obtain ⟨_, o26, e25, m27, h⟩ := gOb_inv h
  refine Y.callN (yC.Vi (b := v19) (As := [.int a1, .int a2, .int v24]) (st := []) (r := ("Partlister$Lists", T_I, 7)) hV.1 cb_I_write lk_X_65 in_I_write rfl se_I_write (lIa_ok dd14) rfl rfl (Nat.le_of_ble_eq_true rfl) (by decide) e25 m27) (k_I_write hV G23 v19 a1 a2 v24) h (fun G28 _ h => ?_)
  refine Y.blk (pc' := 43) (L' := [some (.ref a0), some (.int a1), some (.int a2), some (.int a3), some (.int v18)]) (st' := [.int v18]) (sg := [(.iload 4, 0)]) (lSa_ok dd15) rfl ?_
  exact Y.iret rfl (lIa_ok dd16) h

def f_X_size (G : gH) (a0 : Nat) (a1 : Int32) : gR :=
  if a1 < 0 then gThrow "java/lang/IndexOutOfBoundsException" G
  else if a1 < (nI 6) then gFA G a0 3 0 fun v1 => gOb G v1 1 fun o3 => bI (f_I_lengthOf G v1 a1) fun v6 G5 => rI v6 G5
    else gThrow "java/lang/IndexOutOfBoundsException" G
theorem k_X_size {l : Launch} {D : va_G} {B : Nat} {O : State → Heap → Prop} (hV : zG l D B O) (G : gH) (a0 : Nat) (a1 : Int32) : gMet (zVm l D B O) m_X_size 6 [.ref a0, .int a1] G (f_X_size G a0 a1) := by
  have hdd : lSa m_X_size 0 [(.iload_n 1, 0)] = true ∧ lIa m_X_size 1 (.ifCond .lt 9) 3 = true ∧ lIa m_X_size 10 (.new 125) 3 = true ∧ lIa m_X_size 13 (.dup) 1 = true ∧ lIa m_X_size 14 (.ldc 185) 2 = true ∧ lIa m_X_size 16 (.invokespecial 129) 3 = true ∧ lIa m_X_size 19 (.athrow) 1 = true ∧ lSa m_X_size 4 [(.iload_n 1, 0), (.bipush 6, nI 6)] = true ∧ lIa m_X_size 7 (.if_icmp .lt 13) 3 = true ∧ lSa m_X_size 20 [(.aload_n 0, 0)] = true ∧ lIa m_X_size 21 (.getfield 10) 3 = true ∧ lSa m_X_size 24 [(.iload_n 1, 0)] = true ∧ lIa m_X_size 25 (.invokevirtual 34) 3 = true ∧ lIa m_X_size 28 (.ireturn) 1 = true := by decide +kernel
  refine lA8 hdd (fun dd0 dd1 dd2 dd3 dd4 dd5 dd6 dd7 hdd => ?_)
  obtain ⟨dd8, dd9, dd10, dd11, dd12, dd13⟩ := hdd
  refine gMet.of (by decide +kernel) (Nat.le_of_ble_eq_true rfl) [some (.ref a0), some (.int a1)] (fun ls h => zEn_ok (n := 2) h) ?_
  intro o Gf h
  unfold f_X_size at h
  refine Y.blk (pc' := 1) (L' := [some (.ref a0), some (.int a1)]) (st' := [.int a1]) (sg := [(.iload_n 1, 0)]) (lSa_ok dd0) rfl ?_
  refine Y.if_lt (off := 9) (tgt := 10) (lIa_ok dd1) (by decide) h (fun c8 h => ?_) (fun c8 h => ?_)
  · exact Y.throwS (is := 185) (text := "list is not 0 to 5") (names := zNm) hV.1 (hV.2 _ _ _ (by decide +kernel)) (by decide +kernel) (by decide +kernel) ck_X_125 ini_IOE tw_X_129 tg_X_129 (by decide) (by decide) rfl (Nat.le_of_ble_eq_true rfl) (lIa_ok dd2) (lIa_ok dd3) (lIa_ok dd4) (lIa_ok dd5) (lIa_ok dd6) h
  · refine Y.blk (pc' := 7) (L' := [some (.ref a0), some (.int a1)]) (st' := [.int (nI 6), .int a1]) (sg := [(.iload_n 1, 0), (.bipush 6, nI 6)]) (lSa_ok dd7) rfl ?_
    refine Y.ic_lt (off := 13) (tgt := 20) (lIa_ok dd8) (by decide) h (fun c7 h => ?_) (fun c7 h => ?_)
    · refine Y.blk (pc' := 21) (L' := [some (.ref a0), some (.int a1)]) (st' := [.ref a0]) (sg := [(.aload_n 0, 0)]) (lSa_ok dd9) rfl ?_
      refine Y.getA fl_X_10 (lIa_ok dd10) h (fun v1 h => ?_)
      refine Y.blk (pc' := 25) (L' := [some (.ref a0), some (.int a1)]) (st' := [.int a1, .ref v1]) (sg := [(.iload_n 1, 0)]) (lSa_ok dd11) rfl ?_
      obtain ⟨_, o3, e2, m4, h⟩ := gOb_inv h
      refine Y.callI (yC.Vi (b := v1) (As := [.int a1]) (st := []) (r := ("Partlister$Lists", T_I, 7)) hV.1 cb_I_lengthOf lk_X_34 in_I_lengthOf rfl se_I_lengthOf (lIa_ok dd12) rfl rfl (Nat.le_of_ble_eq_true rfl) (by decide) e2 m4) (k_I_lengthOf hV G v1 a1) h (fun v6 G5 _ h => ?_)
      exact Y.iret rfl (lIa_ok dd13) h
    · exact Y.throwS (is := 185) (text := "list is not 0 to 5") (names := zNm) hV.1 (hV.2 _ _ _ (by decide +kernel)) (by decide +kernel) (by decide +kernel) ck_X_125 ini_IOE tw_X_129 tg_X_129 (by decide) (by decide) rfl (Nat.le_of_ble_eq_true rfl) (lIa_ok dd2) (lIa_ok dd3) (lIa_ok dd4) (lIa_ok dd5) (lIa_ok dd6) h

def f_I_arrange_L23 (K73 : gH → Int32 → gR) : Nat → gH → Nat → Int32 → Int32 → Int32 → Int32 → gR
  | 0, _, _, _, _, _, _ => none
  | n + 1, G, x0, x1, x3, x4, x5 =>
    if x3 ≤ x5 then K73 G x4
    else gOb G x0 1 fun o15 => bI (f_I_thingInSpare G x0 x5) fun v18 G17 => bI (f_X_tagOf G17 v18) fun v21 G20 => gOb G20 x0 1 fun o23 => bI (f_I_thingAt G20 x0 x1 x5) fun v26 G25 => bI (f_X_tagOf G25 v26) fun v29 G28 => if v21 = v29 then gOb G28 x0 1 fun o31 => bV (f_I_write G28 x0 x1 x5 v18) fun G33 => f_I_arrange_L23 K73 n G33 x0 x1 x3 x4 (x5 + (nI 1))
      else gOb G28 x0 1 fun o35 => bV (f_I_write G28 x0 x1 x5 v18) fun G37 => f_I_arrange_L23 K73 n G37 x0 x1 x3 (x4 + (nI 1)) (x5 + (nI 1))
def f_I_arrange (G : gH) (a0 : Nat) (a1 : Int32) (a2 : Int32) : gR :=
  gOb G a0 1 fun o2 => bI (f_I_lengthOf G a0 a1) fun v5 G4 => gOb G4 a0 1 fun o7 => bV (f_I_copyToSpare G4 a0 a1) fun G9 => gOb G9 a0 1 fun o11 => bV (f_I_arrangeSpare G9 a0 v5 a2) fun G13 => f_I_arrange_L23 (fun G41 x40 => rI x40 G41) zFu G13 a0 a1 v5 (nI 0) (nI 0)
theorem k_I_arrange_L23 {l : Launch} {D : va_G} {B : Nat} {O : State → Heap → Prop} (hV : zG l D B O) {o : gO} {Gf : gH} (K73 : gH → Int32 → gR) (hK73 : ∀ (G : gH) (x4 : Int32), K73 G x4 = some (o, Gf) → Y (zVm l D B O) m_I_arrange 5 o Gf 73 [none, none, none, none, some (.int x4), none, none] [] G) : ∀ (n : Nat) (G : gH) (x0 : Nat) (x1 : Int32) (x3 : Int32) (x4 : Int32) (x5 : Int32), f_I_arrange_L23 K73 n G x0 x1 x3 x4 x5 = some (o, Gf) → Y (zVm l D B O) m_I_arrange 5 o Gf 23 [some (.ref x0), some (.int x1), none, some (.int x3), some (.int x4), some (.int x5), none] [] G := by
  have hdd : lSa m_I_arrange 23 [(.iload 5, 0), (.iload_n 3, 0)] = true ∧ lIa m_I_arrange 26 (.if_icmp .ge 47) 3 = true ∧ lSa m_I_arrange 29 [(.aload_n 0, 0), (.iload 5, 0)] = true ∧ lIa m_I_arrange 32 (.invokevirtual 73) 3 = true ∧ lSa m_I_arrange 35 [(.istore 6, 0), (.iload 6, 0)] = true ∧ lIa m_I_arrange 39 (.invokestatic 79) 3 = true ∧ lSa m_I_arrange 42 [(.aload_n 0, 0), (.iload_n 1, 0), (.iload 5, 0)] = true ∧ lIa m_I_arrange 46 (.invokevirtual 50) 3 = true ∧ lIa m_I_arrange 49 (.invokestatic 79) 3 = true ∧ lIa m_I_arrange 52 (.if_icmp .eq 6) 3 = true ∧ lSa m_I_arrange 58 [(.aload_n 0, 0), (.iload_n 1, 0), (.iload 5, 0), (.iload 6, 0)] = true ∧ lIa m_I_arrange 64 (.invokevirtual 53) 3 = true ∧ lSa m_I_arrange 67 [(.iinc 5 1, nI 1)] = true ∧ lIa m_I_arrange 70 (.goto (-47)) 3 = true ∧ lSa m_I_arrange 55 [(.iinc 4 1, nI 1), (.aload_n 0, 0), (.iload_n 1, 0), (.iload 5, 0), (.iload 6, 0)] = true := by decide +kernel
  refine lA8 hdd (fun dd0 dd1 dd2 dd3 dd4 dd5 dd6 dd7 hdd => ?_)
  obtain ⟨dd8, dd9, dd10, dd11, dd12, dd13, dd14⟩ := hdd
  intro n
  induction n with
  | zero => intro G x0 x1 x3 x4 x5 h; cases h
  | succ n ih =>
    intro G x0 x1 x3 x4 x5 h
    unfold f_I_arrange_L23 at h
    refine Y.blk (pc' := 26) (L' := [some (.ref x0), some (.int x1), none, some (.int x3), some (.int x4), some (.int x5), none]) (st' := [.int x3, .int x5]) (sg := [(.iload 5, 0), (.iload_n 3, 0)]) (lSa_ok dd0) rfl ?_
    refine Y.ic_ge (off := 47) (tgt := 73) (lIa_ok dd1) (by decide) h (fun c39 h => ?_) (fun c39 h => ?_)
    · refine Y.less (L' := [none, none, none, none, some (.int x4), none, none]) (zLe_none (zLe_none (zLe_some (zLe_none (zLe_some (zLe_none (zLe_some (zLe_nil)))))))) ?_
      exact hK73 G x4 h
    · refine Y.blk (pc' := 32) (L' := [some (.ref x0), some (.int x1), none, some (.int x3), some (.int x4), some (.int x5), none]) (st' := [.int x5, .ref x0]) (sg := [(.aload_n 0, 0), (.iload 5, 0)]) (lSa_ok dd2) rfl ?_
      obtain ⟨_, o15, e14, m16, h⟩ := gOb_inv h
      refine Y.callI (yC.Vi (b := x0) (As := [.int x5]) (st := []) (r := ("Partlister$Lists", T_I, 7)) hV.1 cb_I_thingInSpare lk_I_73 in_I_thingInSpare rfl se_I_thingInSpare (lIa_ok dd3) rfl rfl (Nat.le_of_ble_eq_true rfl) (by decide) e14 m16) (k_I_thingInSpare hV G x0 x5) h (fun v18 G17 _ h => ?_)
      refine Y.blk (pc' := 39) (L' := [some (.ref x0), some (.int x1), none, some (.int x3), some (.int x4), some (.int x5), some (.int v18)]) (st' := [.int v18]) (sg := [(.istore 6, 0), (.iload 6, 0)]) (lSa_ok dd4) rfl ?_
      refine Y.callI (yC.SN (As := [.int v18]) (st := []) hV.1 cb_X_tagOf lk_I_79 st_X_tagOf (lIa_ok dd5) rfl rfl (Nat.le_of_ble_eq_true rfl) (by decide)) (k_X_tagOf hV G17 v18) h (fun v21 G20 _ h => ?_)
      refine Y.blk (pc' := 46) (L' := [some (.ref x0), some (.int x1), none, some (.int x3), some (.int x4), some (.int x5), some (.int v18)]) (st' := [.int x5, .int x1, .ref x0, .int v21]) (sg := [(.aload_n 0, 0), (.iload_n 1, 0), (.iload 5, 0)]) (lSa_ok dd6) rfl ?_
      obtain ⟨_, o23, e22, m24, h⟩ := gOb_inv h
      refine Y.callI (yC.Vi (b := x0) (As := [.int x1, .int x5]) (st := [.int v21]) (r := ("Partlister$Lists", T_I, 7)) hV.1 cb_I_thingAt lk_I_50 in_I_thingAt rfl se_I_thingAt (lIa_ok dd7) rfl rfl (Nat.le_of_ble_eq_true rfl) (by decide) e22 m24) (k_I_thingAt hV G20 x0 x1 x5) h (fun v26 G25 _ h => ?_)
      refine Y.callI (yC.SN (As := [.int v26]) (st := [.int v21]) hV.1 cb_X_tagOf lk_I_79 st_X_tagOf (lIa_ok dd8) rfl rfl (Nat.le_of_ble_eq_true rfl) (by decide)) (k_X_tagOf hV G25 v26) h (fun v29 G28 _ h => ?_)
      refine Y.ic_eq (off := 6) (tgt := 58) (lIa_ok dd9) (by decide) h (fun c38 h => ?_) (fun c38 h => ?_)
      · refine Y.blk (pc' := 64) (L' := [some (.ref x0), some (.int x1), none, some (.int x3), some (.int x4), some (.int x5), some (.int v18)]) (st' := [.int v18, .int x5, .int x1, .ref x0]) (sg := [(.aload_n 0, 0), (.iload_n 1, 0), (.iload 5, 0), (.iload 6, 0)]) (lSa_ok dd10) rfl ?_
        obtain ⟨_, o31, e30, m32, h⟩ := gOb_inv h
        refine Y.callN (yC.Vi (b := x0) (As := [.int x1, .int x5, .int v18]) (st := []) (r := ("Partlister$Lists", T_I, 7)) hV.1 cb_I_write lk_I_53 in_I_write rfl se_I_write (lIa_ok dd11) rfl rfl (Nat.le_of_ble_eq_true rfl) (by decide) e30 m32) (k_I_write hV G28 x0 x1 x5 v18) h (fun G33 _ h => ?_)
        refine Y.blk (pc' := 70) (L' := [some (.ref x0), some (.int x1), none, some (.int x3), some (.int x4), some (.int (x5 + (nI 1))), some (.int v18)]) (st' := []) (sg := [(.iinc 5 1, nI 1)]) (lSa_ok dd12) rfl ?_
        refine Y.goto (off := -47) (tgt := 23) (lIa_ok dd13) (by decide) ?_
        refine Y.less (L' := [some (.ref x0), some (.int x1), none, some (.int x3), some (.int x4), some (.int (x5 + (nI 1))), none]) (zLe_some (zLe_some (zLe_some (zLe_some (zLe_some (zLe_some (zLe_none (zLe_nil)))))))) ?_
        exact ih G33 x0 x1 x3 x4 (x5 + (nI 1)) h
      · refine Y.blk (pc' := 64) (L' := [some (.ref x0), some (.int x1), none, some (.int x3), some (.int (x4 + (nI 1))), some (.int x5), some (.int v18)]) (st' := [.int v18, .int x5, .int x1, .ref x0]) (sg := [(.iinc 4 1, nI 1), (.aload_n 0, 0), (.iload_n 1, 0), (.iload 5, 0), (.iload 6, 0)]) (lSa_ok dd14) rfl ?_
        obtain ⟨_, o35, e34, m36, h⟩ := gOb_inv h
        refine Y.callN (yC.Vi (b := x0) (As := [.int x1, .int x5, .int v18]) (st := []) (r := ("Partlister$Lists", T_I, 7)) hV.1 cb_I_write lk_I_53 in_I_write rfl se_I_write (lIa_ok dd11) rfl rfl (Nat.le_of_ble_eq_true rfl) (by decide) e34 m36) (k_I_write hV G28 x0 x1 x5 v18) h (fun G37 _ h => ?_)
        refine Y.blk (pc' := 70) (L' := [some (.ref x0), some (.int x1), none, some (.int x3), some (.int (x4 + (nI 1))), some (.int (x5 + (nI 1))), some (.int v18)]) (st' := []) (sg := [(.iinc 5 1, nI 1)]) (lSa_ok dd12) rfl ?_
        refine Y.goto (off := -47) (tgt := 23) (lIa_ok dd13) (by decide) ?_
        refine Y.less (L' := [some (.ref x0), some (.int x1), none, some (.int x3), some (.int (x4 + (nI 1))), some (.int (x5 + (nI 1))), none]) (zLe_some (zLe_some (zLe_some (zLe_some (zLe_some (zLe_some (zLe_none (zLe_nil)))))))) ?_
        exact ih G37 x0 x1 x3 (x4 + (nI 1)) (x5 + (nI 1)) h
theorem k_I_arrange {l : Launch} {D : va_G} {B : Nat} {O : State → Heap → Prop} (hV : zG l D B O) (G : gH) (a0 : Nat) (a1 : Int32) (a2 : Int32) : gMet (zVm l D B O) m_I_arrange 5 [.ref a0, .int a1, .int a2] G (f_I_arrange G a0 a1 a2) := by
  have hdd : lSa m_I_arrange 0 [(.aload_n 0, 0), (.iload_n 1, 0)] = true ∧ lIa m_I_arrange 2 (.invokevirtual 59) 3 = true ∧ lSa m_I_arrange 5 [(.istore_n 3, 0), (.aload_n 0, 0), (.iload_n 1, 0)] = true ∧ lIa m_I_arrange 8 (.invokevirtual 65) 3 = true ∧ lSa m_I_arrange 11 [(.aload_n 0, 0), (.iload_n 3, 0), (.iload_n 2, 0)] = true ∧ lIa m_I_arrange 14 (.invokevirtual 76) 3 = true ∧ lSa m_I_arrange 17 [(.iconst 0, nI 0), (.istore 4, 0), (.iconst 0, nI 0), (.istore 5, 0)] = true ∧ lSa m_I_arrange 73 [(.iload 4, 0)] = true ∧ lIa m_I_arrange 75 (.ireturn) 1 = true := by decide +kernel
  refine lA8 hdd (fun dd0 dd1 dd2 dd3 dd4 dd5 dd6 dd7 hdd => ?_)
  have dd8 := hdd
  refine gMet.of (by decide +kernel) (Nat.le_of_ble_eq_true rfl) [some (.ref a0), some (.int a1), some (.int a2), none, none, none, none] (fun ls h => zEn_ok (n := 7) h) ?_
  intro o Gf h
  unfold f_I_arrange at h
  refine Y.blk (pc' := 2) (L' := [some (.ref a0), some (.int a1), some (.int a2), none, none, none, none]) (st' := [.int a1, .ref a0]) (sg := [(.aload_n 0, 0), (.iload_n 1, 0)]) (lSa_ok dd0) rfl ?_
  obtain ⟨_, o2, e1, m3, h⟩ := gOb_inv h
  refine Y.callI (yC.Vi (b := a0) (As := [.int a1]) (st := []) (r := ("Partlister$Lists", T_I, 7)) hV.1 cb_I_lengthOf lk_I_59 in_I_lengthOf rfl se_I_lengthOf (lIa_ok dd1) rfl rfl (Nat.le_of_ble_eq_true rfl) (by decide) e1 m3) (k_I_lengthOf hV G a0 a1) h (fun v5 G4 _ h => ?_)
  refine Y.blk (pc' := 8) (L' := [some (.ref a0), some (.int a1), some (.int a2), some (.int v5), none, none, none]) (st' := [.int a1, .ref a0]) (sg := [(.istore_n 3, 0), (.aload_n 0, 0), (.iload_n 1, 0)]) (lSa_ok dd2) rfl ?_
  obtain ⟨_, o7, e6, m8, h⟩ := gOb_inv h
  refine Y.callN (yC.Vi (b := a0) (As := [.int a1]) (st := []) (r := ("Partlister$Lists", T_I, 7)) hV.1 cb_I_copyToSpare lk_I_65 in_I_copyToSpare rfl se_I_copyToSpare (lIa_ok dd3) rfl rfl (Nat.le_of_ble_eq_true rfl) (by decide) e6 m8) (k_I_copyToSpare hV G4 a0 a1) h (fun G9 _ h => ?_)
  refine Y.blk (pc' := 14) (L' := [some (.ref a0), some (.int a1), some (.int a2), some (.int v5), none, none, none]) (st' := [.int a2, .int v5, .ref a0]) (sg := [(.aload_n 0, 0), (.iload_n 3, 0), (.iload_n 2, 0)]) (lSa_ok dd4) rfl ?_
  obtain ⟨_, o11, e10, m12, h⟩ := gOb_inv h
  refine Y.callN (yC.Vi (b := a0) (As := [.int v5, .int a2]) (st := []) (r := ("Partlister$Lists", T_I, 7)) hV.1 cb_I_arrangeSpare lk_I_76 in_I_arrangeSpare rfl se_I_arrangeSpare (lIa_ok dd5) rfl rfl (Nat.le_of_ble_eq_true rfl) (by decide) e10 m12) (k_I_arrangeSpare hV G9 a0 v5 a2) h (fun G13 _ h => ?_)
  refine Y.blk (pc' := 23) (L' := [some (.ref a0), some (.int a1), some (.int a2), some (.int v5), some (.int (nI 0)), some (.int (nI 0)), none]) (st' := []) (sg := [(.iconst 0, nI 0), (.istore 4, 0), (.iconst 0, nI 0), (.istore 5, 0)]) (lSa_ok dd6) rfl ?_
  refine Y.less (L' := [some (.ref a0), some (.int a1), none, some (.int v5), some (.int (nI 0)), some (.int (nI 0)), none]) (zLe_some (zLe_some (zLe_none (zLe_some (zLe_some (zLe_some (zLe_some (zLe_nil)))))))) ?_
  refine k_I_arrange_L23 hV _ ?_  zFu G13 a0 a1 v5 (nI 0) (nI 0) h
  · intro G41 x40 h
    refine Y.blk (pc' := 75) (L' := [none, none, none, none, some (.int x40), none, none]) (st' := [.int x40]) (sg := [(.iload 4, 0)]) (lSa_ok dd7) rfl ?_
    exact Y.iret rfl (lIa_ok dd8) h

def f_X_sort (G : gH) (a0 : Nat) (a1 : Int32) (a2 : Int32) : gR :=
  gOb G a0 3 fun o2 => bV (f_X_needList G a0 a1) fun G4 => if a2 < 0 then gThrow "java/lang/IllegalArgumentException" G4
  else if a2 < (nI 5) then gFA G4 a0 3 0 fun v5 => gOb G4 v5 1 fun o7 => bI (f_I_arrange G4 v5 a1 a2) fun v10 G9 => gOb G9 a0 3 fun o12 => bI (f_X_endAround G9 a0 a1) fun v15 G14 => rI v10 G14
    else gThrow "java/lang/IllegalArgumentException" G4
theorem k_X_sort {l : Launch} {D : va_G} {B : Nat} {O : State → Heap → Prop} (hV : zG l D B O) (G : gH) (a0 : Nat) (a1 : Int32) (a2 : Int32) : gMet (zVm l D B O) m_X_sort 7 [.ref a0, .int a1, .int a2] G (f_X_sort G a0 a1 a2) := by
  have hdd : lSa m_X_sort 0 [(.aload_n 0, 0), (.iload_n 1, 0)] = true ∧ lIa m_X_sort 2 (.invokevirtual 23) 3 = true ∧ lSa m_X_sort 5 [(.iload_n 2, 0)] = true ∧ lIa m_X_sort 6 (.ifCond .lt 8) 3 = true ∧ lIa m_X_sort 14 (.new 81) 3 = true ∧ lIa m_X_sort 17 (.dup) 1 = true ∧ lIa m_X_sort 18 (.ldc 112) 2 = true ∧ lIa m_X_sort 20 (.invokespecial 85) 3 = true ∧ lIa m_X_sort 23 (.athrow) 1 = true ∧ lSa m_X_sort 9 [(.iload_n 2, 0), (.iconst 5, nI 5)] = true ∧ lIa m_X_sort 11 (.if_icmp .lt 13) 3 = true ∧ lSa m_X_sort 24 [(.aload_n 0, 0)] = true ∧ lIa m_X_sort 25 (.getfield 10) 3 = true ∧ lSa m_X_sort 28 [(.iload_n 1, 0), (.iload_n 2, 0)] = true ∧ lIa m_X_sort 30 (.invokevirtual 114) 3 = true ∧ lSa m_X_sort 33 [(.istore_n 3, 0), (.aload_n 0, 0), (.iload_n 1, 0)] = true ∧ lIa m_X_sort 36 (.invokevirtual 103) 3 = true ∧ lSa m_X_sort 39 [(.pop, 0), (.iload_n 3, 0)] = true ∧ lIa m_X_sort 41 (.ireturn) 1 = true := by decide +kernel
  refine lA8 hdd (fun dd0 dd1 dd2 dd3 dd4 dd5 dd6 dd7 hdd => ?_)
  refine lA8 hdd (fun dd8 dd9 dd10 dd11 dd12 dd13 dd14 dd15 hdd => ?_)
  obtain ⟨dd16, dd17, dd18⟩ := hdd
  refine gMet.of (by decide +kernel) (Nat.le_of_ble_eq_true rfl) [some (.ref a0), some (.int a1), some (.int a2), none] (fun ls h => zEn_ok (n := 4) h) ?_
  intro o Gf h
  unfold f_X_sort at h
  refine Y.blk (pc' := 2) (L' := [some (.ref a0), some (.int a1), some (.int a2), none]) (st' := [.int a1, .ref a0]) (sg := [(.aload_n 0, 0), (.iload_n 1, 0)]) (lSa_ok dd0) rfl ?_
  obtain ⟨_, o2, e1, m3, h⟩ := gOb_inv h
  refine Y.callN (yC.Vi (b := a0) (As := [.int a1]) (st := []) (r := ("Partlister", T_X, 5)) hV.1 cb_X_needList lk_X_23 in_X_needList rfl se_X_needList (lIa_ok dd1) rfl rfl (Nat.le_of_ble_eq_true rfl) (by decide) e1 m3) (k_X_needList hV G a0 a1) h (fun G4 _ h => ?_)
  refine Y.blk (pc' := 6) (L' := [some (.ref a0), some (.int a1), some (.int a2), none]) (st' := [.int a2]) (sg := [(.iload_n 2, 0)]) (lSa_ok dd2) rfl ?_
  refine Y.if_lt (off := 8) (tgt := 14) (lIa_ok dd3) (by decide) h (fun c17 h => ?_) (fun c17 h => ?_)
  · exact Y.throwS (is := 112) (text := "order is not 0 to 4") (names := zNm) hV.1 (hV.2 _ _ _ (by decide +kernel)) (by decide +kernel) (by decide +kernel) ck_X_81 ini_IAE tw_X_85 tg_X_85 (by decide) (by decide) rfl (Nat.le_of_ble_eq_true rfl) (lIa_ok dd4) (lIa_ok dd5) (lIa_ok dd6) (lIa_ok dd7) (lIa_ok dd8) h
  · refine Y.blk (pc' := 11) (L' := [some (.ref a0), some (.int a1), some (.int a2), none]) (st' := [.int (nI 5), .int a2]) (sg := [(.iload_n 2, 0), (.iconst 5, nI 5)]) (lSa_ok dd9) rfl ?_
    refine Y.ic_lt (off := 13) (tgt := 24) (lIa_ok dd10) (by decide) h (fun c16 h => ?_) (fun c16 h => ?_)
    · refine Y.blk (pc' := 25) (L' := [some (.ref a0), some (.int a1), some (.int a2), none]) (st' := [.ref a0]) (sg := [(.aload_n 0, 0)]) (lSa_ok dd11) rfl ?_
      refine Y.getA fl_X_10 (lIa_ok dd12) h (fun v5 h => ?_)
      refine Y.blk (pc' := 30) (L' := [some (.ref a0), some (.int a1), some (.int a2), none]) (st' := [.int a2, .int a1, .ref v5]) (sg := [(.iload_n 1, 0), (.iload_n 2, 0)]) (lSa_ok dd13) rfl ?_
      obtain ⟨_, o7, e6, m8, h⟩ := gOb_inv h
      refine Y.callI (yC.Vi (b := v5) (As := [.int a1, .int a2]) (st := []) (r := ("Partlister$Lists", T_I, 7)) hV.1 cb_I_arrange lk_X_114 in_I_arrange rfl se_I_arrange (lIa_ok dd14) rfl rfl (Nat.le_of_ble_eq_true rfl) (by decide) e6 m8) (k_I_arrange hV G4 v5 a1 a2) h (fun v10 G9 _ h => ?_)
      refine Y.blk (pc' := 36) (L' := [some (.ref a0), some (.int a1), some (.int a2), some (.int v10)]) (st' := [.int a1, .ref a0]) (sg := [(.istore_n 3, 0), (.aload_n 0, 0), (.iload_n 1, 0)]) (lSa_ok dd15) rfl ?_
      obtain ⟨_, o12, e11, m13, h⟩ := gOb_inv h
      refine Y.callI (yC.Vi (b := a0) (As := [.int a1]) (st := []) (r := ("Partlister", T_X, 5)) hV.1 cb_X_endAround lk_X_103 in_X_endAround rfl se_X_endAround (lIa_ok dd16) rfl rfl (Nat.le_of_ble_eq_true rfl) (by decide) e11 m13) (k_X_endAround hV G9 a0 a1) h (fun v15 G14 _ h => ?_)
      refine Y.blk (pc' := 41) (L' := [some (.ref a0), some (.int a1), some (.int a2), some (.int v10)]) (st' := [.int v10]) (sg := [(.pop, 0), (.iload_n 3, 0)]) (lSa_ok dd17) rfl ?_
      exact Y.iret rfl (lIa_ok dd18) h
    · exact Y.throwS (is := 112) (text := "order is not 0 to 4") (names := zNm) hV.1 (hV.2 _ _ _ (by decide +kernel)) (by decide +kernel) (by decide +kernel) ck_X_81 ini_IAE tw_X_85 tg_X_85 (by decide) (by decide) rfl (Nat.le_of_ble_eq_true rfl) (lIa_ok dd4) (lIa_ok dd5) (lIa_ok dd6) (lIa_ok dd7) (lIa_ok dd8) h

def f_I_countBelow_L12 (K38 : gH → Int32 → gR) : Nat → gH → Nat → Int32 → Int32 → Int32 → Int32 → Int32 → gR
  | 0, _, _, _, _, _, _, _ => none
  | n + 1, G, x0, x1, x2, x3, x4, x5 =>
    if x3 ≤ x5 then K38 G x4
    else gOb G x0 1 fun o7 => bI (f_I_keyAt G x0 x1 x5) fun v10 G9 => if x2 ≤ v10 then f_I_countBelow_L12 K38 n G9 x0 x1 x2 x3 x4 (x5 + (nI 1))
      else f_I_countBelow_L12 K38 n G9 x0 x1 x2 x3 (x4 + (nI 1)) (x5 + (nI 1))
def f_I_countBelow (G : gH) (a0 : Nat) (a1 : Int32) (a2 : Int32) : gR :=
  gOb G a0 1 fun o2 => bI (f_I_lengthOf G a0 a1) fun v5 G4 => f_I_countBelow_L12 (fun G14 x13 => rI x13 G14) zFu G4 a0 a1 a2 v5 (nI 0) (nI 0)
theorem k_I_countBelow_L12 {l : Launch} {D : va_G} {B : Nat} {O : State → Heap → Prop} (hV : zG l D B O) {o : gO} {Gf : gH} (K38 : gH → Int32 → gR) (hK38 : ∀ (G : gH) (x4 : Int32), K38 G x4 = some (o, Gf) → Y (zVm l D B O) m_I_countBelow 4 o Gf 38 [none, none, none, none, some (.int x4), none] [] G) : ∀ (n : Nat) (G : gH) (x0 : Nat) (x1 : Int32) (x2 : Int32) (x3 : Int32) (x4 : Int32) (x5 : Int32), f_I_countBelow_L12 K38 n G x0 x1 x2 x3 x4 x5 = some (o, Gf) → Y (zVm l D B O) m_I_countBelow 4 o Gf 12 [some (.ref x0), some (.int x1), some (.int x2), some (.int x3), some (.int x4), some (.int x5)] [] G := by
  have hdd : lSa m_I_countBelow 12 [(.iload 5, 0), (.iload_n 3, 0)] = true ∧ lIa m_I_countBelow 15 (.if_icmp .ge 23) 3 = true ∧ lSa m_I_countBelow 18 [(.aload_n 0, 0), (.iload_n 1, 0), (.iload 5, 0)] = true ∧ lIa m_I_countBelow 22 (.invokevirtual 101) 3 = true ∧ lSa m_I_countBelow 25 [(.iload_n 2, 0)] = true ∧ lIa m_I_countBelow 26 (.if_icmp .ge 6) 3 = true ∧ lSa m_I_countBelow 32 [(.iinc 5 1, nI 1)] = true ∧ lIa m_I_countBelow 35 (.goto (-23)) 3 = true ∧ lSa m_I_countBelow 29 [(.iinc 4 1, nI 1), (.iinc 5 1, nI 1)] = true := by decide +kernel
  refine lA8 hdd (fun dd0 dd1 dd2 dd3 dd4 dd5 dd6 dd7 hdd => ?_)
  have dd8 := hdd
  intro n
  induction n with
  | zero => intro G x0 x1 x2 x3 x4 x5 h; cases h
  | succ n ih =>
    intro G x0 x1 x2 x3 x4 x5 h
    unfold f_I_countBelow_L12 at h
    refine Y.blk (pc' := 15) (L' := [some (.ref x0), some (.int x1), some (.int x2), some (.int x3), some (.int x4), some (.int x5)]) (st' := [.int x3, .int x5]) (sg := [(.iload 5, 0), (.iload_n 3, 0)]) (lSa_ok dd0) rfl ?_
    refine Y.ic_ge (off := 23) (tgt := 38) (lIa_ok dd1) (by decide) h (fun c12 h => ?_) (fun c12 h => ?_)
    · refine Y.less (L' := [none, none, none, none, some (.int x4), none]) (zLe_none (zLe_none (zLe_none (zLe_none (zLe_some (zLe_none (zLe_nil))))))) ?_
      exact hK38 G x4 h
    · refine Y.blk (pc' := 22) (L' := [some (.ref x0), some (.int x1), some (.int x2), some (.int x3), some (.int x4), some (.int x5)]) (st' := [.int x5, .int x1, .ref x0]) (sg := [(.aload_n 0, 0), (.iload_n 1, 0), (.iload 5, 0)]) (lSa_ok dd2) rfl ?_
      obtain ⟨_, o7, e6, m8, h⟩ := gOb_inv h
      refine Y.callI (yC.Vi (b := x0) (As := [.int x1, .int x5]) (st := []) (r := ("Partlister$Lists", T_I, 7)) hV.1 cb_I_keyAt lk_I_101 in_I_keyAt rfl se_I_keyAt (lIa_ok dd3) rfl rfl (Nat.le_of_ble_eq_true rfl) (by decide) e6 m8) (k_I_keyAt hV G x0 x1 x5) h (fun v10 G9 _ h => ?_)
      refine Y.blk (pc' := 26) (L' := [some (.ref x0), some (.int x1), some (.int x2), some (.int x3), some (.int x4), some (.int x5)]) (st' := [.int x2, .int v10]) (sg := [(.iload_n 2, 0)]) (lSa_ok dd4) rfl ?_
      refine Y.ic_ge (off := 6) (tgt := 32) (lIa_ok dd5) (by decide) h (fun c11 h => ?_) (fun c11 h => ?_)
      · refine Y.blk (pc' := 35) (L' := [some (.ref x0), some (.int x1), some (.int x2), some (.int x3), some (.int x4), some (.int (x5 + (nI 1)))]) (st' := []) (sg := [(.iinc 5 1, nI 1)]) (lSa_ok dd6) rfl ?_
        refine Y.goto (off := -23) (tgt := 12) (lIa_ok dd7) (by decide) ?_
        exact ih G9 x0 x1 x2 x3 x4 (x5 + (nI 1)) h
      · refine Y.blk (pc' := 35) (L' := [some (.ref x0), some (.int x1), some (.int x2), some (.int x3), some (.int (x4 + (nI 1))), some (.int (x5 + (nI 1)))]) (st' := []) (sg := [(.iinc 4 1, nI 1), (.iinc 5 1, nI 1)]) (lSa_ok dd8) rfl ?_
        refine Y.goto (off := -23) (tgt := 12) (lIa_ok dd7) (by decide) ?_
        exact ih G9 x0 x1 x2 x3 (x4 + (nI 1)) (x5 + (nI 1)) h
theorem k_I_countBelow {l : Launch} {D : va_G} {B : Nat} {O : State → Heap → Prop} (hV : zG l D B O) (G : gH) (a0 : Nat) (a1 : Int32) (a2 : Int32) : gMet (zVm l D B O) m_I_countBelow 4 [.ref a0, .int a1, .int a2] G (f_I_countBelow G a0 a1 a2) := by
  have hdd : lSa m_I_countBelow 0 [(.aload_n 0, 0), (.iload_n 1, 0)] = true ∧ lIa m_I_countBelow 2 (.invokevirtual 59) 3 = true ∧ lSa m_I_countBelow 5 [(.istore_n 3, 0), (.iconst 0, nI 0), (.istore 4, 0), (.iconst 0, nI 0), (.istore 5, 0)] = true ∧ lSa m_I_countBelow 38 [(.iload 4, 0)] = true ∧ lIa m_I_countBelow 40 (.ireturn) 1 = true := by decide +kernel
  obtain ⟨dd0, dd1, dd2, dd3, dd4⟩ := hdd
  refine gMet.of (by decide +kernel) (Nat.le_of_ble_eq_true rfl) [some (.ref a0), some (.int a1), some (.int a2), none, none, none] (fun ls h => zEn_ok (n := 6) h) ?_
  intro o Gf h
  unfold f_I_countBelow at h
  refine Y.blk (pc' := 2) (L' := [some (.ref a0), some (.int a1), some (.int a2), none, none, none]) (st' := [.int a1, .ref a0]) (sg := [(.aload_n 0, 0), (.iload_n 1, 0)]) (lSa_ok dd0) rfl ?_
  obtain ⟨_, o2, e1, m3, h⟩ := gOb_inv h
  refine Y.callI (yC.Vi (b := a0) (As := [.int a1]) (st := []) (r := ("Partlister$Lists", T_I, 7)) hV.1 cb_I_lengthOf lk_I_59 in_I_lengthOf rfl se_I_lengthOf (lIa_ok dd1) rfl rfl (Nat.le_of_ble_eq_true rfl) (by decide) e1 m3) (k_I_lengthOf hV G a0 a1) h (fun v5 G4 _ h => ?_)
  refine Y.blk (pc' := 12) (L' := [some (.ref a0), some (.int a1), some (.int a2), some (.int v5), some (.int (nI 0)), some (.int (nI 0))]) (st' := []) (sg := [(.istore_n 3, 0), (.iconst 0, nI 0), (.istore 4, 0), (.iconst 0, nI 0), (.istore 5, 0)]) (lSa_ok dd2) rfl ?_
  refine k_I_countBelow_L12 hV _ ?_  zFu G4 a0 a1 a2 v5 (nI 0) (nI 0) h
  · intro G14 x13 h
    refine Y.blk (pc' := 40) (L' := [none, none, none, none, some (.int x13), none]) (st' := [.int x13]) (sg := [(.iload 4, 0)]) (lSa_ok dd3) rfl ?_
    exact Y.iret rfl (lIa_ok dd4) h

def f_I_isSorted_L8 (K30 : gH → gR) (K38 : gH → gR) : Nat → gH → Nat → Int32 → Int32 → Int32 → gR
  | 0, _, _, _, _, _ => none
  | n + 1, G, x0, x1, x2, x3 =>
    if x2 ≤ x3 then K38 G
    else gOb G x0 1 fun o7 => bI (f_I_keyAt G x0 x1 x3) fun v10 G9 => gOb G9 x0 1 fun o12 => bI (f_I_keyAt G9 x0 x1 (x3 - (nI 1))) fun v15 G14 => if v15 ≤ v10 then f_I_isSorted_L8 K30 K38 n G14 x0 x1 x2 (x3 + (nI 1))
      else K30 G14
def f_I_isSorted (G : gH) (a0 : Nat) (a1 : Int32) : gR :=
  gOb G a0 1 fun o2 => bI (f_I_lengthOf G a0 a1) fun v5 G4 => f_I_isSorted_L8 (fun G18 => rZ (nI 0) G18) (fun G19 => rZ (nI 1) G19) zFu G4 a0 a1 v5 (nI 1)
theorem k_I_isSorted_L8 {l : Launch} {D : va_G} {B : Nat} {O : State → Heap → Prop} (hV : zG l D B O) {o : gO} {Gf : gH} (K30 : gH → gR) (K38 : gH → gR) (hK30 : ∀ (G : gH), K30 G  = some (o, Gf) → Y (zVm l D B O) m_I_isSorted 4 o Gf 30 [none, none, none, none] [] G) (hK38 : ∀ (G : gH), K38 G  = some (o, Gf) → Y (zVm l D B O) m_I_isSorted 4 o Gf 38 [none, none, none, none] [] G) : ∀ (n : Nat) (G : gH) (x0 : Nat) (x1 : Int32) (x2 : Int32) (x3 : Int32), f_I_isSorted_L8 K30 K38 n G x0 x1 x2 x3 = some (o, Gf) → Y (zVm l D B O) m_I_isSorted 4 o Gf 8 [some (.ref x0), some (.int x1), some (.int x2), some (.int x3)] [] G := by
  have hdd : lSa m_I_isSorted 8 [(.iload_n 3, 0), (.iload_n 2, 0)] = true ∧ lIa m_I_isSorted 10 (.if_icmp .ge 28) 3 = true ∧ lSa m_I_isSorted 13 [(.aload_n 0, 0), (.iload_n 1, 0), (.iload_n 3, 0)] = true ∧ lIa m_I_isSorted 16 (.invokevirtual 101) 3 = true ∧ lSa m_I_isSorted 19 [(.aload_n 0, 0), (.iload_n 1, 0), (.iload_n 3, 0), (.iconst 1, nI 1), (.isub, 0)] = true ∧ lIa m_I_isSorted 24 (.invokevirtual 101) 3 = true ∧ lIa m_I_isSorted 27 (.if_icmp .ge 5) 3 = true ∧ lSa m_I_isSorted 32 [(.iinc 3 1, nI 1)] = true ∧ lIa m_I_isSorted 35 (.goto (-27)) 3 = true := by decide +kernel
  refine lA8 hdd (fun dd0 dd1 dd2 dd3 dd4 dd5 dd6 dd7 hdd => ?_)
  have dd8 := hdd
  intro n
  induction n with
  | zero => intro G x0 x1 x2 x3 h; cases h
  | succ n ih =>
    intro G x0 x1 x2 x3 h
    unfold f_I_isSorted_L8 at h
    refine Y.blk (pc' := 10) (L' := [some (.ref x0), some (.int x1), some (.int x2), some (.int x3)]) (st' := [.int x2, .int x3]) (sg := [(.iload_n 3, 0), (.iload_n 2, 0)]) (lSa_ok dd0) rfl ?_
    refine Y.ic_ge (off := 28) (tgt := 38) (lIa_ok dd1) (by decide) h (fun c17 h => ?_) (fun c17 h => ?_)
    · refine Y.less (L' := [none, none, none, none]) (zLe_none (zLe_none (zLe_none (zLe_none (zLe_nil))))) ?_
      exact hK38 G  h
    · refine Y.blk (pc' := 16) (L' := [some (.ref x0), some (.int x1), some (.int x2), some (.int x3)]) (st' := [.int x3, .int x1, .ref x0]) (sg := [(.aload_n 0, 0), (.iload_n 1, 0), (.iload_n 3, 0)]) (lSa_ok dd2) rfl ?_
      obtain ⟨_, o7, e6, m8, h⟩ := gOb_inv h
      refine Y.callI (yC.Vi (b := x0) (As := [.int x1, .int x3]) (st := []) (r := ("Partlister$Lists", T_I, 7)) hV.1 cb_I_keyAt lk_I_101 in_I_keyAt rfl se_I_keyAt (lIa_ok dd3) rfl rfl (Nat.le_of_ble_eq_true rfl) (by decide) e6 m8) (k_I_keyAt hV G x0 x1 x3) h (fun v10 G9 _ h => ?_)
      refine Y.blk (pc' := 24) (L' := [some (.ref x0), some (.int x1), some (.int x2), some (.int x3)]) (st' := [.int (x3 - (nI 1)), .int x1, .ref x0, .int v10]) (sg := [(.aload_n 0, 0), (.iload_n 1, 0), (.iload_n 3, 0), (.iconst 1, nI 1), (.isub, 0)]) (lSa_ok dd4) rfl ?_
      obtain ⟨_, o12, e11, m13, h⟩ := gOb_inv h
      refine Y.callI (yC.Vi (b := x0) (As := [.int x1, .int (x3 - (nI 1))]) (st := [.int v10]) (r := ("Partlister$Lists", T_I, 7)) hV.1 cb_I_keyAt lk_I_101 in_I_keyAt rfl se_I_keyAt (lIa_ok dd5) rfl rfl (Nat.le_of_ble_eq_true rfl) (by decide) e11 m13) (k_I_keyAt hV G9 x0 x1 (x3 - (nI 1))) h (fun v15 G14 _ h => ?_)
      refine Y.ic_ge (off := 5) (tgt := 32) (lIa_ok dd6) (by decide) h (fun c16 h => ?_) (fun c16 h => ?_)
      · refine Y.blk (pc' := 35) (L' := [some (.ref x0), some (.int x1), some (.int x2), some (.int (x3 + (nI 1)))]) (st' := []) (sg := [(.iinc 3 1, nI 1)]) (lSa_ok dd7) rfl ?_
        refine Y.goto (off := -27) (tgt := 8) (lIa_ok dd8) (by decide) ?_
        exact ih G14 x0 x1 x2 (x3 + (nI 1)) h
      · refine Y.less (L' := [none, none, none, none]) (zLe_none (zLe_none (zLe_none (zLe_none (zLe_nil))))) ?_
        exact hK30 G14  h
theorem k_I_isSorted {l : Launch} {D : va_G} {B : Nat} {O : State → Heap → Prop} (hV : zG l D B O) (G : gH) (a0 : Nat) (a1 : Int32) : gMet (zVm l D B O) m_I_isSorted 4 [.ref a0, .int a1] G (f_I_isSorted G a0 a1) := by
  have hdd : lSa m_I_isSorted 0 [(.aload_n 0, 0), (.iload_n 1, 0)] = true ∧ lIa m_I_isSorted 2 (.invokevirtual 59) 3 = true ∧ lSa m_I_isSorted 5 [(.istore_n 2, 0), (.iconst 1, nI 1), (.istore_n 3, 0)] = true ∧ lSa m_I_isSorted 30 [(.iconst 0, nI 0)] = true ∧ lIa m_I_isSorted 31 (.ireturn) 1 = true ∧ lSa m_I_isSorted 38 [(.iconst 1, nI 1)] = true ∧ lIa m_I_isSorted 39 (.ireturn) 1 = true := by decide +kernel
  obtain ⟨dd0, dd1, dd2, dd3, dd4, dd5, dd6⟩ := hdd
  refine gMet.of (by decide +kernel) (Nat.le_of_ble_eq_true rfl) [some (.ref a0), some (.int a1), none, none] (fun ls h => zEn_ok (n := 4) h) ?_
  intro o Gf h
  unfold f_I_isSorted at h
  refine Y.blk (pc' := 2) (L' := [some (.ref a0), some (.int a1), none, none]) (st' := [.int a1, .ref a0]) (sg := [(.aload_n 0, 0), (.iload_n 1, 0)]) (lSa_ok dd0) rfl ?_
  obtain ⟨_, o2, e1, m3, h⟩ := gOb_inv h
  refine Y.callI (yC.Vi (b := a0) (As := [.int a1]) (st := []) (r := ("Partlister$Lists", T_I, 7)) hV.1 cb_I_lengthOf lk_I_59 in_I_lengthOf rfl se_I_lengthOf (lIa_ok dd1) rfl rfl (Nat.le_of_ble_eq_true rfl) (by decide) e1 m3) (k_I_lengthOf hV G a0 a1) h (fun v5 G4 _ h => ?_)
  refine Y.blk (pc' := 8) (L' := [some (.ref a0), some (.int a1), some (.int v5), some (.int (nI 1))]) (st' := []) (sg := [(.istore_n 2, 0), (.iconst 1, nI 1), (.istore_n 3, 0)]) (lSa_ok dd2) rfl ?_
  refine k_I_isSorted_L8 hV _ _ ?_ ?_  zFu G4 a0 a1 v5 (nI 1) h
  · intro G18 h
    refine Y.blk (pc' := 31) (L' := [none, none, none, none]) (st' := [.int (nI 0)]) (sg := [(.iconst 0, nI 0)]) (lSa_ok dd3) rfl ?_
    exact Y.zret rfl (lIa_ok dd4) h
  · intro G19 h
    refine Y.blk (pc' := 39) (L' := [none, none, none, none]) (st' := [.int (nI 1)]) (sg := [(.iconst 1, nI 1)]) (lSa_ok dd5) rfl ?_
    exact Y.zret rfl (lIa_ok dd6) h

def f_X_spot (G : gH) (a0 : Nat) (a1 : Int32) (a2 : Int32) : gR :=
  gOb G a0 3 fun o2 => bV (f_X_needList G a0 a1) fun G4 => gOb G4 a0 3 fun o6 => bV (f_X_needKey G4 a0 a2) fun G8 => gFA G8 a0 3 0 fun v9 => gOb G8 v9 1 fun o11 => bI (f_I_isSorted G8 v9 a1) fun v14 G13 => if v14 = 0 then gThrow "java/lang/IllegalStateException" G13
  else gFA G13 a0 3 0 fun v15 => gOb G13 v15 1 fun o17 => bI (f_I_firstOf G13 v15 a1 a2) fun v20 G19 => if v20 = (-1) then gFA G19 a0 3 0 fun v21 => gOb G19 v21 1 fun o23 => bI (f_I_countBelow G19 v21 a1 a2) fun v26 G25 => rI v26 G25
    else rI (nI 99) G19
theorem k_X_spot {l : Launch} {D : va_G} {B : Nat} {O : State → Heap → Prop} (hV : zG l D B O) (G : gH) (a0 : Nat) (a1 : Int32) (a2 : Int32) : gMet (zVm l D B O) m_X_spot 7 [.ref a0, .int a1, .int a2] G (f_X_spot G a0 a1 a2) := by
  have hdd : lSa m_X_spot 0 [(.aload_n 0, 0), (.iload_n 1, 0)] = true ∧ lIa m_X_spot 2 (.invokevirtual 23) 3 = true ∧ lSa m_X_spot 5 [(.aload_n 0, 0), (.iload_n 2, 0)] = true ∧ lIa m_X_spot 7 (.invokevirtual 27) 3 = true ∧ lSa m_X_spot 10 [(.aload_n 0, 0)] = true ∧ lIa m_X_spot 11 (.getfield 10) 3 = true ∧ lSa m_X_spot 14 [(.iload_n 1, 0)] = true ∧ lIa m_X_spot 15 (.invokevirtual 205) 3 = true ∧ lIa m_X_spot 18 (.ifCond .ne 13) 3 = true ∧ lIa m_X_spot 21 (.new 134) 3 = true ∧ lIa m_X_spot 24 (.dup) 1 = true ∧ lIa m_X_spot 25 (.ldc 208) 2 = true ∧ lIa m_X_spot 27 (.invokespecial 138) 3 = true ∧ lIa m_X_spot 30 (.athrow) 1 = true ∧ lSa m_X_spot 31 [(.aload_n 0, 0)] = true ∧ lIa m_X_spot 32 (.getfield 10) 3 = true ∧ lSa m_X_spot 35 [(.iload_n 1, 0), (.iload_n 2, 0)] = true ∧ lIa m_X_spot 37 (.invokevirtual 72) 3 = true ∧ lSa m_X_spot 40 [(.iconst (-1), -1)] = true ∧ lIa m_X_spot 41 (.if_icmp .eq 8) 3 = true ∧ lSa m_X_spot 49 [(.aload_n 0, 0)] = true ∧ lIa m_X_spot 50 (.getfield 10) 3 = true ∧ lSa m_X_spot 53 [(.iload_n 1, 0), (.iload_n 2, 0)] = true ∧ lIa m_X_spot 55 (.invokevirtual 210) 3 = true ∧ lIa m_X_spot 58 (.ireturn) 1 = true ∧ lSa m_X_spot 44 [(.bipush 99, nI 99)] = true ∧ lIa m_X_spot 46 (.goto 12) 3 = true := by decide +kernel
  refine lA8 hdd (fun dd0 dd1 dd2 dd3 dd4 dd5 dd6 dd7 hdd => ?_)
  refine lA8 hdd (fun dd8 dd9 dd10 dd11 dd12 dd13 dd14 dd15 hdd => ?_)
  refine lA8 hdd (fun dd16 dd17 dd18 dd19 dd20 dd21 dd22 dd23 hdd => ?_)
  obtain ⟨dd24, dd25, dd26⟩ := hdd
  refine gMet.of (by decide +kernel) (Nat.le_of_ble_eq_true rfl) [some (.ref a0), some (.int a1), some (.int a2)] (fun ls h => zEn_ok (n := 3) h) ?_
  intro o Gf h
  unfold f_X_spot at h
  refine Y.blk (pc' := 2) (L' := [some (.ref a0), some (.int a1), some (.int a2)]) (st' := [.int a1, .ref a0]) (sg := [(.aload_n 0, 0), (.iload_n 1, 0)]) (lSa_ok dd0) rfl ?_
  obtain ⟨_, o2, e1, m3, h⟩ := gOb_inv h
  refine Y.callN (yC.Vi (b := a0) (As := [.int a1]) (st := []) (r := ("Partlister", T_X, 5)) hV.1 cb_X_needList lk_X_23 in_X_needList rfl se_X_needList (lIa_ok dd1) rfl rfl (Nat.le_of_ble_eq_true rfl) (by decide) e1 m3) (k_X_needList hV G a0 a1) h (fun G4 _ h => ?_)
  refine Y.blk (pc' := 7) (L' := [some (.ref a0), some (.int a1), some (.int a2)]) (st' := [.int a2, .ref a0]) (sg := [(.aload_n 0, 0), (.iload_n 2, 0)]) (lSa_ok dd2) rfl ?_
  obtain ⟨_, o6, e5, m7, h⟩ := gOb_inv h
  refine Y.callN (yC.Vi (b := a0) (As := [.int a2]) (st := []) (r := ("Partlister", T_X, 5)) hV.1 cb_X_needKey lk_X_27 in_X_needKey rfl se_X_needKey (lIa_ok dd3) rfl rfl (Nat.le_of_ble_eq_true rfl) (by decide) e5 m7) (k_X_needKey hV G4 a0 a2) h (fun G8 _ h => ?_)
  refine Y.blk (pc' := 11) (L' := [some (.ref a0), some (.int a1), some (.int a2)]) (st' := [.ref a0]) (sg := [(.aload_n 0, 0)]) (lSa_ok dd4) rfl ?_
  refine Y.getA fl_X_10 (lIa_ok dd5) h (fun v9 h => ?_)
  refine Y.blk (pc' := 15) (L' := [some (.ref a0), some (.int a1), some (.int a2)]) (st' := [.int a1, .ref v9]) (sg := [(.iload_n 1, 0)]) (lSa_ok dd6) rfl ?_
  obtain ⟨_, o11, e10, m12, h⟩ := gOb_inv h
  refine Y.callI (yC.Vi (b := v9) (As := [.int a1]) (st := []) (r := ("Partlister$Lists", T_I, 7)) hV.1 cb_I_isSorted lk_X_205 in_I_isSorted rfl se_I_isSorted (lIa_ok dd7) rfl rfl (Nat.le_of_ble_eq_true rfl) (by decide) e10 m12) (k_I_isSorted hV G8 v9 a1) h (fun v14 G13 _ h => ?_)
  refine Y.if_ne (off := 13) (tgt := 31) (lIa_ok dd8) (by decide) h (fun c28 h => ?_) (fun c28 h => ?_)
  · exact Y.throwS (is := 208) (text := "the LIST is not SORTED") (names := zNm) hV.1 (hV.2 _ _ _ (by decide +kernel)) (by decide +kernel) (by decide +kernel) ck_X_134 ini_ISE tw_X_138 tg_X_138 (by decide) (by decide) rfl (Nat.le_of_ble_eq_true rfl) (lIa_ok dd9) (lIa_ok dd10) (lIa_ok dd11) (lIa_ok dd12) (lIa_ok dd13) h
  · refine Y.blk (pc' := 32) (L' := [some (.ref a0), some (.int a1), some (.int a2)]) (st' := [.ref a0]) (sg := [(.aload_n 0, 0)]) (lSa_ok dd14) rfl ?_
    refine Y.getA fl_X_10 (lIa_ok dd15) h (fun v15 h => ?_)
    refine Y.blk (pc' := 37) (L' := [some (.ref a0), some (.int a1), some (.int a2)]) (st' := [.int a2, .int a1, .ref v15]) (sg := [(.iload_n 1, 0), (.iload_n 2, 0)]) (lSa_ok dd16) rfl ?_
    obtain ⟨_, o17, e16, m18, h⟩ := gOb_inv h
    refine Y.callI (yC.Vi (b := v15) (As := [.int a1, .int a2]) (st := []) (r := ("Partlister$Lists", T_I, 7)) hV.1 cb_I_firstOf lk_X_72 in_I_firstOf rfl se_I_firstOf (lIa_ok dd17) rfl rfl (Nat.le_of_ble_eq_true rfl) (by decide) e16 m18) (k_I_firstOf hV G13 v15 a1 a2) h (fun v20 G19 _ h => ?_)
    refine Y.blk (pc' := 41) (L' := [some (.ref a0), some (.int a1), some (.int a2)]) (st' := [.int (-1), .int v20]) (sg := [(.iconst (-1), -1)]) (lSa_ok dd18) rfl ?_
    refine Y.ic_eq (off := 8) (tgt := 49) (lIa_ok dd19) (by decide) h (fun c27 h => ?_) (fun c27 h => ?_)
    · refine Y.blk (pc' := 50) (L' := [some (.ref a0), some (.int a1), some (.int a2)]) (st' := [.ref a0]) (sg := [(.aload_n 0, 0)]) (lSa_ok dd20) rfl ?_
      refine Y.getA fl_X_10 (lIa_ok dd21) h (fun v21 h => ?_)
      refine Y.blk (pc' := 55) (L' := [some (.ref a0), some (.int a1), some (.int a2)]) (st' := [.int a2, .int a1, .ref v21]) (sg := [(.iload_n 1, 0), (.iload_n 2, 0)]) (lSa_ok dd22) rfl ?_
      obtain ⟨_, o23, e22, m24, h⟩ := gOb_inv h
      refine Y.callI (yC.Vi (b := v21) (As := [.int a1, .int a2]) (st := []) (r := ("Partlister$Lists", T_I, 7)) hV.1 cb_I_countBelow lk_X_210 in_I_countBelow rfl se_I_countBelow (lIa_ok dd23) rfl rfl (Nat.le_of_ble_eq_true rfl) (by decide) e22 m24) (k_I_countBelow hV G19 v21 a1 a2) h (fun v26 G25 _ h => ?_)
      exact Y.iret rfl (lIa_ok dd24) h
    · refine Y.blk (pc' := 46) (L' := [some (.ref a0), some (.int a1), some (.int a2)]) (st' := [.int (nI 99)]) (sg := [(.bipush 99, nI 99)]) (lSa_ok dd25) rfl ?_
      refine Y.goto (off := 12) (tgt := 58) (lIa_ok dd26) (by decide) ?_
      exact Y.iret rfl (lIa_ok dd24) h

def f_X_tag (G : gH) (a0 : Nat) (a1 : Int32) (a2 : Int32) : gR :=
  gOb G a0 3 fun o2 => bV (f_X_needList G a0 a1) fun G4 => gOb G4 a0 3 fun o6 => bV (f_X_needPlace G4 a0 a1 a2) fun G8 => gFA G8 a0 3 0 fun v9 => gOb G8 v9 1 fun o11 => bI (f_I_thingAt G8 v9 a1 a2) fun v14 G13 => bI (f_X_tagOf G13 v14) fun v17 G16 => rI v17 G16
theorem k_X_tag {l : Launch} {D : va_G} {B : Nat} {O : State → Heap → Prop} (hV : zG l D B O) (G : gH) (a0 : Nat) (a1 : Int32) (a2 : Int32) : gMet (zVm l D B O) m_X_tag 7 [.ref a0, .int a1, .int a2] G (f_X_tag G a0 a1 a2) := by
  have hdd : lSa m_X_tag 0 [(.aload_n 0, 0), (.iload_n 1, 0)] = true ∧ lIa m_X_tag 2 (.invokevirtual 23) 3 = true ∧ lSa m_X_tag 5 [(.aload_n 0, 0), (.iload_n 1, 0), (.iload_n 2, 0)] = true ∧ lIa m_X_tag 8 (.invokevirtual 58) 3 = true ∧ lSa m_X_tag 11 [(.aload_n 0, 0)] = true ∧ lIa m_X_tag 12 (.getfield 10) 3 = true ∧ lSa m_X_tag 15 [(.iload_n 1, 0), (.iload_n 2, 0)] = true ∧ lIa m_X_tag 17 (.invokevirtual 94) 3 = true ∧ lIa m_X_tag 20 (.invokestatic 48) 3 = true ∧ lIa m_X_tag 23 (.ireturn) 1 = true := by decide +kernel
  refine lA8 hdd (fun dd0 dd1 dd2 dd3 dd4 dd5 dd6 dd7 hdd => ?_)
  obtain ⟨dd8, dd9⟩ := hdd
  refine gMet.of (by decide +kernel) (Nat.le_of_ble_eq_true rfl) [some (.ref a0), some (.int a1), some (.int a2)] (fun ls h => zEn_ok (n := 3) h) ?_
  intro o Gf h
  unfold f_X_tag at h
  refine Y.blk (pc' := 2) (L' := [some (.ref a0), some (.int a1), some (.int a2)]) (st' := [.int a1, .ref a0]) (sg := [(.aload_n 0, 0), (.iload_n 1, 0)]) (lSa_ok dd0) rfl ?_
  obtain ⟨_, o2, e1, m3, h⟩ := gOb_inv h
  refine Y.callN (yC.Vi (b := a0) (As := [.int a1]) (st := []) (r := ("Partlister", T_X, 5)) hV.1 cb_X_needList lk_X_23 in_X_needList rfl se_X_needList (lIa_ok dd1) rfl rfl (Nat.le_of_ble_eq_true rfl) (by decide) e1 m3) (k_X_needList hV G a0 a1) h (fun G4 _ h => ?_)
  refine Y.blk (pc' := 8) (L' := [some (.ref a0), some (.int a1), some (.int a2)]) (st' := [.int a2, .int a1, .ref a0]) (sg := [(.aload_n 0, 0), (.iload_n 1, 0), (.iload_n 2, 0)]) (lSa_ok dd2) rfl ?_
  obtain ⟨_, o6, e5, m7, h⟩ := gOb_inv h
  refine Y.callN (yC.Vi (b := a0) (As := [.int a1, .int a2]) (st := []) (r := ("Partlister", T_X, 5)) hV.1 cb_X_needPlace lk_X_58 in_X_needPlace rfl se_X_needPlace (lIa_ok dd3) rfl rfl (Nat.le_of_ble_eq_true rfl) (by decide) e5 m7) (k_X_needPlace hV G4 a0 a1 a2) h (fun G8 _ h => ?_)
  refine Y.blk (pc' := 12) (L' := [some (.ref a0), some (.int a1), some (.int a2)]) (st' := [.ref a0]) (sg := [(.aload_n 0, 0)]) (lSa_ok dd4) rfl ?_
  refine Y.getA fl_X_10 (lIa_ok dd5) h (fun v9 h => ?_)
  refine Y.blk (pc' := 17) (L' := [some (.ref a0), some (.int a1), some (.int a2)]) (st' := [.int a2, .int a1, .ref v9]) (sg := [(.iload_n 1, 0), (.iload_n 2, 0)]) (lSa_ok dd6) rfl ?_
  obtain ⟨_, o11, e10, m12, h⟩ := gOb_inv h
  refine Y.callI (yC.Vi (b := v9) (As := [.int a1, .int a2]) (st := []) (r := ("Partlister$Lists", T_I, 7)) hV.1 cb_I_thingAt lk_X_94 in_I_thingAt rfl se_I_thingAt (lIa_ok dd7) rfl rfl (Nat.le_of_ble_eq_true rfl) (by decide) e10 m12) (k_I_thingAt hV G8 v9 a1 a2) h (fun v14 G13 _ h => ?_)
  refine Y.callI (yC.S (As := [.int v14]) (st := []) hV.1 cb_X_tagOf lk_X_48 st_X_tagOf (lIa_ok dd8) rfl rfl (Nat.le_of_ble_eq_true rfl) (by decide)) (k_X_tagOf hV G13 v14) h (fun v17 G16 _ h => ?_)
  exact Y.iret rfl (lIa_ok dd9) h

def f_X_turn_L16 (K43 : gH → Int32 → gR) : Nat → gH → Nat → Int32 → Int32 → Int32 → gR
  | 0, _, _, _, _, _ => none
  | n + 1, G, x0, x1, x2, x3 =>
    gDiv x2 (nI 2) fun v11 => if v11 ≤ x3 then K43 G x2
    else gFA G x0 3 0 fun v12 => gOb G v12 1 fun o14 => bV (f_I_swap G v12 x1 x3 ((x2 - (nI 1)) - x3)) fun G16 => f_X_turn_L16 K43 n G16 x0 x1 x2 (x3 + (nI 1))
def f_X_turn (G : gH) (a0 : Nat) (a1 : Int32) : gR :=
  gOb G a0 3 fun o2 => bV (f_X_needList G a0 a1) fun G4 => gFA G4 a0 3 0 fun v5 => gOb G4 v5 1 fun o7 => bI (f_I_lengthOf G4 v5 a1) fun v10 G9 => f_X_turn_L16 (fun G19 x18 => rI x18 G19) zFu G9 a0 a1 v10 (nI 0)
theorem k_X_turn_L16 {l : Launch} {D : va_G} {B : Nat} {O : State → Heap → Prop} (hV : zG l D B O) {o : gO} {Gf : gH} (K43 : gH → Int32 → gR) (hK43 : ∀ (G : gH) (x2 : Int32), K43 G x2 = some (o, Gf) → Y (zVm l D B O) m_X_turn 7 o Gf 43 [none, none, some (.int x2), none] [] G) : ∀ (n : Nat) (G : gH) (x0 : Nat) (x1 : Int32) (x2 : Int32) (x3 : Int32), f_X_turn_L16 K43 n G x0 x1 x2 x3 = some (o, Gf) → Y (zVm l D B O) m_X_turn 7 o Gf 16 [some (.ref x0), some (.int x1), some (.int x2), some (.int x3)] [] G := by
  have hdd : lSa m_X_turn 16 [(.iload_n 3, 0), (.iload_n 2, 0), (.iconst 2, nI 2)] = true ∧ lIa m_X_turn 19 (.idiv) 1 = true ∧ lIa m_X_turn 20 (.if_icmp .ge 23) 3 = true ∧ lSa m_X_turn 23 [(.aload_n 0, 0)] = true ∧ lIa m_X_turn 24 (.getfield 10) 3 = true ∧ lSa m_X_turn 27 [(.iload_n 1, 0), (.iload_n 3, 0), (.iload_n 2, 0), (.iconst 1, nI 1), (.isub, 0), (.iload_n 3, 0), (.isub, 0)] = true ∧ lIa m_X_turn 34 (.invokevirtual 117) 3 = true ∧ lSa m_X_turn 37 [(.iinc 3 1, nI 1)] = true ∧ lIa m_X_turn 40 (.goto (-24)) 3 = true := by decide +kernel
  refine lA8 hdd (fun dd0 dd1 dd2 dd3 dd4 dd5 dd6 dd7 hdd => ?_)
  have dd8 := hdd
  intro n
  induction n with
  | zero => intro G x0 x1 x2 x3 h; cases h
  | succ n ih =>
    intro G x0 x1 x2 x3 h
    unfold f_X_turn_L16 at h
    refine Y.blk (pc' := 19) (L' := [some (.ref x0), some (.int x1), some (.int x2), some (.int x3)]) (st' := [.int (nI 2), .int x2, .int x3]) (sg := [(.iload_n 3, 0), (.iload_n 2, 0), (.iconst 2, nI 2)]) (lSa_ok dd0) rfl ?_
    refine Y.idiv (lIa_ok dd1) h (fun v11 h => ?_)
    refine Y.ic_ge (off := 23) (tgt := 43) (lIa_ok dd2) (by decide) h (fun c17 h => ?_) (fun c17 h => ?_)
    · refine Y.less (L' := [none, none, some (.int x2), none]) (zLe_none (zLe_none (zLe_some (zLe_none (zLe_nil))))) ?_
      exact hK43 G x2 h
    · refine Y.blk (pc' := 24) (L' := [some (.ref x0), some (.int x1), some (.int x2), some (.int x3)]) (st' := [.ref x0]) (sg := [(.aload_n 0, 0)]) (lSa_ok dd3) rfl ?_
      refine Y.getA fl_X_10 (lIa_ok dd4) h (fun v12 h => ?_)
      refine Y.blk (pc' := 34) (L' := [some (.ref x0), some (.int x1), some (.int x2), some (.int x3)]) (st' := [.int ((x2 - (nI 1)) - x3), .int x3, .int x1, .ref v12]) (sg := [(.iload_n 1, 0), (.iload_n 3, 0), (.iload_n 2, 0), (.iconst 1, nI 1), (.isub, 0), (.iload_n 3, 0), (.isub, 0)]) (lSa_ok dd5) rfl ?_
      obtain ⟨_, o14, e13, m15, h⟩ := gOb_inv h
      refine Y.callN (yC.Vi (b := v12) (As := [.int x1, .int x3, .int ((x2 - (nI 1)) - x3)]) (st := []) (r := ("Partlister$Lists", T_I, 7)) hV.1 cb_I_swap lk_X_117 in_I_swap rfl se_I_swap (lIa_ok dd6) rfl rfl (Nat.le_of_ble_eq_true rfl) (by decide) e13 m15) (k_I_swap hV G v12 x1 x3 ((x2 - (nI 1)) - x3)) h (fun G16 _ h => ?_)
      refine Y.blk (pc' := 40) (L' := [some (.ref x0), some (.int x1), some (.int x2), some (.int (x3 + (nI 1)))]) (st' := []) (sg := [(.iinc 3 1, nI 1)]) (lSa_ok dd7) rfl ?_
      refine Y.goto (off := -24) (tgt := 16) (lIa_ok dd8) (by decide) ?_
      exact ih G16 x0 x1 x2 (x3 + (nI 1)) h
theorem k_X_turn {l : Launch} {D : va_G} {B : Nat} {O : State → Heap → Prop} (hV : zG l D B O) (G : gH) (a0 : Nat) (a1 : Int32) : gMet (zVm l D B O) m_X_turn 7 [.ref a0, .int a1] G (f_X_turn G a0 a1) := by
  have hdd : lSa m_X_turn 0 [(.aload_n 0, 0), (.iload_n 1, 0)] = true ∧ lIa m_X_turn 2 (.invokevirtual 23) 3 = true ∧ lSa m_X_turn 5 [(.aload_n 0, 0)] = true ∧ lIa m_X_turn 6 (.getfield 10) 3 = true ∧ lSa m_X_turn 9 [(.iload_n 1, 0)] = true ∧ lIa m_X_turn 10 (.invokevirtual 34) 3 = true ∧ lSa m_X_turn 13 [(.istore_n 2, 0), (.iconst 0, nI 0), (.istore_n 3, 0)] = true ∧ lSa m_X_turn 43 [(.iload_n 2, 0)] = true ∧ lIa m_X_turn 44 (.ireturn) 1 = true := by decide +kernel
  refine lA8 hdd (fun dd0 dd1 dd2 dd3 dd4 dd5 dd6 dd7 hdd => ?_)
  have dd8 := hdd
  refine gMet.of (by decide +kernel) (Nat.le_of_ble_eq_true rfl) [some (.ref a0), some (.int a1), none, none] (fun ls h => zEn_ok (n := 4) h) ?_
  intro o Gf h
  unfold f_X_turn at h
  refine Y.blk (pc' := 2) (L' := [some (.ref a0), some (.int a1), none, none]) (st' := [.int a1, .ref a0]) (sg := [(.aload_n 0, 0), (.iload_n 1, 0)]) (lSa_ok dd0) rfl ?_
  obtain ⟨_, o2, e1, m3, h⟩ := gOb_inv h
  refine Y.callN (yC.Vi (b := a0) (As := [.int a1]) (st := []) (r := ("Partlister", T_X, 5)) hV.1 cb_X_needList lk_X_23 in_X_needList rfl se_X_needList (lIa_ok dd1) rfl rfl (Nat.le_of_ble_eq_true rfl) (by decide) e1 m3) (k_X_needList hV G a0 a1) h (fun G4 _ h => ?_)
  refine Y.blk (pc' := 6) (L' := [some (.ref a0), some (.int a1), none, none]) (st' := [.ref a0]) (sg := [(.aload_n 0, 0)]) (lSa_ok dd2) rfl ?_
  refine Y.getA fl_X_10 (lIa_ok dd3) h (fun v5 h => ?_)
  refine Y.blk (pc' := 10) (L' := [some (.ref a0), some (.int a1), none, none]) (st' := [.int a1, .ref v5]) (sg := [(.iload_n 1, 0)]) (lSa_ok dd4) rfl ?_
  obtain ⟨_, o7, e6, m8, h⟩ := gOb_inv h
  refine Y.callI (yC.Vi (b := v5) (As := [.int a1]) (st := []) (r := ("Partlister$Lists", T_I, 7)) hV.1 cb_I_lengthOf lk_X_34 in_I_lengthOf rfl se_I_lengthOf (lIa_ok dd5) rfl rfl (Nat.le_of_ble_eq_true rfl) (by decide) e6 m8) (k_I_lengthOf hV G4 v5 a1) h (fun v10 G9 _ h => ?_)
  refine Y.blk (pc' := 16) (L' := [some (.ref a0), some (.int a1), some (.int v10), some (.int (nI 0))]) (st' := []) (sg := [(.istore_n 2, 0), (.iconst 0, nI 0), (.istore_n 3, 0)]) (lSa_ok dd6) rfl ?_
  refine k_X_turn_L16 hV _ ?_  zFu G9 a0 a1 v10 (nI 0) h
  · intro G19 x18 h
    refine Y.blk (pc' := 44) (L' := [none, none, some (.int x18), none]) (st' := [.int x18]) (sg := [(.iload_n 2, 0)]) (lSa_ok dd7) rfl ?_
    exact Y.iret rfl (lIa_ok dd8) h
