def f_X_endByLength_L11 (K44 : gH → gR) : Nat → gH → Nat → Int32 → Int32 → Int32 → gR
  | 0, _, _, _, _, _ => none
  | n + 1, G, x0, x1, x2, x3 =>
    if (nI 3) ≤ x3 then K44 G
    else if x3 = x2 then f_X_endByLength_L11 K44 n G x0 x1 x2 (x3 + (nI 1))
      else gOb G x0 3 fun o8 => bI (f_X_isOnRowOf G x0 x3 x1) fun v11 G10 => if v11 = 0 then f_X_endByLength_L11 K44 n G10 x0 x1 x2 (x3 + (nI 1))
        else gFA G10 x0 3 1 fun v12 => gOb G10 v12 0 fun o14 => bV (f_U_unsettle G10 v12 x3) fun G16 => f_X_endByLength_L11 K44 n G16 x0 x1 x2 (x3 + (nI 1))
def f_X_endByLength (G : gH) (a0 : Nat) (a1 : Int32) (a2 : Int32) : gR :=
  gFA G a0 3 0 fun v1 => gOb G v1 1 fun o3 => bI (f_I_endOthers G v1 a1) fun v6 G5 => f_X_endByLength_L11 (fun G20 => rV G20) zFu G5 a0 a1 a2 (nI 0)
theorem k_X_endByLength_L11 {l : Launch} {D : va_G} {B : Nat} {O : State → Heap → Prop} (hV : zG l D B O) {o : gO} {Gf : gH} (K44 : gH → gR) (hK44 : ∀ (G : gH), K44 G  = some (o, Gf) → Y (zVm l D B O) m_X_endByLength 5 o Gf 44 [none, none, none, none] [] G) : ∀ (n : Nat) (G : gH) (x0 : Nat) (x1 : Int32) (x2 : Int32) (x3 : Int32), f_X_endByLength_L11 K44 n G x0 x1 x2 x3 = some (o, Gf) → Y (zVm l D B O) m_X_endByLength 5 o Gf 11 [some (.ref x0), some (.int x1), some (.int x2), some (.int x3)] [] G := by
  have hdd : lSa m_X_endByLength 11 [(.iload_n 3, 0), (.iconst 3, nI 3)] = true ∧ lIa m_X_endByLength 13 (.if_icmp .ge 31) 3 = true ∧ lSa m_X_endByLength 16 [(.iload_n 3, 0), (.iload_n 2, 0)] = true ∧ lIa m_X_endByLength 18 (.if_icmp .eq 20) 3 = true ∧ lSa m_X_endByLength 38 [(.iinc 3 1, nI 1)] = true ∧ lIa m_X_endByLength 41 (.goto (-30)) 3 = true ∧ lSa m_X_endByLength 21 [(.aload_n 0, 0), (.iload_n 3, 0), (.iload_n 1, 0)] = true ∧ lIa m_X_endByLength 24 (.invokevirtual 293) 3 = true ∧ lIa m_X_endByLength 27 (.ifCond .eq 11) 3 = true ∧ lSa m_X_endByLength 30 [(.aload_n 0, 0)] = true ∧ lIa m_X_endByLength 31 (.getfield 19) 3 = true ∧ lSa m_X_endByLength 34 [(.iload_n 3, 0)] = true ∧ lIa m_X_endByLength 35 (.invokevirtual 296) 3 = true := by decide +kernel
  refine lA8 hdd (fun dd0 dd1 dd2 dd3 dd4 dd5 dd6 dd7 hdd => ?_)
  obtain ⟨dd8, dd9, dd10, dd11, dd12⟩ := hdd
  intro n
  induction n with
  | zero => intro G x0 x1 x2 x3 h; cases h
  | succ n ih =>
    intro G x0 x1 x2 x3 h
    unfold f_X_endByLength_L11 at h
    refine Y.blk (pc' := 13) (L' := [some (.ref x0), some (.int x1), some (.int x2), some (.int x3)]) (st' := [.int (nI 3), .int x3]) (sg := [(.iload_n 3, 0), (.iconst 3, nI 3)]) (lSa_ok dd0) rfl ?_
    refine Y.ic_ge (off := 31) (tgt := 44) (lIa_ok dd1) (by decide) h (fun c19 h => ?_) (fun c19 h => ?_)
    · refine Y.less (L' := [none, none, none, none]) (zLe_none (zLe_none (zLe_none (zLe_none (zLe_nil))))) ?_
      exact hK44 G  h
    · refine Y.blk (pc' := 18) (L' := [some (.ref x0), some (.int x1), some (.int x2), some (.int x3)]) (st' := [.int x2, .int x3]) (sg := [(.iload_n 3, 0), (.iload_n 2, 0)]) (lSa_ok dd2) rfl ?_
      refine Y.ic_eq (off := 20) (tgt := 38) (lIa_ok dd3) (by decide) h (fun c18 h => ?_) (fun c18 h => ?_)
      · refine Y.blk (pc' := 41) (L' := [some (.ref x0), some (.int x1), some (.int x2), some (.int (x3 + (nI 1)))]) (st' := []) (sg := [(.iinc 3 1, nI 1)]) (lSa_ok dd4) rfl ?_
        refine Y.goto (off := -30) (tgt := 11) (lIa_ok dd5) (by decide) ?_
        exact ih G x0 x1 x2 (x3 + (nI 1)) h
      · refine Y.blk (pc' := 24) (L' := [some (.ref x0), some (.int x1), some (.int x2), some (.int x3)]) (st' := [.int x1, .int x3, .ref x0]) (sg := [(.aload_n 0, 0), (.iload_n 3, 0), (.iload_n 1, 0)]) (lSa_ok dd6) rfl ?_
        obtain ⟨_, o8, e7, m9, h⟩ := gOb_inv h
        refine Y.callI (yC.Vi (b := x0) (As := [.int x3, .int x1]) (st := []) (r := ("Partlister", T_X, 5)) hV.1 cb_X_isOnRowOf lk_X_293 in_X_isOnRowOf rfl se_X_isOnRowOf (lIa_ok dd7) rfl rfl (Nat.le_of_ble_eq_true rfl) (by decide) e7 m9) (k_X_isOnRowOf hV G x0 x3 x1) h (fun v11 G10 _ h => ?_)
        refine Y.if_eq (off := 11) (tgt := 38) (lIa_ok dd8) (by decide) h (fun c17 h => ?_) (fun c17 h => ?_)
        · refine Y.blk (pc' := 41) (L' := [some (.ref x0), some (.int x1), some (.int x2), some (.int (x3 + (nI 1)))]) (st' := []) (sg := [(.iinc 3 1, nI 1)]) (lSa_ok dd4) rfl ?_
          refine Y.goto (off := -30) (tgt := 11) (lIa_ok dd5) (by decide) ?_
          exact ih G10 x0 x1 x2 (x3 + (nI 1)) h
        · refine Y.blk (pc' := 31) (L' := [some (.ref x0), some (.int x1), some (.int x2), some (.int x3)]) (st' := [.ref x0]) (sg := [(.aload_n 0, 0)]) (lSa_ok dd9) rfl ?_
          refine Y.getA fl_X_19 (lIa_ok dd10) h (fun v12 h => ?_)
          refine Y.blk (pc' := 35) (L' := [some (.ref x0), some (.int x1), some (.int x2), some (.int x3)]) (st' := [.int x3, .ref v12]) (sg := [(.iload_n 3, 0)]) (lSa_ok dd11) rfl ?_
          obtain ⟨_, o14, e13, m15, h⟩ := gOb_inv h
          refine Y.callN (yC.Vi (b := v12) (As := [.int x3]) (st := []) (r := ("Partlister$Cursors", T_U, 5)) hV.1 cb_U_unsettle lk_X_296 in_U_unsettle rfl se_U_unsettle (lIa_ok dd12) rfl rfl (Nat.le_of_ble_eq_true rfl) (by decide) e13 m15) (k_U_unsettle hV G10 v12 x3) h (fun G16 _ h => ?_)
          refine Y.blk (pc' := 41) (L' := [some (.ref x0), some (.int x1), some (.int x2), some (.int (x3 + (nI 1)))]) (st' := []) (sg := [(.iinc 3 1, nI 1)]) (lSa_ok dd4) rfl ?_
          refine Y.goto (off := -30) (tgt := 11) (lIa_ok dd5) (by decide) ?_
          exact ih G16 x0 x1 x2 (x3 + (nI 1)) h
theorem k_X_endByLength {l : Launch} {D : va_G} {B : Nat} {O : State → Heap → Prop} (hV : zG l D B O) (G : gH) (a0 : Nat) (a1 : Int32) (a2 : Int32) : gMet (zVm l D B O) m_X_endByLength 5 [.ref a0, .int a1, .int a2] G (f_X_endByLength G a0 a1 a2) := by
  have hdd : lSa m_X_endByLength 0 [(.aload_n 0, 0)] = true ∧ lIa m_X_endByLength 1 (.getfield 10) 3 = true ∧ lSa m_X_endByLength 4 [(.iload_n 1, 0)] = true ∧ lIa m_X_endByLength 5 (.invokevirtual 290) 3 = true ∧ lSa m_X_endByLength 8 [(.pop, 0), (.iconst 0, nI 0), (.istore_n 3, 0)] = true ∧ lIa m_X_endByLength 44 (.return_) 1 = true := by decide +kernel
  obtain ⟨dd0, dd1, dd2, dd3, dd4, dd5⟩ := hdd
  refine gMet.of (by decide +kernel) (Nat.le_of_ble_eq_true rfl) [some (.ref a0), some (.int a1), some (.int a2), none] (fun ls h => zEn_ok (n := 4) h) ?_
  intro o Gf h
  unfold f_X_endByLength at h
  refine Y.blk (pc' := 1) (L' := [some (.ref a0), some (.int a1), some (.int a2), none]) (st' := [.ref a0]) (sg := [(.aload_n 0, 0)]) (lSa_ok dd0) rfl ?_
  refine Y.getA fl_X_10 (lIa_ok dd1) h (fun v1 h => ?_)
  refine Y.blk (pc' := 5) (L' := [some (.ref a0), some (.int a1), some (.int a2), none]) (st' := [.int a1, .ref v1]) (sg := [(.iload_n 1, 0)]) (lSa_ok dd2) rfl ?_
  obtain ⟨_, o3, e2, m4, h⟩ := gOb_inv h
  refine Y.callI (yC.Vi (b := v1) (As := [.int a1]) (st := []) (r := ("Partlister$Lists", T_I, 7)) hV.1 cb_I_endOthers lk_X_290 in_I_endOthers rfl se_I_endOthers (lIa_ok dd3) rfl rfl (Nat.le_of_ble_eq_true rfl) (by decide) e2 m4) (k_I_endOthers hV G v1 a1) h (fun v6 G5 _ h => ?_)
  refine Y.blk (pc' := 11) (L' := [some (.ref a0), some (.int a1), some (.int a2), some (.int (nI 0))]) (st' := []) (sg := [(.pop, 0), (.iconst 0, nI 0), (.istore_n 3, 0)]) (lSa_ok dd4) rfl ?_
  refine k_X_endByLength_L11 hV _ ?_  zFu G5 a0 a1 a2 (nI 0) h
  · intro G20 h
    exact Y.vret rfl (lIa_ok dd5) h

def f_I_lengthOf (G : gH) (a0 : Nat) (a1 : Int32) : gR :=
  gFA G a0 1 1 fun v1 => gOb G v1 2 fun o3 => bI (f_N_read G v1 a1) fun v6 G5 => rI v6 G5
theorem k_I_lengthOf {l : Launch} {D : va_G} {B : Nat} {O : State → Heap → Prop} (hV : zG l D B O) (G : gH) (a0 : Nat) (a1 : Int32) : gMet (zVm l D B O) m_I_lengthOf 2 [.ref a0, .int a1] G (f_I_lengthOf G a0 a1) := by
  have hdd : lSa m_I_lengthOf 0 [(.aload_n 0, 0)] = true ∧ lIa m_I_lengthOf 1 (.getfield 20) 3 = true ∧ lSa m_I_lengthOf 4 [(.iload_n 1, 0)] = true ∧ lIa m_I_lengthOf 5 (.invokevirtual 39) 3 = true ∧ lIa m_I_lengthOf 8 (.ireturn) 1 = true := by decide +kernel
  obtain ⟨dd0, dd1, dd2, dd3, dd4⟩ := hdd
  refine gMet.of (by decide +kernel) (Nat.le_of_ble_eq_true rfl) [some (.ref a0), some (.int a1)] (fun ls h => zEn_ok (n := 2) h) ?_
  intro o Gf h
  unfold f_I_lengthOf at h
  refine Y.blk (pc' := 1) (L' := [some (.ref a0), some (.int a1)]) (st' := [.ref a0]) (sg := [(.aload_n 0, 0)]) (lSa_ok dd0) rfl ?_
  refine Y.getA fl_I_20 (lIa_ok dd1) h (fun v1 h => ?_)
  refine Y.blk (pc' := 5) (L' := [some (.ref a0), some (.int a1)]) (st' := [.int a1, .ref v1]) (sg := [(.iload_n 1, 0)]) (lSa_ok dd2) rfl ?_
  obtain ⟨_, o3, e2, m4, h⟩ := gOb_inv h
  refine Y.callI (yC.Vi (b := v1) (As := [.int a1]) (st := []) (r := ("Partlister$Numbers", T_N, 1)) hV.1 cb_N_read lk_I_39 in_N_read rfl se_N_read (lIa_ok dd3) rfl rfl (Nat.le_of_ble_eq_true rfl) (by decide) e2 m4) (k_N_read hV G v1 a1) h (fun v6 G5 _ h => ?_)
  exact Y.iret rfl (lIa_ok dd4) h

def f_I_lengthen_L5 (K50 : gH → gR) : Nat → gH → Nat → Int32 → Int32 → Int32 → gR
  | 0, _, _, _, _, _ => none
  | n + 1, G, x0, x2, x3, x4 =>
    if (nI 6) ≤ x4 then K50 G
    else if x3 = (-1) then K50 G
      else gFA G x0 1 1 fun v1 => gFA G x0 1 1 fun v2 => gOb G v2 2 fun o4 => bI (f_N_read G v2 x3) fun v7 G6 => gOb G6 v1 2 fun o9 => bV (f_N_write G6 v1 x3 (v7 + x2)) fun G11 => gFA G11 x0 1 2 fun v12 => gOb G11 v12 2 fun o14 => bI (f_N_read G11 v12 x3) fun v17 G16 => f_I_lengthen_L5 K50 n G16 x0 x2 v17 (x4 + (nI 1))
def f_I_lengthen (G : gH) (a0 : Nat) (a1 : Int32) (a2 : Int32) : gR :=
  f_I_lengthen_L5 (fun G20 => rV G20) zFu G a0 a2 a1 (nI 0)
theorem k_I_lengthen_L5 {l : Launch} {D : va_G} {B : Nat} {O : State → Heap → Prop} (hV : zG l D B O) {o : gO} {Gf : gH} (K50 : gH → gR) (hK50 : ∀ (G : gH), K50 G  = some (o, Gf) → Y (zVm l D B O) m_I_lengthen 2 o Gf 50 [none, none, none, none, none] [] G) : ∀ (n : Nat) (G : gH) (x0 : Nat) (x2 : Int32) (x3 : Int32) (x4 : Int32), f_I_lengthen_L5 K50 n G x0 x2 x3 x4 = some (o, Gf) → Y (zVm l D B O) m_I_lengthen 2 o Gf 5 [some (.ref x0), none, some (.int x2), some (.int x3), some (.int x4)] [] G := by
  have hdd : lSa m_I_lengthen 5 [(.iload 4, 0), (.bipush 6, nI 6)] = true ∧ lIa m_I_lengthen 9 (.if_icmp .ge 41) 3 = true ∧ lSa m_I_lengthen 12 [(.iload_n 3, 0), (.iconst (-1), -1)] = true ∧ lIa m_I_lengthen 14 (.if_icmp .eq 36) 3 = true ∧ lSa m_I_lengthen 17 [(.aload_n 0, 0)] = true ∧ lIa m_I_lengthen 18 (.getfield 20) 3 = true ∧ lSa m_I_lengthen 21 [(.iload_n 3, 0), (.aload_n 0, 0)] = true ∧ lIa m_I_lengthen 23 (.getfield 20) 3 = true ∧ lSa m_I_lengthen 26 [(.iload_n 3, 0)] = true ∧ lIa m_I_lengthen 27 (.invokevirtual 39) 3 = true ∧ lSa m_I_lengthen 30 [(.iload_n 2, 0), (.iadd, 0)] = true ∧ lIa m_I_lengthen 32 (.invokevirtual 35) 3 = true ∧ lSa m_I_lengthen 35 [(.aload_n 0, 0)] = true ∧ lIa m_I_lengthen 36 (.getfield 23) 3 = true ∧ lSa m_I_lengthen 39 [(.iload_n 3, 0)] = true ∧ lIa m_I_lengthen 40 (.invokevirtual 39) 3 = true ∧ lSa m_I_lengthen 43 [(.istore_n 3, 0), (.iinc 4 1, nI 1)] = true ∧ lIa m_I_lengthen 47 (.goto (-42)) 3 = true := by decide +kernel
  refine lA8 hdd (fun dd0 dd1 dd2 dd3 dd4 dd5 dd6 dd7 hdd => ?_)
  refine lA8 hdd (fun dd8 dd9 dd10 dd11 dd12 dd13 dd14 dd15 hdd => ?_)
  obtain ⟨dd16, dd17⟩ := hdd
  intro n
  induction n with
  | zero => intro G x0 x2 x3 x4 h; cases h
  | succ n ih =>
    intro G x0 x2 x3 x4 h
    unfold f_I_lengthen_L5 at h
    refine Y.blk (pc' := 9) (L' := [some (.ref x0), none, some (.int x2), some (.int x3), some (.int x4)]) (st' := [.int (nI 6), .int x4]) (sg := [(.iload 4, 0), (.bipush 6, nI 6)]) (lSa_ok dd0) rfl ?_
    refine Y.ic_ge (off := 41) (tgt := 50) (lIa_ok dd1) (by decide) h (fun c19 h => ?_) (fun c19 h => ?_)
    · refine Y.less (L' := [none, none, none, none, none]) (zLe_none (zLe_some (zLe_none (zLe_none (zLe_none (zLe_nil)))))) ?_
      exact hK50 G  h
    · refine Y.blk (pc' := 14) (L' := [some (.ref x0), none, some (.int x2), some (.int x3), some (.int x4)]) (st' := [.int (-1), .int x3]) (sg := [(.iload_n 3, 0), (.iconst (-1), -1)]) (lSa_ok dd2) rfl ?_
      refine Y.ic_eq (off := 36) (tgt := 50) (lIa_ok dd3) (by decide) h (fun c18 h => ?_) (fun c18 h => ?_)
      · refine Y.less (L' := [none, none, none, none, none]) (zLe_none (zLe_some (zLe_none (zLe_none (zLe_none (zLe_nil)))))) ?_
        exact hK50 G  h
      · refine Y.blk (pc' := 18) (L' := [some (.ref x0), none, some (.int x2), some (.int x3), some (.int x4)]) (st' := [.ref x0]) (sg := [(.aload_n 0, 0)]) (lSa_ok dd4) rfl ?_
        refine Y.getA fl_I_20 (lIa_ok dd5) h (fun v1 h => ?_)
        refine Y.blk (pc' := 23) (L' := [some (.ref x0), none, some (.int x2), some (.int x3), some (.int x4)]) (st' := [.ref x0, .int x3, .ref v1]) (sg := [(.iload_n 3, 0), (.aload_n 0, 0)]) (lSa_ok dd6) rfl ?_
        refine Y.getA fl_I_20 (lIa_ok dd7) h (fun v2 h => ?_)
        refine Y.blk (pc' := 27) (L' := [some (.ref x0), none, some (.int x2), some (.int x3), some (.int x4)]) (st' := [.int x3, .ref v2, .int x3, .ref v1]) (sg := [(.iload_n 3, 0)]) (lSa_ok dd8) rfl ?_
        obtain ⟨_, o4, e3, m5, h⟩ := gOb_inv h
        refine Y.callI (yC.Vi (b := v2) (As := [.int x3]) (st := [.int x3, .ref v1]) (r := ("Partlister$Numbers", T_N, 1)) hV.1 cb_N_read lk_I_39 in_N_read rfl se_N_read (lIa_ok dd9) rfl rfl (Nat.le_of_ble_eq_true rfl) (by decide) e3 m5) (k_N_read hV G v2 x3) h (fun v7 G6 _ h => ?_)
        refine Y.blk (pc' := 32) (L' := [some (.ref x0), none, some (.int x2), some (.int x3), some (.int x4)]) (st' := [.int (v7 + x2), .int x3, .ref v1]) (sg := [(.iload_n 2, 0), (.iadd, 0)]) (lSa_ok dd10) rfl ?_
        obtain ⟨_, o9, e8, m10, h⟩ := gOb_inv h
        refine Y.callN (yC.Vi (b := v1) (As := [.int x3, .int (v7 + x2)]) (st := []) (r := ("Partlister$Numbers", T_N, 1)) hV.1 cb_N_write lk_I_35 in_N_write rfl se_N_write (lIa_ok dd11) rfl rfl (Nat.le_of_ble_eq_true rfl) (by decide) e8 m10) (k_N_write hV G6 v1 x3 (v7 + x2)) h (fun G11 _ h => ?_)
        refine Y.blk (pc' := 36) (L' := [some (.ref x0), none, some (.int x2), some (.int x3), some (.int x4)]) (st' := [.ref x0]) (sg := [(.aload_n 0, 0)]) (lSa_ok dd12) rfl ?_
        refine Y.getA fl_I_23 (lIa_ok dd13) h (fun v12 h => ?_)
        refine Y.blk (pc' := 40) (L' := [some (.ref x0), none, some (.int x2), some (.int x3), some (.int x4)]) (st' := [.int x3, .ref v12]) (sg := [(.iload_n 3, 0)]) (lSa_ok dd14) rfl ?_
        obtain ⟨_, o14, e13, m15, h⟩ := gOb_inv h
        refine Y.callI (yC.Vi (b := v12) (As := [.int x3]) (st := []) (r := ("Partlister$Numbers", T_N, 1)) hV.1 cb_N_read lk_I_39 in_N_read rfl se_N_read (lIa_ok dd15) rfl rfl (Nat.le_of_ble_eq_true rfl) (by decide) e13 m15) (k_N_read hV G11 v12 x3) h (fun v17 G16 _ h => ?_)
        refine Y.blk (pc' := 47) (L' := [some (.ref x0), none, some (.int x2), some (.int v17), some (.int (x4 + (nI 1)))]) (st' := []) (sg := [(.istore_n 3, 0), (.iinc 4 1, nI 1)]) (lSa_ok dd16) rfl ?_
        refine Y.goto (off := -42) (tgt := 5) (lIa_ok dd17) (by decide) ?_
        exact ih G16 x0 x2 v17 (x4 + (nI 1)) h
theorem k_I_lengthen {l : Launch} {D : va_G} {B : Nat} {O : State → Heap → Prop} (hV : zG l D B O) (G : gH) (a0 : Nat) (a1 : Int32) (a2 : Int32) : gMet (zVm l D B O) m_I_lengthen 2 [.ref a0, .int a1, .int a2] G (f_I_lengthen G a0 a1 a2) := by
  have hdd : lSa m_I_lengthen 0 [(.iload_n 1, 0), (.istore_n 3, 0), (.iconst 0, nI 0), (.istore 4, 0)] = true ∧ lIa m_I_lengthen 50 (.return_) 1 = true := by decide +kernel
  obtain ⟨dd0, dd1⟩ := hdd
  refine gMet.of (by decide +kernel) (Nat.le_of_ble_eq_true rfl) [some (.ref a0), some (.int a1), some (.int a2), none, none] (fun ls h => zEn_ok (n := 5) h) ?_
  intro o Gf h
  unfold f_I_lengthen at h
  refine Y.blk (pc' := 5) (L' := [some (.ref a0), some (.int a1), some (.int a2), some (.int a1), some (.int (nI 0))]) (st' := []) (sg := [(.iload_n 1, 0), (.istore_n 3, 0), (.iconst 0, nI 0), (.istore 4, 0)]) (lSa_ok dd0) rfl ?_
  refine Y.less (L' := [some (.ref a0), none, some (.int a2), some (.int a1), some (.int (nI 0))]) (zLe_some (zLe_none (zLe_some (zLe_some (zLe_some (zLe_nil)))))) ?_
  refine k_I_lengthen_L5 hV _ ?_  zFu G a0 a2 a1 (nI 0) h
  · intro G20 h
    exact Y.vret rfl (lIa_ok dd1) h

def f_I_cellOf (G : gH) (a0 : Nat) (a1 : Int32) (a2 : Int32) : gR :=
  gFA G a0 1 3 fun v1 => gOb G v1 2 fun o3 => bI (f_N_read G v1 a1) fun v6 G5 => gFA G5 a0 1 4 fun v7 => gOb G5 v7 2 fun o9 => bI (f_N_read G5 v7 a1) fun v12 G11 => rI (((v6 * (nI 31)) + v12) + a2) G11
theorem k_I_cellOf {l : Launch} {D : va_G} {B : Nat} {O : State → Heap → Prop} (hV : zG l D B O) (G : gH) (a0 : Nat) (a1 : Int32) (a2 : Int32) : gMet (zVm l D B O) m_I_cellOf 2 [.ref a0, .int a1, .int a2] G (f_I_cellOf G a0 a1 a2) := by
  have hdd : lSa m_I_cellOf 0 [(.aload_n 0, 0)] = true ∧ lIa m_I_cellOf 1 (.getfield 26) 3 = true ∧ lSa m_I_cellOf 4 [(.iload_n 1, 0)] = true ∧ lIa m_I_cellOf 5 (.invokevirtual 39) 3 = true ∧ lSa m_I_cellOf 8 [(.bipush 31, nI 31), (.imul, 0), (.aload_n 0, 0)] = true ∧ lIa m_I_cellOf 12 (.getfield 29) 3 = true ∧ lSa m_I_cellOf 15 [(.iload_n 1, 0)] = true ∧ lIa m_I_cellOf 16 (.invokevirtual 39) 3 = true ∧ lSa m_I_cellOf 19 [(.iadd, 0), (.iload_n 2, 0), (.iadd, 0)] = true ∧ lIa m_I_cellOf 22 (.ireturn) 1 = true := by decide +kernel
  refine lA8 hdd (fun dd0 dd1 dd2 dd3 dd4 dd5 dd6 dd7 hdd => ?_)
  obtain ⟨dd8, dd9⟩ := hdd
  refine gMet.of (by decide +kernel) (Nat.le_of_ble_eq_true rfl) [some (.ref a0), some (.int a1), some (.int a2)] (fun ls h => zEn_ok (n := 3) h) ?_
  intro o Gf h
  unfold f_I_cellOf at h
  refine Y.blk (pc' := 1) (L' := [some (.ref a0), some (.int a1), some (.int a2)]) (st' := [.ref a0]) (sg := [(.aload_n 0, 0)]) (lSa_ok dd0) rfl ?_
  refine Y.getA fl_I_26 (lIa_ok dd1) h (fun v1 h => ?_)
  refine Y.blk (pc' := 5) (L' := [some (.ref a0), some (.int a1), some (.int a2)]) (st' := [.int a1, .ref v1]) (sg := [(.iload_n 1, 0)]) (lSa_ok dd2) rfl ?_
  obtain ⟨_, o3, e2, m4, h⟩ := gOb_inv h
  refine Y.callI (yC.Vi (b := v1) (As := [.int a1]) (st := []) (r := ("Partlister$Numbers", T_N, 1)) hV.1 cb_N_read lk_I_39 in_N_read rfl se_N_read (lIa_ok dd3) rfl rfl (Nat.le_of_ble_eq_true rfl) (by decide) e2 m4) (k_N_read hV G v1 a1) h (fun v6 G5 _ h => ?_)
  refine Y.blk (pc' := 12) (L' := [some (.ref a0), some (.int a1), some (.int a2)]) (st' := [.ref a0, .int (v6 * (nI 31))]) (sg := [(.bipush 31, nI 31), (.imul, 0), (.aload_n 0, 0)]) (lSa_ok dd4) rfl ?_
  refine Y.getA fl_I_29 (lIa_ok dd5) h (fun v7 h => ?_)
  refine Y.blk (pc' := 16) (L' := [some (.ref a0), some (.int a1), some (.int a2)]) (st' := [.int a1, .ref v7, .int (v6 * (nI 31))]) (sg := [(.iload_n 1, 0)]) (lSa_ok dd6) rfl ?_
  obtain ⟨_, o9, e8, m10, h⟩ := gOb_inv h
  refine Y.callI (yC.Vi (b := v7) (As := [.int a1]) (st := [.int (v6 * (nI 31))]) (r := ("Partlister$Numbers", T_N, 1)) hV.1 cb_N_read lk_I_39 in_N_read rfl se_N_read (lIa_ok dd7) rfl rfl (Nat.le_of_ble_eq_true rfl) (by decide) e8 m10) (k_N_read hV G5 v7 a1) h (fun v12 G11 _ h => ?_)
  refine Y.blk (pc' := 22) (L' := [some (.ref a0), some (.int a1), some (.int a2)]) (st' := [.int (((v6 * (nI 31)) + v12) + a2)]) (sg := [(.iadd, 0), (.iload_n 2, 0), (.iadd, 0)]) (lSa_ok dd8) rfl ?_
  exact Y.iret rfl (lIa_ok dd9) h

def f_I_thingAt (G : gH) (a0 : Nat) (a1 : Int32) (a2 : Int32) : gR :=
  gFA G a0 1 0 fun v1 => gOb G a0 1 fun o3 => bI (f_I_cellOf G a0 a1 a2) fun v6 G5 => gOb G5 v1 2 fun o8 => bI (f_N_read G5 v1 v6) fun v11 G10 => rI v11 G10
theorem k_I_thingAt {l : Launch} {D : va_G} {B : Nat} {O : State → Heap → Prop} (hV : zG l D B O) (G : gH) (a0 : Nat) (a1 : Int32) (a2 : Int32) : gMet (zVm l D B O) m_I_thingAt 3 [.ref a0, .int a1, .int a2] G (f_I_thingAt G a0 a1 a2) := by
  have hdd : lSa m_I_thingAt 0 [(.aload_n 0, 0)] = true ∧ lIa m_I_thingAt 1 (.getfield 14) 3 = true ∧ lSa m_I_thingAt 4 [(.aload_n 0, 0), (.iload_n 1, 0), (.iload_n 2, 0)] = true ∧ lIa m_I_thingAt 7 (.invokevirtual 43) 3 = true ∧ lIa m_I_thingAt 10 (.invokevirtual 39) 3 = true ∧ lIa m_I_thingAt 13 (.ireturn) 1 = true := by decide +kernel
  obtain ⟨dd0, dd1, dd2, dd3, dd4, dd5⟩ := hdd
  refine gMet.of (by decide +kernel) (Nat.le_of_ble_eq_true rfl) [some (.ref a0), some (.int a1), some (.int a2)] (fun ls h => zEn_ok (n := 3) h) ?_
  intro o Gf h
  unfold f_I_thingAt at h
  refine Y.blk (pc' := 1) (L' := [some (.ref a0), some (.int a1), some (.int a2)]) (st' := [.ref a0]) (sg := [(.aload_n 0, 0)]) (lSa_ok dd0) rfl ?_
  refine Y.getA fl_I_14 (lIa_ok dd1) h (fun v1 h => ?_)
  refine Y.blk (pc' := 7) (L' := [some (.ref a0), some (.int a1), some (.int a2)]) (st' := [.int a2, .int a1, .ref a0, .ref v1]) (sg := [(.aload_n 0, 0), (.iload_n 1, 0), (.iload_n 2, 0)]) (lSa_ok dd2) rfl ?_
  obtain ⟨_, o3, e2, m4, h⟩ := gOb_inv h
  refine Y.callI (yC.Vi (b := a0) (As := [.int a1, .int a2]) (st := [.ref v1]) (r := ("Partlister$Lists", T_I, 7)) hV.1 cb_I_cellOf lk_I_43 in_I_cellOf rfl se_I_cellOf (lIa_ok dd3) rfl rfl (Nat.le_of_ble_eq_true rfl) (by decide) e2 m4) (k_I_cellOf hV G a0 a1 a2) h (fun v6 G5 _ h => ?_)
  obtain ⟨_, o8, e7, m9, h⟩ := gOb_inv h
  refine Y.callI (yC.Vi (b := v1) (As := [.int v6]) (st := []) (r := ("Partlister$Numbers", T_N, 1)) hV.1 cb_N_read lk_I_39 in_N_read rfl se_N_read (lIa_ok dd4) rfl rfl (Nat.le_of_ble_eq_true rfl) (by decide) e7 m9) (k_N_read hV G5 v1 v6) h (fun v11 G10 _ h => ?_)
  exact Y.iret rfl (lIa_ok dd5) h

def f_I_write (G : gH) (a0 : Nat) (a1 : Int32) (a2 : Int32) (a3 : Int32) : gR :=
  gFA G a0 1 0 fun v1 => gOb G a0 1 fun o3 => bI (f_I_cellOf G a0 a1 a2) fun v6 G5 => gOb G5 v1 2 fun o8 => bV (f_N_write G5 v1 v6 a3) fun G10 => rV G10
theorem k_I_write {l : Launch} {D : va_G} {B : Nat} {O : State → Heap → Prop} (hV : zG l D B O) (G : gH) (a0 : Nat) (a1 : Int32) (a2 : Int32) (a3 : Int32) : gMet (zVm l D B O) m_I_write 3 [.ref a0, .int a1, .int a2, .int a3] G (f_I_write G a0 a1 a2 a3) := by
  have hdd : lSa m_I_write 0 [(.aload_n 0, 0)] = true ∧ lIa m_I_write 1 (.getfield 14) 3 = true ∧ lSa m_I_write 4 [(.aload_n 0, 0), (.iload_n 1, 0), (.iload_n 2, 0)] = true ∧ lIa m_I_write 7 (.invokevirtual 43) 3 = true ∧ lSa m_I_write 10 [(.iload_n 3, 0)] = true ∧ lIa m_I_write 11 (.invokevirtual 35) 3 = true ∧ lIa m_I_write 14 (.return_) 1 = true := by decide +kernel
  obtain ⟨dd0, dd1, dd2, dd3, dd4, dd5, dd6⟩ := hdd
  refine gMet.of (by decide +kernel) (Nat.le_of_ble_eq_true rfl) [some (.ref a0), some (.int a1), some (.int a2), some (.int a3)] (fun ls h => zEn_ok (n := 4) h) ?_
  intro o Gf h
  unfold f_I_write at h
  refine Y.blk (pc' := 1) (L' := [some (.ref a0), some (.int a1), some (.int a2), some (.int a3)]) (st' := [.ref a0]) (sg := [(.aload_n 0, 0)]) (lSa_ok dd0) rfl ?_
  refine Y.getA fl_I_14 (lIa_ok dd1) h (fun v1 h => ?_)
  refine Y.blk (pc' := 7) (L' := [some (.ref a0), some (.int a1), some (.int a2), some (.int a3)]) (st' := [.int a2, .int a1, .ref a0, .ref v1]) (sg := [(.aload_n 0, 0), (.iload_n 1, 0), (.iload_n 2, 0)]) (lSa_ok dd2) rfl ?_
  obtain ⟨_, o3, e2, m4, h⟩ := gOb_inv h
  refine Y.callI (yC.Vi (b := a0) (As := [.int a1, .int a2]) (st := [.ref v1]) (r := ("Partlister$Lists", T_I, 7)) hV.1 cb_I_cellOf lk_I_43 in_I_cellOf rfl se_I_cellOf (lIa_ok dd3) rfl rfl (Nat.le_of_ble_eq_true rfl) (by decide) e2 m4) (k_I_cellOf hV G a0 a1 a2) h (fun v6 G5 _ h => ?_)
  refine Y.blk (pc' := 11) (L' := [some (.ref a0), some (.int a1), some (.int a2), some (.int a3)]) (st' := [.int a3, .int v6, .ref v1]) (sg := [(.iload_n 3, 0)]) (lSa_ok dd4) rfl ?_
  obtain ⟨_, o8, e7, m9, h⟩ := gOb_inv h
  refine Y.callN (yC.Vi (b := v1) (As := [.int v6, .int a3]) (st := []) (r := ("Partlister$Numbers", T_N, 1)) hV.1 cb_N_write lk_I_35 in_N_write rfl se_N_write (lIa_ok dd5) rfl rfl (Nat.le_of_ble_eq_true rfl) (by decide) e7 m9) (k_N_write hV G5 v1 v6 a3) h (fun G10 _ h => ?_)
  exact Y.vret rfl (lIa_ok dd6) h

def f_I_openGap_L29 (K60 : gH → Nat → Int32 → Int32 → gR) : Nat → gH → Nat → Int32 → Int32 → Int32 → Int32 → Int32 → gR
  | 0, _, _, _, _, _, _, _ => none
  | n + 1, G, x0, x1, x3, x4, x5, x6 =>
    if x6 < x5 then K60 G x0 x1 x3
    else gOb G x0 1 fun o18 => bI (f_I_thingAt G x0 x4 x6) fun v21 G20 => gOb G20 x0 1 fun o23 => bV (f_I_write G20 x0 x4 (x6 + x3) v21) fun G25 => f_I_openGap_L29 K60 n G25 x0 x1 x3 x4 x5 (x6 + (-1))
def f_I_openGap (G : gH) (a0 : Nat) (a1 : Int32) (a2 : Int32) (a3 : Int32) : gR :=
  gOb G a0 1 fun o2 => bI (f_I_rowOf G a0 a1) fun v5 G4 => gFA G4 a0 1 4 fun v6 => gOb G4 v6 2 fun o8 => bI (f_N_read G4 v6 a1) fun v11 G10 => gOb G10 a0 1 fun o13 => bI (f_I_lengthOf G10 a0 v5) fun v16 G15 => f_I_openGap_L29 (fun G30 x27 x28 x29 => gOb G30 x27 1 fun o32 => bV (f_I_lengthen G30 x27 x28 x29) fun G34 => rV G34) zFu G15 a0 a1 a3 v5 (v11 + a2) (v16 - (nI 1))
theorem k_I_openGap_L29 {l : Launch} {D : va_G} {B : Nat} {O : State → Heap → Prop} (hV : zG l D B O) {o : gO} {Gf : gH} (K60 : gH → Nat → Int32 → Int32 → gR) (hK60 : ∀ (G : gH) (x0 : Nat) (x1 : Int32) (x3 : Int32), K60 G x0 x1 x3 = some (o, Gf) → Y (zVm l D B O) m_I_openGap 4 o Gf 60 [some (.ref x0), some (.int x1), none, some (.int x3), none, none, none] [] G) : ∀ (n : Nat) (G : gH) (x0 : Nat) (x1 : Int32) (x3 : Int32) (x4 : Int32) (x5 : Int32) (x6 : Int32), f_I_openGap_L29 K60 n G x0 x1 x3 x4 x5 x6 = some (o, Gf) → Y (zVm l D B O) m_I_openGap 4 o Gf 29 [some (.ref x0), some (.int x1), none, some (.int x3), some (.int x4), some (.int x5), some (.int x6)] [] G := by
  have hdd : lSa m_I_openGap 29 [(.iload 6, 0), (.iload 5, 0)] = true ∧ lIa m_I_openGap 33 (.if_icmp .lt 27) 3 = true ∧ lSa m_I_openGap 36 [(.aload_n 0, 0), (.iload 4, 0), (.iload 6, 0), (.iload_n 3, 0), (.iadd, 0), (.aload_n 0, 0), (.iload 4, 0), (.iload 6, 0)] = true ∧ lIa m_I_openGap 48 (.invokevirtual 50) 3 = true ∧ lIa m_I_openGap 51 (.invokevirtual 53) 3 = true ∧ lSa m_I_openGap 54 [(.iinc 6 (-1), -1)] = true ∧ lIa m_I_openGap 57 (.goto (-28)) 3 = true := by decide +kernel
  obtain ⟨dd0, dd1, dd2, dd3, dd4, dd5, dd6⟩ := hdd
  intro n
  induction n with
  | zero => intro G x0 x1 x3 x4 x5 x6 h; cases h
  | succ n ih =>
    intro G x0 x1 x3 x4 x5 x6 h
    unfold f_I_openGap_L29 at h
    refine Y.blk (pc' := 33) (L' := [some (.ref x0), some (.int x1), none, some (.int x3), some (.int x4), some (.int x5), some (.int x6)]) (st' := [.int x5, .int x6]) (sg := [(.iload 6, 0), (.iload 5, 0)]) (lSa_ok dd0) rfl ?_
    refine Y.ic_lt (off := 27) (tgt := 60) (lIa_ok dd1) (by decide) h (fun c26 h => ?_) (fun c26 h => ?_)
    · refine Y.less (L' := [some (.ref x0), some (.int x1), none, some (.int x3), none, none, none]) (zLe_some (zLe_some (zLe_some (zLe_some (zLe_none (zLe_none (zLe_none (zLe_nil)))))))) ?_
      exact hK60 G x0 x1 x3 h
    · refine Y.blk (pc' := 48) (L' := [some (.ref x0), some (.int x1), none, some (.int x3), some (.int x4), some (.int x5), some (.int x6)]) (st' := [.int x6, .int x4, .ref x0, .int (x6 + x3), .int x4, .ref x0]) (sg := [(.aload_n 0, 0), (.iload 4, 0), (.iload 6, 0), (.iload_n 3, 0), (.iadd, 0), (.aload_n 0, 0), (.iload 4, 0), (.iload 6, 0)]) (lSa_ok dd2) rfl ?_
      obtain ⟨_, o18, e17, m19, h⟩ := gOb_inv h
      refine Y.callI (yC.Vi (b := x0) (As := [.int x4, .int x6]) (st := [.int (x6 + x3), .int x4, .ref x0]) (r := ("Partlister$Lists", T_I, 7)) hV.1 cb_I_thingAt lk_I_50 in_I_thingAt rfl se_I_thingAt (lIa_ok dd3) rfl rfl (Nat.le_of_ble_eq_true rfl) (by decide) e17 m19) (k_I_thingAt hV G x0 x4 x6) h (fun v21 G20 _ h => ?_)
      obtain ⟨_, o23, e22, m24, h⟩ := gOb_inv h
      refine Y.callN (yC.Vi (b := x0) (As := [.int x4, .int (x6 + x3), .int v21]) (st := []) (r := ("Partlister$Lists", T_I, 7)) hV.1 cb_I_write lk_I_53 in_I_write rfl se_I_write (lIa_ok dd4) rfl rfl (Nat.le_of_ble_eq_true rfl) (by decide) e22 m24) (k_I_write hV G20 x0 x4 (x6 + x3) v21) h (fun G25 _ h => ?_)
      refine Y.blk (pc' := 57) (L' := [some (.ref x0), some (.int x1), none, some (.int x3), some (.int x4), some (.int x5), some (.int (x6 + (-1)))]) (st' := []) (sg := [(.iinc 6 (-1), -1)]) (lSa_ok dd5) rfl ?_
      refine Y.goto (off := -28) (tgt := 29) (lIa_ok dd6) (by decide) ?_
      exact ih G25 x0 x1 x3 x4 x5 (x6 + (-1)) h
theorem k_I_openGap {l : Launch} {D : va_G} {B : Nat} {O : State → Heap → Prop} (hV : zG l D B O) (G : gH) (a0 : Nat) (a1 : Int32) (a2 : Int32) (a3 : Int32) : gMet (zVm l D B O) m_I_openGap 4 [.ref a0, .int a1, .int a2, .int a3] G (f_I_openGap G a0 a1 a2 a3) := by
  have hdd : lSa m_I_openGap 0 [(.aload_n 0, 0), (.iload_n 1, 0)] = true ∧ lIa m_I_openGap 2 (.invokevirtual 56) 3 = true ∧ lSa m_I_openGap 5 [(.istore 4, 0), (.aload_n 0, 0)] = true ∧ lIa m_I_openGap 8 (.getfield 29) 3 = true ∧ lSa m_I_openGap 11 [(.iload_n 1, 0)] = true ∧ lIa m_I_openGap 12 (.invokevirtual 39) 3 = true ∧ lSa m_I_openGap 15 [(.iload_n 2, 0), (.iadd, 0), (.istore 5, 0), (.aload_n 0, 0), (.iload 4, 0)] = true ∧ lIa m_I_openGap 22 (.invokevirtual 59) 3 = true ∧ lSa m_I_openGap 25 [(.iconst 1, nI 1), (.isub, 0), (.istore 6, 0)] = true ∧ lSa m_I_openGap 60 [(.aload_n 0, 0), (.iload_n 1, 0), (.iload_n 3, 0)] = true ∧ lIa m_I_openGap 63 (.invokevirtual 62) 3 = true ∧ lIa m_I_openGap 66 (.return_) 1 = true := by decide +kernel
  refine lA8 hdd (fun dd0 dd1 dd2 dd3 dd4 dd5 dd6 dd7 hdd => ?_)
  obtain ⟨dd8, dd9, dd10, dd11⟩ := hdd
  refine gMet.of (by decide +kernel) (Nat.le_of_ble_eq_true rfl) [some (.ref a0), some (.int a1), some (.int a2), some (.int a3), none, none, none] (fun ls h => zEn_ok (n := 7) h) ?_
  intro o Gf h
  unfold f_I_openGap at h
  refine Y.blk (pc' := 2) (L' := [some (.ref a0), some (.int a1), some (.int a2), some (.int a3), none, none, none]) (st' := [.int a1, .ref a0]) (sg := [(.aload_n 0, 0), (.iload_n 1, 0)]) (lSa_ok dd0) rfl ?_
  obtain ⟨_, o2, e1, m3, h⟩ := gOb_inv h
  refine Y.callI (yC.Vi (b := a0) (As := [.int a1]) (st := []) (r := ("Partlister$Lists", T_I, 7)) hV.1 cb_I_rowOf lk_I_56 in_I_rowOf rfl se_I_rowOf (lIa_ok dd1) rfl rfl (Nat.le_of_ble_eq_true rfl) (by decide) e1 m3) (k_I_rowOf hV G a0 a1) h (fun v5 G4 _ h => ?_)
  refine Y.blk (pc' := 8) (L' := [some (.ref a0), some (.int a1), some (.int a2), some (.int a3), some (.int v5), none, none]) (st' := [.ref a0]) (sg := [(.istore 4, 0), (.aload_n 0, 0)]) (lSa_ok dd2) rfl ?_
  refine Y.getA fl_I_29 (lIa_ok dd3) h (fun v6 h => ?_)
  refine Y.blk (pc' := 12) (L' := [some (.ref a0), some (.int a1), some (.int a2), some (.int a3), some (.int v5), none, none]) (st' := [.int a1, .ref v6]) (sg := [(.iload_n 1, 0)]) (lSa_ok dd4) rfl ?_
  obtain ⟨_, o8, e7, m9, h⟩ := gOb_inv h
  refine Y.callI (yC.Vi (b := v6) (As := [.int a1]) (st := []) (r := ("Partlister$Numbers", T_N, 1)) hV.1 cb_N_read lk_I_39 in_N_read rfl se_N_read (lIa_ok dd5) rfl rfl (Nat.le_of_ble_eq_true rfl) (by decide) e7 m9) (k_N_read hV G4 v6 a1) h (fun v11 G10 _ h => ?_)
  refine Y.blk (pc' := 22) (L' := [some (.ref a0), some (.int a1), some (.int a2), some (.int a3), some (.int v5), some (.int (v11 + a2)), none]) (st' := [.int v5, .ref a0]) (sg := [(.iload_n 2, 0), (.iadd, 0), (.istore 5, 0), (.aload_n 0, 0), (.iload 4, 0)]) (lSa_ok dd6) rfl ?_
  obtain ⟨_, o13, e12, m14, h⟩ := gOb_inv h
  refine Y.callI (yC.Vi (b := a0) (As := [.int v5]) (st := []) (r := ("Partlister$Lists", T_I, 7)) hV.1 cb_I_lengthOf lk_I_59 in_I_lengthOf rfl se_I_lengthOf (lIa_ok dd7) rfl rfl (Nat.le_of_ble_eq_true rfl) (by decide) e12 m14) (k_I_lengthOf hV G10 a0 v5) h (fun v16 G15 _ h => ?_)
  refine Y.blk (pc' := 29) (L' := [some (.ref a0), some (.int a1), some (.int a2), some (.int a3), some (.int v5), some (.int (v11 + a2)), some (.int (v16 - (nI 1)))]) (st' := []) (sg := [(.iconst 1, nI 1), (.isub, 0), (.istore 6, 0)]) (lSa_ok dd8) rfl ?_
  refine Y.less (L' := [some (.ref a0), some (.int a1), none, some (.int a3), some (.int v5), some (.int (v11 + a2)), some (.int (v16 - (nI 1)))]) (zLe_some (zLe_some (zLe_none (zLe_some (zLe_some (zLe_some (zLe_some (zLe_nil)))))))) ?_
  refine k_I_openGap_L29 hV _ ?_  zFu G15 a0 a1 a3 v5 (v11 + a2) (v16 - (nI 1)) h
  · intro G30 x27 x28 x29 h
    refine Y.blk (pc' := 63) (L' := [some (.ref x27), some (.int x28), none, some (.int x29), none, none, none]) (st' := [.int x29, .int x28, .ref x27]) (sg := [(.aload_n 0, 0), (.iload_n 1, 0), (.iload_n 3, 0)]) (lSa_ok dd9) rfl ?_
    obtain ⟨_, o32, e31, m33, h⟩ := gOb_inv h
    refine Y.callN (yC.Vi (b := x27) (As := [.int x28, .int x29]) (st := []) (r := ("Partlister$Lists", T_I, 7)) hV.1 cb_I_lengthen lk_I_62 in_I_lengthen rfl se_I_lengthen (lIa_ok dd10) rfl rfl (Nat.le_of_ble_eq_true rfl) (by decide) e31 m33) (k_I_lengthen hV G30 x27 x28 x29) h (fun G34 _ h => ?_)
    exact Y.vret rfl (lIa_ok dd11) h

def f_X_bringIn (G : gH) (a0 : Nat) (a1 : Int32) (a2 : Int32) (a3 : Int32) (a4 : Int32) : gR :=
  gFA G a0 3 0 fun v1 => gOb G v1 1 fun o3 => bV (f_I_openGap G v1 a1 a2 (nI 1)) fun G5 => gFA G5 a0 3 0 fun v6 => gOb G5 v6 1 fun o8 => bV (f_I_write G5 v6 a1 a2 a3) fun G10 => gOb G10 a0 3 fun o12 => bV (f_X_endByLength G10 a0 a1 a4) fun G14 => rV G14
theorem k_X_bringIn {l : Launch} {D : va_G} {B : Nat} {O : State → Heap → Prop} (hV : zG l D B O) (G : gH) (a0 : Nat) (a1 : Int32) (a2 : Int32) (a3 : Int32) (a4 : Int32) : gMet (zVm l D B O) m_X_bringIn 6 [.ref a0, .int a1, .int a2, .int a3, .int a4] G (f_X_bringIn G a0 a1 a2 a3 a4) := by
  have hdd : lSa m_X_bringIn 0 [(.aload_n 0, 0)] = true ∧ lIa m_X_bringIn 1 (.getfield 10) 3 = true ∧ lSa m_X_bringIn 4 [(.iload_n 1, 0), (.iload_n 2, 0), (.iconst 1, nI 1)] = true ∧ lIa m_X_bringIn 7 (.invokevirtual 278) 3 = true ∧ lSa m_X_bringIn 10 [(.aload_n 0, 0)] = true ∧ lIa m_X_bringIn 11 (.getfield 10) 3 = true ∧ lSa m_X_bringIn 14 [(.iload_n 1, 0), (.iload_n 2, 0), (.iload_n 3, 0)] = true ∧ lIa m_X_bringIn 17 (.invokevirtual 65) 3 = true ∧ lSa m_X_bringIn 20 [(.aload_n 0, 0), (.iload_n 1, 0), (.iload 4, 0)] = true ∧ lIa m_X_bringIn 24 (.invokevirtual 281) 3 = true ∧ lIa m_X_bringIn 27 (.return_) 1 = true := by decide +kernel
  refine lA8 hdd (fun dd0 dd1 dd2 dd3 dd4 dd5 dd6 dd7 hdd => ?_)
  obtain ⟨dd8, dd9, dd10⟩ := hdd
  refine gMet.of (by decide +kernel) (Nat.le_of_ble_eq_true rfl) [some (.ref a0), some (.int a1), some (.int a2), some (.int a3), some (.int a4)] (fun ls h => zEn_ok (n := 5) h) ?_
  intro o Gf h
  unfold f_X_bringIn at h
  refine Y.blk (pc' := 1) (L' := [some (.ref a0), some (.int a1), some (.int a2), some (.int a3), some (.int a4)]) (st' := [.ref a0]) (sg := [(.aload_n 0, 0)]) (lSa_ok dd0) rfl ?_
  refine Y.getA fl_X_10 (lIa_ok dd1) h (fun v1 h => ?_)
  refine Y.blk (pc' := 7) (L' := [some (.ref a0), some (.int a1), some (.int a2), some (.int a3), some (.int a4)]) (st' := [.int (nI 1), .int a2, .int a1, .ref v1]) (sg := [(.iload_n 1, 0), (.iload_n 2, 0), (.iconst 1, nI 1)]) (lSa_ok dd2) rfl ?_
  obtain ⟨_, o3, e2, m4, h⟩ := gOb_inv h
  refine Y.callN (yC.Vi (b := v1) (As := [.int a1, .int a2, .int (nI 1)]) (st := []) (r := ("Partlister$Lists", T_I, 7)) hV.1 cb_I_openGap lk_X_278 in_I_openGap rfl se_I_openGap (lIa_ok dd3) rfl rfl (Nat.le_of_ble_eq_true rfl) (by decide) e2 m4) (k_I_openGap hV G v1 a1 a2 (nI 1)) h (fun G5 _ h => ?_)
  refine Y.blk (pc' := 11) (L' := [some (.ref a0), some (.int a1), some (.int a2), some (.int a3), some (.int a4)]) (st' := [.ref a0]) (sg := [(.aload_n 0, 0)]) (lSa_ok dd4) rfl ?_
  refine Y.getA fl_X_10 (lIa_ok dd5) h (fun v6 h => ?_)
  refine Y.blk (pc' := 17) (L' := [some (.ref a0), some (.int a1), some (.int a2), some (.int a3), some (.int a4)]) (st' := [.int a3, .int a2, .int a1, .ref v6]) (sg := [(.iload_n 1, 0), (.iload_n 2, 0), (.iload_n 3, 0)]) (lSa_ok dd6) rfl ?_
  obtain ⟨_, o8, e7, m9, h⟩ := gOb_inv h
  refine Y.callN (yC.Vi (b := v6) (As := [.int a1, .int a2, .int a3]) (st := []) (r := ("Partlister$Lists", T_I, 7)) hV.1 cb_I_write lk_X_65 in_I_write rfl se_I_write (lIa_ok dd7) rfl rfl (Nat.le_of_ble_eq_true rfl) (by decide) e7 m9) (k_I_write hV G5 v6 a1 a2 a3) h (fun G10 _ h => ?_)
  refine Y.blk (pc' := 24) (L' := [some (.ref a0), some (.int a1), some (.int a2), some (.int a3), some (.int a4)]) (st' := [.int a4, .int a1, .ref a0]) (sg := [(.aload_n 0, 0), (.iload_n 1, 0), (.iload 4, 0)]) (lSa_ok dd8) rfl ?_
  obtain ⟨_, o12, e11, m13, h⟩ := gOb_inv h
  refine Y.callN (yC.Vi (b := a0) (As := [.int a1, .int a4]) (st := []) (r := ("Partlister", T_X, 5)) hV.1 cb_X_endByLength lk_X_281 in_X_endByLength rfl se_X_endByLength (lIa_ok dd9) rfl rfl (Nat.le_of_ble_eq_true rfl) (by decide) e11 m13) (k_X_endByLength hV G10 a0 a1 a4) h (fun G14 _ h => ?_)
  exact Y.vret rfl (lIa_ok dd10) h

def f_X_thingOf (G : gH) (a0 : Int32) (a1 : Int32) : gR :=
  rI ((a0 <<< ((nI 5) &&& 31)) ||| a1) G
theorem k_X_thingOf {l : Launch} {D : va_G} {B : Nat} {O : State → Heap → Prop} (hV : zG l D B O) (G : gH) (a0 : Int32) (a1 : Int32) : gMet (zVm l D B O) m_X_thingOf 1 [.int a0, .int a1] G (f_X_thingOf G a0 a1) := by
  have hdd : lSa m_X_thingOf 0 [(.iload_n 0, 0), (.iconst 5, nI 5), (.ishl, 0), (.iload_n 1, 0), (.ior, 0)] = true ∧ lIa m_X_thingOf 5 (.ireturn) 1 = true := by decide +kernel
  obtain ⟨dd0, dd1⟩ := hdd
  refine gMet.of (by decide +kernel) (Nat.le_of_ble_eq_true rfl) [some (.int a0), some (.int a1)] (fun ls h => zEn_ok (n := 2) h) ?_
  intro o Gf h
  unfold f_X_thingOf at h
  refine Y.blk (pc' := 5) (L' := [some (.int a0), some (.int a1)]) (st' := [.int ((a0 <<< ((nI 5) &&& 31)) ||| a1)]) (sg := [(.iload_n 0, 0), (.iconst 5, nI 5), (.ishl, 0), (.iload_n 1, 0), (.ior, 0)]) (lSa_ok dd0) rfl ?_
  exact Y.iret rfl (lIa_ok dd1) h

def f_X_make (G : gH) (a0 : Nat) (a1 : Int32) : gR :=
  gFI G a0 3 2 fun v1 => bI (f_X_thingOf G v1 a1) fun v4 G3 => gFI G3 a0 3 2 fun v5 => gPut G3 a0 3 2 (.int (v5 + (nI 1))) fun G6 => rI v4 G6
theorem k_X_make {l : Launch} {D : va_G} {B : Nat} {O : State → Heap → Prop} (hV : zG l D B O) (G : gH) (a0 : Nat) (a1 : Int32) : gMet (zVm l D B O) m_X_make 2 [.ref a0, .int a1] G (f_X_make G a0 a1) := by
  have hdd : lSa m_X_make 0 [(.aload_n 0, 0)] = true ∧ lIa m_X_make 1 (.getfield 275) 3 = true ∧ lSa m_X_make 4 [(.iload_n 1, 0)] = true ∧ lIa m_X_make 5 (.invokestatic 100) 3 = true ∧ lSa m_X_make 8 [(.istore_n 2, 0), (.aload_n 0, 0), (.dup, 0)] = true ∧ lIa m_X_make 11 (.getfield 275) 3 = true ∧ lSa m_X_make 14 [(.iconst 1, nI 1), (.iadd, 0)] = true ∧ lIa m_X_make 16 (.putfield 275) 3 = true ∧ lSa m_X_make 19 [(.iload_n 2, 0)] = true ∧ lIa m_X_make 20 (.ireturn) 1 = true := by decide +kernel
  refine lA8 hdd (fun dd0 dd1 dd2 dd3 dd4 dd5 dd6 dd7 hdd => ?_)
  obtain ⟨dd8, dd9⟩ := hdd
  refine gMet.of (by decide +kernel) (Nat.le_of_ble_eq_true rfl) [some (.ref a0), some (.int a1), none] (fun ls h => zEn_ok (n := 3) h) ?_
  intro o Gf h
  unfold f_X_make at h
  refine Y.blk (pc' := 1) (L' := [some (.ref a0), some (.int a1), none]) (st' := [.ref a0]) (sg := [(.aload_n 0, 0)]) (lSa_ok dd0) rfl ?_
  refine Y.getI fl_X_275 (lIa_ok dd1) h (fun v1 h => ?_)
  refine Y.blk (pc' := 5) (L' := [some (.ref a0), some (.int a1), none]) (st' := [.int a1, .int v1]) (sg := [(.iload_n 1, 0)]) (lSa_ok dd2) rfl ?_
  refine Y.callI (yC.S (As := [.int v1, .int a1]) (st := []) hV.1 cb_X_thingOf lk_X_100 st_X_thingOf (lIa_ok dd3) rfl rfl (Nat.le_of_ble_eq_true rfl) (by decide)) (k_X_thingOf hV G v1 a1) h (fun v4 G3 _ h => ?_)
  refine Y.blk (pc' := 11) (L' := [some (.ref a0), some (.int a1), some (.int v4)]) (st' := [.ref a0, .ref a0]) (sg := [(.istore_n 2, 0), (.aload_n 0, 0), (.dup, 0)]) (lSa_ok dd4) rfl ?_
  refine Y.getI fl_X_275 (lIa_ok dd5) h (fun v5 h => ?_)
  refine Y.blk (pc' := 16) (L' := [some (.ref a0), some (.int a1), some (.int v4)]) (st' := [.int (v5 + (nI 1)), .ref a0]) (sg := [(.iconst 1, nI 1), (.iadd, 0)]) (lSa_ok dd6) rfl ?_
  refine Y.putf fl_X_275 (by decide) rfl rfl (lIa_ok dd7) h (fun G6 _ _ h => ?_)
  refine Y.blk (pc' := 20) (L' := [some (.ref a0), some (.int a1), some (.int v4)]) (st' := [.int v4]) (sg := [(.iload_n 2, 0)]) (lSa_ok dd8) rfl ?_
  exact Y.iret rfl (lIa_ok dd9) h

def f_X_needKey (G : gH) (a0 : Nat) (a1 : Int32) : gR :=
  if a1 < 0 then gThrow "java/lang/IllegalArgumentException" G
  else if a1 < (nI 31) then rV G
    else gThrow "java/lang/IllegalArgumentException" G
theorem k_X_needKey {l : Launch} {D : va_G} {B : Nat} {O : State → Heap → Prop} (hV : zG l D B O) (G : gH) (a0 : Nat) (a1 : Int32) : gMet (zVm l D B O) m_X_needKey 6 [.ref a0, .int a1] G (f_X_needKey G a0 a1) := by
  have hdd : lSa m_X_needKey 0 [(.iload_n 1, 0)] = true ∧ lIa m_X_needKey 1 (.ifCond .lt 9) 3 = true ∧ lIa m_X_needKey 10 (.new 81) 3 = true ∧ lIa m_X_needKey 13 (.dup) 1 = true ∧ lIa m_X_needKey 14 (.ldc_w 341) 3 = true ∧ lIa m_X_needKey 17 (.invokespecial 85) 3 = true ∧ lIa m_X_needKey 20 (.athrow) 1 = true ∧ lSa m_X_needKey 4 [(.iload_n 1, 0), (.bipush 31, nI 31)] = true ∧ lIa m_X_needKey 7 (.if_icmp .lt 14) 3 = true ∧ lIa m_X_needKey 21 (.return_) 1 = true := by decide +kernel
  refine lA8 hdd (fun dd0 dd1 dd2 dd3 dd4 dd5 dd6 dd7 hdd => ?_)
  obtain ⟨dd8, dd9⟩ := hdd
  refine gMet.of (by decide +kernel) (Nat.le_of_ble_eq_true rfl) [some (.ref a0), some (.int a1)] (fun ls h => zEn_ok (n := 2) h) ?_
  intro o Gf h
  unfold f_X_needKey at h
  refine Y.blk (pc' := 1) (L' := [some (.ref a0), some (.int a1)]) (st' := [.int a1]) (sg := [(.iload_n 1, 0)]) (lSa_ok dd0) rfl ?_
  refine Y.if_lt (off := 9) (tgt := 10) (lIa_ok dd1) (by decide) h (fun c2 h => ?_) (fun c2 h => ?_)
  · exact Y.throwSW (is := 341) (text := "key is not 0 to 30") (names := zNm) hV.1 (hV.2 _ _ _ (by decide +kernel)) (by decide +kernel) (by decide +kernel) ck_X_81 ini_IAE tw_X_85 tg_X_85 (by decide) (by decide) rfl (Nat.le_of_ble_eq_true rfl) (lIa_ok dd2) (lIa_ok dd3) (lIa_ok dd4) (lIa_ok dd5) (lIa_ok dd6) h
  · refine Y.blk (pc' := 7) (L' := [some (.ref a0), some (.int a1)]) (st' := [.int (nI 31), .int a1]) (sg := [(.iload_n 1, 0), (.bipush 31, nI 31)]) (lSa_ok dd7) rfl ?_
    refine Y.ic_lt (off := 14) (tgt := 21) (lIa_ok dd8) (by decide) h (fun c1 h => ?_) (fun c1 h => ?_)
    · exact Y.vret rfl (lIa_ok dd9) h
    · exact Y.throwSW (is := 341) (text := "key is not 0 to 30") (names := zNm) hV.1 (hV.2 _ _ _ (by decide +kernel)) (by decide +kernel) (by decide +kernel) ck_X_81 ini_IAE tw_X_85 tg_X_85 (by decide) (by decide) rfl (Nat.le_of_ble_eq_true rfl) (lIa_ok dd2) (lIa_ok dd3) (lIa_ok dd4) (lIa_ok dd5) (lIa_ok dd6) h

def f_X_needList (G : gH) (a0 : Nat) (a1 : Int32) : gR :=
  gFA G a0 3 0 fun v1 => gOb G v1 1 fun o3 => bI (f_I_isThere G v1 a1) fun v6 G5 => if v6 = 0 then gThrow "java/lang/IndexOutOfBoundsException" G5
  else rV G5
theorem k_X_needList {l : Launch} {D : va_G} {B : Nat} {O : State → Heap → Prop} (hV : zG l D B O) (G : gH) (a0 : Nat) (a1 : Int32) : gMet (zVm l D B O) m_X_needList 6 [.ref a0, .int a1] G (f_X_needList G a0 a1) := by
  have hdd : lSa m_X_needList 0 [(.aload_n 0, 0)] = true ∧ lIa m_X_needList 1 (.getfield 10) 3 = true ∧ lSa m_X_needList 4 [(.iload_n 1, 0)] = true ∧ lIa m_X_needList 5 (.invokevirtual 155) 3 = true ∧ lIa m_X_needList 8 (.ifCond .ne 14) 3 = true ∧ lIa m_X_needList 11 (.new 125) 3 = true ∧ lIa m_X_needList 14 (.dup) 1 = true ∧ lIa m_X_needList 15 (.ldc_w 329) 3 = true ∧ lIa m_X_needList 18 (.invokespecial 129) 3 = true ∧ lIa m_X_needList 21 (.athrow) 1 = true ∧ lIa m_X_needList 22 (.return_) 1 = true := by decide +kernel
  refine lA8 hdd (fun dd0 dd1 dd2 dd3 dd4 dd5 dd6 dd7 hdd => ?_)
  obtain ⟨dd8, dd9, dd10⟩ := hdd
  refine gMet.of (by decide +kernel) (Nat.le_of_ble_eq_true rfl) [some (.ref a0), some (.int a1)] (fun ls h => zEn_ok (n := 2) h) ?_
  intro o Gf h
  unfold f_X_needList at h
  refine Y.blk (pc' := 1) (L' := [some (.ref a0), some (.int a1)]) (st' := [.ref a0]) (sg := [(.aload_n 0, 0)]) (lSa_ok dd0) rfl ?_
  refine Y.getA fl_X_10 (lIa_ok dd1) h (fun v1 h => ?_)
  refine Y.blk (pc' := 5) (L' := [some (.ref a0), some (.int a1)]) (st' := [.int a1, .ref v1]) (sg := [(.iload_n 1, 0)]) (lSa_ok dd2) rfl ?_
  obtain ⟨_, o3, e2, m4, h⟩ := gOb_inv h
  refine Y.callI (yC.Vi (b := v1) (As := [.int a1]) (st := []) (r := ("Partlister$Lists", T_I, 7)) hV.1 cb_I_isThere lk_X_155 in_I_isThere rfl se_I_isThere (lIa_ok dd3) rfl rfl (Nat.le_of_ble_eq_true rfl) (by decide) e2 m4) (k_I_isThere hV G v1 a1) h (fun v6 G5 _ h => ?_)
  refine Y.if_ne (off := 14) (tgt := 22) (lIa_ok dd4) (by decide) h (fun c7 h => ?_) (fun c7 h => ?_)
  · exact Y.throwSW (is := 329) (text := "there is no such LIST") (names := zNm) hV.1 (hV.2 _ _ _ (by decide +kernel)) (by decide +kernel) (by decide +kernel) ck_X_125 ini_IOE tw_X_129 tg_X_129 (by decide) (by decide) rfl (Nat.le_of_ble_eq_true rfl) (lIa_ok dd5) (lIa_ok dd6) (lIa_ok dd7) (lIa_ok dd8) (lIa_ok dd9) h
  · exact Y.vret rfl (lIa_ok dd10) h

def f_X_needRoom (G : gH) (a0 : Nat) (a1 : Int32) (a2 : Int32) : gR :=
  gFA G a0 3 0 fun v1 => gFA G a0 3 0 fun v2 => gOb G v2 1 fun o4 => bI (f_I_rowOf G v2 a1) fun v7 G6 => gOb G6 v1 1 fun o9 => bI (f_I_lengthOf G6 v1 v7) fun v12 G11 => if (v12 + a2) ≤ (nI 31) then rV G11
  else gThrow "java/lang/IllegalStateException" G11
theorem k_X_needRoom {l : Launch} {D : va_G} {B : Nat} {O : State → Heap → Prop} (hV : zG l D B O) (G : gH) (a0 : Nat) (a1 : Int32) (a2 : Int32) : gMet (zVm l D B O) m_X_needRoom 6 [.ref a0, .int a1, .int a2] G (f_X_needRoom G a0 a1 a2) := by
  have hdd : lSa m_X_needRoom 0 [(.aload_n 0, 0)] = true ∧ lIa m_X_needRoom 1 (.getfield 10) 3 = true ∧ lSa m_X_needRoom 4 [(.aload_n 0, 0)] = true ∧ lIa m_X_needRoom 5 (.getfield 10) 3 = true ∧ lSa m_X_needRoom 8 [(.iload_n 1, 0)] = true ∧ lIa m_X_needRoom 9 (.invokevirtual 299) 3 = true ∧ lIa m_X_needRoom 12 (.invokevirtual 34) 3 = true ∧ lSa m_X_needRoom 15 [(.iload_n 2, 0), (.iadd, 0), (.bipush 31, nI 31)] = true ∧ lIa m_X_needRoom 19 (.if_icmp .le 14) 3 = true ∧ lIa m_X_needRoom 33 (.return_) 1 = true ∧ lIa m_X_needRoom 22 (.new 134) 3 = true ∧ lIa m_X_needRoom 25 (.dup) 1 = true ∧ lIa m_X_needRoom 26 (.ldc_w 343) 3 = true ∧ lIa m_X_needRoom 29 (.invokespecial 138) 3 = true ∧ lIa m_X_needRoom 32 (.athrow) 1 = true := by decide +kernel
  refine lA8 hdd (fun dd0 dd1 dd2 dd3 dd4 dd5 dd6 dd7 hdd => ?_)
  obtain ⟨dd8, dd9, dd10, dd11, dd12, dd13, dd14⟩ := hdd
  refine gMet.of (by decide +kernel) (Nat.le_of_ble_eq_true rfl) [some (.ref a0), some (.int a1), some (.int a2)] (fun ls h => zEn_ok (n := 3) h) ?_
  intro o Gf h
  unfold f_X_needRoom at h
  refine Y.blk (pc' := 1) (L' := [some (.ref a0), some (.int a1), some (.int a2)]) (st' := [.ref a0]) (sg := [(.aload_n 0, 0)]) (lSa_ok dd0) rfl ?_
  refine Y.getA fl_X_10 (lIa_ok dd1) h (fun v1 h => ?_)
  refine Y.blk (pc' := 5) (L' := [some (.ref a0), some (.int a1), some (.int a2)]) (st' := [.ref a0, .ref v1]) (sg := [(.aload_n 0, 0)]) (lSa_ok dd2) rfl ?_
  refine Y.getA fl_X_10 (lIa_ok dd3) h (fun v2 h => ?_)
  refine Y.blk (pc' := 9) (L' := [some (.ref a0), some (.int a1), some (.int a2)]) (st' := [.int a1, .ref v2, .ref v1]) (sg := [(.iload_n 1, 0)]) (lSa_ok dd4) rfl ?_
  obtain ⟨_, o4, e3, m5, h⟩ := gOb_inv h
  refine Y.callI (yC.Vi (b := v2) (As := [.int a1]) (st := [.ref v1]) (r := ("Partlister$Lists", T_I, 7)) hV.1 cb_I_rowOf lk_X_299 in_I_rowOf rfl se_I_rowOf (lIa_ok dd5) rfl rfl (Nat.le_of_ble_eq_true rfl) (by decide) e3 m5) (k_I_rowOf hV G v2 a1) h (fun v7 G6 _ h => ?_)
  obtain ⟨_, o9, e8, m10, h⟩ := gOb_inv h
  refine Y.callI (yC.Vi (b := v1) (As := [.int v7]) (st := []) (r := ("Partlister$Lists", T_I, 7)) hV.1 cb_I_lengthOf lk_X_34 in_I_lengthOf rfl se_I_lengthOf (lIa_ok dd6) rfl rfl (Nat.le_of_ble_eq_true rfl) (by decide) e8 m10) (k_I_lengthOf hV G6 v1 v7) h (fun v12 G11 _ h => ?_)
  refine Y.blk (pc' := 19) (L' := [some (.ref a0), some (.int a1), some (.int a2)]) (st' := [.int (nI 31), .int (v12 + a2)]) (sg := [(.iload_n 2, 0), (.iadd, 0), (.bipush 31, nI 31)]) (lSa_ok dd7) rfl ?_
  refine Y.ic_le (off := 14) (tgt := 33) (lIa_ok dd8) (by decide) h (fun c13 h => ?_) (fun c13 h => ?_)
  · exact Y.vret rfl (lIa_ok dd9) h
  · exact Y.throwSW (is := 343) (text := "a ROW has at most 31") (names := zNm) hV.1 (hV.2 _ _ _ (by decide +kernel)) (by decide +kernel) (by decide +kernel) ck_X_134 ini_ISE tw_X_138 tg_X_138 (by decide) (by decide) rfl (Nat.le_of_ble_eq_true rfl) (lIa_ok dd10) (lIa_ok dd11) (lIa_ok dd12) (lIa_ok dd13) (lIa_ok dd14) h

def f_X_add (G : gH) (a0 : Nat) (a1 : Int32) (a2 : Int32) : gR :=
  gOb G a0 3 fun o2 => bV (f_X_needList G a0 a1) fun G4 => gOb G4 a0 3 fun o6 => bV (f_X_needKey G4 a0 a2) fun G8 => gOb G8 a0 3 fun o10 => bV (f_X_needRoom G8 a0 a1 (nI 1)) fun G12 => gFA G12 a0 3 0 fun v13 => gOb G12 v13 1 fun o15 => bI (f_I_lengthOf G12 v13 a1) fun v18 G17 => gOb G17 a0 3 fun o20 => bI (f_X_make G17 a0 a2) fun v23 G22 => gOb G22 a0 3 fun o25 => bV (f_X_bringIn G22 a0 a1 v18 v23 (-1)) fun G27 => gFA G27 a0 3 0 fun v28 => gOb G27 v28 1 fun o30 => bI (f_I_lengthOf G27 v28 a1) fun v33 G32 => rI v33 G32
theorem k_X_add {l : Launch} {D : va_G} {B : Nat} {O : State → Heap → Prop} (hV : zG l D B O) (G : gH) (a0 : Nat) (a1 : Int32) (a2 : Int32) : gMet (zVm l D B O) m_X_add 7 [.ref a0, .int a1, .int a2] G (f_X_add G a0 a1 a2) := by
  have hdd : lSa m_X_add 0 [(.aload_n 0, 0), (.iload_n 1, 0)] = true ∧ lIa m_X_add 2 (.invokevirtual 23) 3 = true ∧ lSa m_X_add 5 [(.aload_n 0, 0), (.iload_n 2, 0)] = true ∧ lIa m_X_add 7 (.invokevirtual 27) 3 = true ∧ lSa m_X_add 10 [(.aload_n 0, 0), (.iload_n 1, 0), (.iconst 1, nI 1)] = true ∧ lIa m_X_add 13 (.invokevirtual 30) 3 = true ∧ lSa m_X_add 16 [(.aload_n 0, 0), (.iload_n 1, 0), (.aload_n 0, 0)] = true ∧ lIa m_X_add 19 (.getfield 10) 3 = true ∧ lSa m_X_add 22 [(.iload_n 1, 0)] = true ∧ lIa m_X_add 23 (.invokevirtual 34) 3 = true ∧ lSa m_X_add 26 [(.aload_n 0, 0), (.iload_n 2, 0)] = true ∧ lIa m_X_add 28 (.invokevirtual 38) 3 = true ∧ lSa m_X_add 31 [(.iconst (-1), -1)] = true ∧ lIa m_X_add 32 (.invokevirtual 41) 3 = true ∧ lSa m_X_add 35 [(.aload_n 0, 0)] = true ∧ lIa m_X_add 36 (.getfield 10) 3 = true ∧ lSa m_X_add 39 [(.iload_n 1, 0)] = true ∧ lIa m_X_add 40 (.invokevirtual 34) 3 = true ∧ lIa m_X_add 43 (.ireturn) 1 = true := by decide +kernel
  refine lA8 hdd (fun dd0 dd1 dd2 dd3 dd4 dd5 dd6 dd7 hdd => ?_)
  refine lA8 hdd (fun dd8 dd9 dd10 dd11 dd12 dd13 dd14 dd15 hdd => ?_)
  obtain ⟨dd16, dd17, dd18⟩ := hdd
  refine gMet.of (by decide +kernel) (Nat.le_of_ble_eq_true rfl) [some (.ref a0), some (.int a1), some (.int a2)] (fun ls h => zEn_ok (n := 3) h) ?_
  intro o Gf h
  unfold f_X_add at h
  refine Y.blk (pc' := 2) (L' := [some (.ref a0), some (.int a1), some (.int a2)]) (st' := [.int a1, .ref a0]) (sg := [(.aload_n 0, 0), (.iload_n 1, 0)]) (lSa_ok dd0) rfl ?_
  obtain ⟨_, o2, e1, m3, h⟩ := gOb_inv h
  refine Y.callN (yC.Vi (b := a0) (As := [.int a1]) (st := []) (r := ("Partlister", T_X, 5)) hV.1 cb_X_needList lk_X_23 in_X_needList rfl se_X_needList (lIa_ok dd1) rfl rfl (Nat.le_of_ble_eq_true rfl) (by decide) e1 m3) (k_X_needList hV G a0 a1) h (fun G4 _ h => ?_)
  refine Y.blk (pc' := 7) (L' := [some (.ref a0), some (.int a1), some (.int a2)]) (st' := [.int a2, .ref a0]) (sg := [(.aload_n 0, 0), (.iload_n 2, 0)]) (lSa_ok dd2) rfl ?_
  obtain ⟨_, o6, e5, m7, h⟩ := gOb_inv h
  refine Y.callN (yC.Vi (b := a0) (As := [.int a2]) (st := []) (r := ("Partlister", T_X, 5)) hV.1 cb_X_needKey lk_X_27 in_X_needKey rfl se_X_needKey (lIa_ok dd3) rfl rfl (Nat.le_of_ble_eq_true rfl) (by decide) e5 m7) (k_X_needKey hV G4 a0 a2) h (fun G8 _ h => ?_)
  refine Y.blk (pc' := 13) (L' := [some (.ref a0), some (.int a1), some (.int a2)]) (st' := [.int (nI 1), .int a1, .ref a0]) (sg := [(.aload_n 0, 0), (.iload_n 1, 0), (.iconst 1, nI 1)]) (lSa_ok dd4) rfl ?_
  obtain ⟨_, o10, e9, m11, h⟩ := gOb_inv h
  refine Y.callN (yC.Vi (b := a0) (As := [.int a1, .int (nI 1)]) (st := []) (r := ("Partlister", T_X, 5)) hV.1 cb_X_needRoom lk_X_30 in_X_needRoom rfl se_X_needRoom (lIa_ok dd5) rfl rfl (Nat.le_of_ble_eq_true rfl) (by decide) e9 m11) (k_X_needRoom hV G8 a0 a1 (nI 1)) h (fun G12 _ h => ?_)
  refine Y.blk (pc' := 19) (L' := [some (.ref a0), some (.int a1), some (.int a2)]) (st' := [.ref a0, .int a1, .ref a0]) (sg := [(.aload_n 0, 0), (.iload_n 1, 0), (.aload_n 0, 0)]) (lSa_ok dd6) rfl ?_
  refine Y.getA fl_X_10 (lIa_ok dd7) h (fun v13 h => ?_)
  refine Y.blk (pc' := 23) (L' := [some (.ref a0), some (.int a1), some (.int a2)]) (st' := [.int a1, .ref v13, .int a1, .ref a0]) (sg := [(.iload_n 1, 0)]) (lSa_ok dd8) rfl ?_
  obtain ⟨_, o15, e14, m16, h⟩ := gOb_inv h
  refine Y.callI (yC.Vi (b := v13) (As := [.int a1]) (st := [.int a1, .ref a0]) (r := ("Partlister$Lists", T_I, 7)) hV.1 cb_I_lengthOf lk_X_34 in_I_lengthOf rfl se_I_lengthOf (lIa_ok dd9) rfl rfl (Nat.le_of_ble_eq_true rfl) (by decide) e14 m16) (k_I_lengthOf hV G12 v13 a1) h (fun v18 G17 _ h => ?_)
  refine Y.blk (pc' := 28) (L' := [some (.ref a0), some (.int a1), some (.int a2)]) (st' := [.int a2, .ref a0, .int v18, .int a1, .ref a0]) (sg := [(.aload_n 0, 0), (.iload_n 2, 0)]) (lSa_ok dd10) rfl ?_
  obtain ⟨_, o20, e19, m21, h⟩ := gOb_inv h
  refine Y.callI (yC.Vi (b := a0) (As := [.int a2]) (st := [.int v18, .int a1, .ref a0]) (r := ("Partlister", T_X, 5)) hV.1 cb_X_make lk_X_38 in_X_make rfl se_X_make (lIa_ok dd11) rfl rfl (Nat.le_of_ble_eq_true rfl) (by decide) e19 m21) (k_X_make hV G17 a0 a2) h (fun v23 G22 _ h => ?_)
  refine Y.blk (pc' := 32) (L' := [some (.ref a0), some (.int a1), some (.int a2)]) (st' := [.int (-1), .int v23, .int v18, .int a1, .ref a0]) (sg := [(.iconst (-1), -1)]) (lSa_ok dd12) rfl ?_
  obtain ⟨_, o25, e24, m26, h⟩ := gOb_inv h
  refine Y.callN (yC.Vi (b := a0) (As := [.int a1, .int v18, .int v23, .int (-1)]) (st := []) (r := ("Partlister", T_X, 5)) hV.1 cb_X_bringIn lk_X_41 in_X_bringIn rfl se_X_bringIn (lIa_ok dd13) rfl rfl (Nat.le_of_ble_eq_true rfl) (by decide) e24 m26) (k_X_bringIn hV G22 a0 a1 v18 v23 (-1)) h (fun G27 _ h => ?_)
  refine Y.blk (pc' := 36) (L' := [some (.ref a0), some (.int a1), some (.int a2)]) (st' := [.ref a0]) (sg := [(.aload_n 0, 0)]) (lSa_ok dd14) rfl ?_
  refine Y.getA fl_X_10 (lIa_ok dd15) h (fun v28 h => ?_)
  refine Y.blk (pc' := 40) (L' := [some (.ref a0), some (.int a1), some (.int a2)]) (st' := [.int a1, .ref v28]) (sg := [(.iload_n 1, 0)]) (lSa_ok dd16) rfl ?_
  obtain ⟨_, o30, e29, m31, h⟩ := gOb_inv h
  refine Y.callI (yC.Vi (b := v28) (As := [.int a1]) (st := []) (r := ("Partlister$Lists", T_I, 7)) hV.1 cb_I_lengthOf lk_X_34 in_I_lengthOf rfl se_I_lengthOf (lIa_ok dd17) rfl rfl (Nat.le_of_ble_eq_true rfl) (by decide) e29 m31) (k_I_lengthOf hV G27 v28 a1) h (fun v33 G32 _ h => ?_)
  exact Y.iret rfl (lIa_ok dd18) h

def f_X_bringAll_L24 (K59 : gH → Nat → Int32 → Int32 → gR) : Nat → gH → Nat → Int32 → Int32 → Int32 → Int32 → Int32 → gR
  | 0, _, _, _, _, _, _, _ => none
  | n + 1, G, x0, x1, x2, x3, x4, x5 =>
    if x4 ≤ x5 then K59 G x0 x1 x4
    else gFA G x0 3 0 fun v12 => gFA G x0 3 0 fun v13 => gOb G v13 1 fun o15 => bI (f_I_thingAt G v13 x3 x5) fun v18 G17 => gOb G17 v12 1 fun o20 => bV (f_I_write G17 v12 x1 (x2 + x5) v18) fun G22 => f_X_bringAll_L24 K59 n G22 x0 x1 x2 x3 x4 (x5 + (nI 1))
def f_X_bringAll (G : gH) (a0 : Nat) (a1 : Int32) (a2 : Int32) (a3 : Int32) : gR :=
  gFA G a0 3 0 fun v1 => gOb G v1 1 fun o3 => bI (f_I_lengthOf G v1 a3) fun v6 G5 => gFA G5 a0 3 0 fun v7 => gOb G5 v7 1 fun o9 => bV (f_I_openGap G5 v7 a1 a2 v6) fun G11 => f_X_bringAll_L24 (fun G27 x24 x25 x26 => if x26 ≤ 0 then rI x26 G27
    else gOb G27 x24 3 fun o29 => bV (f_X_endByLength G27 x24 x25 (-1)) fun G31 => rI x26 G31) zFu G11 a0 a1 a2 a3 v6 (nI 0)
theorem k_X_bringAll_L24 {l : Launch} {D : va_G} {B : Nat} {O : State → Heap → Prop} (hV : zG l D B O) {o : gO} {Gf : gH} (K59 : gH → Nat → Int32 → Int32 → gR) (hK59 : ∀ (G : gH) (x0 : Nat) (x1 : Int32) (x4 : Int32), K59 G x0 x1 x4 = some (o, Gf) → Y (zVm l D B O) m_X_bringAll 6 o Gf 59 [some (.ref x0), some (.int x1), none, none, some (.int x4), none] [] G) : ∀ (n : Nat) (G : gH) (x0 : Nat) (x1 : Int32) (x2 : Int32) (x3 : Int32) (x4 : Int32) (x5 : Int32), f_X_bringAll_L24 K59 n G x0 x1 x2 x3 x4 x5 = some (o, Gf) → Y (zVm l D B O) m_X_bringAll 6 o Gf 24 [some (.ref x0), some (.int x1), some (.int x2), some (.int x3), some (.int x4), some (.int x5)] [] G := by
  have hdd : lSa m_X_bringAll 24 [(.iload 5, 0), (.iload 4, 0)] = true ∧ lIa m_X_bringAll 28 (.if_icmp .ge 31) 3 = true ∧ lSa m_X_bringAll 31 [(.aload_n 0, 0)] = true ∧ lIa m_X_bringAll 32 (.getfield 10) 3 = true ∧ lSa m_X_bringAll 35 [(.iload_n 1, 0), (.iload_n 2, 0), (.iload 5, 0), (.iadd, 0), (.aload_n 0, 0)] = true ∧ lIa m_X_bringAll 41 (.getfield 10) 3 = true ∧ lSa m_X_bringAll 44 [(.iload_n 3, 0), (.iload 5, 0)] = true ∧ lIa m_X_bringAll 47 (.invokevirtual 94) 3 = true ∧ lIa m_X_bringAll 50 (.invokevirtual 65) 3 = true ∧ lSa m_X_bringAll 53 [(.iinc 5 1, nI 1)] = true ∧ lIa m_X_bringAll 56 (.goto (-32)) 3 = true := by decide +kernel
  refine lA8 hdd (fun dd0 dd1 dd2 dd3 dd4 dd5 dd6 dd7 hdd => ?_)
  obtain ⟨dd8, dd9, dd10⟩ := hdd
  intro n
  induction n with
  | zero => intro G x0 x1 x2 x3 x4 x5 h; cases h
  | succ n ih =>
    intro G x0 x1 x2 x3 x4 x5 h
    unfold f_X_bringAll_L24 at h
    refine Y.blk (pc' := 28) (L' := [some (.ref x0), some (.int x1), some (.int x2), some (.int x3), some (.int x4), some (.int x5)]) (st' := [.int x4, .int x5]) (sg := [(.iload 5, 0), (.iload 4, 0)]) (lSa_ok dd0) rfl ?_
    refine Y.ic_ge (off := 31) (tgt := 59) (lIa_ok dd1) (by decide) h (fun c23 h => ?_) (fun c23 h => ?_)
    · refine Y.less (L' := [some (.ref x0), some (.int x1), none, none, some (.int x4), none]) (zLe_some (zLe_some (zLe_none (zLe_none (zLe_some (zLe_none (zLe_nil))))))) ?_
      exact hK59 G x0 x1 x4 h
    · refine Y.blk (pc' := 32) (L' := [some (.ref x0), some (.int x1), some (.int x2), some (.int x3), some (.int x4), some (.int x5)]) (st' := [.ref x0]) (sg := [(.aload_n 0, 0)]) (lSa_ok dd2) rfl ?_
      refine Y.getA fl_X_10 (lIa_ok dd3) h (fun v12 h => ?_)
      refine Y.blk (pc' := 41) (L' := [some (.ref x0), some (.int x1), some (.int x2), some (.int x3), some (.int x4), some (.int x5)]) (st' := [.ref x0, .int (x2 + x5), .int x1, .ref v12]) (sg := [(.iload_n 1, 0), (.iload_n 2, 0), (.iload 5, 0), (.iadd, 0), (.aload_n 0, 0)]) (lSa_ok dd4) rfl ?_
      refine Y.getA fl_X_10 (lIa_ok dd5) h (fun v13 h => ?_)
      refine Y.blk (pc' := 47) (L' := [some (.ref x0), some (.int x1), some (.int x2), some (.int x3), some (.int x4), some (.int x5)]) (st' := [.int x5, .int x3, .ref v13, .int (x2 + x5), .int x1, .ref v12]) (sg := [(.iload_n 3, 0), (.iload 5, 0)]) (lSa_ok dd6) rfl ?_
      obtain ⟨_, o15, e14, m16, h⟩ := gOb_inv h
      refine Y.callI (yC.Vi (b := v13) (As := [.int x3, .int x5]) (st := [.int (x2 + x5), .int x1, .ref v12]) (r := ("Partlister$Lists", T_I, 7)) hV.1 cb_I_thingAt lk_X_94 in_I_thingAt rfl se_I_thingAt (lIa_ok dd7) rfl rfl (Nat.le_of_ble_eq_true rfl) (by decide) e14 m16) (k_I_thingAt hV G v13 x3 x5) h (fun v18 G17 _ h => ?_)
      obtain ⟨_, o20, e19, m21, h⟩ := gOb_inv h
      refine Y.callN (yC.Vi (b := v12) (As := [.int x1, .int (x2 + x5), .int v18]) (st := []) (r := ("Partlister$Lists", T_I, 7)) hV.1 cb_I_write lk_X_65 in_I_write rfl se_I_write (lIa_ok dd8) rfl rfl (Nat.le_of_ble_eq_true rfl) (by decide) e19 m21) (k_I_write hV G17 v12 x1 (x2 + x5) v18) h (fun G22 _ h => ?_)
      refine Y.blk (pc' := 56) (L' := [some (.ref x0), some (.int x1), some (.int x2), some (.int x3), some (.int x4), some (.int (x5 + (nI 1)))]) (st' := []) (sg := [(.iinc 5 1, nI 1)]) (lSa_ok dd9) rfl ?_
      refine Y.goto (off := -32) (tgt := 24) (lIa_ok dd10) (by decide) ?_
      exact ih G22 x0 x1 x2 x3 x4 (x5 + (nI 1)) h
theorem k_X_bringAll {l : Launch} {D : va_G} {B : Nat} {O : State → Heap → Prop} (hV : zG l D B O) (G : gH) (a0 : Nat) (a1 : Int32) (a2 : Int32) (a3 : Int32) : gMet (zVm l D B O) m_X_bringAll 6 [.ref a0, .int a1, .int a2, .int a3] G (f_X_bringAll G a0 a1 a2 a3) := by
  have hdd : lSa m_X_bringAll 0 [(.aload_n 0, 0)] = true ∧ lIa m_X_bringAll 1 (.getfield 10) 3 = true ∧ lSa m_X_bringAll 4 [(.iload_n 3, 0)] = true ∧ lIa m_X_bringAll 5 (.invokevirtual 34) 3 = true ∧ lSa m_X_bringAll 8 [(.istore 4, 0), (.aload_n 0, 0)] = true ∧ lIa m_X_bringAll 11 (.getfield 10) 3 = true ∧ lSa m_X_bringAll 14 [(.iload_n 1, 0), (.iload_n 2, 0), (.iload 4, 0)] = true ∧ lIa m_X_bringAll 18 (.invokevirtual 278) 3 = true ∧ lSa m_X_bringAll 21 [(.iconst 0, nI 0), (.istore 5, 0)] = true ∧ lSa m_X_bringAll 59 [(.iload 4, 0)] = true ∧ lIa m_X_bringAll 61 (.ifCond .le 9) 3 = true ∧ lSa m_X_bringAll 70 [(.iload 4, 0)] = true ∧ lIa m_X_bringAll 72 (.ireturn) 1 = true ∧ lSa m_X_bringAll 64 [(.aload_n 0, 0), (.iload_n 1, 0), (.iconst (-1), -1)] = true ∧ lIa m_X_bringAll 67 (.invokevirtual 281) 3 = true := by decide +kernel
  refine lA8 hdd (fun dd0 dd1 dd2 dd3 dd4 dd5 dd6 dd7 hdd => ?_)
  obtain ⟨dd8, dd9, dd10, dd11, dd12, dd13, dd14⟩ := hdd
  refine gMet.of (by decide +kernel) (Nat.le_of_ble_eq_true rfl) [some (.ref a0), some (.int a1), some (.int a2), some (.int a3), none, none] (fun ls h => zEn_ok (n := 6) h) ?_
  intro o Gf h
  unfold f_X_bringAll at h
  refine Y.blk (pc' := 1) (L' := [some (.ref a0), some (.int a1), some (.int a2), some (.int a3), none, none]) (st' := [.ref a0]) (sg := [(.aload_n 0, 0)]) (lSa_ok dd0) rfl ?_
  refine Y.getA fl_X_10 (lIa_ok dd1) h (fun v1 h => ?_)
  refine Y.blk (pc' := 5) (L' := [some (.ref a0), some (.int a1), some (.int a2), some (.int a3), none, none]) (st' := [.int a3, .ref v1]) (sg := [(.iload_n 3, 0)]) (lSa_ok dd2) rfl ?_
  obtain ⟨_, o3, e2, m4, h⟩ := gOb_inv h
  refine Y.callI (yC.Vi (b := v1) (As := [.int a3]) (st := []) (r := ("Partlister$Lists", T_I, 7)) hV.1 cb_I_lengthOf lk_X_34 in_I_lengthOf rfl se_I_lengthOf (lIa_ok dd3) rfl rfl (Nat.le_of_ble_eq_true rfl) (by decide) e2 m4) (k_I_lengthOf hV G v1 a3) h (fun v6 G5 _ h => ?_)
  refine Y.blk (pc' := 11) (L' := [some (.ref a0), some (.int a1), some (.int a2), some (.int a3), some (.int v6), none]) (st' := [.ref a0]) (sg := [(.istore 4, 0), (.aload_n 0, 0)]) (lSa_ok dd4) rfl ?_
  refine Y.getA fl_X_10 (lIa_ok dd5) h (fun v7 h => ?_)
  refine Y.blk (pc' := 18) (L' := [some (.ref a0), some (.int a1), some (.int a2), some (.int a3), some (.int v6), none]) (st' := [.int v6, .int a2, .int a1, .ref v7]) (sg := [(.iload_n 1, 0), (.iload_n 2, 0), (.iload 4, 0)]) (lSa_ok dd6) rfl ?_
  obtain ⟨_, o9, e8, m10, h⟩ := gOb_inv h
  refine Y.callN (yC.Vi (b := v7) (As := [.int a1, .int a2, .int v6]) (st := []) (r := ("Partlister$Lists", T_I, 7)) hV.1 cb_I_openGap lk_X_278 in_I_openGap rfl se_I_openGap (lIa_ok dd7) rfl rfl (Nat.le_of_ble_eq_true rfl) (by decide) e8 m10) (k_I_openGap hV G5 v7 a1 a2 v6) h (fun G11 _ h => ?_)
  refine Y.blk (pc' := 24) (L' := [some (.ref a0), some (.int a1), some (.int a2), some (.int a3), some (.int v6), some (.int (nI 0))]) (st' := []) (sg := [(.iconst 0, nI 0), (.istore 5, 0)]) (lSa_ok dd8) rfl ?_
  refine k_X_bringAll_L24 hV _ ?_  zFu G11 a0 a1 a2 a3 v6 (nI 0) h
  · intro G27 x24 x25 x26 h
    refine Y.blk (pc' := 61) (L' := [some (.ref x24), some (.int x25), none, none, some (.int x26), none]) (st' := [.int x26]) (sg := [(.iload 4, 0)]) (lSa_ok dd9) rfl ?_
    refine Y.if_le (off := 9) (tgt := 70) (lIa_ok dd10) (by decide) h (fun c32 h => ?_) (fun c32 h => ?_)
    · refine Y.blk (pc' := 72) (L' := [some (.ref x24), some (.int x25), none, none, some (.int x26), none]) (st' := [.int x26]) (sg := [(.iload 4, 0)]) (lSa_ok dd11) rfl ?_
      exact Y.iret rfl (lIa_ok dd12) h
    · refine Y.blk (pc' := 67) (L' := [some (.ref x24), some (.int x25), none, none, some (.int x26), none]) (st' := [.int (-1), .int x25, .ref x24]) (sg := [(.aload_n 0, 0), (.iload_n 1, 0), (.iconst (-1), -1)]) (lSa_ok dd13) rfl ?_
      obtain ⟨_, o29, e28, m30, h⟩ := gOb_inv h
      refine Y.callN (yC.Vi (b := x24) (As := [.int x25, .int (-1)]) (st := []) (r := ("Partlister", T_X, 5)) hV.1 cb_X_endByLength lk_X_281 in_X_endByLength rfl se_X_endByLength (lIa_ok dd14) rfl rfl (Nat.le_of_ble_eq_true rfl) (by decide) e28 m30) (k_X_endByLength hV G27 x24 x25 (-1)) h (fun G31 _ h => ?_)
      refine Y.blk (pc' := 72) (L' := [some (.ref x24), some (.int x25), none, none, some (.int x26), none]) (st' := [.int x26]) (sg := [(.iload 4, 0)]) (lSa_ok dd11) rfl ?_
      exact Y.iret rfl (lIa_ok dd12) h

def f_X_needGap (G : gH) (a0 : Nat) (a1 : Int32) (a2 : Int32) : gR :=
  if a2 < 0 then gThrow "java/lang/IndexOutOfBoundsException" G
  else gFA G a0 3 0 fun v1 => gOb G v1 1 fun o3 => bI (f_I_lengthOf G v1 a1) fun v6 G5 => if a2 ≤ v6 then rV G5
    else gThrow "java/lang/IndexOutOfBoundsException" G5
theorem k_X_needGap {l : Launch} {D : va_G} {B : Nat} {O : State → Heap → Prop} (hV : zG l D B O) (G : gH) (a0 : Nat) (a1 : Int32) (a2 : Int32) : gMet (zVm l D B O) m_X_needGap 6 [.ref a0, .int a1, .int a2] G (f_X_needGap G a0 a1 a2) := by
  have hdd : lSa m_X_needGap 0 [(.iload_n 2, 0)] = true ∧ lIa m_X_needGap 1 (.ifCond .lt 15) 3 = true ∧ lIa m_X_needGap 16 (.new 125) 3 = true ∧ lIa m_X_needGap 19 (.dup) 1 = true ∧ lIa m_X_needGap 20 (.ldc_w 339) 3 = true ∧ lIa m_X_needGap 23 (.invokespecial 129) 3 = true ∧ lIa m_X_needGap 26 (.athrow) 1 = true ∧ lSa m_X_needGap 4 [(.iload_n 2, 0), (.aload_n 0, 0)] = true ∧ lIa m_X_needGap 6 (.getfield 10) 3 = true ∧ lSa m_X_needGap 9 [(.iload_n 1, 0)] = true ∧ lIa m_X_needGap 10 (.invokevirtual 34) 3 = true ∧ lIa m_X_needGap 13 (.if_icmp .le 14) 3 = true ∧ lIa m_X_needGap 27 (.return_) 1 = true := by decide +kernel
  refine lA8 hdd (fun dd0 dd1 dd2 dd3 dd4 dd5 dd6 dd7 hdd => ?_)
  obtain ⟨dd8, dd9, dd10, dd11, dd12⟩ := hdd
  refine gMet.of (by decide +kernel) (Nat.le_of_ble_eq_true rfl) [some (.ref a0), some (.int a1), some (.int a2)] (fun ls h => zEn_ok (n := 3) h) ?_
  intro o Gf h
  unfold f_X_needGap at h
  refine Y.blk (pc' := 1) (L' := [some (.ref a0), some (.int a1), some (.int a2)]) (st' := [.int a2]) (sg := [(.iload_n 2, 0)]) (lSa_ok dd0) rfl ?_
  refine Y.if_lt (off := 15) (tgt := 16) (lIa_ok dd1) (by decide) h (fun c8 h => ?_) (fun c8 h => ?_)
  · exact Y.throwSW (is := 339) (text := "not 0 to LENGTH") (names := zNm) hV.1 (hV.2 _ _ _ (by decide +kernel)) (by decide +kernel) (by decide +kernel) ck_X_125 ini_IOE tw_X_129 tg_X_129 (by decide) (by decide) rfl (Nat.le_of_ble_eq_true rfl) (lIa_ok dd2) (lIa_ok dd3) (lIa_ok dd4) (lIa_ok dd5) (lIa_ok dd6) h
  · refine Y.blk (pc' := 6) (L' := [some (.ref a0), some (.int a1), some (.int a2)]) (st' := [.ref a0, .int a2]) (sg := [(.iload_n 2, 0), (.aload_n 0, 0)]) (lSa_ok dd7) rfl ?_
    refine Y.getA fl_X_10 (lIa_ok dd8) h (fun v1 h => ?_)
    refine Y.blk (pc' := 10) (L' := [some (.ref a0), some (.int a1), some (.int a2)]) (st' := [.int a1, .ref v1, .int a2]) (sg := [(.iload_n 1, 0)]) (lSa_ok dd9) rfl ?_
    obtain ⟨_, o3, e2, m4, h⟩ := gOb_inv h
    refine Y.callI (yC.Vi (b := v1) (As := [.int a1]) (st := [.int a2]) (r := ("Partlister$Lists", T_I, 7)) hV.1 cb_I_lengthOf lk_X_34 in_I_lengthOf rfl se_I_lengthOf (lIa_ok dd10) rfl rfl (Nat.le_of_ble_eq_true rfl) (by decide) e2 m4) (k_I_lengthOf hV G v1 a1) h (fun v6 G5 _ h => ?_)
    refine Y.ic_le (off := 14) (tgt := 27) (lIa_ok dd11) (by decide) h (fun c7 h => ?_) (fun c7 h => ?_)
    · exact Y.vret rfl (lIa_ok dd12) h
    · exact Y.throwSW (is := 339) (text := "not 0 to LENGTH") (names := zNm) hV.1 (hV.2 _ _ _ (by decide +kernel)) (by decide +kernel) (by decide +kernel) ck_X_125 ini_IOE tw_X_129 tg_X_129 (by decide) (by decide) rfl (Nat.le_of_ble_eq_true rfl) (lIa_ok dd2) (lIa_ok dd3) (lIa_ok dd4) (lIa_ok dd5) (lIa_ok dd6) h

def f_X_needOtherRow (G : gH) (a0 : Nat) (a1 : Int32) (a2 : Int32) : gR :=
  gFA G a0 3 0 fun v1 => gOb G v1 1 fun o3 => bI (f_I_rowOf G v1 a1) fun v6 G5 => gFA G5 a0 3 0 fun v7 => gOb G5 v7 1 fun o9 => bI (f_I_rowOf G5 v7 a2) fun v12 G11 => if v6 = v12 then gThrow "java/lang/IllegalStateException" G11
  else rV G11
theorem k_X_needOtherRow {l : Launch} {D : va_G} {B : Nat} {O : State → Heap → Prop} (hV : zG l D B O) (G : gH) (a0 : Nat) (a1 : Int32) (a2 : Int32) : gMet (zVm l D B O) m_X_needOtherRow 6 [.ref a0, .int a1, .int a2] G (f_X_needOtherRow G a0 a1 a2) := by
  have hdd : lSa m_X_needOtherRow 0 [(.aload_n 0, 0)] = true ∧ lIa m_X_needOtherRow 1 (.getfield 10) 3 = true ∧ lSa m_X_needOtherRow 4 [(.iload_n 1, 0)] = true ∧ lIa m_X_needOtherRow 5 (.invokevirtual 299) 3 = true ∧ lSa m_X_needOtherRow 8 [(.aload_n 0, 0)] = true ∧ lIa m_X_needOtherRow 9 (.getfield 10) 3 = true ∧ lSa m_X_needOtherRow 12 [(.iload_n 2, 0)] = true ∧ lIa m_X_needOtherRow 13 (.invokevirtual 299) 3 = true ∧ lIa m_X_needOtherRow 16 (.if_icmp .ne 14) 3 = true ∧ lIa m_X_needOtherRow 19 (.new 134) 3 = true ∧ lIa m_X_needOtherRow 22 (.dup) 1 = true ∧ lIa m_X_needOtherRow 23 (.ldc_w 345) 3 = true ∧ lIa m_X_needOtherRow 26 (.invokespecial 138) 3 = true ∧ lIa m_X_needOtherRow 29 (.athrow) 1 = true ∧ lIa m_X_needOtherRow 30 (.return_) 1 = true := by decide +kernel
  refine lA8 hdd (fun dd0 dd1 dd2 dd3 dd4 dd5 dd6 dd7 hdd => ?_)
  obtain ⟨dd8, dd9, dd10, dd11, dd12, dd13, dd14⟩ := hdd
  refine gMet.of (by decide +kernel) (Nat.le_of_ble_eq_true rfl) [some (.ref a0), some (.int a1), some (.int a2)] (fun ls h => zEn_ok (n := 3) h) ?_
  intro o Gf h
  unfold f_X_needOtherRow at h
  refine Y.blk (pc' := 1) (L' := [some (.ref a0), some (.int a1), some (.int a2)]) (st' := [.ref a0]) (sg := [(.aload_n 0, 0)]) (lSa_ok dd0) rfl ?_
  refine Y.getA fl_X_10 (lIa_ok dd1) h (fun v1 h => ?_)
  refine Y.blk (pc' := 5) (L' := [some (.ref a0), some (.int a1), some (.int a2)]) (st' := [.int a1, .ref v1]) (sg := [(.iload_n 1, 0)]) (lSa_ok dd2) rfl ?_
  obtain ⟨_, o3, e2, m4, h⟩ := gOb_inv h
  refine Y.callI (yC.Vi (b := v1) (As := [.int a1]) (st := []) (r := ("Partlister$Lists", T_I, 7)) hV.1 cb_I_rowOf lk_X_299 in_I_rowOf rfl se_I_rowOf (lIa_ok dd3) rfl rfl (Nat.le_of_ble_eq_true rfl) (by decide) e2 m4) (k_I_rowOf hV G v1 a1) h (fun v6 G5 _ h => ?_)
  refine Y.blk (pc' := 9) (L' := [some (.ref a0), some (.int a1), some (.int a2)]) (st' := [.ref a0, .int v6]) (sg := [(.aload_n 0, 0)]) (lSa_ok dd4) rfl ?_
  refine Y.getA fl_X_10 (lIa_ok dd5) h (fun v7 h => ?_)
  refine Y.blk (pc' := 13) (L' := [some (.ref a0), some (.int a1), some (.int a2)]) (st' := [.int a2, .ref v7, .int v6]) (sg := [(.iload_n 2, 0)]) (lSa_ok dd6) rfl ?_
  obtain ⟨_, o9, e8, m10, h⟩ := gOb_inv h
  refine Y.callI (yC.Vi (b := v7) (As := [.int a2]) (st := [.int v6]) (r := ("Partlister$Lists", T_I, 7)) hV.1 cb_I_rowOf lk_X_299 in_I_rowOf rfl se_I_rowOf (lIa_ok dd7) rfl rfl (Nat.le_of_ble_eq_true rfl) (by decide) e8 m10) (k_I_rowOf hV G5 v7 a2) h (fun v12 G11 _ h => ?_)
  refine Y.ic_ne (off := 14) (tgt := 30) (lIa_ok dd8) (by decide) h (fun c13 h => ?_) (fun c13 h => ?_)
  · exact Y.throwSW (is := 345) (text := "both are of the same ROW") (names := zNm) hV.1 (hV.2 _ _ _ (by decide +kernel)) (by decide +kernel) (by decide +kernel) ck_X_134 ini_ISE tw_X_138 tg_X_138 (by decide) (by decide) rfl (Nat.le_of_ble_eq_true rfl) (lIa_ok dd9) (lIa_ok dd10) (lIa_ok dd11) (lIa_ok dd12) (lIa_ok dd13) h
  · exact Y.vret rfl (lIa_ok dd14) h
