def f_M_areNone (G : gH) (a0 : Nat) (a1 : Int32) (a2 : Int32) : gR :=
  gOb G a0 6 fun o2 => bI (f_M_isNoList G a0 a1) fun v5 G4 => if v5 = 0 then (gOb G4 a0 6 fun o7 => bI (f_M_isNoList G4 a0 a2) fun v10 G9 => if v10 = 0 then gOb G9 a0 6 fun o12 => bI (f_M_start G9 a0 (nI 0) (nI 1)) fun v15 G14 => rZ v15 G14
    else gOb G9 a0 6 fun o17 => bI (f_M_start G9 a0 (nI 1) (nI 1)) fun v20 G19 => rZ v20 G19)
  else gOb G4 a0 6 fun o23 => bI (f_M_start G4 a0 (nI 1) (nI 1)) fun v26 G25 => rZ v26 G25
theorem k_M_areNone {l : Launch} {D : va_G} {B : Nat} {O : State → Heap → Prop} (hV : zG l D B O) (G : gH) (a0 : Nat) (a1 : Int32) (a2 : Int32) : gMet (zVm l D B O) m_M_areNone 4 [.ref a0, .int a1, .int a2] G (f_M_areNone G a0 a1 a2) := by
  have hdd : lSa m_M_areNone 0 [(.aload_n 0, 0), (.aload_n 0, 0), (.iload_n 1, 0)] = true ∧ lIa m_M_areNone 3 (.invokevirtual 110) 3 = true ∧ lIa m_M_areNone 6 (.ifCond .ne 11) 3 = true ∧ lSa m_M_areNone 9 [(.aload_n 0, 0), (.iload_n 2, 0)] = true ∧ lIa m_M_areNone 11 (.invokevirtual 110) 3 = true ∧ lIa m_M_areNone 14 (.ifCond .eq 7) 3 = true ∧ lSa m_M_areNone 21 [(.iconst 0, nI 0), (.iconst 1, nI 1)] = true ∧ lIa m_M_areNone 23 (.invokevirtual 114) 3 = true ∧ lIa m_M_areNone 26 (.ireturn) 1 = true ∧ lSa m_M_areNone 17 [(.iconst 1, nI 1)] = true ∧ lIa m_M_areNone 18 (.goto 4) 3 = true ∧ lSa m_M_areNone 22 [(.iconst 1, nI 1)] = true := by decide +kernel
  refine lA8 hdd (fun dd0 dd1 dd2 dd3 dd4 dd5 dd6 dd7 hdd => ?_)
  obtain ⟨dd8, dd9, dd10, dd11⟩ := hdd
  refine gMet.of (by decide +kernel) (Nat.le_of_ble_eq_true rfl) [some (.ref a0), some (.int a1), some (.int a2)] (fun ls h => zEn_ok (n := 3) h) ?_
  intro o Gf h
  unfold f_M_areNone at h
  refine Y.blk (pc' := 3) (L' := [some (.ref a0), some (.int a1), some (.int a2)]) (st' := [.int a1, .ref a0, .ref a0]) (sg := [(.aload_n 0, 0), (.aload_n 0, 0), (.iload_n 1, 0)]) (lSa_ok dd0) rfl ?_
  obtain ⟨_, o2, e1, m3, h⟩ := gOb_inv h
  refine Y.callI (yC.Vi (b := a0) (As := [.int a1]) (st := [.ref a0]) (r := ("PartlisterModel", T_M, 9)) hV.1 cb_M_isNoList lk_M_110 in_M_isNoList rfl se_M_isNoList (lIa_ok dd1) rfl rfl (Nat.le_of_ble_eq_true rfl) (by decide) e1 m3) (k_M_isNoList hV G a0 a1) h (fun v5 G4 _ h => ?_)
  refine Y.if_ne (off := 11) (tgt := 17) (lIa_ok dd2) (by decide) h (fun c27 h => ?_) (fun c27 h => ?_)
  · refine Y.blk (pc' := 11) (L' := [some (.ref a0), some (.int a1), some (.int a2)]) (st' := [.int a2, .ref a0, .ref a0]) (sg := [(.aload_n 0, 0), (.iload_n 2, 0)]) (lSa_ok dd3) rfl ?_
    obtain ⟨_, o7, e6, m8, h⟩ := gOb_inv h
    refine Y.callI (yC.Vi (b := a0) (As := [.int a2]) (st := [.ref a0]) (r := ("PartlisterModel", T_M, 9)) hV.1 cb_M_isNoList lk_M_110 in_M_isNoList rfl se_M_isNoList (lIa_ok dd4) rfl rfl (Nat.le_of_ble_eq_true rfl) (by decide) e6 m8) (k_M_isNoList hV G4 a0 a2) h (fun v10 G9 _ h => ?_)
    refine Y.if_eq (off := 7) (tgt := 21) (lIa_ok dd5) (by decide) h (fun c21 h => ?_) (fun c21 h => ?_)
    · refine Y.blk (pc' := 23) (L' := [some (.ref a0), some (.int a1), some (.int a2)]) (st' := [.int (nI 1), .int (nI 0), .ref a0]) (sg := [(.iconst 0, nI 0), (.iconst 1, nI 1)]) (lSa_ok dd6) rfl ?_
      obtain ⟨_, o12, e11, m13, h⟩ := gOb_inv h
      refine Y.callI (yC.Vi (b := a0) (As := [.int (nI 0), .int (nI 1)]) (st := []) (r := ("PartlisterModel", T_M, 9)) hV.1 cb_M_start lk_M_114 in_M_start rfl se_M_start (lIa_ok dd7) rfl rfl (Nat.le_of_ble_eq_true rfl) (by decide) e11 m13) (k_M_start hV G9 a0 (nI 0) (nI 1)) h (fun v15 G14 _ h => ?_)
      exact Y.zret rfl (lIa_ok dd8) h
    · refine Y.blk (pc' := 18) (L' := [some (.ref a0), some (.int a1), some (.int a2)]) (st' := [.int (nI 1), .ref a0]) (sg := [(.iconst 1, nI 1)]) (lSa_ok dd9) rfl ?_
      refine Y.goto (off := 4) (tgt := 22) (lIa_ok dd10) (by decide) ?_
      refine Y.blk (pc' := 23) (L' := [some (.ref a0), some (.int a1), some (.int a2)]) (st' := [.int (nI 1), .int (nI 1), .ref a0]) (sg := [(.iconst 1, nI 1)]) (lSa_ok dd11) rfl ?_
      obtain ⟨_, o17, e16, m18, h⟩ := gOb_inv h
      refine Y.callI (yC.Vi (b := a0) (As := [.int (nI 1), .int (nI 1)]) (st := []) (r := ("PartlisterModel", T_M, 9)) hV.1 cb_M_start lk_M_114 in_M_start rfl se_M_start (lIa_ok dd7) rfl rfl (Nat.le_of_ble_eq_true rfl) (by decide) e16 m18) (k_M_start hV G9 a0 (nI 1) (nI 1)) h (fun v20 G19 _ h => ?_)
      exact Y.zret rfl (lIa_ok dd8) h
  · refine Y.blk (pc' := 18) (L' := [some (.ref a0), some (.int a1), some (.int a2)]) (st' := [.int (nI 1), .ref a0]) (sg := [(.iconst 1, nI 1)]) (lSa_ok dd9) rfl ?_
    refine Y.goto (off := 4) (tgt := 22) (lIa_ok dd10) (by decide) ?_
    refine Y.blk (pc' := 23) (L' := [some (.ref a0), some (.int a1), some (.int a2)]) (st' := [.int (nI 1), .int (nI 1), .ref a0]) (sg := [(.iconst 1, nI 1)]) (lSa_ok dd11) rfl ?_
    obtain ⟨_, o23, e22, m24, h⟩ := gOb_inv h
    refine Y.callI (yC.Vi (b := a0) (As := [.int (nI 1), .int (nI 1)]) (st := []) (r := ("PartlisterModel", T_M, 9)) hV.1 cb_M_start lk_M_114 in_M_start rfl se_M_start (lIa_ok dd7) rfl rfl (Nat.le_of_ble_eq_true rfl) (by decide) e22 m24) (k_M_start hV G4 a0 (nI 1) (nI 1)) h (fun v26 G25 _ h => ?_)
    exact Y.zret rfl (lIa_ok dd8) h

def f_M_firstOf_L2 (K23 : gH → Int32 → gR) (K31 : gH → gR) : Nat → gH → Nat → Int32 → Int32 → Int32 → gR
  | 0, _, _, _, _, _ => none
  | n + 1, G, x0, x1, x2, x3 =>
    gOb G x0 6 fun o2 => bI (f_M_length G x0 x1) fun v5 G4 => if v5 ≤ x3 then K31 G4
    else gOb G4 x0 6 fun o7 => bA (f_M_at G4 x0 x1 x3) fun v10 G9 => gLd G9 v10 100 (nI 0) fun v11 => if v11 = x2 then K23 G9 x3
      else f_M_firstOf_L2 K23 K31 n G9 x0 x1 x2 (x3 + (nI 1))
def f_M_firstOf (G : gH) (a0 : Nat) (a1 : Int32) (a2 : Int32) : gR :=
  f_M_firstOf_L2 (fun G15 x14 => rI x14 G15) (fun G16 => rI (-1) G16) zFu G a0 a1 a2 (nI 0)
theorem k_M_firstOf_L2 {l : Launch} {D : va_G} {B : Nat} {O : State → Heap → Prop} (hV : zG l D B O) {o : gO} {Gf : gH} (K23 : gH → Int32 → gR) (K31 : gH → gR) (hK23 : ∀ (G : gH) (x3 : Int32), K23 G x3 = some (o, Gf) → Y (zVm l D B O) m_M_firstOf 13 o Gf 23 [none, none, none, some (.int x3)] [] G) (hK31 : ∀ (G : gH), K31 G  = some (o, Gf) → Y (zVm l D B O) m_M_firstOf 13 o Gf 31 [none, none, none, none] [] G) : ∀ (n : Nat) (G : gH) (x0 : Nat) (x1 : Int32) (x2 : Int32) (x3 : Int32), f_M_firstOf_L2 K23 K31 n G x0 x1 x2 x3 = some (o, Gf) → Y (zVm l D B O) m_M_firstOf 13 o Gf 2 [some (.ref x0), some (.int x1), some (.int x2), some (.int x3)] [] G := by
  have hdd : lSa m_M_firstOf 2 [(.iload_n 3, 0), (.aload_n 0, 0), (.iload_n 1, 0)] = true ∧ lIa m_M_firstOf 5 (.invokevirtual 74) 3 = true ∧ lIa m_M_firstOf 8 (.if_icmp .ge 23) 3 = true ∧ lSa m_M_firstOf 11 [(.aload_n 0, 0), (.iload_n 1, 0), (.iload_n 3, 0)] = true ∧ lIa m_M_firstOf 14 (.invokevirtual 132) 3 = true ∧ lSa m_M_firstOf 17 [(.iconst 0, nI 0)] = true ∧ lIa m_M_firstOf 18 (.iaload) 1 = true ∧ lSa m_M_firstOf 19 [(.iload_n 2, 0)] = true ∧ lIa m_M_firstOf 20 (.if_icmp .ne 5) 3 = true ∧ lSa m_M_firstOf 25 [(.iinc 3 1, nI 1)] = true ∧ lIa m_M_firstOf 28 (.goto (-26)) 3 = true := by decide +kernel
  refine lA8 hdd (fun dd0 dd1 dd2 dd3 dd4 dd5 dd6 dd7 hdd => ?_)
  obtain ⟨dd8, dd9, dd10⟩ := hdd
  intro n
  induction n with
  | zero => intro G x0 x1 x2 x3 h; cases h
  | succ n ih =>
    intro G x0 x1 x2 x3 h
    unfold f_M_firstOf_L2 at h
    refine Y.blk (pc' := 5) (L' := [some (.ref x0), some (.int x1), some (.int x2), some (.int x3)]) (st' := [.int x1, .ref x0, .int x3]) (sg := [(.iload_n 3, 0), (.aload_n 0, 0), (.iload_n 1, 0)]) (lSa_ok dd0) rfl ?_
    obtain ⟨_, o2, e1, m3, h⟩ := gOb_inv h
    refine Y.callI (yC.Vi (b := x0) (As := [.int x1]) (st := [.int x3]) (r := ("PartlisterModel", T_M, 9)) hV.1 cb_M_length lk_M_74 in_M_length rfl se_M_length (lIa_ok dd1) rfl rfl (Nat.le_of_ble_eq_true rfl) (by decide) e1 m3) (k_M_length hV G x0 x1) h (fun v5 G4 _ h => ?_)
    refine Y.ic_ge (off := 23) (tgt := 31) (lIa_ok dd2) (by decide) h (fun c13 h => ?_) (fun c13 h => ?_)
    · refine Y.less (L' := [none, none, none, none]) (zLe_none (zLe_none (zLe_none (zLe_none (zLe_nil))))) ?_
      exact hK31 G4  h
    · refine Y.blk (pc' := 14) (L' := [some (.ref x0), some (.int x1), some (.int x2), some (.int x3)]) (st' := [.int x3, .int x1, .ref x0]) (sg := [(.aload_n 0, 0), (.iload_n 1, 0), (.iload_n 3, 0)]) (lSa_ok dd3) rfl ?_
      obtain ⟨_, o7, e6, m8, h⟩ := gOb_inv h
      refine Y.callA (yC.Vi (b := x0) (As := [.int x1, .int x3]) (st := []) (r := ("PartlisterModel", T_M, 9)) hV.1 cb_M_at lk_M_132 in_M_at rfl se_M_at (lIa_ok dd4) rfl rfl (Nat.le_of_ble_eq_true rfl) (by decide) e6 m8) (k_M_at hV G4 x0 x1 x3) h (fun v10 G9 _ h => ?_)
      refine Y.blk (pc' := 18) (L' := [some (.ref x0), some (.int x1), some (.int x2), some (.int x3)]) (st' := [.int (nI 0), .ref v10]) (sg := [(.iconst 0, nI 0)]) (lSa_ok dd5) rfl ?_
      refine Y.iald (t0 := 0) (lIa_ok dd6) rfl h (fun v11 h => ?_)
      refine Y.blk (pc' := 20) (L' := [some (.ref x0), some (.int x1), some (.int x2), some (.int x3)]) (st' := [.int x2, .int v11]) (sg := [(.iload_n 2, 0)]) (lSa_ok dd7) rfl ?_
      refine Y.ic_ne (off := 5) (tgt := 25) (lIa_ok dd8) (by decide) h (fun c12 h => ?_) (fun c12 h => ?_)
      · refine Y.less (L' := [none, none, none, some (.int x3)]) (zLe_none (zLe_none (zLe_none (zLe_some (zLe_nil))))) ?_
        exact hK23 G9 x3 h
      · refine Y.blk (pc' := 28) (L' := [some (.ref x0), some (.int x1), some (.int x2), some (.int (x3 + (nI 1)))]) (st' := []) (sg := [(.iinc 3 1, nI 1)]) (lSa_ok dd9) rfl ?_
        refine Y.goto (off := -26) (tgt := 2) (lIa_ok dd10) (by decide) ?_
        exact ih G9 x0 x1 x2 (x3 + (nI 1)) h
theorem k_M_firstOf {l : Launch} {D : va_G} {B : Nat} {O : State → Heap → Prop} (hV : zG l D B O) (G : gH) (a0 : Nat) (a1 : Int32) (a2 : Int32) : gMet (zVm l D B O) m_M_firstOf 13 [.ref a0, .int a1, .int a2] G (f_M_firstOf G a0 a1 a2) := by
  have hdd : lSa m_M_firstOf 0 [(.iconst 0, nI 0), (.istore_n 3, 0)] = true ∧ lSa m_M_firstOf 23 [(.iload_n 3, 0)] = true ∧ lIa m_M_firstOf 24 (.ireturn) 1 = true ∧ lSa m_M_firstOf 31 [(.iconst (-1), -1)] = true ∧ lIa m_M_firstOf 32 (.ireturn) 1 = true := by decide +kernel
  obtain ⟨dd0, dd1, dd2, dd3, dd4⟩ := hdd
  refine gMet.of (by decide +kernel) (Nat.le_of_ble_eq_true rfl) [some (.ref a0), some (.int a1), some (.int a2), none] (fun ls h => zEn_ok (n := 4) h) ?_
  intro o Gf h
  unfold f_M_firstOf at h
  refine Y.blk (pc' := 2) (L' := [some (.ref a0), some (.int a1), some (.int a2), some (.int (nI 0))]) (st' := []) (sg := [(.iconst 0, nI 0), (.istore_n 3, 0)]) (lSa_ok dd0) rfl ?_
  refine k_M_firstOf_L2 hV _ _ ?_ ?_  zFu G a0 a1 a2 (nI 0) h
  · intro G15 x14 h
    refine Y.blk (pc' := 24) (L' := [none, none, none, some (.int x14)]) (st' := [.int x14]) (sg := [(.iload_n 3, 0)]) (lSa_ok dd1) rfl ?_
    exact Y.iret rfl (lIa_ok dd2) h
  · intro G16 h
    refine Y.blk (pc' := 32) (L' := [none, none, none, none]) (st' := [.int (-1)]) (sg := [(.iconst (-1), -1)]) (lSa_ok dd3) rfl ?_
    exact Y.iret rfl (lIa_ok dd4) h

def f_M_hasNoneOf_L2 (K28 : gH → gR) (K36 : gH → gR) : Nat → gH → Nat → Int32 → Int32 → Int32 → gR
  | 0, _, _, _, _, _ => none
  | n + 1, G, x0, x1, x2, x3 =>
    gOb G x0 6 fun o2 => bI (f_M_length G x0 x2) fun v5 G4 => if v5 ≤ x3 then K36 G4
    else gOb G4 x0 6 fun o7 => bA (f_M_at G4 x0 x2 x3) fun v10 G9 => gLd G9 v10 100 (nI 0) fun v11 => gOb G9 x0 6 fun o13 => bI (f_M_firstOf G9 x0 x1 v11) fun v16 G15 => if v16 = (-1) then f_M_hasNoneOf_L2 K28 K36 n G15 x0 x1 x2 (x3 + (nI 1))
      else K28 G15
def f_M_hasNoneOf (G : gH) (a0 : Nat) (a1 : Int32) (a2 : Int32) : gR :=
  f_M_hasNoneOf_L2 (fun G19 => rZ (nI 0) G19) (fun G20 => rZ (nI 1) G20) zFu G a0 a1 a2 (nI 0)
theorem k_M_hasNoneOf_L2 {l : Launch} {D : va_G} {B : Nat} {O : State → Heap → Prop} (hV : zG l D B O) {o : gO} {Gf : gH} (K28 : gH → gR) (K36 : gH → gR) (hK28 : ∀ (G : gH), K28 G  = some (o, Gf) → Y (zVm l D B O) m_M_hasNoneOf 14 o Gf 28 [none, none, none, none] [] G) (hK36 : ∀ (G : gH), K36 G  = some (o, Gf) → Y (zVm l D B O) m_M_hasNoneOf 14 o Gf 36 [none, none, none, none] [] G) : ∀ (n : Nat) (G : gH) (x0 : Nat) (x1 : Int32) (x2 : Int32) (x3 : Int32), f_M_hasNoneOf_L2 K28 K36 n G x0 x1 x2 x3 = some (o, Gf) → Y (zVm l D B O) m_M_hasNoneOf 14 o Gf 2 [some (.ref x0), some (.int x1), some (.int x2), some (.int x3)] [] G := by
  have hdd : lSa m_M_hasNoneOf 2 [(.iload_n 3, 0), (.aload_n 0, 0), (.iload_n 2, 0)] = true ∧ lIa m_M_hasNoneOf 5 (.invokevirtual 74) 3 = true ∧ lIa m_M_hasNoneOf 8 (.if_icmp .ge 28) 3 = true ∧ lSa m_M_hasNoneOf 11 [(.aload_n 0, 0), (.iload_n 1, 0), (.aload_n 0, 0), (.iload_n 2, 0), (.iload_n 3, 0)] = true ∧ lIa m_M_hasNoneOf 16 (.invokevirtual 132) 3 = true ∧ lSa m_M_hasNoneOf 19 [(.iconst 0, nI 0)] = true ∧ lIa m_M_hasNoneOf 20 (.iaload) 1 = true ∧ lIa m_M_hasNoneOf 21 (.invokevirtual 163) 3 = true ∧ lSa m_M_hasNoneOf 24 [(.iconst (-1), -1)] = true ∧ lIa m_M_hasNoneOf 25 (.if_icmp .eq 5) 3 = true ∧ lSa m_M_hasNoneOf 30 [(.iinc 3 1, nI 1)] = true ∧ lIa m_M_hasNoneOf 33 (.goto (-31)) 3 = true := by decide +kernel
  refine lA8 hdd (fun dd0 dd1 dd2 dd3 dd4 dd5 dd6 dd7 hdd => ?_)
  obtain ⟨dd8, dd9, dd10, dd11⟩ := hdd
  intro n
  induction n with
  | zero => intro G x0 x1 x2 x3 h; cases h
  | succ n ih =>
    intro G x0 x1 x2 x3 h
    unfold f_M_hasNoneOf_L2 at h
    refine Y.blk (pc' := 5) (L' := [some (.ref x0), some (.int x1), some (.int x2), some (.int x3)]) (st' := [.int x2, .ref x0, .int x3]) (sg := [(.iload_n 3, 0), (.aload_n 0, 0), (.iload_n 2, 0)]) (lSa_ok dd0) rfl ?_
    obtain ⟨_, o2, e1, m3, h⟩ := gOb_inv h
    refine Y.callI (yC.Vi (b := x0) (As := [.int x2]) (st := [.int x3]) (r := ("PartlisterModel", T_M, 9)) hV.1 cb_M_length lk_M_74 in_M_length rfl se_M_length (lIa_ok dd1) rfl rfl (Nat.le_of_ble_eq_true rfl) (by decide) e1 m3) (k_M_length hV G x0 x2) h (fun v5 G4 _ h => ?_)
    refine Y.ic_ge (off := 28) (tgt := 36) (lIa_ok dd2) (by decide) h (fun c18 h => ?_) (fun c18 h => ?_)
    · refine Y.less (L' := [none, none, none, none]) (zLe_none (zLe_none (zLe_none (zLe_none (zLe_nil))))) ?_
      exact hK36 G4  h
    · refine Y.blk (pc' := 16) (L' := [some (.ref x0), some (.int x1), some (.int x2), some (.int x3)]) (st' := [.int x3, .int x2, .ref x0, .int x1, .ref x0]) (sg := [(.aload_n 0, 0), (.iload_n 1, 0), (.aload_n 0, 0), (.iload_n 2, 0), (.iload_n 3, 0)]) (lSa_ok dd3) rfl ?_
      obtain ⟨_, o7, e6, m8, h⟩ := gOb_inv h
      refine Y.callA (yC.Vi (b := x0) (As := [.int x2, .int x3]) (st := [.int x1, .ref x0]) (r := ("PartlisterModel", T_M, 9)) hV.1 cb_M_at lk_M_132 in_M_at rfl se_M_at (lIa_ok dd4) rfl rfl (Nat.le_of_ble_eq_true rfl) (by decide) e6 m8) (k_M_at hV G4 x0 x2 x3) h (fun v10 G9 _ h => ?_)
      refine Y.blk (pc' := 20) (L' := [some (.ref x0), some (.int x1), some (.int x2), some (.int x3)]) (st' := [.int (nI 0), .ref v10, .int x1, .ref x0]) (sg := [(.iconst 0, nI 0)]) (lSa_ok dd5) rfl ?_
      refine Y.iald (t0 := 0) (lIa_ok dd6) rfl h (fun v11 h => ?_)
      obtain ⟨_, o13, e12, m14, h⟩ := gOb_inv h
      refine Y.callI (yC.Vi (b := x0) (As := [.int x1, .int v11]) (st := []) (r := ("PartlisterModel", T_M, 9)) hV.1 cb_M_firstOf lk_M_163 in_M_firstOf rfl se_M_firstOf (lIa_ok dd7) rfl rfl (Nat.le_of_ble_eq_true rfl) (by decide) e12 m14) (k_M_firstOf hV G9 x0 x1 v11) h (fun v16 G15 _ h => ?_)
      refine Y.blk (pc' := 25) (L' := [some (.ref x0), some (.int x1), some (.int x2), some (.int x3)]) (st' := [.int (-1), .int v16]) (sg := [(.iconst (-1), -1)]) (lSa_ok dd8) rfl ?_
      refine Y.ic_eq (off := 5) (tgt := 30) (lIa_ok dd9) (by decide) h (fun c17 h => ?_) (fun c17 h => ?_)
      · refine Y.blk (pc' := 33) (L' := [some (.ref x0), some (.int x1), some (.int x2), some (.int (x3 + (nI 1)))]) (st' := []) (sg := [(.iinc 3 1, nI 1)]) (lSa_ok dd10) rfl ?_
        refine Y.goto (off := -31) (tgt := 2) (lIa_ok dd11) (by decide) ?_
        exact ih G15 x0 x1 x2 (x3 + (nI 1)) h
      · refine Y.less (L' := [none, none, none, none]) (zLe_none (zLe_none (zLe_none (zLe_none (zLe_nil))))) ?_
        exact hK28 G15  h
theorem k_M_hasNoneOf {l : Launch} {D : va_G} {B : Nat} {O : State → Heap → Prop} (hV : zG l D B O) (G : gH) (a0 : Nat) (a1 : Int32) (a2 : Int32) : gMet (zVm l D B O) m_M_hasNoneOf 14 [.ref a0, .int a1, .int a2] G (f_M_hasNoneOf G a0 a1 a2) := by
  have hdd : lSa m_M_hasNoneOf 0 [(.iconst 0, nI 0), (.istore_n 3, 0)] = true ∧ lSa m_M_hasNoneOf 28 [(.iconst 0, nI 0)] = true ∧ lIa m_M_hasNoneOf 29 (.ireturn) 1 = true ∧ lSa m_M_hasNoneOf 36 [(.iconst 1, nI 1)] = true ∧ lIa m_M_hasNoneOf 37 (.ireturn) 1 = true := by decide +kernel
  obtain ⟨dd0, dd1, dd2, dd3, dd4⟩ := hdd
  refine gMet.of (by decide +kernel) (Nat.le_of_ble_eq_true rfl) [some (.ref a0), some (.int a1), some (.int a2), none] (fun ls h => zEn_ok (n := 4) h) ?_
  intro o Gf h
  unfold f_M_hasNoneOf at h
  refine Y.blk (pc' := 2) (L' := [some (.ref a0), some (.int a1), some (.int a2), some (.int (nI 0))]) (st' := []) (sg := [(.iconst 0, nI 0), (.istore_n 3, 0)]) (lSa_ok dd0) rfl ?_
  refine k_M_hasNoneOf_L2 hV _ _ ?_ ?_  zFu G a0 a1 a2 (nI 0) h
  · intro G19 h
    refine Y.blk (pc' := 29) (L' := [none, none, none, none]) (st' := [.int (nI 0)]) (sg := [(.iconst 0, nI 0)]) (lSa_ok dd1) rfl ?_
    exact Y.zret rfl (lIa_ok dd2) h
  · intro G20 h
    refine Y.blk (pc' := 37) (L' := [none, none, none, none]) (st' := [.int (nI 1)]) (sg := [(.iconst 1, nI 1)]) (lSa_ok dd3) rfl ?_
    exact Y.zret rfl (lIa_ok dd4) h

def f_M_areApart (G : gH) (a0 : Nat) (a1 : Int32) (a2 : Int32) : gR :=
  gOb G a0 6 fun o2 => bI (f_M_areNone G a0 a1 a2) fun v5 G4 => if v5 = 0 then (gOb G4 a0 6 fun o7 => bI (f_M_hasNoneOf G4 a0 a1 a2) fun v10 G9 => if v10 = 0 then rZ (nI 0) G9
    else rZ (nI 1) G9)
  else rZ (nI 0) G4
theorem k_M_areApart {l : Launch} {D : va_G} {B : Nat} {O : State → Heap → Prop} (hV : zG l D B O) (G : gH) (a0 : Nat) (a1 : Int32) (a2 : Int32) : gMet (zVm l D B O) m_M_areApart 15 [.ref a0, .int a1, .int a2] G (f_M_areApart G a0 a1 a2) := by
  have hdd : lSa m_M_areApart 0 [(.aload_n 0, 0), (.iload_n 1, 0), (.iload_n 2, 0)] = true ∧ lIa m_M_areApart 3 (.invokevirtual 235) 3 = true ∧ lIa m_M_areApart 6 (.ifCond .ne 16) 3 = true ∧ lSa m_M_areApart 9 [(.aload_n 0, 0), (.iload_n 1, 0), (.iload_n 2, 0)] = true ∧ lIa m_M_areApart 12 (.invokevirtual 241) 3 = true ∧ lIa m_M_areApart 15 (.ifCond .eq 7) 3 = true ∧ lSa m_M_areApart 22 [(.iconst 0, nI 0)] = true ∧ lIa m_M_areApart 23 (.ireturn) 1 = true ∧ lSa m_M_areApart 18 [(.iconst 1, nI 1)] = true ∧ lIa m_M_areApart 19 (.goto 4) 3 = true := by decide +kernel
  refine lA8 hdd (fun dd0 dd1 dd2 dd3 dd4 dd5 dd6 dd7 hdd => ?_)
  obtain ⟨dd8, dd9⟩ := hdd
  refine gMet.of (by decide +kernel) (Nat.le_of_ble_eq_true rfl) [some (.ref a0), some (.int a1), some (.int a2)] (fun ls h => zEn_ok (n := 3) h) ?_
  intro o Gf h
  unfold f_M_areApart at h
  refine Y.blk (pc' := 3) (L' := [some (.ref a0), some (.int a1), some (.int a2)]) (st' := [.int a2, .int a1, .ref a0]) (sg := [(.aload_n 0, 0), (.iload_n 1, 0), (.iload_n 2, 0)]) (lSa_ok dd0) rfl ?_
  obtain ⟨_, o2, e1, m3, h⟩ := gOb_inv h
  refine Y.callI (yC.Vi (b := a0) (As := [.int a1, .int a2]) (st := []) (r := ("PartlisterModel", T_M, 9)) hV.1 cb_M_areNone lk_M_235 in_M_areNone rfl se_M_areNone (lIa_ok dd1) rfl rfl (Nat.le_of_ble_eq_true rfl) (by decide) e1 m3) (k_M_areNone hV G a0 a1 a2) h (fun v5 G4 _ h => ?_)
  refine Y.if_ne (off := 16) (tgt := 22) (lIa_ok dd2) (by decide) h (fun c12 h => ?_) (fun c12 h => ?_)
  · refine Y.blk (pc' := 12) (L' := [some (.ref a0), some (.int a1), some (.int a2)]) (st' := [.int a2, .int a1, .ref a0]) (sg := [(.aload_n 0, 0), (.iload_n 1, 0), (.iload_n 2, 0)]) (lSa_ok dd3) rfl ?_
    obtain ⟨_, o7, e6, m8, h⟩ := gOb_inv h
    refine Y.callI (yC.Vi (b := a0) (As := [.int a1, .int a2]) (st := []) (r := ("PartlisterModel", T_M, 9)) hV.1 cb_M_hasNoneOf lk_M_241 in_M_hasNoneOf rfl se_M_hasNoneOf (lIa_ok dd4) rfl rfl (Nat.le_of_ble_eq_true rfl) (by decide) e6 m8) (k_M_hasNoneOf hV G4 a0 a1 a2) h (fun v10 G9 _ h => ?_)
    refine Y.if_eq (off := 7) (tgt := 22) (lIa_ok dd5) (by decide) h (fun c11 h => ?_) (fun c11 h => ?_)
    · refine Y.blk (pc' := 23) (L' := [some (.ref a0), some (.int a1), some (.int a2)]) (st' := [.int (nI 0)]) (sg := [(.iconst 0, nI 0)]) (lSa_ok dd6) rfl ?_
      exact Y.zret rfl (lIa_ok dd7) h
    · refine Y.blk (pc' := 19) (L' := [some (.ref a0), some (.int a1), some (.int a2)]) (st' := [.int (nI 1)]) (sg := [(.iconst 1, nI 1)]) (lSa_ok dd8) rfl ?_
      refine Y.goto (off := 4) (tgt := 23) (lIa_ok dd9) (by decide) ?_
      exact Y.zret rfl (lIa_ok dd7) h
  · refine Y.blk (pc' := 23) (L' := [some (.ref a0), some (.int a1), some (.int a2)]) (st' := [.int (nI 0)]) (sg := [(.iconst 0, nI 0)]) (lSa_ok dd6) rfl ?_
    exact Y.zret rfl (lIa_ok dd7) h

def f_M_areOne (G : gH) (a0 : Nat) (a1 : Int32) (a2 : Int32) : gR :=
  gOb G a0 6 fun o2 => bI (f_M_isNoList G a0 a1) fun v5 G4 => if v5 = 0 then (gOb G4 a0 6 fun o7 => bI (f_M_isNoList G4 a0 a2) fun v10 G9 => if v10 = 0 then (gOb G9 a0 6 fun o12 => bI (f_M_start G9 a0 (nI 0) (nI 1)) fun v15 G14 => if v15 = 0 then (gOb G14 a0 6 fun o17 => bI (f_M_rowOf zDp G14 a0 a1) fun v20 G19 => gOb G19 a0 6 fun o22 => bI (f_M_rowOf zDp G19 a0 a2) fun v25 G24 => if v20 = v25 then (gOb G24 a0 6 fun o27 => bI (f_M_refuse G24 a0 (nI 1) (nI 2)) fun v30 G29 => if v30 = 0 then rZ (nI 0) G29
          else rZ (nI 1) G29)
        else gOb G24 a0 6 fun o33 => bI (f_M_refuse G24 a0 (nI 0) (nI 2)) fun v36 G35 => if v36 = 0 then rZ (nI 0) G35
          else rZ (nI 1) G35)
      else rZ (nI 1) G14)
    else gOb G9 a0 6 fun o41 => bI (f_M_start G9 a0 (nI 1) (nI 1)) fun v44 G43 => if v44 = 0 then (gOb G43 a0 6 fun o46 => bI (f_M_rowOf zDp G43 a0 a1) fun v49 G48 => gOb G48 a0 6 fun o51 => bI (f_M_rowOf zDp G48 a0 a2) fun v54 G53 => if v49 = v54 then (gOb G53 a0 6 fun o56 => bI (f_M_refuse G53 a0 (nI 1) (nI 2)) fun v59 G58 => if v59 = 0 then rZ (nI 0) G58
          else rZ (nI 1) G58)
        else gOb G53 a0 6 fun o62 => bI (f_M_refuse G53 a0 (nI 0) (nI 2)) fun v65 G64 => if v65 = 0 then rZ (nI 0) G64
          else rZ (nI 1) G64)
      else rZ (nI 1) G43)
  else gOb G4 a0 6 fun o71 => bI (f_M_start G4 a0 (nI 1) (nI 1)) fun v74 G73 => if v74 = 0 then (gOb G73 a0 6 fun o76 => bI (f_M_rowOf zDp G73 a0 a1) fun v79 G78 => gOb G78 a0 6 fun o81 => bI (f_M_rowOf zDp G78 a0 a2) fun v84 G83 => if v79 = v84 then (gOb G83 a0 6 fun o86 => bI (f_M_refuse G83 a0 (nI 1) (nI 2)) fun v89 G88 => if v89 = 0 then rZ (nI 0) G88
        else rZ (nI 1) G88)
      else gOb G83 a0 6 fun o92 => bI (f_M_refuse G83 a0 (nI 0) (nI 2)) fun v95 G94 => if v95 = 0 then rZ (nI 0) G94
        else rZ (nI 1) G94)
    else rZ (nI 1) G73
theorem k_M_areOne {l : Launch} {D : va_G} {B : Nat} {O : State → Heap → Prop} (hV : zG l D B O) (G : gH) (a0 : Nat) (a1 : Int32) (a2 : Int32) : gMet (zVm l D B O) m_M_areOne 11 [.ref a0, .int a1, .int a2] G (f_M_areOne G a0 a1 a2) := by
  have hdd : lSa m_M_areOne 0 [(.aload_n 0, 0), (.aload_n 0, 0), (.iload_n 1, 0)] = true ∧ lIa m_M_areOne 3 (.invokevirtual 110) 3 = true ∧ lIa m_M_areOne 6 (.ifCond .ne 11) 3 = true ∧ lSa m_M_areOne 9 [(.aload_n 0, 0), (.iload_n 2, 0)] = true ∧ lIa m_M_areOne 11 (.invokevirtual 110) 3 = true ∧ lIa m_M_areOne 14 (.ifCond .eq 7) 3 = true ∧ lSa m_M_areOne 21 [(.iconst 0, nI 0), (.iconst 1, nI 1)] = true ∧ lIa m_M_areOne 23 (.invokevirtual 114) 3 = true ∧ lIa m_M_areOne 26 (.ifCond .ne 29) 3 = true ∧ lSa m_M_areOne 29 [(.aload_n 0, 0), (.aload_n 0, 0), (.iload_n 1, 0)] = true ∧ lIa m_M_areOne 32 (.invokevirtual 47) 3 = true ∧ lSa m_M_areOne 35 [(.aload_n 0, 0), (.iload_n 2, 0)] = true ∧ lIa m_M_areOne 37 (.invokevirtual 47) 3 = true ∧ lIa m_M_areOne 40 (.if_icmp .ne 7) 3 = true ∧ lSa m_M_areOne 43 [(.iconst 1, nI 1)] = true ∧ lIa m_M_areOne 44 (.goto 4) 3 = true ∧ lSa m_M_areOne 48 [(.iconst 2, nI 2)] = true ∧ lIa m_M_areOne 49 (.invokevirtual 36) 3 = true ∧ lIa m_M_areOne 52 (.ifCond .eq 7) 3 = true ∧ lSa m_M_areOne 59 [(.iconst 0, nI 0)] = true ∧ lIa m_M_areOne 60 (.ireturn) 1 = true ∧ lSa m_M_areOne 55 [(.iconst 1, nI 1)] = true ∧ lIa m_M_areOne 56 (.goto 4) 3 = true ∧ lSa m_M_areOne 47 [(.iconst 0, nI 0), (.iconst 2, nI 2)] = true ∧ lSa m_M_areOne 17 [(.iconst 1, nI 1)] = true ∧ lIa m_M_areOne 18 (.goto 4) 3 = true ∧ lSa m_M_areOne 22 [(.iconst 1, nI 1)] = true := by decide +kernel
  refine lA8 hdd (fun dd0 dd1 dd2 dd3 dd4 dd5 dd6 dd7 hdd => ?_)
  refine lA8 hdd (fun dd8 dd9 dd10 dd11 dd12 dd13 dd14 dd15 hdd => ?_)
  refine lA8 hdd (fun dd16 dd17 dd18 dd19 dd20 dd21 dd22 dd23 hdd => ?_)
  obtain ⟨dd24, dd25, dd26⟩ := hdd
  refine gMet.of (by decide +kernel) (Nat.le_of_ble_eq_true rfl) [some (.ref a0), some (.int a1), some (.int a2)] (fun ls h => zEn_ok (n := 3) h) ?_
  intro o Gf h
  unfold f_M_areOne at h
  refine Y.blk (pc' := 3) (L' := [some (.ref a0), some (.int a1), some (.int a2)]) (st' := [.int a1, .ref a0, .ref a0]) (sg := [(.aload_n 0, 0), (.aload_n 0, 0), (.iload_n 1, 0)]) (lSa_ok dd0) rfl ?_
  obtain ⟨_, o2, e1, m3, h⟩ := gOb_inv h
  refine Y.callI (yC.Vi (b := a0) (As := [.int a1]) (st := [.ref a0]) (r := ("PartlisterModel", T_M, 9)) hV.1 cb_M_isNoList lk_M_110 in_M_isNoList rfl se_M_isNoList (lIa_ok dd1) rfl rfl (Nat.le_of_ble_eq_true rfl) (by decide) e1 m3) (k_M_isNoList hV G a0 a1) h (fun v5 G4 _ h => ?_)
  refine Y.if_ne (off := 11) (tgt := 17) (lIa_ok dd2) (by decide) h (fun c99 h => ?_) (fun c99 h => ?_)
  · refine Y.blk (pc' := 11) (L' := [some (.ref a0), some (.int a1), some (.int a2)]) (st' := [.int a2, .ref a0, .ref a0]) (sg := [(.aload_n 0, 0), (.iload_n 2, 0)]) (lSa_ok dd3) rfl ?_
    obtain ⟨_, o7, e6, m8, h⟩ := gOb_inv h
    refine Y.callI (yC.Vi (b := a0) (As := [.int a2]) (st := [.ref a0]) (r := ("PartlisterModel", T_M, 9)) hV.1 cb_M_isNoList lk_M_110 in_M_isNoList rfl se_M_isNoList (lIa_ok dd4) rfl rfl (Nat.le_of_ble_eq_true rfl) (by decide) e6 m8) (k_M_isNoList hV G4 a0 a2) h (fun v10 G9 _ h => ?_)
    refine Y.if_eq (off := 7) (tgt := 21) (lIa_ok dd5) (by decide) h (fun c69 h => ?_) (fun c69 h => ?_)
    · refine Y.blk (pc' := 23) (L' := [some (.ref a0), some (.int a1), some (.int a2)]) (st' := [.int (nI 1), .int (nI 0), .ref a0]) (sg := [(.iconst 0, nI 0), (.iconst 1, nI 1)]) (lSa_ok dd6) rfl ?_
      obtain ⟨_, o12, e11, m13, h⟩ := gOb_inv h
      refine Y.callI (yC.Vi (b := a0) (As := [.int (nI 0), .int (nI 1)]) (st := []) (r := ("PartlisterModel", T_M, 9)) hV.1 cb_M_start lk_M_114 in_M_start rfl se_M_start (lIa_ok dd7) rfl rfl (Nat.le_of_ble_eq_true rfl) (by decide) e11 m13) (k_M_start hV G9 a0 (nI 0) (nI 1)) h (fun v15 G14 _ h => ?_)
      refine Y.if_ne (off := 29) (tgt := 55) (lIa_ok dd8) (by decide) h (fun c39 h => ?_) (fun c39 h => ?_)
      · refine Y.blk (pc' := 32) (L' := [some (.ref a0), some (.int a1), some (.int a2)]) (st' := [.int a1, .ref a0, .ref a0]) (sg := [(.aload_n 0, 0), (.aload_n 0, 0), (.iload_n 1, 0)]) (lSa_ok dd9) rfl ?_
        obtain ⟨_, o17, e16, m18, h⟩ := gOb_inv h
        refine Y.callI (yC.Vi (b := a0) (As := [.int a1]) (st := [.ref a0]) (r := ("PartlisterModel", T_M, 9)) hV.1 cb_M_rowOf lk_M_47 in_M_rowOf rfl se_M_rowOf (lIa_ok dd10) rfl rfl (Nat.le_of_ble_eq_true rfl) (by decide) e16 m18) (k_M_rowOf zDp hV G14 a0 a1) h (fun v20 G19 _ h => ?_)
        refine Y.blk (pc' := 37) (L' := [some (.ref a0), some (.int a1), some (.int a2)]) (st' := [.int a2, .ref a0, .int v20, .ref a0]) (sg := [(.aload_n 0, 0), (.iload_n 2, 0)]) (lSa_ok dd11) rfl ?_
        obtain ⟨_, o22, e21, m23, h⟩ := gOb_inv h
        refine Y.callI (yC.Vi (b := a0) (As := [.int a2]) (st := [.int v20, .ref a0]) (r := ("PartlisterModel", T_M, 9)) hV.1 cb_M_rowOf lk_M_47 in_M_rowOf rfl se_M_rowOf (lIa_ok dd12) rfl rfl (Nat.le_of_ble_eq_true rfl) (by decide) e21 m23) (k_M_rowOf zDp hV G19 a0 a2) h (fun v25 G24 _ h => ?_)
        refine Y.ic_ne (off := 7) (tgt := 47) (lIa_ok dd13) (by decide) h (fun c38 h => ?_) (fun c38 h => ?_)
        · refine Y.blk (pc' := 44) (L' := [some (.ref a0), some (.int a1), some (.int a2)]) (st' := [.int (nI 1), .ref a0]) (sg := [(.iconst 1, nI 1)]) (lSa_ok dd14) rfl ?_
          refine Y.goto (off := 4) (tgt := 48) (lIa_ok dd15) (by decide) ?_
          refine Y.blk (pc' := 49) (L' := [some (.ref a0), some (.int a1), some (.int a2)]) (st' := [.int (nI 2), .int (nI 1), .ref a0]) (sg := [(.iconst 2, nI 2)]) (lSa_ok dd16) rfl ?_
          obtain ⟨_, o27, e26, m28, h⟩ := gOb_inv h
          refine Y.callI (yC.Vi (b := a0) (As := [.int (nI 1), .int (nI 2)]) (st := []) (r := ("PartlisterModel", T_M, 9)) hV.1 cb_M_refuse lk_M_36 in_M_refuse rfl se_M_refuse (lIa_ok dd17) rfl rfl (Nat.le_of_ble_eq_true rfl) (by decide) e26 m28) (k_M_refuse hV G24 a0 (nI 1) (nI 2)) h (fun v30 G29 _ h => ?_)
          refine Y.if_eq (off := 7) (tgt := 59) (lIa_ok dd18) (by decide) h (fun c31 h => ?_) (fun c31 h => ?_)
          · refine Y.blk (pc' := 60) (L' := [some (.ref a0), some (.int a1), some (.int a2)]) (st' := [.int (nI 0)]) (sg := [(.iconst 0, nI 0)]) (lSa_ok dd19) rfl ?_
            exact Y.zret rfl (lIa_ok dd20) h
          · refine Y.blk (pc' := 56) (L' := [some (.ref a0), some (.int a1), some (.int a2)]) (st' := [.int (nI 1)]) (sg := [(.iconst 1, nI 1)]) (lSa_ok dd21) rfl ?_
            refine Y.goto (off := 4) (tgt := 60) (lIa_ok dd22) (by decide) ?_
            exact Y.zret rfl (lIa_ok dd20) h
        · refine Y.blk (pc' := 49) (L' := [some (.ref a0), some (.int a1), some (.int a2)]) (st' := [.int (nI 2), .int (nI 0), .ref a0]) (sg := [(.iconst 0, nI 0), (.iconst 2, nI 2)]) (lSa_ok dd23) rfl ?_
          obtain ⟨_, o33, e32, m34, h⟩ := gOb_inv h
          refine Y.callI (yC.Vi (b := a0) (As := [.int (nI 0), .int (nI 2)]) (st := []) (r := ("PartlisterModel", T_M, 9)) hV.1 cb_M_refuse lk_M_36 in_M_refuse rfl se_M_refuse (lIa_ok dd17) rfl rfl (Nat.le_of_ble_eq_true rfl) (by decide) e32 m34) (k_M_refuse hV G24 a0 (nI 0) (nI 2)) h (fun v36 G35 _ h => ?_)
          refine Y.if_eq (off := 7) (tgt := 59) (lIa_ok dd18) (by decide) h (fun c37 h => ?_) (fun c37 h => ?_)
          · refine Y.blk (pc' := 60) (L' := [some (.ref a0), some (.int a1), some (.int a2)]) (st' := [.int (nI 0)]) (sg := [(.iconst 0, nI 0)]) (lSa_ok dd19) rfl ?_
            exact Y.zret rfl (lIa_ok dd20) h
          · refine Y.blk (pc' := 56) (L' := [some (.ref a0), some (.int a1), some (.int a2)]) (st' := [.int (nI 1)]) (sg := [(.iconst 1, nI 1)]) (lSa_ok dd21) rfl ?_
            refine Y.goto (off := 4) (tgt := 60) (lIa_ok dd22) (by decide) ?_
            exact Y.zret rfl (lIa_ok dd20) h
      · refine Y.blk (pc' := 56) (L' := [some (.ref a0), some (.int a1), some (.int a2)]) (st' := [.int (nI 1)]) (sg := [(.iconst 1, nI 1)]) (lSa_ok dd21) rfl ?_
        refine Y.goto (off := 4) (tgt := 60) (lIa_ok dd22) (by decide) ?_
        exact Y.zret rfl (lIa_ok dd20) h
    · refine Y.blk (pc' := 18) (L' := [some (.ref a0), some (.int a1), some (.int a2)]) (st' := [.int (nI 1), .ref a0]) (sg := [(.iconst 1, nI 1)]) (lSa_ok dd24) rfl ?_
      refine Y.goto (off := 4) (tgt := 22) (lIa_ok dd25) (by decide) ?_
      refine Y.blk (pc' := 23) (L' := [some (.ref a0), some (.int a1), some (.int a2)]) (st' := [.int (nI 1), .int (nI 1), .ref a0]) (sg := [(.iconst 1, nI 1)]) (lSa_ok dd26) rfl ?_
      obtain ⟨_, o41, e40, m42, h⟩ := gOb_inv h
      refine Y.callI (yC.Vi (b := a0) (As := [.int (nI 1), .int (nI 1)]) (st := []) (r := ("PartlisterModel", T_M, 9)) hV.1 cb_M_start lk_M_114 in_M_start rfl se_M_start (lIa_ok dd7) rfl rfl (Nat.le_of_ble_eq_true rfl) (by decide) e40 m42) (k_M_start hV G9 a0 (nI 1) (nI 1)) h (fun v44 G43 _ h => ?_)
      refine Y.if_ne (off := 29) (tgt := 55) (lIa_ok dd8) (by decide) h (fun c68 h => ?_) (fun c68 h => ?_)
      · refine Y.blk (pc' := 32) (L' := [some (.ref a0), some (.int a1), some (.int a2)]) (st' := [.int a1, .ref a0, .ref a0]) (sg := [(.aload_n 0, 0), (.aload_n 0, 0), (.iload_n 1, 0)]) (lSa_ok dd9) rfl ?_
        obtain ⟨_, o46, e45, m47, h⟩ := gOb_inv h
        refine Y.callI (yC.Vi (b := a0) (As := [.int a1]) (st := [.ref a0]) (r := ("PartlisterModel", T_M, 9)) hV.1 cb_M_rowOf lk_M_47 in_M_rowOf rfl se_M_rowOf (lIa_ok dd10) rfl rfl (Nat.le_of_ble_eq_true rfl) (by decide) e45 m47) (k_M_rowOf zDp hV G43 a0 a1) h (fun v49 G48 _ h => ?_)
        refine Y.blk (pc' := 37) (L' := [some (.ref a0), some (.int a1), some (.int a2)]) (st' := [.int a2, .ref a0, .int v49, .ref a0]) (sg := [(.aload_n 0, 0), (.iload_n 2, 0)]) (lSa_ok dd11) rfl ?_
        obtain ⟨_, o51, e50, m52, h⟩ := gOb_inv h
        refine Y.callI (yC.Vi (b := a0) (As := [.int a2]) (st := [.int v49, .ref a0]) (r := ("PartlisterModel", T_M, 9)) hV.1 cb_M_rowOf lk_M_47 in_M_rowOf rfl se_M_rowOf (lIa_ok dd12) rfl rfl (Nat.le_of_ble_eq_true rfl) (by decide) e50 m52) (k_M_rowOf zDp hV G48 a0 a2) h (fun v54 G53 _ h => ?_)
        refine Y.ic_ne (off := 7) (tgt := 47) (lIa_ok dd13) (by decide) h (fun c67 h => ?_) (fun c67 h => ?_)
        · refine Y.blk (pc' := 44) (L' := [some (.ref a0), some (.int a1), some (.int a2)]) (st' := [.int (nI 1), .ref a0]) (sg := [(.iconst 1, nI 1)]) (lSa_ok dd14) rfl ?_
          refine Y.goto (off := 4) (tgt := 48) (lIa_ok dd15) (by decide) ?_
          refine Y.blk (pc' := 49) (L' := [some (.ref a0), some (.int a1), some (.int a2)]) (st' := [.int (nI 2), .int (nI 1), .ref a0]) (sg := [(.iconst 2, nI 2)]) (lSa_ok dd16) rfl ?_
          obtain ⟨_, o56, e55, m57, h⟩ := gOb_inv h
          refine Y.callI (yC.Vi (b := a0) (As := [.int (nI 1), .int (nI 2)]) (st := []) (r := ("PartlisterModel", T_M, 9)) hV.1 cb_M_refuse lk_M_36 in_M_refuse rfl se_M_refuse (lIa_ok dd17) rfl rfl (Nat.le_of_ble_eq_true rfl) (by decide) e55 m57) (k_M_refuse hV G53 a0 (nI 1) (nI 2)) h (fun v59 G58 _ h => ?_)
          refine Y.if_eq (off := 7) (tgt := 59) (lIa_ok dd18) (by decide) h (fun c60 h => ?_) (fun c60 h => ?_)
          · refine Y.blk (pc' := 60) (L' := [some (.ref a0), some (.int a1), some (.int a2)]) (st' := [.int (nI 0)]) (sg := [(.iconst 0, nI 0)]) (lSa_ok dd19) rfl ?_
            exact Y.zret rfl (lIa_ok dd20) h
          · refine Y.blk (pc' := 56) (L' := [some (.ref a0), some (.int a1), some (.int a2)]) (st' := [.int (nI 1)]) (sg := [(.iconst 1, nI 1)]) (lSa_ok dd21) rfl ?_
            refine Y.goto (off := 4) (tgt := 60) (lIa_ok dd22) (by decide) ?_
            exact Y.zret rfl (lIa_ok dd20) h
        · refine Y.blk (pc' := 49) (L' := [some (.ref a0), some (.int a1), some (.int a2)]) (st' := [.int (nI 2), .int (nI 0), .ref a0]) (sg := [(.iconst 0, nI 0), (.iconst 2, nI 2)]) (lSa_ok dd23) rfl ?_
          obtain ⟨_, o62, e61, m63, h⟩ := gOb_inv h
          refine Y.callI (yC.Vi (b := a0) (As := [.int (nI 0), .int (nI 2)]) (st := []) (r := ("PartlisterModel", T_M, 9)) hV.1 cb_M_refuse lk_M_36 in_M_refuse rfl se_M_refuse (lIa_ok dd17) rfl rfl (Nat.le_of_ble_eq_true rfl) (by decide) e61 m63) (k_M_refuse hV G53 a0 (nI 0) (nI 2)) h (fun v65 G64 _ h => ?_)
          refine Y.if_eq (off := 7) (tgt := 59) (lIa_ok dd18) (by decide) h (fun c66 h => ?_) (fun c66 h => ?_)
          · refine Y.blk (pc' := 60) (L' := [some (.ref a0), some (.int a1), some (.int a2)]) (st' := [.int (nI 0)]) (sg := [(.iconst 0, nI 0)]) (lSa_ok dd19) rfl ?_
            exact Y.zret rfl (lIa_ok dd20) h
          · refine Y.blk (pc' := 56) (L' := [some (.ref a0), some (.int a1), some (.int a2)]) (st' := [.int (nI 1)]) (sg := [(.iconst 1, nI 1)]) (lSa_ok dd21) rfl ?_
            refine Y.goto (off := 4) (tgt := 60) (lIa_ok dd22) (by decide) ?_
            exact Y.zret rfl (lIa_ok dd20) h
      · refine Y.blk (pc' := 56) (L' := [some (.ref a0), some (.int a1), some (.int a2)]) (st' := [.int (nI 1)]) (sg := [(.iconst 1, nI 1)]) (lSa_ok dd21) rfl ?_
        refine Y.goto (off := 4) (tgt := 60) (lIa_ok dd22) (by decide) ?_
        exact Y.zret rfl (lIa_ok dd20) h
  · refine Y.blk (pc' := 18) (L' := [some (.ref a0), some (.int a1), some (.int a2)]) (st' := [.int (nI 1), .ref a0]) (sg := [(.iconst 1, nI 1)]) (lSa_ok dd24) rfl ?_
    refine Y.goto (off := 4) (tgt := 22) (lIa_ok dd25) (by decide) ?_
    refine Y.blk (pc' := 23) (L' := [some (.ref a0), some (.int a1), some (.int a2)]) (st' := [.int (nI 1), .int (nI 1), .ref a0]) (sg := [(.iconst 1, nI 1)]) (lSa_ok dd26) rfl ?_
    obtain ⟨_, o71, e70, m72, h⟩ := gOb_inv h
    refine Y.callI (yC.Vi (b := a0) (As := [.int (nI 1), .int (nI 1)]) (st := []) (r := ("PartlisterModel", T_M, 9)) hV.1 cb_M_start lk_M_114 in_M_start rfl se_M_start (lIa_ok dd7) rfl rfl (Nat.le_of_ble_eq_true rfl) (by decide) e70 m72) (k_M_start hV G4 a0 (nI 1) (nI 1)) h (fun v74 G73 _ h => ?_)
    refine Y.if_ne (off := 29) (tgt := 55) (lIa_ok dd8) (by decide) h (fun c98 h => ?_) (fun c98 h => ?_)
    · refine Y.blk (pc' := 32) (L' := [some (.ref a0), some (.int a1), some (.int a2)]) (st' := [.int a1, .ref a0, .ref a0]) (sg := [(.aload_n 0, 0), (.aload_n 0, 0), (.iload_n 1, 0)]) (lSa_ok dd9) rfl ?_
      obtain ⟨_, o76, e75, m77, h⟩ := gOb_inv h
      refine Y.callI (yC.Vi (b := a0) (As := [.int a1]) (st := [.ref a0]) (r := ("PartlisterModel", T_M, 9)) hV.1 cb_M_rowOf lk_M_47 in_M_rowOf rfl se_M_rowOf (lIa_ok dd10) rfl rfl (Nat.le_of_ble_eq_true rfl) (by decide) e75 m77) (k_M_rowOf zDp hV G73 a0 a1) h (fun v79 G78 _ h => ?_)
      refine Y.blk (pc' := 37) (L' := [some (.ref a0), some (.int a1), some (.int a2)]) (st' := [.int a2, .ref a0, .int v79, .ref a0]) (sg := [(.aload_n 0, 0), (.iload_n 2, 0)]) (lSa_ok dd11) rfl ?_
      obtain ⟨_, o81, e80, m82, h⟩ := gOb_inv h
      refine Y.callI (yC.Vi (b := a0) (As := [.int a2]) (st := [.int v79, .ref a0]) (r := ("PartlisterModel", T_M, 9)) hV.1 cb_M_rowOf lk_M_47 in_M_rowOf rfl se_M_rowOf (lIa_ok dd12) rfl rfl (Nat.le_of_ble_eq_true rfl) (by decide) e80 m82) (k_M_rowOf zDp hV G78 a0 a2) h (fun v84 G83 _ h => ?_)
      refine Y.ic_ne (off := 7) (tgt := 47) (lIa_ok dd13) (by decide) h (fun c97 h => ?_) (fun c97 h => ?_)
      · refine Y.blk (pc' := 44) (L' := [some (.ref a0), some (.int a1), some (.int a2)]) (st' := [.int (nI 1), .ref a0]) (sg := [(.iconst 1, nI 1)]) (lSa_ok dd14) rfl ?_
        refine Y.goto (off := 4) (tgt := 48) (lIa_ok dd15) (by decide) ?_
        refine Y.blk (pc' := 49) (L' := [some (.ref a0), some (.int a1), some (.int a2)]) (st' := [.int (nI 2), .int (nI 1), .ref a0]) (sg := [(.iconst 2, nI 2)]) (lSa_ok dd16) rfl ?_
        obtain ⟨_, o86, e85, m87, h⟩ := gOb_inv h
        refine Y.callI (yC.Vi (b := a0) (As := [.int (nI 1), .int (nI 2)]) (st := []) (r := ("PartlisterModel", T_M, 9)) hV.1 cb_M_refuse lk_M_36 in_M_refuse rfl se_M_refuse (lIa_ok dd17) rfl rfl (Nat.le_of_ble_eq_true rfl) (by decide) e85 m87) (k_M_refuse hV G83 a0 (nI 1) (nI 2)) h (fun v89 G88 _ h => ?_)
        refine Y.if_eq (off := 7) (tgt := 59) (lIa_ok dd18) (by decide) h (fun c90 h => ?_) (fun c90 h => ?_)
        · refine Y.blk (pc' := 60) (L' := [some (.ref a0), some (.int a1), some (.int a2)]) (st' := [.int (nI 0)]) (sg := [(.iconst 0, nI 0)]) (lSa_ok dd19) rfl ?_
          exact Y.zret rfl (lIa_ok dd20) h
        · refine Y.blk (pc' := 56) (L' := [some (.ref a0), some (.int a1), some (.int a2)]) (st' := [.int (nI 1)]) (sg := [(.iconst 1, nI 1)]) (lSa_ok dd21) rfl ?_
          refine Y.goto (off := 4) (tgt := 60) (lIa_ok dd22) (by decide) ?_
          exact Y.zret rfl (lIa_ok dd20) h
      · refine Y.blk (pc' := 49) (L' := [some (.ref a0), some (.int a1), some (.int a2)]) (st' := [.int (nI 2), .int (nI 0), .ref a0]) (sg := [(.iconst 0, nI 0), (.iconst 2, nI 2)]) (lSa_ok dd23) rfl ?_
        obtain ⟨_, o92, e91, m93, h⟩ := gOb_inv h
        refine Y.callI (yC.Vi (b := a0) (As := [.int (nI 0), .int (nI 2)]) (st := []) (r := ("PartlisterModel", T_M, 9)) hV.1 cb_M_refuse lk_M_36 in_M_refuse rfl se_M_refuse (lIa_ok dd17) rfl rfl (Nat.le_of_ble_eq_true rfl) (by decide) e91 m93) (k_M_refuse hV G83 a0 (nI 0) (nI 2)) h (fun v95 G94 _ h => ?_)
        refine Y.if_eq (off := 7) (tgt := 59) (lIa_ok dd18) (by decide) h (fun c96 h => ?_) (fun c96 h => ?_)
        · refine Y.blk (pc' := 60) (L' := [some (.ref a0), some (.int a1), some (.int a2)]) (st' := [.int (nI 0)]) (sg := [(.iconst 0, nI 0)]) (lSa_ok dd19) rfl ?_
          exact Y.zret rfl (lIa_ok dd20) h
        · refine Y.blk (pc' := 56) (L' := [some (.ref a0), some (.int a1), some (.int a2)]) (st' := [.int (nI 1)]) (sg := [(.iconst 1, nI 1)]) (lSa_ok dd21) rfl ?_
          refine Y.goto (off := 4) (tgt := 60) (lIa_ok dd22) (by decide) ?_
          exact Y.zret rfl (lIa_ok dd20) h
    · refine Y.blk (pc' := 56) (L' := [some (.ref a0), some (.int a1), some (.int a2)]) (st' := [.int (nI 1)]) (sg := [(.iconst 1, nI 1)]) (lSa_ok dd21) rfl ?_
      refine Y.goto (off := 4) (tgt := 60) (lIa_ok dd22) (by decide) ?_
      exact Y.zret rfl (lIa_ok dd20) h

def f_M_endCursors_L2 (K44 : gH → gR) : Nat → gH → Nat → Int32 → Int32 → gR
  | 0, _, _, _, _ => none
  | n + 1, G, x0, x1, x2 =>
    if (nI 3) ≤ x2 then K44 G
    else gFA G x0 6 3 fun v1 => gLdq G v1 105 x2 (f_M_endCursors_L2 K44 n G x0 x1 (x2 + (nI 1))) fun v2 => gFA G x0 6 3 fun v3 => gLdq G v3 105 x2 (none) fun v4 => gFI G v4 4 0 fun v5 => gOb G x0 6 fun o7 => bI (f_M_rowOf zDp G x0 v5) fun v10 G9 => if v10 = x1 then gOb G9 x0 6 fun o12 => bV (f_M_endCursor G9 x0 x2) fun G14 => f_M_endCursors_L2 K44 n G14 x0 x1 (x2 + (nI 1))
          else f_M_endCursors_L2 K44 n G9 x0 x1 (x2 + (nI 1))
def f_M_endCursors (G : gH) (a0 : Nat) (a1 : Int32) : gR :=
  f_M_endCursors_L2 (fun G17 => rV G17) zFu G a0 a1 (nI 0)
theorem k_M_endCursors_L2 {l : Launch} {D : va_G} {B : Nat} {O : State → Heap → Prop} (hV : zG l D B O) {o : gO} {Gf : gH} (K44 : gH → gR) (hK44 : ∀ (G : gH), K44 G  = some (o, Gf) → Y (zVm l D B O) m_M_endCursors 11 o Gf 44 [none, none, none] [] G) : ∀ (n : Nat) (G : gH) (x0 : Nat) (x1 : Int32) (x2 : Int32), f_M_endCursors_L2 K44 n G x0 x1 x2 = some (o, Gf) → Y (zVm l D B O) m_M_endCursors 11 o Gf 2 [some (.ref x0), some (.int x1), some (.int x2)] [] G := by
  have hdd : lSa m_M_endCursors 2 [(.iload_n 2, 0), (.iconst 3, nI 3)] = true ∧ lIa m_M_endCursors 4 (.if_icmp .ge 40) 3 = true ∧ lSa m_M_endCursors 7 [(.aload_n 0, 0)] = true ∧ lIa m_M_endCursors 8 (.getfield 24) 3 = true ∧ lSa m_M_endCursors 11 [(.iload_n 2, 0)] = true ∧ lIa m_M_endCursors 12 (.aaload) 1 = true ∧ lIa m_M_endCursors 13 (.ifnull 25) 3 = true ∧ lSa m_M_endCursors 38 [(.iinc 2 1, nI 1)] = true ∧ lIa m_M_endCursors 41 (.goto (-39)) 3 = true ∧ lSa m_M_endCursors 16 [(.aload_n 0, 0), (.aload_n 0, 0)] = true ∧ lIa m_M_endCursors 18 (.getfield 24) 3 = true ∧ lSa m_M_endCursors 21 [(.iload_n 2, 0)] = true ∧ lIa m_M_endCursors 22 (.aaload) 1 = true ∧ lIa m_M_endCursors 23 (.getfield 89) 3 = true ∧ lIa m_M_endCursors 26 (.invokevirtual 47) 3 = true ∧ lSa m_M_endCursors 29 [(.iload_n 1, 0)] = true ∧ lIa m_M_endCursors 30 (.if_icmp .ne 8) 3 = true ∧ lSa m_M_endCursors 33 [(.aload_n 0, 0), (.iload_n 2, 0)] = true ∧ lIa m_M_endCursors 35 (.invokevirtual 92) 3 = true := by decide +kernel
  refine lA8 hdd (fun dd0 dd1 dd2 dd3 dd4 dd5 dd6 dd7 hdd => ?_)
  refine lA8 hdd (fun dd8 dd9 dd10 dd11 dd12 dd13 dd14 dd15 hdd => ?_)
  obtain ⟨dd16, dd17, dd18⟩ := hdd
  intro n
  induction n with
  | zero => intro G x0 x1 x2 h; cases h
  | succ n ih =>
    intro G x0 x1 x2 h
    unfold f_M_endCursors_L2 at h
    refine Y.blk (pc' := 4) (L' := [some (.ref x0), some (.int x1), some (.int x2)]) (st' := [.int (nI 3), .int x2]) (sg := [(.iload_n 2, 0), (.iconst 3, nI 3)]) (lSa_ok dd0) rfl ?_
    refine Y.ic_ge (off := 40) (tgt := 44) (lIa_ok dd1) (by decide) h (fun c16 h => ?_) (fun c16 h => ?_)
    · refine Y.less (L' := [none, none, none]) (zLe_none (zLe_none (zLe_none (zLe_nil)))) ?_
      exact hK44 G  h
    · refine Y.blk (pc' := 8) (L' := [some (.ref x0), some (.int x1), some (.int x2)]) (st' := [.ref x0]) (sg := [(.aload_n 0, 0)]) (lSa_ok dd2) rfl ?_
      refine Y.getA fl_M_24 (lIa_ok dd3) h (fun v1 h => ?_)
      refine Y.blk (pc' := 12) (L' := [some (.ref x0), some (.int x1), some (.int x2)]) (st' := [.int x2, .ref v1]) (sg := [(.iload_n 2, 0)]) (lSa_ok dd4) rfl ?_
      refine Y.aald (t0 := 5) (lIa_ok dd5) rfl h (fun h => ?_) (fun v2 h => ?_)
      · refine Y.ifnull_n (off := 25) (tgt := 38) (lIa_ok dd6) (by decide) ?_
        refine Y.blk (pc' := 41) (L' := [some (.ref x0), some (.int x1), some (.int (x2 + (nI 1)))]) (st' := []) (sg := [(.iinc 2 1, nI 1)]) (lSa_ok dd7) rfl ?_
        refine Y.goto (off := -39) (tgt := 2) (lIa_ok dd8) (by decide) ?_
        exact ih G x0 x1 (x2 + (nI 1)) h
      · refine Y.ifnull_r (off := 25) (lIa_ok dd6) ?_
        refine Y.blk (pc' := 18) (L' := [some (.ref x0), some (.int x1), some (.int x2)]) (st' := [.ref x0, .ref x0]) (sg := [(.aload_n 0, 0), (.aload_n 0, 0)]) (lSa_ok dd9) rfl ?_
        refine Y.getA fl_M_24 (lIa_ok dd10) h (fun v3 h => ?_)
        refine Y.blk (pc' := 22) (L' := [some (.ref x0), some (.int x1), some (.int x2)]) (st' := [.int x2, .ref v3, .ref x0]) (sg := [(.iload_n 2, 0)]) (lSa_ok dd11) rfl ?_
        refine Y.aald (t0 := 5) (lIa_ok dd12) rfl h (fun h => ?_) (fun v4 h => ?_)
        · cases h
        · refine Y.getI fl_M_89 (lIa_ok dd13) h (fun v5 h => ?_)
          obtain ⟨_, o7, e6, m8, h⟩ := gOb_inv h
          refine Y.callI (yC.Vi (b := x0) (As := [.int v5]) (st := []) (r := ("PartlisterModel", T_M, 9)) hV.1 cb_M_rowOf lk_M_47 in_M_rowOf rfl se_M_rowOf (lIa_ok dd14) rfl rfl (Nat.le_of_ble_eq_true rfl) (by decide) e6 m8) (k_M_rowOf zDp hV G x0 v5) h (fun v10 G9 _ h => ?_)
          refine Y.blk (pc' := 30) (L' := [some (.ref x0), some (.int x1), some (.int x2)]) (st' := [.int x1, .int v10]) (sg := [(.iload_n 1, 0)]) (lSa_ok dd15) rfl ?_
          refine Y.ic_ne (off := 8) (tgt := 38) (lIa_ok dd16) (by decide) h (fun c15 h => ?_) (fun c15 h => ?_)
          · refine Y.blk (pc' := 35) (L' := [some (.ref x0), some (.int x1), some (.int x2)]) (st' := [.int x2, .ref x0]) (sg := [(.aload_n 0, 0), (.iload_n 2, 0)]) (lSa_ok dd17) rfl ?_
            obtain ⟨_, o12, e11, m13, h⟩ := gOb_inv h
            refine Y.callN (yC.Vi (b := x0) (As := [.int x2]) (st := []) (r := ("PartlisterModel", T_M, 9)) hV.1 cb_M_endCursor lk_M_92 in_M_endCursor rfl se_M_endCursor (lIa_ok dd18) rfl rfl (Nat.le_of_ble_eq_true rfl) (by decide) e11 m13) (k_M_endCursor hV G9 x0 x2) h (fun G14 _ h => ?_)
            refine Y.blk (pc' := 41) (L' := [some (.ref x0), some (.int x1), some (.int (x2 + (nI 1)))]) (st' := []) (sg := [(.iinc 2 1, nI 1)]) (lSa_ok dd7) rfl ?_
            refine Y.goto (off := -39) (tgt := 2) (lIa_ok dd8) (by decide) ?_
            exact ih G14 x0 x1 (x2 + (nI 1)) h
          · refine Y.blk (pc' := 41) (L' := [some (.ref x0), some (.int x1), some (.int (x2 + (nI 1)))]) (st' := []) (sg := [(.iinc 2 1, nI 1)]) (lSa_ok dd7) rfl ?_
            refine Y.goto (off := -39) (tgt := 2) (lIa_ok dd8) (by decide) ?_
            exact ih G9 x0 x1 (x2 + (nI 1)) h
theorem k_M_endCursors {l : Launch} {D : va_G} {B : Nat} {O : State → Heap → Prop} (hV : zG l D B O) (G : gH) (a0 : Nat) (a1 : Int32) : gMet (zVm l D B O) m_M_endCursors 11 [.ref a0, .int a1] G (f_M_endCursors G a0 a1) := by
  have hdd : lSa m_M_endCursors 0 [(.iconst 0, nI 0), (.istore_n 2, 0)] = true ∧ lIa m_M_endCursors 44 (.return_) 1 = true := by decide +kernel
  obtain ⟨dd0, dd1⟩ := hdd
  refine gMet.of (by decide +kernel) (Nat.le_of_ble_eq_true rfl) [some (.ref a0), some (.int a1), none] (fun ls h => zEn_ok (n := 3) h) ?_
  intro o Gf h
  unfold f_M_endCursors at h
  refine Y.blk (pc' := 2) (L' := [some (.ref a0), some (.int a1), some (.int (nI 0))]) (st' := []) (sg := [(.iconst 0, nI 0), (.istore_n 2, 0)]) (lSa_ok dd0) rfl ?_
  refine k_M_endCursors_L2 hV _ ?_  zFu G a0 a1 (nI 0) h
  · intro G17 h
    exact Y.vret rfl (lIa_ok dd1) h

def f_AL_set (G : gH) (a0 : Nat) (a1 : Int32) (a2 : Nat) : gR :=
  gFI G a0 9 1 fun v1 => bI (f_OB_checkIndex G a1 v1) fun v4 G3 => gOb G3 a0 9 fun o6 => bA (f_AL_elementData G3 a0 a1) fun v9 G8 => gFA G8 a0 9 0 fun v10 => gStX G8 v10 103 a1 a2 fun G11 => rA v9 G11
theorem k_AL_set {l : Launch} {D : va_G} {B : Nat} {O : State → Heap → Prop} (hV : zG l D B O) (G : gH) (a0 : Nat) (a1 : Int32) (a2 : Nat) : gMet (zVm l D B O) m_AL_set 4 [.ref a0, .int a1, .ref a2] G (f_AL_set G a0 a1 a2) := by
  have hdd : lSa m_AL_set 0 [(.iload_n 1, 0), (.aload_n 0, 0)] = true ∧ lIa m_AL_set 2 (.getfield 48) 3 = true ∧ lIa m_AL_set 5 (.invokestatic 118) 3 = true ∧ lSa m_AL_set 8 [(.pop, 0), (.aload_n 0, 0), (.iload_n 1, 0)] = true ∧ lIa m_AL_set 11 (.invokevirtual 123) 3 = true ∧ lSa m_AL_set 14 [(.astore_n 3, 0), (.aload_n 0, 0)] = true ∧ lIa m_AL_set 16 (.getfield 9) 3 = true ∧ lSa m_AL_set 19 [(.iload_n 1, 0), (.aload_n 2, 0)] = true ∧ lIa m_AL_set 21 (.aastore) 1 = true ∧ lSa m_AL_set 22 [(.aload_n 3, 0)] = true ∧ lIa m_AL_set 23 (.areturn) 1 = true := by decide +kernel
  refine lA8 hdd (fun dd0 dd1 dd2 dd3 dd4 dd5 dd6 dd7 hdd => ?_)
  obtain ⟨dd8, dd9, dd10⟩ := hdd
  refine gMet.of (by decide +kernel) (Nat.le_of_ble_eq_true rfl) [some (.ref a0), some (.int a1), some (.ref a2), none] (fun ls h => zEn_ok (n := 4) h) ?_
  intro o Gf h
  unfold f_AL_set at h
  refine Y.blk (pc' := 2) (L' := [some (.ref a0), some (.int a1), some (.ref a2), none]) (st' := [.ref a0, .int a1]) (sg := [(.iload_n 1, 0), (.aload_n 0, 0)]) (lSa_ok dd0) rfl ?_
  refine Y.getI fl_AL_48 (lIa_ok dd1) h (fun v1 h => ?_)
  refine Y.callI (yC.S (As := [.int a1, .int v1]) (st := []) hV.1 cb_OB_checkIndex lk_AL_118 st_OB_checkIndex (lIa_ok dd2) rfl rfl (Nat.le_of_ble_eq_true rfl) (by decide)) (k_OB_checkIndex hV G a1 v1) h (fun v4 G3 _ h => ?_)
  refine Y.blk (pc' := 11) (L' := [some (.ref a0), some (.int a1), some (.ref a2), none]) (st' := [.int a1, .ref a0]) (sg := [(.pop, 0), (.aload_n 0, 0), (.iload_n 1, 0)]) (lSa_ok dd3) rfl ?_
  obtain ⟨_, o6, e5, m7, h⟩ := gOb_inv h
  refine Y.callA (yC.Vi (b := a0) (As := [.int a1]) (st := []) (r := ("java/util/ArrayList", T_AL, 3)) hV.1 cb_AL_elementData lk_AL_123 in_AL_elementData rfl se_AL_elementData (lIa_ok dd4) rfl rfl (Nat.le_of_ble_eq_true rfl) (by decide) e5 m7) (k_AL_elementData hV G3 a0 a1) h (fun v9 G8 _ h => ?_)
  refine Y.blk (pc' := 16) (L' := [some (.ref a0), some (.int a1), some (.ref a2), some (.ref v9)]) (st' := [.ref a0]) (sg := [(.astore_n 3, 0), (.aload_n 0, 0)]) (lSa_ok dd5) rfl ?_
  refine Y.getA fl_AL_9 (lIa_ok dd6) h (fun v10 h => ?_)
  refine Y.blk (pc' := 21) (L' := [some (.ref a0), some (.int a1), some (.ref a2), some (.ref v9)]) (st' := [.ref a2, .int a1, .ref v10]) (sg := [(.iload_n 1, 0), (.aload_n 2, 0)]) (lSa_ok dd7) rfl ?_
  refine Y.aastX (t0 := 3) (lIa_ok dd8) rfl rfl rfl h (fun G11 _ _ h => ?_)
  refine Y.blk (pc' := 23) (L' := [some (.ref a0), some (.int a1), some (.ref a2), some (.ref v9)]) (st' := [.ref v9]) (sg := [(.aload_n 3, 0)]) (lSa_ok dd9) rfl ?_
  exact Y.aret rfl (by first | exact Or.inl ⟨_, rfl⟩ | exact Or.inr ⟨_, rfl⟩) (lIa_ok dd10) h

def f_M_assign (w : Nat → Nat) (G : gH) (a0 : Nat) (a1 : Int32) (a2 : Int32) : gR :=
  bI (f_M_isIn G a1 (nI 0) (nI 1)) fun v3 G2 => if v3 = 0 then (gOb G2 a0 6 fun o5 => bI (f_M_start G2 a0 (nI 1) (nI 1)) fun v8 G7 => if v8 = 0 then gFA G7 a0 6 1 fun v9 => gOb G7 v9 9 fun o11 => bA (f_AL_get G7 v9 a1) fun v14 G13 => gCaO G13 v14 9 (gOb G13 v14 9 fun o16 => bI (f_AL_size G13 v14) fun v19 G18 => gOb G18 a0 6 fun o21 => bA (f_M_copy w G18 a0 a2) fun v24 G23 => gOb G23 a0 6 fun o26 => bI (f_M_endParts G23 a0 a1 a1) fun v29 G28 => gOb G28 a0 6 fun o31 => bV (f_M_endCursors G28 a0 a1) fun G33 => gFA G33 a0 6 1 fun v34 => gOb G33 v34 9 fun o36 => bA (f_AL_set G33 v34 a1 v24) fun v39 G38 => rI v19 G38)
    else rI (nI 0) G7)
  else gOb G2 a0 6 fun o42 => bI (f_M_isNoList G2 a0 a2) fun v45 G44 => if v45 = 0 then (gOb G44 a0 6 fun o47 => bI (f_M_start G44 a0 (nI 0) (nI 1)) fun v50 G49 => if v50 = 0 then gFA G49 a0 6 1 fun v51 => gOb G49 v51 9 fun o53 => bA (f_AL_get G49 v51 a1) fun v56 G55 => gCaO G55 v56 9 (gOb G55 v56 9 fun o58 => bI (f_AL_size G55 v56) fun v61 G60 => gOb G60 a0 6 fun o63 => bA (f_M_copy w G60 a0 a2) fun v66 G65 => gOb G65 a0 6 fun o68 => bI (f_M_endParts G65 a0 a1 a1) fun v71 G70 => gOb G70 a0 6 fun o73 => bV (f_M_endCursors G70 a0 a1) fun G75 => gFA G75 a0 6 1 fun v76 => gOb G75 v76 9 fun o78 => bA (f_AL_set G75 v76 a1 v66) fun v81 G80 => rI v61 G80)
      else rI (nI 0) G49)
    else gOb G44 a0 6 fun o84 => bI (f_M_start G44 a0 (nI 1) (nI 1)) fun v87 G86 => if v87 = 0 then gFA G86 a0 6 1 fun v88 => gOb G86 v88 9 fun o90 => bA (f_AL_get G86 v88 a1) fun v93 G92 => gCaO G92 v93 9 (gOb G92 v93 9 fun o95 => bI (f_AL_size G92 v93) fun v98 G97 => gOb G97 a0 6 fun o100 => bA (f_M_copy w G97 a0 a2) fun v103 G102 => gOb G102 a0 6 fun o105 => bI (f_M_endParts G102 a0 a1 a1) fun v108 G107 => gOb G107 a0 6 fun o110 => bV (f_M_endCursors G107 a0 a1) fun G112 => gFA G112 a0 6 1 fun v113 => gOb G112 v113 9 fun o115 => bA (f_AL_set G112 v113 a1 v103) fun v118 G117 => rI v98 G117)
      else rI (nI 0) G86
theorem k_M_assign {l : Launch} {D : va_G} {B : Nat} {O : State → Heap → Prop} {w : Nat → Nat} (hV : zGw l D B O w) (G : gH) (a0 : Nat) (a1 : Int32) (a2 : Int32) : gMet (zVm l D B O) m_M_assign 14 [.ref a0, .int a1, .int a2] G (f_M_assign w G a0 a1 a2) := by
  have hdd : lSa m_M_assign 0 [(.aload_n 0, 0), (.iload_n 1, 0), (.iconst 0, nI 0), (.iconst 1, nI 1)] = true ∧ lIa m_M_assign 4 (.invokestatic 40) 3 = true ∧ lIa m_M_assign 7 (.ifCond .eq 11) 3 = true ∧ lSa m_M_assign 18 [(.iconst 1, nI 1)] = true ∧ lIa m_M_assign 19 (.goto 4) 3 = true ∧ lSa m_M_assign 23 [(.iconst 1, nI 1)] = true ∧ lIa m_M_assign 24 (.invokevirtual 114) 3 = true ∧ lIa m_M_assign 27 (.ifCond .eq 5) 3 = true ∧ lSa m_M_assign 32 [(.aload_n 0, 0)] = true ∧ lIa m_M_assign 33 (.getfield 10) 3 = true ∧ lSa m_M_assign 36 [(.iload_n 1, 0)] = true ∧ lIa m_M_assign 37 (.invokevirtual 57) 3 = true ∧ lIa m_M_assign 40 (.checkcast 7) 3 = true ∧ lIa m_M_assign 43 (.invokevirtual 61) 3 = true ∧ lSa m_M_assign 46 [(.istore_n 3, 0), (.aload_n 0, 0), (.iload_n 2, 0)] = true ∧ lIa m_M_assign 49 (.invokevirtual 136) 3 = true ∧ lSa m_M_assign 52 [(.astore 4, 0), (.aload_n 0, 0), (.iload_n 1, 0), (.iload_n 1, 0)] = true ∧ lIa m_M_assign 57 (.invokevirtual 103) 3 = true ∧ lSa m_M_assign 60 [(.pop, 0), (.aload_n 0, 0), (.iload_n 1, 0)] = true ∧ lIa m_M_assign 63 (.invokevirtual 177) 3 = true ∧ lSa m_M_assign 66 [(.aload_n 0, 0)] = true ∧ lIa m_M_assign 67 (.getfield 10) 3 = true ∧ lSa m_M_assign 70 [(.iload_n 1, 0), (.aload 4, 0)] = true ∧ lIa m_M_assign 73 (.invokevirtual 143) 3 = true ∧ lSa m_M_assign 76 [(.pop, 0), (.iload_n 3, 0)] = true ∧ lIa m_M_assign 78 (.ireturn) 1 = true ∧ lSa m_M_assign 30 [(.iconst 0, nI 0)] = true ∧ lIa m_M_assign 31 (.ireturn) 1 = true ∧ lSa m_M_assign 10 [(.aload_n 0, 0), (.iload_n 2, 0)] = true ∧ lIa m_M_assign 12 (.invokevirtual 110) 3 = true ∧ lIa m_M_assign 15 (.ifCond .eq 7) 3 = true ∧ lSa m_M_assign 22 [(.iconst 0, nI 0), (.iconst 1, nI 1)] = true := by decide +kernel
  refine lA8 hdd (fun dd0 dd1 dd2 dd3 dd4 dd5 dd6 dd7 hdd => ?_)
  refine lA8 hdd (fun dd8 dd9 dd10 dd11 dd12 dd13 dd14 dd15 hdd => ?_)
  refine lA8 hdd (fun dd16 dd17 dd18 dd19 dd20 dd21 dd22 dd23 hdd => ?_)
  obtain ⟨dd24, dd25, dd26, dd27, dd28, dd29, dd30, dd31⟩ := hdd
  refine gMet.of (by decide +kernel) (Nat.le_of_ble_eq_true rfl) [some (.ref a0), some (.int a1), some (.int a2), none, none] (fun ls h => zEn_ok (n := 5) h) ?_
  intro o Gf h
  unfold f_M_assign at h
  refine Y.blk (pc' := 4) (L' := [some (.ref a0), some (.int a1), some (.int a2), none, none]) (st' := [.int (nI 1), .int (nI 0), .int a1, .ref a0]) (sg := [(.aload_n 0, 0), (.iload_n 1, 0), (.iconst 0, nI 0), (.iconst 1, nI 1)]) (lSa_ok dd0) rfl ?_
  refine Y.callI (yC.S (As := [.int a1, .int (nI 0), .int (nI 1)]) (st := [.ref a0]) hV.1.1 cb_M_isIn lk_M_40 st_M_isIn (lIa_ok dd1) rfl rfl (Nat.le_of_ble_eq_true rfl) (by decide)) (k_M_isIn hV.1 G a1 (nI 0) (nI 1)) h (fun v3 G2 _ h => ?_)
  refine Y.if_eq (off := 11) (tgt := 18) (lIa_ok dd2) (by decide) h (fun c121 h => ?_) (fun c121 h => ?_)
  · refine Y.blk (pc' := 19) (L' := [some (.ref a0), some (.int a1), some (.int a2), none, none]) (st' := [.int (nI 1), .ref a0]) (sg := [(.iconst 1, nI 1)]) (lSa_ok dd3) rfl ?_
    refine Y.goto (off := 4) (tgt := 23) (lIa_ok dd4) (by decide) ?_
    refine Y.blk (pc' := 24) (L' := [some (.ref a0), some (.int a1), some (.int a2), none, none]) (st' := [.int (nI 1), .int (nI 1), .ref a0]) (sg := [(.iconst 1, nI 1)]) (lSa_ok dd5) rfl ?_
    obtain ⟨_, o5, e4, m6, h⟩ := gOb_inv h
    refine Y.callI (yC.Vi (b := a0) (As := [.int (nI 1), .int (nI 1)]) (st := []) (r := ("PartlisterModel", T_M, 9)) hV.1.1 cb_M_start lk_M_114 in_M_start rfl se_M_start (lIa_ok dd6) rfl rfl (Nat.le_of_ble_eq_true rfl) (by decide) e4 m6) (k_M_start hV.1 G2 a0 (nI 1) (nI 1)) h (fun v8 G7 _ h => ?_)
    refine Y.if_eq (off := 5) (tgt := 32) (lIa_ok dd7) (by decide) h (fun c40 h => ?_) (fun c40 h => ?_)
    · refine Y.blk (pc' := 33) (L' := [some (.ref a0), some (.int a1), some (.int a2), none, none]) (st' := [.ref a0]) (sg := [(.aload_n 0, 0)]) (lSa_ok dd8) rfl ?_
      refine Y.getA fl_M_10 (lIa_ok dd9) h (fun v9 h => ?_)
      refine Y.blk (pc' := 37) (L' := [some (.ref a0), some (.int a1), some (.int a2), none, none]) (st' := [.int a1, .ref v9]) (sg := [(.iload_n 1, 0)]) (lSa_ok dd10) rfl ?_
      obtain ⟨_, o11, e10, m12, h⟩ := gOb_inv h
      refine Y.callA (yC.Vi (b := v9) (As := [.int a1]) (st := []) (r := ("java/util/ArrayList", T_AL, 3)) hV.1.1 cb_AL_get lk_M_57 in_AL_get rfl se_AL_get (lIa_ok dd11) rfl rfl (Nat.le_of_ble_eq_true rfl) (by decide) e10 m12) (k_AL_get hV.1 G7 v9 a1) h (fun v14 G13 _ h => ?_)
      refine Y.castO (r := ("java/util/ArrayList", T_AL, 3)) (lIa_ok dd12) rfl ck_M_7 h (fun h => ?_)
      obtain ⟨_, o16, e15, m17, h⟩ := gOb_inv h
      refine Y.callI (yC.Vi (b := v14) (As := []) (st := []) (r := ("java/util/ArrayList", T_AL, 3)) hV.1.1 cb_AL_size lk_M_61 in_AL_size rfl se_AL_size (lIa_ok dd13) rfl rfl (Nat.le_of_ble_eq_true rfl) (by decide) e15 m17) (k_AL_size hV.1 G13 v14) h (fun v19 G18 _ h => ?_)
      refine Y.blk (pc' := 49) (L' := [some (.ref a0), some (.int a1), some (.int a2), some (.int v19), none]) (st' := [.int a2, .ref a0]) (sg := [(.istore_n 3, 0), (.aload_n 0, 0), (.iload_n 2, 0)]) (lSa_ok dd14) rfl ?_
      obtain ⟨_, o21, e20, m22, h⟩ := gOb_inv h
      refine Y.callA (yC.Vi (b := a0) (As := [.int a2]) (st := []) (r := ("PartlisterModel", T_M, 9)) hV.1.1 cb_M_copy lk_M_136 in_M_copy rfl se_M_copy (lIa_ok dd15) rfl rfl (Nat.le_of_ble_eq_true rfl) (by decide) e20 m22) (k_M_copy hV G18 a0 a2) h (fun v24 G23 _ h => ?_)
      refine Y.blk (pc' := 57) (L' := [some (.ref a0), some (.int a1), some (.int a2), some (.int v19), some (.ref v24)]) (st' := [.int a1, .int a1, .ref a0]) (sg := [(.astore 4, 0), (.aload_n 0, 0), (.iload_n 1, 0), (.iload_n 1, 0)]) (lSa_ok dd16) rfl ?_
      obtain ⟨_, o26, e25, m27, h⟩ := gOb_inv h
      refine Y.callI (yC.Vi (b := a0) (As := [.int a1, .int a1]) (st := []) (r := ("PartlisterModel", T_M, 9)) hV.1.1 cb_M_endParts lk_M_103 in_M_endParts rfl se_M_endParts (lIa_ok dd17) rfl rfl (Nat.le_of_ble_eq_true rfl) (by decide) e25 m27) (k_M_endParts hV.1 G23 a0 a1 a1) h (fun v29 G28 _ h => ?_)
      refine Y.blk (pc' := 63) (L' := [some (.ref a0), some (.int a1), some (.int a2), some (.int v19), some (.ref v24)]) (st' := [.int a1, .ref a0]) (sg := [(.pop, 0), (.aload_n 0, 0), (.iload_n 1, 0)]) (lSa_ok dd18) rfl ?_
      obtain ⟨_, o31, e30, m32, h⟩ := gOb_inv h
      refine Y.callN (yC.Vi (b := a0) (As := [.int a1]) (st := []) (r := ("PartlisterModel", T_M, 9)) hV.1.1 cb_M_endCursors lk_M_177 in_M_endCursors rfl se_M_endCursors (lIa_ok dd19) rfl rfl (Nat.le_of_ble_eq_true rfl) (by decide) e30 m32) (k_M_endCursors hV.1 G28 a0 a1) h (fun G33 _ h => ?_)
      refine Y.blk (pc' := 67) (L' := [some (.ref a0), some (.int a1), some (.int a2), some (.int v19), some (.ref v24)]) (st' := [.ref a0]) (sg := [(.aload_n 0, 0)]) (lSa_ok dd20) rfl ?_
      refine Y.getA fl_M_10 (lIa_ok dd21) h (fun v34 h => ?_)
      refine Y.blk (pc' := 73) (L' := [some (.ref a0), some (.int a1), some (.int a2), some (.int v19), some (.ref v24)]) (st' := [.ref v24, .int a1, .ref v34]) (sg := [(.iload_n 1, 0), (.aload 4, 0)]) (lSa_ok dd22) rfl ?_
      obtain ⟨_, o36, e35, m37, h⟩ := gOb_inv h
      refine Y.callA (yC.Vi (b := v34) (As := [.int a1, .ref v24]) (st := []) (r := ("java/util/ArrayList", T_AL, 3)) hV.1.1 cb_AL_set lk_M_143 in_AL_set rfl se_AL_set (lIa_ok dd23) rfl rfl (Nat.le_of_ble_eq_true rfl) (by decide) e35 m37) (k_AL_set hV.1 G33 v34 a1 v24) h (fun v39 G38 _ h => ?_)
      refine Y.blk (pc' := 78) (L' := [some (.ref a0), some (.int a1), some (.int a2), some (.int v19), some (.ref v24)]) (st' := [.int v19]) (sg := [(.pop, 0), (.iload_n 3, 0)]) (lSa_ok dd24) rfl ?_
      exact Y.iret rfl (lIa_ok dd25) h
    · refine Y.blk (pc' := 31) (L' := [some (.ref a0), some (.int a1), some (.int a2), none, none]) (st' := [.int (nI 0)]) (sg := [(.iconst 0, nI 0)]) (lSa_ok dd26) rfl ?_
      exact Y.iret rfl (lIa_ok dd27) h
  · refine Y.blk (pc' := 12) (L' := [some (.ref a0), some (.int a1), some (.int a2), none, none]) (st' := [.int a2, .ref a0, .ref a0]) (sg := [(.aload_n 0, 0), (.iload_n 2, 0)]) (lSa_ok dd28) rfl ?_
    obtain ⟨_, o42, e41, m43, h⟩ := gOb_inv h
    refine Y.callI (yC.Vi (b := a0) (As := [.int a2]) (st := [.ref a0]) (r := ("PartlisterModel", T_M, 9)) hV.1.1 cb_M_isNoList lk_M_110 in_M_isNoList rfl se_M_isNoList (lIa_ok dd29) rfl rfl (Nat.le_of_ble_eq_true rfl) (by decide) e41 m43) (k_M_isNoList hV.1 G2 a0 a2) h (fun v45 G44 _ h => ?_)
    refine Y.if_eq (off := 7) (tgt := 22) (lIa_ok dd30) (by decide) h (fun c120 h => ?_) (fun c120 h => ?_)
    · refine Y.blk (pc' := 24) (L' := [some (.ref a0), some (.int a1), some (.int a2), none, none]) (st' := [.int (nI 1), .int (nI 0), .ref a0]) (sg := [(.iconst 0, nI 0), (.iconst 1, nI 1)]) (lSa_ok dd31) rfl ?_
      obtain ⟨_, o47, e46, m48, h⟩ := gOb_inv h
      refine Y.callI (yC.Vi (b := a0) (As := [.int (nI 0), .int (nI 1)]) (st := []) (r := ("PartlisterModel", T_M, 9)) hV.1.1 cb_M_start lk_M_114 in_M_start rfl se_M_start (lIa_ok dd6) rfl rfl (Nat.le_of_ble_eq_true rfl) (by decide) e46 m48) (k_M_start hV.1 G44 a0 (nI 0) (nI 1)) h (fun v50 G49 _ h => ?_)
      refine Y.if_eq (off := 5) (tgt := 32) (lIa_ok dd7) (by decide) h (fun c82 h => ?_) (fun c82 h => ?_)
      · refine Y.blk (pc' := 33) (L' := [some (.ref a0), some (.int a1), some (.int a2), none, none]) (st' := [.ref a0]) (sg := [(.aload_n 0, 0)]) (lSa_ok dd8) rfl ?_
        refine Y.getA fl_M_10 (lIa_ok dd9) h (fun v51 h => ?_)
        refine Y.blk (pc' := 37) (L' := [some (.ref a0), some (.int a1), some (.int a2), none, none]) (st' := [.int a1, .ref v51]) (sg := [(.iload_n 1, 0)]) (lSa_ok dd10) rfl ?_
        obtain ⟨_, o53, e52, m54, h⟩ := gOb_inv h
        refine Y.callA (yC.Vi (b := v51) (As := [.int a1]) (st := []) (r := ("java/util/ArrayList", T_AL, 3)) hV.1.1 cb_AL_get lk_M_57 in_AL_get rfl se_AL_get (lIa_ok dd11) rfl rfl (Nat.le_of_ble_eq_true rfl) (by decide) e52 m54) (k_AL_get hV.1 G49 v51 a1) h (fun v56 G55 _ h => ?_)
        refine Y.castO (r := ("java/util/ArrayList", T_AL, 3)) (lIa_ok dd12) rfl ck_M_7 h (fun h => ?_)
        obtain ⟨_, o58, e57, m59, h⟩ := gOb_inv h
        refine Y.callI (yC.Vi (b := v56) (As := []) (st := []) (r := ("java/util/ArrayList", T_AL, 3)) hV.1.1 cb_AL_size lk_M_61 in_AL_size rfl se_AL_size (lIa_ok dd13) rfl rfl (Nat.le_of_ble_eq_true rfl) (by decide) e57 m59) (k_AL_size hV.1 G55 v56) h (fun v61 G60 _ h => ?_)
        refine Y.blk (pc' := 49) (L' := [some (.ref a0), some (.int a1), some (.int a2), some (.int v61), none]) (st' := [.int a2, .ref a0]) (sg := [(.istore_n 3, 0), (.aload_n 0, 0), (.iload_n 2, 0)]) (lSa_ok dd14) rfl ?_
        obtain ⟨_, o63, e62, m64, h⟩ := gOb_inv h
        refine Y.callA (yC.Vi (b := a0) (As := [.int a2]) (st := []) (r := ("PartlisterModel", T_M, 9)) hV.1.1 cb_M_copy lk_M_136 in_M_copy rfl se_M_copy (lIa_ok dd15) rfl rfl (Nat.le_of_ble_eq_true rfl) (by decide) e62 m64) (k_M_copy hV G60 a0 a2) h (fun v66 G65 _ h => ?_)
        refine Y.blk (pc' := 57) (L' := [some (.ref a0), some (.int a1), some (.int a2), some (.int v61), some (.ref v66)]) (st' := [.int a1, .int a1, .ref a0]) (sg := [(.astore 4, 0), (.aload_n 0, 0), (.iload_n 1, 0), (.iload_n 1, 0)]) (lSa_ok dd16) rfl ?_
        obtain ⟨_, o68, e67, m69, h⟩ := gOb_inv h
        refine Y.callI (yC.Vi (b := a0) (As := [.int a1, .int a1]) (st := []) (r := ("PartlisterModel", T_M, 9)) hV.1.1 cb_M_endParts lk_M_103 in_M_endParts rfl se_M_endParts (lIa_ok dd17) rfl rfl (Nat.le_of_ble_eq_true rfl) (by decide) e67 m69) (k_M_endParts hV.1 G65 a0 a1 a1) h (fun v71 G70 _ h => ?_)
        refine Y.blk (pc' := 63) (L' := [some (.ref a0), some (.int a1), some (.int a2), some (.int v61), some (.ref v66)]) (st' := [.int a1, .ref a0]) (sg := [(.pop, 0), (.aload_n 0, 0), (.iload_n 1, 0)]) (lSa_ok dd18) rfl ?_
        obtain ⟨_, o73, e72, m74, h⟩ := gOb_inv h
        refine Y.callN (yC.Vi (b := a0) (As := [.int a1]) (st := []) (r := ("PartlisterModel", T_M, 9)) hV.1.1 cb_M_endCursors lk_M_177 in_M_endCursors rfl se_M_endCursors (lIa_ok dd19) rfl rfl (Nat.le_of_ble_eq_true rfl) (by decide) e72 m74) (k_M_endCursors hV.1 G70 a0 a1) h (fun G75 _ h => ?_)
        refine Y.blk (pc' := 67) (L' := [some (.ref a0), some (.int a1), some (.int a2), some (.int v61), some (.ref v66)]) (st' := [.ref a0]) (sg := [(.aload_n 0, 0)]) (lSa_ok dd20) rfl ?_
        refine Y.getA fl_M_10 (lIa_ok dd21) h (fun v76 h => ?_)
        refine Y.blk (pc' := 73) (L' := [some (.ref a0), some (.int a1), some (.int a2), some (.int v61), some (.ref v66)]) (st' := [.ref v66, .int a1, .ref v76]) (sg := [(.iload_n 1, 0), (.aload 4, 0)]) (lSa_ok dd22) rfl ?_
        obtain ⟨_, o78, e77, m79, h⟩ := gOb_inv h
        refine Y.callA (yC.Vi (b := v76) (As := [.int a1, .ref v66]) (st := []) (r := ("java/util/ArrayList", T_AL, 3)) hV.1.1 cb_AL_set lk_M_143 in_AL_set rfl se_AL_set (lIa_ok dd23) rfl rfl (Nat.le_of_ble_eq_true rfl) (by decide) e77 m79) (k_AL_set hV.1 G75 v76 a1 v66) h (fun v81 G80 _ h => ?_)
        refine Y.blk (pc' := 78) (L' := [some (.ref a0), some (.int a1), some (.int a2), some (.int v61), some (.ref v66)]) (st' := [.int v61]) (sg := [(.pop, 0), (.iload_n 3, 0)]) (lSa_ok dd24) rfl ?_
        exact Y.iret rfl (lIa_ok dd25) h
      · refine Y.blk (pc' := 31) (L' := [some (.ref a0), some (.int a1), some (.int a2), none, none]) (st' := [.int (nI 0)]) (sg := [(.iconst 0, nI 0)]) (lSa_ok dd26) rfl ?_
        exact Y.iret rfl (lIa_ok dd27) h
    · refine Y.blk (pc' := 19) (L' := [some (.ref a0), some (.int a1), some (.int a2), none, none]) (st' := [.int (nI 1), .ref a0]) (sg := [(.iconst 1, nI 1)]) (lSa_ok dd3) rfl ?_
      refine Y.goto (off := 4) (tgt := 23) (lIa_ok dd4) (by decide) ?_
      refine Y.blk (pc' := 24) (L' := [some (.ref a0), some (.int a1), some (.int a2), none, none]) (st' := [.int (nI 1), .int (nI 1), .ref a0]) (sg := [(.iconst 1, nI 1)]) (lSa_ok dd5) rfl ?_
      obtain ⟨_, o84, e83, m85, h⟩ := gOb_inv h
      refine Y.callI (yC.Vi (b := a0) (As := [.int (nI 1), .int (nI 1)]) (st := []) (r := ("PartlisterModel", T_M, 9)) hV.1.1 cb_M_start lk_M_114 in_M_start rfl se_M_start (lIa_ok dd6) rfl rfl (Nat.le_of_ble_eq_true rfl) (by decide) e83 m85) (k_M_start hV.1 G44 a0 (nI 1) (nI 1)) h (fun v87 G86 _ h => ?_)
      refine Y.if_eq (off := 5) (tgt := 32) (lIa_ok dd7) (by decide) h (fun c119 h => ?_) (fun c119 h => ?_)
      · refine Y.blk (pc' := 33) (L' := [some (.ref a0), some (.int a1), some (.int a2), none, none]) (st' := [.ref a0]) (sg := [(.aload_n 0, 0)]) (lSa_ok dd8) rfl ?_
        refine Y.getA fl_M_10 (lIa_ok dd9) h (fun v88 h => ?_)
        refine Y.blk (pc' := 37) (L' := [some (.ref a0), some (.int a1), some (.int a2), none, none]) (st' := [.int a1, .ref v88]) (sg := [(.iload_n 1, 0)]) (lSa_ok dd10) rfl ?_
        obtain ⟨_, o90, e89, m91, h⟩ := gOb_inv h
        refine Y.callA (yC.Vi (b := v88) (As := [.int a1]) (st := []) (r := ("java/util/ArrayList", T_AL, 3)) hV.1.1 cb_AL_get lk_M_57 in_AL_get rfl se_AL_get (lIa_ok dd11) rfl rfl (Nat.le_of_ble_eq_true rfl) (by decide) e89 m91) (k_AL_get hV.1 G86 v88 a1) h (fun v93 G92 _ h => ?_)
        refine Y.castO (r := ("java/util/ArrayList", T_AL, 3)) (lIa_ok dd12) rfl ck_M_7 h (fun h => ?_)
        obtain ⟨_, o95, e94, m96, h⟩ := gOb_inv h
        refine Y.callI (yC.Vi (b := v93) (As := []) (st := []) (r := ("java/util/ArrayList", T_AL, 3)) hV.1.1 cb_AL_size lk_M_61 in_AL_size rfl se_AL_size (lIa_ok dd13) rfl rfl (Nat.le_of_ble_eq_true rfl) (by decide) e94 m96) (k_AL_size hV.1 G92 v93) h (fun v98 G97 _ h => ?_)
        refine Y.blk (pc' := 49) (L' := [some (.ref a0), some (.int a1), some (.int a2), some (.int v98), none]) (st' := [.int a2, .ref a0]) (sg := [(.istore_n 3, 0), (.aload_n 0, 0), (.iload_n 2, 0)]) (lSa_ok dd14) rfl ?_
        obtain ⟨_, o100, e99, m101, h⟩ := gOb_inv h
        refine Y.callA (yC.Vi (b := a0) (As := [.int a2]) (st := []) (r := ("PartlisterModel", T_M, 9)) hV.1.1 cb_M_copy lk_M_136 in_M_copy rfl se_M_copy (lIa_ok dd15) rfl rfl (Nat.le_of_ble_eq_true rfl) (by decide) e99 m101) (k_M_copy hV G97 a0 a2) h (fun v103 G102 _ h => ?_)
        refine Y.blk (pc' := 57) (L' := [some (.ref a0), some (.int a1), some (.int a2), some (.int v98), some (.ref v103)]) (st' := [.int a1, .int a1, .ref a0]) (sg := [(.astore 4, 0), (.aload_n 0, 0), (.iload_n 1, 0), (.iload_n 1, 0)]) (lSa_ok dd16) rfl ?_
        obtain ⟨_, o105, e104, m106, h⟩ := gOb_inv h
        refine Y.callI (yC.Vi (b := a0) (As := [.int a1, .int a1]) (st := []) (r := ("PartlisterModel", T_M, 9)) hV.1.1 cb_M_endParts lk_M_103 in_M_endParts rfl se_M_endParts (lIa_ok dd17) rfl rfl (Nat.le_of_ble_eq_true rfl) (by decide) e104 m106) (k_M_endParts hV.1 G102 a0 a1 a1) h (fun v108 G107 _ h => ?_)
        refine Y.blk (pc' := 63) (L' := [some (.ref a0), some (.int a1), some (.int a2), some (.int v98), some (.ref v103)]) (st' := [.int a1, .ref a0]) (sg := [(.pop, 0), (.aload_n 0, 0), (.iload_n 1, 0)]) (lSa_ok dd18) rfl ?_
        obtain ⟨_, o110, e109, m111, h⟩ := gOb_inv h
        refine Y.callN (yC.Vi (b := a0) (As := [.int a1]) (st := []) (r := ("PartlisterModel", T_M, 9)) hV.1.1 cb_M_endCursors lk_M_177 in_M_endCursors rfl se_M_endCursors (lIa_ok dd19) rfl rfl (Nat.le_of_ble_eq_true rfl) (by decide) e109 m111) (k_M_endCursors hV.1 G107 a0 a1) h (fun G112 _ h => ?_)
        refine Y.blk (pc' := 67) (L' := [some (.ref a0), some (.int a1), some (.int a2), some (.int v98), some (.ref v103)]) (st' := [.ref a0]) (sg := [(.aload_n 0, 0)]) (lSa_ok dd20) rfl ?_
        refine Y.getA fl_M_10 (lIa_ok dd21) h (fun v113 h => ?_)
        refine Y.blk (pc' := 73) (L' := [some (.ref a0), some (.int a1), some (.int a2), some (.int v98), some (.ref v103)]) (st' := [.ref v103, .int a1, .ref v113]) (sg := [(.iload_n 1, 0), (.aload 4, 0)]) (lSa_ok dd22) rfl ?_
        obtain ⟨_, o115, e114, m116, h⟩ := gOb_inv h
        refine Y.callA (yC.Vi (b := v113) (As := [.int a1, .ref v103]) (st := []) (r := ("java/util/ArrayList", T_AL, 3)) hV.1.1 cb_AL_set lk_M_143 in_AL_set rfl se_AL_set (lIa_ok dd23) rfl rfl (Nat.le_of_ble_eq_true rfl) (by decide) e114 m116) (k_AL_set hV.1 G112 v113 a1 v103) h (fun v118 G117 _ h => ?_)
        refine Y.blk (pc' := 78) (L' := [some (.ref a0), some (.int a1), some (.int a2), some (.int v98), some (.ref v103)]) (st' := [.int v98]) (sg := [(.pop, 0), (.iload_n 3, 0)]) (lSa_ok dd24) rfl ?_
        exact Y.iret rfl (lIa_ok dd25) h
      · refine Y.blk (pc' := 31) (L' := [some (.ref a0), some (.int a1), some (.int a2), none, none]) (st' := [.int (nI 0)]) (sg := [(.iconst 0, nI 0)]) (lSa_ok dd26) rfl ?_
        exact Y.iret rfl (lIa_ok dd27) h
