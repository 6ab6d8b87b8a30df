def f_M_extremeOf_L5 (K59 : gH → Int32 → gR) : Nat → gH → Nat → Int32 → Int32 → Int32 → Int32 → gR
  | 0, _, _, _, _, _, _ => none
  | n + 1, G, x0, x1, x2, x3, x4 =>
    gOb G x0 6 fun o2 => bI (f_M_length G x0 x1) fun v5 G4 => if v5 ≤ x4 then K59 G4 x3
    else gOb G4 x0 6 fun o7 => bA (f_M_at G4 x0 x1 x4) fun v10 G9 => gLd G9 v10 100 (nI 0) fun v11 => if x3 = (-1) then f_M_extremeOf_L5 K59 n G9 x0 x1 x2 v11 (x4 + (nI 1))
      else if x2 = 0 then (if v11 ≤ x3 then f_M_extremeOf_L5 K59 n G9 x0 x1 x2 x3 (x4 + (nI 1))
          else f_M_extremeOf_L5 K59 n G9 x0 x1 x2 v11 (x4 + (nI 1)))
        else if x3 ≤ v11 then f_M_extremeOf_L5 K59 n G9 x0 x1 x2 x3 (x4 + (nI 1))
          else f_M_extremeOf_L5 K59 n G9 x0 x1 x2 v11 (x4 + (nI 1))
def f_M_extremeOf (G : gH) (a0 : Nat) (a1 : Int32) (a2 : Int32) : gR :=
  f_M_extremeOf_L5 (fun G18 x17 => rI x17 G18) zFu G a0 a1 a2 (-1) (nI 0)
theorem k_M_extremeOf_L5 {l : Launch} {D : va_G} {B : Nat} {O : State → Heap → Prop} (hV : zG l D B O) {o : gO} {Gf : gH} (K59 : gH → Int32 → gR) (hK59 : ∀ (G : gH) (x3 : Int32), K59 G x3 = some (o, Gf) → Y (zVm l D B O) m_M_extremeOf 13 o Gf 59 [none, none, none, some (.int x3), none, none] [] G) : ∀ (n : Nat) (G : gH) (x0 : Nat) (x1 : Int32) (x2 : Int32) (x3 : Int32) (x4 : Int32), f_M_extremeOf_L5 K59 n G x0 x1 x2 x3 x4 = some (o, Gf) → Y (zVm l D B O) m_M_extremeOf 13 o Gf 5 [some (.ref x0), some (.int x1), some (.int x2), some (.int x3), some (.int x4), none] [] G := by
  have hdd : lSa m_M_extremeOf 5 [(.iload 4, 0), (.aload_n 0, 0), (.iload_n 1, 0)] = true ∧ lIa m_M_extremeOf 9 (.invokevirtual 74) 3 = true ∧ lIa m_M_extremeOf 12 (.if_icmp .ge 47) 3 = true ∧ lSa m_M_extremeOf 15 [(.aload_n 0, 0), (.iload_n 1, 0), (.iload 4, 0)] = true ∧ lIa m_M_extremeOf 19 (.invokevirtual 132) 3 = true ∧ lSa m_M_extremeOf 22 [(.iconst 0, nI 0)] = true ∧ lIa m_M_extremeOf 23 (.iaload) 1 = true ∧ lSa m_M_extremeOf 24 [(.istore 5, 0), (.iload_n 3, 0), (.iconst (-1), -1)] = true ∧ lIa m_M_extremeOf 28 (.if_icmp .eq 22) 3 = true ∧ lSa m_M_extremeOf 50 [(.iload 5, 0), (.istore_n 3, 0), (.iinc 4 1, nI 1)] = true ∧ lIa m_M_extremeOf 56 (.goto (-51)) 3 = true ∧ lSa m_M_extremeOf 31 [(.iload_n 2, 0)] = true ∧ lIa m_M_extremeOf 32 (.ifCond .eq 12) 3 = true ∧ lSa m_M_extremeOf 44 [(.iload 5, 0), (.iload_n 3, 0)] = true ∧ lIa m_M_extremeOf 47 (.if_icmp .le 6) 3 = true ∧ lSa m_M_extremeOf 53 [(.iinc 4 1, nI 1)] = true ∧ lSa m_M_extremeOf 35 [(.iload 5, 0), (.iload_n 3, 0)] = true ∧ lIa m_M_extremeOf 38 (.if_icmp .ge 15) 3 = true ∧ lIa m_M_extremeOf 41 (.goto 9) 3 = true := by decide +kernel
  refine lA8 hdd (fun dd0 dd1 dd2 dd3 dd4 dd5 dd6 dd7 hdd => ?_)
  refine lA8 hdd (fun dd8 dd9 dd10 dd11 dd12 dd13 dd14 dd15 hdd => ?_)
  obtain ⟨dd16, dd17, dd18⟩ := hdd
  intro n
  induction n with
  | zero => intro G x0 x1 x2 x3 x4 h; cases h
  | succ n ih =>
    intro G x0 x1 x2 x3 x4 h
    unfold f_M_extremeOf_L5 at h
    refine Y.blk (pc' := 9) (L' := [some (.ref x0), some (.int x1), some (.int x2), some (.int x3), some (.int x4), none]) (st' := [.int x1, .ref x0, .int x4]) (sg := [(.iload 4, 0), (.aload_n 0, 0), (.iload_n 1, 0)]) (lSa_ok dd0) rfl ?_
    obtain ⟨_, o2, e1, m3, h⟩ := gOb_inv h
    refine Y.callI (yC.Vi (b := x0) (As := [.int x1]) (st := [.int x4]) (r := ("PartlisterModel", T_M, 9)) hV.1 cb_M_length lk_M_74 in_M_length rfl se_M_length (lIa_ok dd1) rfl rfl (Nat.le_of_ble_eq_true rfl) (by decide) e1 m3) (k_M_length hV G x0 x1) h (fun v5 G4 _ h => ?_)
    refine Y.ic_ge (off := 47) (tgt := 59) (lIa_ok dd2) (by decide) h (fun c16 h => ?_) (fun c16 h => ?_)
    · refine Y.less (L' := [none, none, none, some (.int x3), none, none]) (zLe_none (zLe_none (zLe_none (zLe_some (zLe_none (zLe_some (zLe_nil))))))) ?_
      exact hK59 G4 x3 h
    · refine Y.blk (pc' := 19) (L' := [some (.ref x0), some (.int x1), some (.int x2), some (.int x3), some (.int x4), none]) (st' := [.int x4, .int x1, .ref x0]) (sg := [(.aload_n 0, 0), (.iload_n 1, 0), (.iload 4, 0)]) (lSa_ok dd3) rfl ?_
      obtain ⟨_, o7, e6, m8, h⟩ := gOb_inv h
      refine Y.callA (yC.Vi (b := x0) (As := [.int x1, .int x4]) (st := []) (r := ("PartlisterModel", T_M, 9)) hV.1 cb_M_at lk_M_132 in_M_at rfl se_M_at (lIa_ok dd4) rfl rfl (Nat.le_of_ble_eq_true rfl) (by decide) e6 m8) (k_M_at hV G4 x0 x1 x4) h (fun v10 G9 _ h => ?_)
      refine Y.blk (pc' := 23) (L' := [some (.ref x0), some (.int x1), some (.int x2), some (.int x3), some (.int x4), none]) (st' := [.int (nI 0), .ref v10]) (sg := [(.iconst 0, nI 0)]) (lSa_ok dd5) rfl ?_
      refine Y.iald (t0 := 0) (lIa_ok dd6) rfl h (fun v11 h => ?_)
      refine Y.blk (pc' := 28) (L' := [some (.ref x0), some (.int x1), some (.int x2), some (.int x3), some (.int x4), some (.int v11)]) (st' := [.int (-1), .int x3]) (sg := [(.istore 5, 0), (.iload_n 3, 0), (.iconst (-1), -1)]) (lSa_ok dd7) rfl ?_
      refine Y.ic_eq (off := 22) (tgt := 50) (lIa_ok dd8) (by decide) h (fun c15 h => ?_) (fun c15 h => ?_)
      · refine Y.blk (pc' := 56) (L' := [some (.ref x0), some (.int x1), some (.int x2), some (.int v11), some (.int (x4 + (nI 1))), some (.int v11)]) (st' := []) (sg := [(.iload 5, 0), (.istore_n 3, 0), (.iinc 4 1, nI 1)]) (lSa_ok dd9) rfl ?_
        refine Y.goto (off := -51) (tgt := 5) (lIa_ok dd10) (by decide) ?_
        refine Y.less (L' := [some (.ref x0), some (.int x1), some (.int x2), some (.int v11), some (.int (x4 + (nI 1))), none]) (zLe_some (zLe_some (zLe_some (zLe_some (zLe_some (zLe_none (zLe_nil))))))) ?_
        exact ih G9 x0 x1 x2 v11 (x4 + (nI 1)) h
      · refine Y.blk (pc' := 32) (L' := [some (.ref x0), some (.int x1), some (.int x2), some (.int x3), some (.int x4), some (.int v11)]) (st' := [.int x2]) (sg := [(.iload_n 2, 0)]) (lSa_ok dd11) rfl ?_
        refine Y.if_eq (off := 12) (tgt := 44) (lIa_ok dd12) (by decide) h (fun c14 h => ?_) (fun c14 h => ?_)
        · refine Y.blk (pc' := 47) (L' := [some (.ref x0), some (.int x1), some (.int x2), some (.int x3), some (.int x4), some (.int v11)]) (st' := [.int x3, .int v11]) (sg := [(.iload 5, 0), (.iload_n 3, 0)]) (lSa_ok dd13) rfl ?_
          refine Y.ic_le (off := 6) (tgt := 53) (lIa_ok dd14) (by decide) h (fun c12 h => ?_) (fun c12 h => ?_)
          · refine Y.blk (pc' := 56) (L' := [some (.ref x0), some (.int x1), some (.int x2), some (.int x3), some (.int (x4 + (nI 1))), some (.int v11)]) (st' := []) (sg := [(.iinc 4 1, nI 1)]) (lSa_ok dd15) rfl ?_
            refine Y.goto (off := -51) (tgt := 5) (lIa_ok dd10) (by decide) ?_
            refine Y.less (L' := [some (.ref x0), some (.int x1), some (.int x2), some (.int x3), some (.int (x4 + (nI 1))), none]) (zLe_some (zLe_some (zLe_some (zLe_some (zLe_some (zLe_none (zLe_nil))))))) ?_
            exact ih G9 x0 x1 x2 x3 (x4 + (nI 1)) h
          · refine Y.blk (pc' := 56) (L' := [some (.ref x0), some (.int x1), some (.int x2), some (.int v11), some (.int (x4 + (nI 1))), some (.int v11)]) (st' := []) (sg := [(.iload 5, 0), (.istore_n 3, 0), (.iinc 4 1, nI 1)]) (lSa_ok dd9) rfl ?_
            refine Y.goto (off := -51) (tgt := 5) (lIa_ok dd10) (by decide) ?_
            refine Y.less (L' := [some (.ref x0), some (.int x1), some (.int x2), some (.int v11), some (.int (x4 + (nI 1))), none]) (zLe_some (zLe_some (zLe_some (zLe_some (zLe_some (zLe_none (zLe_nil))))))) ?_
            exact ih G9 x0 x1 x2 v11 (x4 + (nI 1)) h
        · refine Y.blk (pc' := 38) (L' := [some (.ref x0), some (.int x1), some (.int x2), some (.int x3), some (.int x4), some (.int v11)]) (st' := [.int x3, .int v11]) (sg := [(.iload 5, 0), (.iload_n 3, 0)]) (lSa_ok dd16) rfl ?_
          refine Y.ic_ge (off := 15) (tgt := 53) (lIa_ok dd17) (by decide) h (fun c13 h => ?_) (fun c13 h => ?_)
          · refine Y.blk (pc' := 56) (L' := [some (.ref x0), some (.int x1), some (.int x2), some (.int x3), some (.int (x4 + (nI 1))), some (.int v11)]) (st' := []) (sg := [(.iinc 4 1, nI 1)]) (lSa_ok dd15) rfl ?_
            refine Y.goto (off := -51) (tgt := 5) (lIa_ok dd10) (by decide) ?_
            refine Y.less (L' := [some (.ref x0), some (.int x1), some (.int x2), some (.int x3), some (.int (x4 + (nI 1))), none]) (zLe_some (zLe_some (zLe_some (zLe_some (zLe_some (zLe_none (zLe_nil))))))) ?_
            exact ih G9 x0 x1 x2 x3 (x4 + (nI 1)) h
          · refine Y.goto (off := 9) (tgt := 50) (lIa_ok dd18) (by decide) ?_
            refine Y.blk (pc' := 56) (L' := [some (.ref x0), some (.int x1), some (.int x2), some (.int v11), some (.int (x4 + (nI 1))), some (.int v11)]) (st' := []) (sg := [(.iload 5, 0), (.istore_n 3, 0), (.iinc 4 1, nI 1)]) (lSa_ok dd9) rfl ?_
            refine Y.goto (off := -51) (tgt := 5) (lIa_ok dd10) (by decide) ?_
            refine Y.less (L' := [some (.ref x0), some (.int x1), some (.int x2), some (.int v11), some (.int (x4 + (nI 1))), none]) (zLe_some (zLe_some (zLe_some (zLe_some (zLe_some (zLe_none (zLe_nil))))))) ?_
            exact ih G9 x0 x1 x2 v11 (x4 + (nI 1)) h
theorem k_M_extremeOf {l : Launch} {D : va_G} {B : Nat} {O : State → Heap → Prop} (hV : zG l D B O) (G : gH) (a0 : Nat) (a1 : Int32) (a2 : Int32) : gMet (zVm l D B O) m_M_extremeOf 13 [.ref a0, .int a1, .int a2] G (f_M_extremeOf G a0 a1 a2) := by
  have hdd : lSa m_M_extremeOf 0 [(.iconst (-1), -1), (.istore_n 3, 0), (.iconst 0, nI 0), (.istore 4, 0)] = true ∧ lSa m_M_extremeOf 59 [(.iload_n 3, 0)] = true ∧ lIa m_M_extremeOf 60 (.ireturn) 1 = true := by decide +kernel
  obtain ⟨dd0, dd1, dd2⟩ := hdd
  refine gMet.of (by decide +kernel) (Nat.le_of_ble_eq_true rfl) [some (.ref a0), some (.int a1), some (.int a2), none, none, none] (fun ls h => zEn_ok (n := 6) h) ?_
  intro o Gf h
  unfold f_M_extremeOf at h
  refine Y.blk (pc' := 5) (L' := [some (.ref a0), some (.int a1), some (.int a2), some (.int (-1)), some (.int (nI 0)), none]) (st' := []) (sg := [(.iconst (-1), -1), (.istore_n 3, 0), (.iconst 0, nI 0), (.istore 4, 0)]) (lSa_ok dd0) rfl ?_
  refine k_M_extremeOf_L5 hV _ ?_  zFu G a0 a1 a2 (-1) (nI 0) h
  · intro G18 x17 h
    refine Y.blk (pc' := 60) (L' := [none, none, none, some (.int x17), none, none]) (st' := [.int x17]) (sg := [(.iload_n 3, 0)]) (lSa_ok dd1) rfl ?_
    exact Y.iret rfl (lIa_ok dd2) h

def f_M_liesAt_L3 (K36 : gH → gR) (K44 : gH → gR) : Nat → gH → Nat → Int32 → Int32 → Int32 → Int32 → gR
  | 0, _, _, _, _, _, _ => none
  | n + 1, G, x0, x1, x2, x3, x4 =>
    gOb G x0 6 fun o2 => bI (f_M_length G x0 x3) fun v5 G4 => if v5 ≤ x4 then K44 G4
    else gOb G4 x0 6 fun o7 => bA (f_M_at G4 x0 x1 (x2 + x4)) fun v10 G9 => gLd G9 v10 100 (nI 0) fun v11 => gOb G9 x0 6 fun o13 => bA (f_M_at G9 x0 x3 x4) fun v16 G15 => gLd G15 v16 100 (nI 0) fun v17 => if v11 = v17 then f_M_liesAt_L3 K36 K44 n G15 x0 x1 x2 x3 (x4 + (nI 1))
      else K36 G15
def f_M_liesAt (G : gH) (a0 : Nat) (a1 : Int32) (a2 : Int32) (a3 : Int32) : gR :=
  f_M_liesAt_L3 (fun G20 => rZ (nI 0) G20) (fun G21 => rZ (nI 1) G21) zFu G a0 a1 a2 a3 (nI 0)
theorem k_M_liesAt_L3 {l : Launch} {D : va_G} {B : Nat} {O : State → Heap → Prop} (hV : zG l D B O) {o : gO} {Gf : gH} (K36 : gH → gR) (K44 : gH → gR) (hK36 : ∀ (G : gH), K36 G  = some (o, Gf) → Y (zVm l D B O) m_M_liesAt 13 o Gf 36 [none, none, none, none, none] [] G) (hK44 : ∀ (G : gH), K44 G  = some (o, Gf) → Y (zVm l D B O) m_M_liesAt 13 o Gf 44 [none, none, none, none, none] [] G) : ∀ (n : Nat) (G : gH) (x0 : Nat) (x1 : Int32) (x2 : Int32) (x3 : Int32) (x4 : Int32), f_M_liesAt_L3 K36 K44 n G x0 x1 x2 x3 x4 = some (o, Gf) → Y (zVm l D B O) m_M_liesAt 13 o Gf 3 [some (.ref x0), some (.int x1), some (.int x2), some (.int x3), some (.int x4)] [] G := by
  have hdd : lSa m_M_liesAt 3 [(.iload 4, 0), (.aload_n 0, 0), (.iload_n 3, 0)] = true ∧ lIa m_M_liesAt 7 (.invokevirtual 74) 3 = true ∧ lIa m_M_liesAt 10 (.if_icmp .ge 34) 3 = true ∧ lSa m_M_liesAt 13 [(.aload_n 0, 0), (.iload_n 1, 0), (.iload_n 2, 0), (.iload 4, 0), (.iadd, 0)] = true ∧ lIa m_M_liesAt 19 (.invokevirtual 132) 3 = true ∧ lSa m_M_liesAt 22 [(.iconst 0, nI 0)] = true ∧ lIa m_M_liesAt 23 (.iaload) 1 = true ∧ lSa m_M_liesAt 24 [(.aload_n 0, 0), (.iload_n 3, 0), (.iload 4, 0)] = true ∧ lIa m_M_liesAt 28 (.invokevirtual 132) 3 = true ∧ lSa m_M_liesAt 31 [(.iconst 0, nI 0)] = true ∧ lIa m_M_liesAt 32 (.iaload) 1 = true ∧ lIa m_M_liesAt 33 (.if_icmp .eq 5) 3 = true ∧ lSa m_M_liesAt 38 [(.iinc 4 1, nI 1)] = true ∧ lIa m_M_liesAt 41 (.goto (-38)) 3 = true := by decide +kernel
  refine lA8 hdd (fun dd0 dd1 dd2 dd3 dd4 dd5 dd6 dd7 hdd => ?_)
  obtain ⟨dd8, dd9, dd10, dd11, dd12, dd13⟩ := hdd
  intro n
  induction n with
  | zero => intro G x0 x1 x2 x3 x4 h; cases h
  | succ n ih =>
    intro G x0 x1 x2 x3 x4 h
    unfold f_M_liesAt_L3 at h
    refine Y.blk (pc' := 7) (L' := [some (.ref x0), some (.int x1), some (.int x2), some (.int x3), some (.int x4)]) (st' := [.int x3, .ref x0, .int x4]) (sg := [(.iload 4, 0), (.aload_n 0, 0), (.iload_n 3, 0)]) (lSa_ok dd0) rfl ?_
    obtain ⟨_, o2, e1, m3, h⟩ := gOb_inv h
    refine Y.callI (yC.Vi (b := x0) (As := [.int x3]) (st := [.int x4]) (r := ("PartlisterModel", T_M, 9)) hV.1 cb_M_length lk_M_74 in_M_length rfl se_M_length (lIa_ok dd1) rfl rfl (Nat.le_of_ble_eq_true rfl) (by decide) e1 m3) (k_M_length hV G x0 x3) h (fun v5 G4 _ h => ?_)
    refine Y.ic_ge (off := 34) (tgt := 44) (lIa_ok dd2) (by decide) h (fun c19 h => ?_) (fun c19 h => ?_)
    · refine Y.less (L' := [none, none, none, none, none]) (zLe_none (zLe_none (zLe_none (zLe_none (zLe_none (zLe_nil)))))) ?_
      exact hK44 G4  h
    · refine Y.blk (pc' := 19) (L' := [some (.ref x0), some (.int x1), some (.int x2), some (.int x3), some (.int x4)]) (st' := [.int (x2 + x4), .int x1, .ref x0]) (sg := [(.aload_n 0, 0), (.iload_n 1, 0), (.iload_n 2, 0), (.iload 4, 0), (.iadd, 0)]) (lSa_ok dd3) rfl ?_
      obtain ⟨_, o7, e6, m8, h⟩ := gOb_inv h
      refine Y.callA (yC.Vi (b := x0) (As := [.int x1, .int (x2 + x4)]) (st := []) (r := ("PartlisterModel", T_M, 9)) hV.1 cb_M_at lk_M_132 in_M_at rfl se_M_at (lIa_ok dd4) rfl rfl (Nat.le_of_ble_eq_true rfl) (by decide) e6 m8) (k_M_at hV G4 x0 x1 (x2 + x4)) h (fun v10 G9 _ h => ?_)
      refine Y.blk (pc' := 23) (L' := [some (.ref x0), some (.int x1), some (.int x2), some (.int x3), some (.int x4)]) (st' := [.int (nI 0), .ref v10]) (sg := [(.iconst 0, nI 0)]) (lSa_ok dd5) rfl ?_
      refine Y.iald (t0 := 0) (lIa_ok dd6) rfl h (fun v11 h => ?_)
      refine Y.blk (pc' := 28) (L' := [some (.ref x0), some (.int x1), some (.int x2), some (.int x3), some (.int x4)]) (st' := [.int x4, .int x3, .ref x0, .int v11]) (sg := [(.aload_n 0, 0), (.iload_n 3, 0), (.iload 4, 0)]) (lSa_ok dd7) rfl ?_
      obtain ⟨_, o13, e12, m14, h⟩ := gOb_inv h
      refine Y.callA (yC.Vi (b := x0) (As := [.int x3, .int x4]) (st := [.int v11]) (r := ("PartlisterModel", T_M, 9)) hV.1 cb_M_at lk_M_132 in_M_at rfl se_M_at (lIa_ok dd8) rfl rfl (Nat.le_of_ble_eq_true rfl) (by decide) e12 m14) (k_M_at hV G9 x0 x3 x4) h (fun v16 G15 _ h => ?_)
      refine Y.blk (pc' := 32) (L' := [some (.ref x0), some (.int x1), some (.int x2), some (.int x3), some (.int x4)]) (st' := [.int (nI 0), .ref v16, .int v11]) (sg := [(.iconst 0, nI 0)]) (lSa_ok dd9) rfl ?_
      refine Y.iald (t0 := 0) (lIa_ok dd10) rfl h (fun v17 h => ?_)
      refine Y.ic_eq (off := 5) (tgt := 38) (lIa_ok dd11) (by decide) h (fun c18 h => ?_) (fun c18 h => ?_)
      · refine Y.blk (pc' := 41) (L' := [some (.ref x0), some (.int x1), some (.int x2), some (.int x3), some (.int (x4 + (nI 1)))]) (st' := []) (sg := [(.iinc 4 1, nI 1)]) (lSa_ok dd12) rfl ?_
        refine Y.goto (off := -38) (tgt := 3) (lIa_ok dd13) (by decide) ?_
        exact ih G15 x0 x1 x2 x3 (x4 + (nI 1)) h
      · refine Y.less (L' := [none, none, none, none, none]) (zLe_none (zLe_none (zLe_none (zLe_none (zLe_none (zLe_nil)))))) ?_
        exact hK36 G15  h
theorem k_M_liesAt {l : Launch} {D : va_G} {B : Nat} {O : State → Heap → Prop} (hV : zG l D B O) (G : gH) (a0 : Nat) (a1 : Int32) (a2 : Int32) (a3 : Int32) : gMet (zVm l D B O) m_M_liesAt 13 [.ref a0, .int a1, .int a2, .int a3] G (f_M_liesAt G a0 a1 a2 a3) := by
  have hdd : lSa m_M_liesAt 0 [(.iconst 0, nI 0), (.istore 4, 0)] = true ∧ lSa m_M_liesAt 36 [(.iconst 0, nI 0)] = true ∧ lIa m_M_liesAt 37 (.ireturn) 1 = true ∧ lSa m_M_liesAt 44 [(.iconst 1, nI 1)] = true ∧ lIa m_M_liesAt 45 (.ireturn) 1 = true := by decide +kernel
  obtain ⟨dd0, dd1, dd2, dd3, dd4⟩ := hdd
  refine gMet.of (by decide +kernel) (Nat.le_of_ble_eq_true rfl) [some (.ref a0), some (.int a1), some (.int a2), some (.int a3), none] (fun ls h => zEn_ok (n := 5) h) ?_
  intro o Gf h
  unfold f_M_liesAt at h
  refine Y.blk (pc' := 3) (L' := [some (.ref a0), some (.int a1), some (.int a2), some (.int a3), some (.int (nI 0))]) (st' := []) (sg := [(.iconst 0, nI 0), (.istore 4, 0)]) (lSa_ok dd0) rfl ?_
  refine k_M_liesAt_L3 hV _ _ ?_ ?_  zFu G a0 a1 a2 a3 (nI 0) h
  · intro G20 h
    refine Y.blk (pc' := 37) (L' := [none, none, none, none, none]) (st' := [.int (nI 0)]) (sg := [(.iconst 0, nI 0)]) (lSa_ok dd1) rfl ?_
    exact Y.zret rfl (lIa_ok dd2) h
  · intro G21 h
    refine Y.blk (pc' := 45) (L' := [none, none, none, none, none]) (st' := [.int (nI 1)]) (sg := [(.iconst 1, nI 1)]) (lSa_ok dd3) rfl ?_
    exact Y.zret rfl (lIa_ok dd4) h

def f_M_found_L2 (K27 : gH → Int32 → gR) (K35 : gH → gR) : Nat → gH → Nat → Int32 → Int32 → Int32 → gR
  | 0, _, _, _, _, _ => none
  | n + 1, G, x0, x1, x2, x3 =>
    gOb G x0 6 fun o2 => bI (f_M_length G x0 x2) fun v5 G4 => gOb G4 x0 6 fun o7 => bI (f_M_length G4 x0 x1) fun v10 G9 => if v10 < (x3 + v5) then K35 G9
    else gOb G9 x0 6 fun o12 => bI (f_M_liesAt G9 x0 x1 x3 x2) fun v15 G14 => if v15 = 0 then f_M_found_L2 K27 K35 n G14 x0 x1 x2 (x3 + (nI 1))
      else K27 G14 x3
def f_M_found (G : gH) (a0 : Nat) (a1 : Int32) (a2 : Int32) : gR :=
  f_M_found_L2 (fun G19 x18 => rI x18 G19) (fun G20 => rI (-1) G20) zFu G a0 a1 a2 (nI 0)
theorem k_M_found_L2 {l : Launch} {D : va_G} {B : Nat} {O : State → Heap → Prop} (hV : zG l D B O) {o : gO} {Gf : gH} (K27 : gH → Int32 → gR) (K35 : gH → gR) (hK27 : ∀ (G : gH) (x3 : Int32), K27 G x3 = some (o, Gf) → Y (zVm l D B O) m_M_found 14 o Gf 27 [none, none, none, some (.int x3)] [] G) (hK35 : ∀ (G : gH), K35 G  = some (o, Gf) → Y (zVm l D B O) m_M_found 14 o Gf 35 [none, none, none, none] [] G) : ∀ (n : Nat) (G : gH) (x0 : Nat) (x1 : Int32) (x2 : Int32) (x3 : Int32), f_M_found_L2 K27 K35 n G x0 x1 x2 x3 = some (o, Gf) → Y (zVm l D B O) m_M_found 14 o Gf 2 [some (.ref x0), some (.int x1), some (.int x2), some (.int x3)] [] G := by
  have hdd : lSa m_M_found 2 [(.iload_n 3, 0), (.aload_n 0, 0), (.iload_n 2, 0)] = true ∧ lIa m_M_found 5 (.invokevirtual 74) 3 = true ∧ lSa m_M_found 8 [(.iadd, 0), (.aload_n 0, 0), (.iload_n 1, 0)] = true ∧ lIa m_M_found 11 (.invokevirtual 74) 3 = true ∧ lIa m_M_found 14 (.if_icmp .gt 21) 3 = true ∧ lSa m_M_found 17 [(.aload_n 0, 0), (.iload_n 1, 0), (.iload_n 3, 0), (.iload_n 2, 0)] = true ∧ lIa m_M_found 21 (.invokevirtual 232) 3 = true ∧ lIa m_M_found 24 (.ifCond .eq 5) 3 = true ∧ lSa m_M_found 29 [(.iinc 3 1, nI 1)] = true ∧ lIa m_M_found 32 (.goto (-30)) 3 = true := by decide +kernel
  refine lA8 hdd (fun dd0 dd1 dd2 dd3 dd4 dd5 dd6 dd7 hdd => ?_)
  obtain ⟨dd8, dd9⟩ := hdd
  intro n
  induction n with
  | zero => intro G x0 x1 x2 x3 h; cases h
  | succ n ih =>
    intro G x0 x1 x2 x3 h
    unfold f_M_found_L2 at h
    refine Y.blk (pc' := 5) (L' := [some (.ref x0), some (.int x1), some (.int x2), some (.int x3)]) (st' := [.int x2, .ref x0, .int x3]) (sg := [(.iload_n 3, 0), (.aload_n 0, 0), (.iload_n 2, 0)]) (lSa_ok dd0) rfl ?_
    obtain ⟨_, o2, e1, m3, h⟩ := gOb_inv h
    refine Y.callI (yC.Vi (b := x0) (As := [.int x2]) (st := [.int x3]) (r := ("PartlisterModel", T_M, 9)) hV.1 cb_M_length lk_M_74 in_M_length rfl se_M_length (lIa_ok dd1) rfl rfl (Nat.le_of_ble_eq_true rfl) (by decide) e1 m3) (k_M_length hV G x0 x2) h (fun v5 G4 _ h => ?_)
    refine Y.blk (pc' := 11) (L' := [some (.ref x0), some (.int x1), some (.int x2), some (.int x3)]) (st' := [.int x1, .ref x0, .int (x3 + v5)]) (sg := [(.iadd, 0), (.aload_n 0, 0), (.iload_n 1, 0)]) (lSa_ok dd2) rfl ?_
    obtain ⟨_, o7, e6, m8, h⟩ := gOb_inv h
    refine Y.callI (yC.Vi (b := x0) (As := [.int x1]) (st := [.int (x3 + v5)]) (r := ("PartlisterModel", T_M, 9)) hV.1 cb_M_length lk_M_74 in_M_length rfl se_M_length (lIa_ok dd3) rfl rfl (Nat.le_of_ble_eq_true rfl) (by decide) e6 m8) (k_M_length hV G4 x0 x1) h (fun v10 G9 _ h => ?_)
    refine Y.ic_gt (off := 21) (tgt := 35) (lIa_ok dd4) (by decide) h (fun c17 h => ?_) (fun c17 h => ?_)
    · refine Y.less (L' := [none, none, none, none]) (zLe_none (zLe_none (zLe_none (zLe_none (zLe_nil))))) ?_
      exact hK35 G9  h
    · refine Y.blk (pc' := 21) (L' := [some (.ref x0), some (.int x1), some (.int x2), some (.int x3)]) (st' := [.int x2, .int x3, .int x1, .ref x0]) (sg := [(.aload_n 0, 0), (.iload_n 1, 0), (.iload_n 3, 0), (.iload_n 2, 0)]) (lSa_ok dd5) rfl ?_
      obtain ⟨_, o12, e11, m13, h⟩ := gOb_inv h
      refine Y.callI (yC.Vi (b := x0) (As := [.int x1, .int x3, .int x2]) (st := []) (r := ("PartlisterModel", T_M, 9)) hV.1 cb_M_liesAt lk_M_232 in_M_liesAt rfl se_M_liesAt (lIa_ok dd6) rfl rfl (Nat.le_of_ble_eq_true rfl) (by decide) e11 m13) (k_M_liesAt hV G9 x0 x1 x3 x2) h (fun v15 G14 _ h => ?_)
      refine Y.if_eq (off := 5) (tgt := 29) (lIa_ok dd7) (by decide) h (fun c16 h => ?_) (fun c16 h => ?_)
      · refine Y.blk (pc' := 32) (L' := [some (.ref x0), some (.int x1), some (.int x2), some (.int (x3 + (nI 1)))]) (st' := []) (sg := [(.iinc 3 1, nI 1)]) (lSa_ok dd8) rfl ?_
        refine Y.goto (off := -30) (tgt := 2) (lIa_ok dd9) (by decide) ?_
        exact ih G14 x0 x1 x2 (x3 + (nI 1)) h
      · refine Y.less (L' := [none, none, none, some (.int x3)]) (zLe_none (zLe_none (zLe_none (zLe_some (zLe_nil))))) ?_
        exact hK27 G14 x3 h
theorem k_M_found {l : Launch} {D : va_G} {B : Nat} {O : State → Heap → Prop} (hV : zG l D B O) (G : gH) (a0 : Nat) (a1 : Int32) (a2 : Int32) : gMet (zVm l D B O) m_M_found 14 [.ref a0, .int a1, .int a2] G (f_M_found G a0 a1 a2) := by
  have hdd : lSa m_M_found 0 [(.iconst 0, nI 0), (.istore_n 3, 0)] = true ∧ lSa m_M_found 27 [(.iload_n 3, 0)] = true ∧ lIa m_M_found 28 (.ireturn) 1 = true ∧ lSa m_M_found 35 [(.iconst (-1), -1)] = true ∧ lIa m_M_found 36 (.ireturn) 1 = true := by decide +kernel
  obtain ⟨dd0, dd1, dd2, dd3, dd4⟩ := hdd
  refine gMet.of (by decide +kernel) (Nat.le_of_ble_eq_true rfl) [some (.ref a0), some (.int a1), some (.int a2), none] (fun ls h => zEn_ok (n := 4) h) ?_
  intro o Gf h
  unfold f_M_found at h
  refine Y.blk (pc' := 2) (L' := [some (.ref a0), some (.int a1), some (.int a2), some (.int (nI 0))]) (st' := []) (sg := [(.iconst 0, nI 0), (.istore_n 3, 0)]) (lSa_ok dd0) rfl ?_
  refine k_M_found_L2 hV _ _ ?_ ?_  zFu G a0 a1 a2 (nI 0) h
  · intro G19 x18 h
    refine Y.blk (pc' := 28) (L' := [none, none, none, some (.int x18)]) (st' := [.int x18]) (sg := [(.iload_n 3, 0)]) (lSa_ok dd1) rfl ?_
    exact Y.iret rfl (lIa_ok dd2) h
  · intro G20 h
    refine Y.blk (pc' := 36) (L' := [none, none, none, none]) (st' := [.int (-1)]) (sg := [(.iconst (-1), -1)]) (lSa_ok dd3) rfl ?_
    exact Y.iret rfl (lIa_ok dd4) h

def f_M_hasEach_L2 (K28 : gH → gR) (K36 : gH → gR) : Nat → gH → Nat → Int32 → Int32 → Int32 → gR
  | 0, _, _, _, _, _ => none
  | n + 1, G, x0, x1, x2, x3 =>
    gOb G x0 6 fun o2 => bI (f_M_length G x0 x2) fun v5 G4 => if v5 ≤ x3 then K36 G4
    else gOb G4 x0 6 fun o7 => bA (f_M_at G4 x0 x2 x3) fun v10 G9 => gLd G9 v10 100 (nI 0) fun v11 => gOb G9 x0 6 fun o13 => bI (f_M_firstOf G9 x0 x1 v11) fun v16 G15 => if v16 = (-1) then K28 G15
      else f_M_hasEach_L2 K28 K36 n G15 x0 x1 x2 (x3 + (nI 1))
def f_M_hasEach (G : gH) (a0 : Nat) (a1 : Int32) (a2 : Int32) : gR :=
  f_M_hasEach_L2 (fun G19 => rZ (nI 0) G19) (fun G20 => rZ (nI 1) G20) zFu G a0 a1 a2 (nI 0)
theorem k_M_hasEach_L2 {l : Launch} {D : va_G} {B : Nat} {O : State → Heap → Prop} (hV : zG l D B O) {o : gO} {Gf : gH} (K28 : gH → gR) (K36 : gH → gR) (hK28 : ∀ (G : gH), K28 G  = some (o, Gf) → Y (zVm l D B O) m_M_hasEach 14 o Gf 28 [none, none, none, none] [] G) (hK36 : ∀ (G : gH), K36 G  = some (o, Gf) → Y (zVm l D B O) m_M_hasEach 14 o Gf 36 [none, none, none, none] [] G) : ∀ (n : Nat) (G : gH) (x0 : Nat) (x1 : Int32) (x2 : Int32) (x3 : Int32), f_M_hasEach_L2 K28 K36 n G x0 x1 x2 x3 = some (o, Gf) → Y (zVm l D B O) m_M_hasEach 14 o Gf 2 [some (.ref x0), some (.int x1), some (.int x2), some (.int x3)] [] G := by
  have hdd : lSa m_M_hasEach 2 [(.iload_n 3, 0), (.aload_n 0, 0), (.iload_n 2, 0)] = true ∧ lIa m_M_hasEach 5 (.invokevirtual 74) 3 = true ∧ lIa m_M_hasEach 8 (.if_icmp .ge 28) 3 = true ∧ lSa m_M_hasEach 11 [(.aload_n 0, 0), (.iload_n 1, 0), (.aload_n 0, 0), (.iload_n 2, 0), (.iload_n 3, 0)] = true ∧ lIa m_M_hasEach 16 (.invokevirtual 132) 3 = true ∧ lSa m_M_hasEach 19 [(.iconst 0, nI 0)] = true ∧ lIa m_M_hasEach 20 (.iaload) 1 = true ∧ lIa m_M_hasEach 21 (.invokevirtual 163) 3 = true ∧ lSa m_M_hasEach 24 [(.iconst (-1), -1)] = true ∧ lIa m_M_hasEach 25 (.if_icmp .ne 5) 3 = true ∧ lSa m_M_hasEach 30 [(.iinc 3 1, nI 1)] = true ∧ lIa m_M_hasEach 33 (.goto (-31)) 3 = true := by decide +kernel
  refine lA8 hdd (fun dd0 dd1 dd2 dd3 dd4 dd5 dd6 dd7 hdd => ?_)
  obtain ⟨dd8, dd9, dd10, dd11⟩ := hdd
  intro n
  induction n with
  | zero => intro G x0 x1 x2 x3 h; cases h
  | succ n ih =>
    intro G x0 x1 x2 x3 h
    unfold f_M_hasEach_L2 at h
    refine Y.blk (pc' := 5) (L' := [some (.ref x0), some (.int x1), some (.int x2), some (.int x3)]) (st' := [.int x2, .ref x0, .int x3]) (sg := [(.iload_n 3, 0), (.aload_n 0, 0), (.iload_n 2, 0)]) (lSa_ok dd0) rfl ?_
    obtain ⟨_, o2, e1, m3, h⟩ := gOb_inv h
    refine Y.callI (yC.Vi (b := x0) (As := [.int x2]) (st := [.int x3]) (r := ("PartlisterModel", T_M, 9)) hV.1 cb_M_length lk_M_74 in_M_length rfl se_M_length (lIa_ok dd1) rfl rfl (Nat.le_of_ble_eq_true rfl) (by decide) e1 m3) (k_M_length hV G x0 x2) h (fun v5 G4 _ h => ?_)
    refine Y.ic_ge (off := 28) (tgt := 36) (lIa_ok dd2) (by decide) h (fun c18 h => ?_) (fun c18 h => ?_)
    · refine Y.less (L' := [none, none, none, none]) (zLe_none (zLe_none (zLe_none (zLe_none (zLe_nil))))) ?_
      exact hK36 G4  h
    · refine Y.blk (pc' := 16) (L' := [some (.ref x0), some (.int x1), some (.int x2), some (.int x3)]) (st' := [.int x3, .int x2, .ref x0, .int x1, .ref x0]) (sg := [(.aload_n 0, 0), (.iload_n 1, 0), (.aload_n 0, 0), (.iload_n 2, 0), (.iload_n 3, 0)]) (lSa_ok dd3) rfl ?_
      obtain ⟨_, o7, e6, m8, h⟩ := gOb_inv h
      refine Y.callA (yC.Vi (b := x0) (As := [.int x2, .int x3]) (st := [.int x1, .ref x0]) (r := ("PartlisterModel", T_M, 9)) hV.1 cb_M_at lk_M_132 in_M_at rfl se_M_at (lIa_ok dd4) rfl rfl (Nat.le_of_ble_eq_true rfl) (by decide) e6 m8) (k_M_at hV G4 x0 x2 x3) h (fun v10 G9 _ h => ?_)
      refine Y.blk (pc' := 20) (L' := [some (.ref x0), some (.int x1), some (.int x2), some (.int x3)]) (st' := [.int (nI 0), .ref v10, .int x1, .ref x0]) (sg := [(.iconst 0, nI 0)]) (lSa_ok dd5) rfl ?_
      refine Y.iald (t0 := 0) (lIa_ok dd6) rfl h (fun v11 h => ?_)
      obtain ⟨_, o13, e12, m14, h⟩ := gOb_inv h
      refine Y.callI (yC.Vi (b := x0) (As := [.int x1, .int v11]) (st := []) (r := ("PartlisterModel", T_M, 9)) hV.1 cb_M_firstOf lk_M_163 in_M_firstOf rfl se_M_firstOf (lIa_ok dd7) rfl rfl (Nat.le_of_ble_eq_true rfl) (by decide) e12 m14) (k_M_firstOf hV G9 x0 x1 v11) h (fun v16 G15 _ h => ?_)
      refine Y.blk (pc' := 25) (L' := [some (.ref x0), some (.int x1), some (.int x2), some (.int x3)]) (st' := [.int (-1), .int v16]) (sg := [(.iconst (-1), -1)]) (lSa_ok dd8) rfl ?_
      refine Y.ic_ne (off := 5) (tgt := 30) (lIa_ok dd9) (by decide) h (fun c17 h => ?_) (fun c17 h => ?_)
      · refine Y.less (L' := [none, none, none, none]) (zLe_none (zLe_none (zLe_none (zLe_none (zLe_nil))))) ?_
        exact hK28 G15  h
      · refine Y.blk (pc' := 33) (L' := [some (.ref x0), some (.int x1), some (.int x2), some (.int (x3 + (nI 1)))]) (st' := []) (sg := [(.iinc 3 1, nI 1)]) (lSa_ok dd10) rfl ?_
        refine Y.goto (off := -31) (tgt := 2) (lIa_ok dd11) (by decide) ?_
        exact ih G15 x0 x1 x2 (x3 + (nI 1)) h
theorem k_M_hasEach {l : Launch} {D : va_G} {B : Nat} {O : State → Heap → Prop} (hV : zG l D B O) (G : gH) (a0 : Nat) (a1 : Int32) (a2 : Int32) : gMet (zVm l D B O) m_M_hasEach 14 [.ref a0, .int a1, .int a2] G (f_M_hasEach G a0 a1 a2) := by
  have hdd : lSa m_M_hasEach 0 [(.iconst 0, nI 0), (.istore_n 3, 0)] = true ∧ lSa m_M_hasEach 28 [(.iconst 0, nI 0)] = true ∧ lIa m_M_hasEach 29 (.ireturn) 1 = true ∧ lSa m_M_hasEach 36 [(.iconst 1, nI 1)] = true ∧ lIa m_M_hasEach 37 (.ireturn) 1 = true := by decide +kernel
  obtain ⟨dd0, dd1, dd2, dd3, dd4⟩ := hdd
  refine gMet.of (by decide +kernel) (Nat.le_of_ble_eq_true rfl) [some (.ref a0), some (.int a1), some (.int a2), none] (fun ls h => zEn_ok (n := 4) h) ?_
  intro o Gf h
  unfold f_M_hasEach at h
  refine Y.blk (pc' := 2) (L' := [some (.ref a0), some (.int a1), some (.int a2), some (.int (nI 0))]) (st' := []) (sg := [(.iconst 0, nI 0), (.istore_n 3, 0)]) (lSa_ok dd0) rfl ?_
  refine k_M_hasEach_L2 hV _ _ ?_ ?_  zFu G a0 a1 a2 (nI 0) h
  · intro G19 h
    refine Y.blk (pc' := 29) (L' := [none, none, none, none]) (st' := [.int (nI 0)]) (sg := [(.iconst 0, nI 0)]) (lSa_ok dd1) rfl ?_
    exact Y.zret rfl (lIa_ok dd2) h
  · intro G20 h
    refine Y.blk (pc' := 37) (L' := [none, none, none, none]) (st' := [.int (nI 1)]) (sg := [(.iconst 1, nI 1)]) (lSa_ok dd3) rfl ?_
    exact Y.zret rfl (lIa_ok dd4) h

def f_M_hashOf_L4 (K33 : gH → Int32 → gR) : Nat → gH → Nat → Int32 → Int32 → Int32 → gR
  | 0, _, _, _, _, _ => none
  | n + 1, G, x0, x1, x2, x3 =>
    gOb G x0 6 fun o2 => bI (f_M_length G x0 x1) fun v5 G4 => if v5 ≤ x3 then K33 G4 x2
    else gOb G4 x0 6 fun o7 => bA (f_M_at G4 x0 x1 x3) fun v10 G9 => gLd G9 v10 100 (nI 0) fun v11 => f_M_hashOf_L4 K33 n G9 x0 x1 ((x2 * (nI 31)) + v11) (x3 + (nI 1))
def f_M_hashOf (G : gH) (a0 : Nat) (a1 : Int32) : gR :=
  f_M_hashOf_L4 (fun G14 x13 => rI x13 G14) zFu G a0 a1 (nI 1) (nI 0)
theorem k_M_hashOf_L4 {l : Launch} {D : va_G} {B : Nat} {O : State → Heap → Prop} (hV : zG l D B O) {o : gO} {Gf : gH} (K33 : gH → Int32 → gR) (hK33 : ∀ (G : gH) (x2 : Int32), K33 G x2 = some (o, Gf) → Y (zVm l D B O) m_M_hashOf 13 o Gf 33 [none, none, some (.int x2), none] [] G) : ∀ (n : Nat) (G : gH) (x0 : Nat) (x1 : Int32) (x2 : Int32) (x3 : Int32), f_M_hashOf_L4 K33 n G x0 x1 x2 x3 = some (o, Gf) → Y (zVm l D B O) m_M_hashOf 13 o Gf 4 [some (.ref x0), some (.int x1), some (.int x2), some (.int x3)] [] G := by
  have hdd : lSa m_M_hashOf 4 [(.iload_n 3, 0), (.aload_n 0, 0), (.iload_n 1, 0)] = true ∧ lIa m_M_hashOf 7 (.invokevirtual 74) 3 = true ∧ lIa m_M_hashOf 10 (.if_icmp .ge 23) 3 = true ∧ lSa m_M_hashOf 13 [(.iload_n 2, 0), (.bipush 31, nI 31), (.imul, 0), (.aload_n 0, 0), (.iload_n 1, 0), (.iload_n 3, 0)] = true ∧ lIa m_M_hashOf 20 (.invokevirtual 132) 3 = true ∧ lSa m_M_hashOf 23 [(.iconst 0, nI 0)] = true ∧ lIa m_M_hashOf 24 (.iaload) 1 = true ∧ lSa m_M_hashOf 25 [(.iadd, 0), (.istore_n 2, 0), (.iinc 3 1, nI 1)] = true ∧ lIa m_M_hashOf 30 (.goto (-26)) 3 = true := by decide +kernel
  refine lA8 hdd (fun dd0 dd1 dd2 dd3 dd4 dd5 dd6 dd7 hdd => ?_)
  have dd8 := hdd
  intro n
  induction n with
  | zero => intro G x0 x1 x2 x3 h; cases h
  | succ n ih =>
    intro G x0 x1 x2 x3 h
    unfold f_M_hashOf_L4 at h
    refine Y.blk (pc' := 7) (L' := [some (.ref x0), some (.int x1), some (.int x2), some (.int x3)]) (st' := [.int x1, .ref x0, .int x3]) (sg := [(.iload_n 3, 0), (.aload_n 0, 0), (.iload_n 1, 0)]) (lSa_ok dd0) rfl ?_
    obtain ⟨_, o2, e1, m3, h⟩ := gOb_inv h
    refine Y.callI (yC.Vi (b := x0) (As := [.int x1]) (st := [.int x3]) (r := ("PartlisterModel", T_M, 9)) hV.1 cb_M_length lk_M_74 in_M_length rfl se_M_length (lIa_ok dd1) rfl rfl (Nat.le_of_ble_eq_true rfl) (by decide) e1 m3) (k_M_length hV G x0 x1) h (fun v5 G4 _ h => ?_)
    refine Y.ic_ge (off := 23) (tgt := 33) (lIa_ok dd2) (by decide) h (fun c12 h => ?_) (fun c12 h => ?_)
    · refine Y.less (L' := [none, none, some (.int x2), none]) (zLe_none (zLe_none (zLe_some (zLe_none (zLe_nil))))) ?_
      exact hK33 G4 x2 h
    · refine Y.blk (pc' := 20) (L' := [some (.ref x0), some (.int x1), some (.int x2), some (.int x3)]) (st' := [.int x3, .int x1, .ref x0, .int (x2 * (nI 31))]) (sg := [(.iload_n 2, 0), (.bipush 31, nI 31), (.imul, 0), (.aload_n 0, 0), (.iload_n 1, 0), (.iload_n 3, 0)]) (lSa_ok dd3) rfl ?_
      obtain ⟨_, o7, e6, m8, h⟩ := gOb_inv h
      refine Y.callA (yC.Vi (b := x0) (As := [.int x1, .int x3]) (st := [.int (x2 * (nI 31))]) (r := ("PartlisterModel", T_M, 9)) hV.1 cb_M_at lk_M_132 in_M_at rfl se_M_at (lIa_ok dd4) rfl rfl (Nat.le_of_ble_eq_true rfl) (by decide) e6 m8) (k_M_at hV G4 x0 x1 x3) h (fun v10 G9 _ h => ?_)
      refine Y.blk (pc' := 24) (L' := [some (.ref x0), some (.int x1), some (.int x2), some (.int x3)]) (st' := [.int (nI 0), .ref v10, .int (x2 * (nI 31))]) (sg := [(.iconst 0, nI 0)]) (lSa_ok dd5) rfl ?_
      refine Y.iald (t0 := 0) (lIa_ok dd6) rfl h (fun v11 h => ?_)
      refine Y.blk (pc' := 30) (L' := [some (.ref x0), some (.int x1), some (.int ((x2 * (nI 31)) + v11)), some (.int (x3 + (nI 1)))]) (st' := []) (sg := [(.iadd, 0), (.istore_n 2, 0), (.iinc 3 1, nI 1)]) (lSa_ok dd7) rfl ?_
      refine Y.goto (off := -26) (tgt := 4) (lIa_ok dd8) (by decide) ?_
      exact ih G9 x0 x1 ((x2 * (nI 31)) + v11) (x3 + (nI 1)) h
theorem k_M_hashOf {l : Launch} {D : va_G} {B : Nat} {O : State → Heap → Prop} (hV : zG l D B O) (G : gH) (a0 : Nat) (a1 : Int32) : gMet (zVm l D B O) m_M_hashOf 13 [.ref a0, .int a1] G (f_M_hashOf G a0 a1) := by
  have hdd : lSa m_M_hashOf 0 [(.iconst 1, nI 1), (.istore_n 2, 0), (.iconst 0, nI 0), (.istore_n 3, 0)] = true ∧ lSa m_M_hashOf 33 [(.iload_n 2, 0)] = true ∧ lIa m_M_hashOf 34 (.ireturn) 1 = true := by decide +kernel
  obtain ⟨dd0, dd1, dd2⟩ := hdd
  refine gMet.of (by decide +kernel) (Nat.le_of_ble_eq_true rfl) [some (.ref a0), some (.int a1), none, none] (fun ls h => zEn_ok (n := 4) h) ?_
  intro o Gf h
  unfold f_M_hashOf at h
  refine Y.blk (pc' := 4) (L' := [some (.ref a0), some (.int a1), some (.int (nI 1)), some (.int (nI 0))]) (st' := []) (sg := [(.iconst 1, nI 1), (.istore_n 2, 0), (.iconst 0, nI 0), (.istore_n 3, 0)]) (lSa_ok dd0) rfl ?_
  refine k_M_hashOf_L4 hV _ ?_  zFu G a0 a1 (nI 1) (nI 0) h
  · intro G14 x13 h
    refine Y.blk (pc' := 34) (L' := [none, none, some (.int x13), none]) (st' := [.int x13]) (sg := [(.iload_n 2, 0)]) (lSa_ok dd1) rfl ?_
    exact Y.iret rfl (lIa_ok dd2) h

def f_M_houseTold_L16 (K54 : gH → Nat → Int32 → Nat → gR) : Nat → gH → Nat → Int32 → Nat → Nat → Int32 → Int32 → gR
  | 0, _, _, _, _, _, _, _ => none
  | n + 1, G, x0, x1, x2, x3, x4, x5 =>
    if x4 ≤ x5 then K54 G x0 x1 x2
    else gLdq G x3 104 x5 (gLd G x2 100 (nI 0) fun v6 => bI (f_M_one G (nI 0)) fun v9 G8 => gSt G8 x2 100 (nI 0) (v6 + v9) fun G10 => f_M_houseTold_L16 K54 n G10 x0 x1 x2 x3 x4 (x5 + (nI 1))) fun v5 => gLd G x2 100 (nI 0) fun v11 => bI (f_M_one G (nI 1)) fun v14 G13 => gSt G13 x2 100 (nI 0) (v11 + v14) fun G15 => f_M_houseTold_L16 K54 n G15 x0 x1 x2 x3 x4 (x5 + (nI 1))
def f_M_houseTold_L66 (K131 : gH → Nat → Int32 → Nat → gR) : Nat → gH → Nat → Int32 → Nat → Nat → Int32 → Int32 → gR
  | 0, _, _, _, _, _, _, _ => none
  | n + 1, G, x0, x1, x2, x3, x4, x5 =>
    if x4 ≤ x5 then K131 G x0 x1 x2
    else gLdq G x3 105 x5 (gLd G x2 100 (nI 1) fun v24 => bI (f_M_one G (nI 0)) fun v27 G26 => gSt G26 x2 100 (nI 1) (v24 + v27) fun G28 => gLd G28 x2 100 (nI 2) fun v29 => bI (f_M_one G28 (nI 0)) fun v32 G31 => gSt G31 x2 100 (nI 2) (v29 + v32) fun G33 => f_M_houseTold_L66 K131 n G33 x0 x1 x2 x3 x4 (x5 + (nI 1))) fun v23 => gLd G x2 100 (nI 1) fun v34 => bI (f_M_one G (nI 1)) fun v37 G36 => gSt G36 x2 100 (nI 1) (v34 + v37) fun G38 => gLd G38 x2 100 (nI 2) fun v39 => gFI G38 v23 4 3 fun v40 => if v40 = 0 then bI (f_M_one G38 (nI 0)) fun v43 G42 => gSt G42 x2 100 (nI 2) (v39 + v43) fun G44 => f_M_houseTold_L66 K131 n G44 x0 x1 x2 x3 x4 (x5 + (nI 1))
        else bI (f_M_one G38 (nI 1)) fun v47 G46 => gSt G46 x2 100 (nI 2) (v39 + v47) fun G48 => f_M_houseTold_L66 K131 n G48 x0 x1 x2 x3 x4 (x5 + (nI 1))
def f_M_houseTold (G : gH) (a0 : Nat) (a1 : Int32) : gR :=
  gNewA G 100 (nI 3) fun q1 G2 => gFA G2 a0 6 2 fun v3 => gLenq G2 v3 104 fun v4 => f_M_houseTold_L16 (fun G20 x17 x18 x19 => gFA G20 x17 6 3 fun v21 => gLenq G20 v21 105 fun v22 => f_M_houseTold_L66 (fun G54 x51 x52 x53 => gNewA G54 100 (nI 8) fun q55 G56 => gFI G56 x51 6 4 fun v57 => gSt G56 q55 100 (nI 0) v57 fun G58 => gLd G58 x53 100 (nI 0) fun v59 => gSt G58 q55 100 (nI 1) v59 fun G60 => gLd G60 x53 100 (nI 1) fun v61 => gSt G60 q55 100 (nI 2) v61 fun G62 => gLd G62 x53 100 (nI 2) fun v63 => gSt G62 q55 100 (nI 3) v63 fun G64 => gFI G64 x51 6 5 fun v65 => gSt G64 q55 100 (nI 4) v65 fun G66 => gFI G66 x51 6 6 fun v67 => gSt G66 q55 100 (nI 5) v67 fun G68 => gFI G68 x51 6 7 fun v69 => gSt G68 q55 100 (nI 6) v69 fun G70 => gFI G70 x51 6 8 fun v71 => gSt G70 q55 100 (nI 7) v71 fun G72 => gLd G72 q55 100 x52 fun v73 => rI v73 G72) zFu G20 x17 x18 x19 v21 v22 (nI 0)) zFu G2 a0 a1 q1 v3 v4 (nI 0)
theorem k_M_houseTold_L16 {l : Launch} {D : va_G} {B : Nat} {O : State → Heap → Prop} (hV : zG l D B O) {o : gO} {Gf : gH} (K54 : gH → Nat → Int32 → Nat → gR) (hK54 : ∀ (G : gH) (x0 : Nat) (x1 : Int32) (x2 : Nat), K54 G x0 x1 x2 = some (o, Gf) → Y (zVm l D B O) m_M_houseTold 3 o Gf 54 [some (.ref x0), some (.int x1), some (.ref x2), none, none, none, none] [] G) : ∀ (n : Nat) (G : gH) (x0 : Nat) (x1 : Int32) (x2 : Nat) (x3 : Nat) (x4 : Int32) (x5 : Int32), f_M_houseTold_L16 K54 n G x0 x1 x2 x3 x4 x5 = some (o, Gf) → Y (zVm l D B O) m_M_houseTold 3 o Gf 16 [some (.ref x0), some (.int x1), some (.ref x2), some (.ref x3), some (.int x4), some (.int x5), none] [] G := by
  have hdd : lSa m_M_houseTold 16 [(.iload 5, 0), (.iload 4, 0)] = true ∧ lIa m_M_houseTold 20 (.if_icmp .ge 34) 3 = true ∧ lSa m_M_houseTold 23 [(.aload_n 3, 0), (.iload 5, 0)] = true ∧ lIa m_M_houseTold 26 (.aaload) 1 = true ∧ lSa m_M_houseTold 27 [(.astore 6, 0), (.aload_n 2, 0), (.iconst 0, nI 0), (.dup2, 0)] = true ∧ lIa m_M_houseTold 32 (.iaload) 1 = true ∧ lSa m_M_houseTold 33 [(.aload 6, 0)] = true ∧ lIa m_M_houseTold 35 (.ifnull 7) 3 = true ∧ lSa m_M_houseTold 42 [(.iconst 0, nI 0)] = true ∧ lIa m_M_houseTold 43 (.invokestatic 188) 3 = true ∧ lSa m_M_houseTold 46 [(.iadd, 0)] = true ∧ lIa m_M_houseTold 47 (.iastore) 1 = true ∧ lSa m_M_houseTold 48 [(.iinc 5 1, nI 1)] = true ∧ lIa m_M_houseTold 51 (.goto (-35)) 3 = true ∧ lSa m_M_houseTold 38 [(.iconst 1, nI 1)] = true ∧ lIa m_M_houseTold 39 (.goto 4) 3 = true := by decide +kernel
  refine lA8 hdd (fun dd0 dd1 dd2 dd3 dd4 dd5 dd6 dd7 hdd => ?_)
  obtain ⟨dd8, dd9, dd10, dd11, dd12, dd13, dd14, dd15⟩ := hdd
  intro n
  induction n with
  | zero => intro G x0 x1 x2 x3 x4 x5 h; cases h
  | succ n ih =>
    intro G x0 x1 x2 x3 x4 x5 h
    unfold f_M_houseTold_L16 at h
    refine Y.blk (pc' := 20) (L' := [some (.ref x0), some (.int x1), some (.ref x2), some (.ref x3), some (.int x4), some (.int x5), none]) (st' := [.int x4, .int x5]) (sg := [(.iload 5, 0), (.iload 4, 0)]) (lSa_ok dd0) rfl ?_
    refine Y.ic_ge (off := 34) (tgt := 54) (lIa_ok dd1) (by decide) h (fun c16 h => ?_) (fun c16 h => ?_)
    · refine Y.less (L' := [some (.ref x0), some (.int x1), some (.ref x2), none, none, none, none]) (zLe_some (zLe_some (zLe_some (zLe_none (zLe_none (zLe_none (zLe_some (zLe_nil)))))))) ?_
      exact hK54 G x0 x1 x2 h
    · refine Y.blk (pc' := 26) (L' := [some (.ref x0), some (.int x1), some (.ref x2), some (.ref x3), some (.int x4), some (.int x5), none]) (st' := [.int x5, .ref x3]) (sg := [(.aload_n 3, 0), (.iload 5, 0)]) (lSa_ok dd2) rfl ?_
      refine Y.aald (t0 := 4) (lIa_ok dd3) rfl h (fun h => ?_) (fun v5 h => ?_)
      · refine Y.blk (pc' := 32) (L' := [some (.ref x0), some (.int x1), some (.ref x2), some (.ref x3), some (.int x4), some (.int x5), some (.null)]) (st' := [.int (nI 0), .ref x2, .int (nI 0), .ref x2]) (sg := [(.astore 6, 0), (.aload_n 2, 0), (.iconst 0, nI 0), (.dup2, 0)]) (lSa_ok dd4) rfl ?_
        refine Y.iald (t0 := 0) (lIa_ok dd5) rfl h (fun v6 h => ?_)
        refine Y.blk (pc' := 35) (L' := [some (.ref x0), some (.int x1), some (.ref x2), some (.ref x3), some (.int x4), some (.int x5), some (.null)]) (st' := [.null, .int v6, .int (nI 0), .ref x2]) (sg := [(.aload 6, 0)]) (lSa_ok dd6) rfl ?_
        refine Y.ifnull_n (off := 7) (tgt := 42) (lIa_ok dd7) (by decide) ?_
        refine Y.blk (pc' := 43) (L' := [some (.ref x0), some (.int x1), some (.ref x2), some (.ref x3), some (.int x4), some (.int x5), some (.null)]) (st' := [.int (nI 0), .int v6, .int (nI 0), .ref x2]) (sg := [(.iconst 0, nI 0)]) (lSa_ok dd8) rfl ?_
        refine Y.callI (yC.S (As := [.int (nI 0)]) (st := [.int v6, .int (nI 0), .ref x2]) hV.1 cb_M_one lk_M_188 st_M_one (lIa_ok dd9) rfl rfl (Nat.le_of_ble_eq_true rfl) (by decide)) (k_M_one hV G (nI 0)) h (fun v9 G8 _ h => ?_)
        refine Y.blk (pc' := 47) (L' := [some (.ref x0), some (.int x1), some (.ref x2), some (.ref x3), some (.int x4), some (.int x5), some (.null)]) (st' := [.int (v6 + v9), .int (nI 0), .ref x2]) (sg := [(.iadd, 0)]) (lSa_ok dd10) rfl ?_
        refine Y.iast (t0 := 0) (lIa_ok dd11) rfl (by decide) h (fun G10 _ _ h => ?_)
        refine Y.blk (pc' := 51) (L' := [some (.ref x0), some (.int x1), some (.ref x2), some (.ref x3), some (.int x4), some (.int (x5 + (nI 1))), some (.null)]) (st' := []) (sg := [(.iinc 5 1, nI 1)]) (lSa_ok dd12) rfl ?_
        refine Y.goto (off := -35) (tgt := 16) (lIa_ok dd13) (by decide) ?_
        refine Y.less (L' := [some (.ref x0), some (.int x1), some (.ref x2), some (.ref x3), some (.int x4), some (.int (x5 + (nI 1))), none]) (zLe_some (zLe_some (zLe_some (zLe_some (zLe_some (zLe_some (zLe_none (zLe_nil)))))))) ?_
        exact ih G10 x0 x1 x2 x3 x4 (x5 + (nI 1)) h
      · refine Y.blk (pc' := 32) (L' := [some (.ref x0), some (.int x1), some (.ref x2), some (.ref x3), some (.int x4), some (.int x5), some (.ref v5)]) (st' := [.int (nI 0), .ref x2, .int (nI 0), .ref x2]) (sg := [(.astore 6, 0), (.aload_n 2, 0), (.iconst 0, nI 0), (.dup2, 0)]) (lSa_ok dd4) rfl ?_
        refine Y.iald (t0 := 0) (lIa_ok dd5) rfl h (fun v11 h => ?_)
        refine Y.blk (pc' := 35) (L' := [some (.ref x0), some (.int x1), some (.ref x2), some (.ref x3), some (.int x4), some (.int x5), some (.ref v5)]) (st' := [.ref v5, .int v11, .int (nI 0), .ref x2]) (sg := [(.aload 6, 0)]) (lSa_ok dd6) rfl ?_
        refine Y.ifnull_r (off := 7) (lIa_ok dd7) ?_
        refine Y.blk (pc' := 39) (L' := [some (.ref x0), some (.int x1), some (.ref x2), some (.ref x3), some (.int x4), some (.int x5), some (.ref v5)]) (st' := [.int (nI 1), .int v11, .int (nI 0), .ref x2]) (sg := [(.iconst 1, nI 1)]) (lSa_ok dd14) rfl ?_
        refine Y.goto (off := 4) (tgt := 43) (lIa_ok dd15) (by decide) ?_
        refine Y.callI (yC.S (As := [.int (nI 1)]) (st := [.int v11, .int (nI 0), .ref x2]) hV.1 cb_M_one lk_M_188 st_M_one (lIa_ok dd9) rfl rfl (Nat.le_of_ble_eq_true rfl) (by decide)) (k_M_one hV G (nI 1)) h (fun v14 G13 _ h => ?_)
        refine Y.blk (pc' := 47) (L' := [some (.ref x0), some (.int x1), some (.ref x2), some (.ref x3), some (.int x4), some (.int x5), some (.ref v5)]) (st' := [.int (v11 + v14), .int (nI 0), .ref x2]) (sg := [(.iadd, 0)]) (lSa_ok dd10) rfl ?_
        refine Y.iast (t0 := 0) (lIa_ok dd11) rfl (by decide) h (fun G15 _ _ h => ?_)
        refine Y.blk (pc' := 51) (L' := [some (.ref x0), some (.int x1), some (.ref x2), some (.ref x3), some (.int x4), some (.int (x5 + (nI 1))), some (.ref v5)]) (st' := []) (sg := [(.iinc 5 1, nI 1)]) (lSa_ok dd12) rfl ?_
        refine Y.goto (off := -35) (tgt := 16) (lIa_ok dd13) (by decide) ?_
        refine Y.less (L' := [some (.ref x0), some (.int x1), some (.ref x2), some (.ref x3), some (.int x4), some (.int (x5 + (nI 1))), none]) (zLe_some (zLe_some (zLe_some (zLe_some (zLe_some (zLe_some (zLe_none (zLe_nil)))))))) ?_
        exact ih G15 x0 x1 x2 x3 x4 (x5 + (nI 1)) h
theorem k_M_houseTold_L66 {l : Launch} {D : va_G} {B : Nat} {O : State → Heap → Prop} (hV : zG l D B O) {o : gO} {Gf : gH} (K131 : gH → Nat → Int32 → Nat → gR) (hK131 : ∀ (G : gH) (x0 : Nat) (x1 : Int32) (x2 : Nat), K131 G x0 x1 x2 = some (o, Gf) → Y (zVm l D B O) m_M_houseTold 3 o Gf 131 [some (.ref x0), some (.int x1), some (.ref x2), none, none, none, none] [] G) : ∀ (n : Nat) (G : gH) (x0 : Nat) (x1 : Int32) (x2 : Nat) (x3 : Nat) (x4 : Int32) (x5 : Int32), f_M_houseTold_L66 K131 n G x0 x1 x2 x3 x4 x5 = some (o, Gf) → Y (zVm l D B O) m_M_houseTold 3 o Gf 66 [some (.ref x0), some (.int x1), some (.ref x2), some (.ref x3), some (.int x4), some (.int x5), none] [] G := by
  have hdd : lSa m_M_houseTold 66 [(.iload 5, 0), (.iload 4, 0)] = true ∧ lIa m_M_houseTold 70 (.if_icmp .ge 61) 3 = true ∧ lSa m_M_houseTold 73 [(.aload_n 3, 0), (.iload 5, 0)] = true ∧ lIa m_M_houseTold 76 (.aaload) 1 = true ∧ lSa m_M_houseTold 77 [(.astore 6, 0), (.aload_n 2, 0), (.iconst 1, nI 1), (.dup2, 0)] = true ∧ lIa m_M_houseTold 82 (.iaload) 1 = true ∧ lSa m_M_houseTold 83 [(.aload 6, 0)] = true ∧ lIa m_M_houseTold 85 (.ifnull 7) 3 = true ∧ lSa m_M_houseTold 92 [(.iconst 0, nI 0)] = true ∧ lIa m_M_houseTold 93 (.invokestatic 188) 3 = true ∧ lSa m_M_houseTold 96 [(.iadd, 0)] = true ∧ lIa m_M_houseTold 97 (.iastore) 1 = true ∧ lSa m_M_houseTold 98 [(.aload_n 2, 0), (.iconst 2, nI 2), (.dup2, 0)] = true ∧ lIa m_M_houseTold 101 (.iaload) 1 = true ∧ lSa m_M_houseTold 102 [(.aload 6, 0)] = true ∧ lIa m_M_houseTold 104 (.ifnull 15) 3 = true ∧ lSa m_M_houseTold 119 [(.iconst 0, nI 0)] = true ∧ lIa m_M_houseTold 120 (.invokestatic 188) 3 = true ∧ lSa m_M_houseTold 123 [(.iadd, 0)] = true ∧ lIa m_M_houseTold 124 (.iastore) 1 = true ∧ lSa m_M_houseTold 125 [(.iinc 5 1, nI 1)] = true ∧ lIa m_M_houseTold 128 (.goto (-62)) 3 = true ∧ lSa m_M_houseTold 88 [(.iconst 1, nI 1)] = true ∧ lIa m_M_houseTold 89 (.goto 4) 3 = true ∧ lSa m_M_houseTold 107 [(.aload 6, 0)] = true ∧ lIa m_M_houseTold 109 (.getfield 99) 3 = true ∧ lIa m_M_houseTold 112 (.ifCond .eq 7) 3 = true ∧ lSa m_M_houseTold 115 [(.iconst 1, nI 1)] = true ∧ lIa m_M_houseTold 116 (.goto 4) 3 = true := by decide +kernel
  refine lA8 hdd (fun dd0 dd1 dd2 dd3 dd4 dd5 dd6 dd7 hdd => ?_)
  refine lA8 hdd (fun dd8 dd9 dd10 dd11 dd12 dd13 dd14 dd15 hdd => ?_)
  refine lA8 hdd (fun dd16 dd17 dd18 dd19 dd20 dd21 dd22 dd23 hdd => ?_)
  obtain ⟨dd24, dd25, dd26, dd27, dd28⟩ := hdd
  intro n
  induction n with
  | zero => intro G x0 x1 x2 x3 x4 x5 h; cases h
  | succ n ih =>
    intro G x0 x1 x2 x3 x4 x5 h
    unfold f_M_houseTold_L66 at h
    refine Y.blk (pc' := 70) (L' := [some (.ref x0), some (.int x1), some (.ref x2), some (.ref x3), some (.int x4), some (.int x5), none]) (st' := [.int x4, .int x5]) (sg := [(.iload 5, 0), (.iload 4, 0)]) (lSa_ok dd0) rfl ?_
    refine Y.ic_ge (off := 61) (tgt := 131) (lIa_ok dd1) (by decide) h (fun c50 h => ?_) (fun c50 h => ?_)
    · refine Y.less (L' := [some (.ref x0), some (.int x1), some (.ref x2), none, none, none, none]) (zLe_some (zLe_some (zLe_some (zLe_none (zLe_none (zLe_none (zLe_some (zLe_nil)))))))) ?_
      exact hK131 G x0 x1 x2 h
    · refine Y.blk (pc' := 76) (L' := [some (.ref x0), some (.int x1), some (.ref x2), some (.ref x3), some (.int x4), some (.int x5), none]) (st' := [.int x5, .ref x3]) (sg := [(.aload_n 3, 0), (.iload 5, 0)]) (lSa_ok dd2) rfl ?_
      refine Y.aald (t0 := 5) (lIa_ok dd3) rfl h (fun h => ?_) (fun v23 h => ?_)
      · refine Y.blk (pc' := 82) (L' := [some (.ref x0), some (.int x1), some (.ref x2), some (.ref x3), some (.int x4), some (.int x5), some (.null)]) (st' := [.int (nI 1), .ref x2, .int (nI 1), .ref x2]) (sg := [(.astore 6, 0), (.aload_n 2, 0), (.iconst 1, nI 1), (.dup2, 0)]) (lSa_ok dd4) rfl ?_
        refine Y.iald (t0 := 0) (lIa_ok dd5) rfl h (fun v24 h => ?_)
        refine Y.blk (pc' := 85) (L' := [some (.ref x0), some (.int x1), some (.ref x2), some (.ref x3), some (.int x4), some (.int x5), some (.null)]) (st' := [.null, .int v24, .int (nI 1), .ref x2]) (sg := [(.aload 6, 0)]) (lSa_ok dd6) rfl ?_
        refine Y.ifnull_n (off := 7) (tgt := 92) (lIa_ok dd7) (by decide) ?_
        refine Y.blk (pc' := 93) (L' := [some (.ref x0), some (.int x1), some (.ref x2), some (.ref x3), some (.int x4), some (.int x5), some (.null)]) (st' := [.int (nI 0), .int v24, .int (nI 1), .ref x2]) (sg := [(.iconst 0, nI 0)]) (lSa_ok dd8) rfl ?_
        refine Y.callI (yC.S (As := [.int (nI 0)]) (st := [.int v24, .int (nI 1), .ref x2]) hV.1 cb_M_one lk_M_188 st_M_one (lIa_ok dd9) rfl rfl (Nat.le_of_ble_eq_true rfl) (by decide)) (k_M_one hV G (nI 0)) h (fun v27 G26 _ h => ?_)
        refine Y.blk (pc' := 97) (L' := [some (.ref x0), some (.int x1), some (.ref x2), some (.ref x3), some (.int x4), some (.int x5), some (.null)]) (st' := [.int (v24 + v27), .int (nI 1), .ref x2]) (sg := [(.iadd, 0)]) (lSa_ok dd10) rfl ?_
        refine Y.iast (t0 := 0) (lIa_ok dd11) rfl (by decide) h (fun G28 _ _ h => ?_)
        refine Y.blk (pc' := 101) (L' := [some (.ref x0), some (.int x1), some (.ref x2), some (.ref x3), some (.int x4), some (.int x5), some (.null)]) (st' := [.int (nI 2), .ref x2, .int (nI 2), .ref x2]) (sg := [(.aload_n 2, 0), (.iconst 2, nI 2), (.dup2, 0)]) (lSa_ok dd12) rfl ?_
        refine Y.iald (t0 := 0) (lIa_ok dd13) rfl h (fun v29 h => ?_)
        refine Y.blk (pc' := 104) (L' := [some (.ref x0), some (.int x1), some (.ref x2), some (.ref x3), some (.int x4), some (.int x5), some (.null)]) (st' := [.null, .int v29, .int (nI 2), .ref x2]) (sg := [(.aload 6, 0)]) (lSa_ok dd14) rfl ?_
        refine Y.ifnull_n (off := 15) (tgt := 119) (lIa_ok dd15) (by decide) ?_
        refine Y.blk (pc' := 120) (L' := [some (.ref x0), some (.int x1), some (.ref x2), some (.ref x3), some (.int x4), some (.int x5), some (.null)]) (st' := [.int (nI 0), .int v29, .int (nI 2), .ref x2]) (sg := [(.iconst 0, nI 0)]) (lSa_ok dd16) rfl ?_
        refine Y.callI (yC.S (As := [.int (nI 0)]) (st := [.int v29, .int (nI 2), .ref x2]) hV.1 cb_M_one lk_M_188 st_M_one (lIa_ok dd17) rfl rfl (Nat.le_of_ble_eq_true rfl) (by decide)) (k_M_one hV G28 (nI 0)) h (fun v32 G31 _ h => ?_)
        refine Y.blk (pc' := 124) (L' := [some (.ref x0), some (.int x1), some (.ref x2), some (.ref x3), some (.int x4), some (.int x5), some (.null)]) (st' := [.int (v29 + v32), .int (nI 2), .ref x2]) (sg := [(.iadd, 0)]) (lSa_ok dd18) rfl ?_
        refine Y.iast (t0 := 0) (lIa_ok dd19) rfl (by decide) h (fun G33 _ _ h => ?_)
        refine Y.blk (pc' := 128) (L' := [some (.ref x0), some (.int x1), some (.ref x2), some (.ref x3), some (.int x4), some (.int (x5 + (nI 1))), some (.null)]) (st' := []) (sg := [(.iinc 5 1, nI 1)]) (lSa_ok dd20) rfl ?_
        refine Y.goto (off := -62) (tgt := 66) (lIa_ok dd21) (by decide) ?_
        refine Y.less (L' := [some (.ref x0), some (.int x1), some (.ref x2), some (.ref x3), some (.int x4), some (.int (x5 + (nI 1))), none]) (zLe_some (zLe_some (zLe_some (zLe_some (zLe_some (zLe_some (zLe_none (zLe_nil)))))))) ?_
        exact ih G33 x0 x1 x2 x3 x4 (x5 + (nI 1)) h
      · refine Y.blk (pc' := 82) (L' := [some (.ref x0), some (.int x1), some (.ref x2), some (.ref x3), some (.int x4), some (.int x5), some (.ref v23)]) (st' := [.int (nI 1), .ref x2, .int (nI 1), .ref x2]) (sg := [(.astore 6, 0), (.aload_n 2, 0), (.iconst 1, nI 1), (.dup2, 0)]) (lSa_ok dd4) rfl ?_
        refine Y.iald (t0 := 0) (lIa_ok dd5) rfl h (fun v34 h => ?_)
        refine Y.blk (pc' := 85) (L' := [some (.ref x0), some (.int x1), some (.ref x2), some (.ref x3), some (.int x4), some (.int x5), some (.ref v23)]) (st' := [.ref v23, .int v34, .int (nI 1), .ref x2]) (sg := [(.aload 6, 0)]) (lSa_ok dd6) rfl ?_
        refine Y.ifnull_r (off := 7) (lIa_ok dd7) ?_
        refine Y.blk (pc' := 89) (L' := [some (.ref x0), some (.int x1), some (.ref x2), some (.ref x3), some (.int x4), some (.int x5), some (.ref v23)]) (st' := [.int (nI 1), .int v34, .int (nI 1), .ref x2]) (sg := [(.iconst 1, nI 1)]) (lSa_ok dd22) rfl ?_
        refine Y.goto (off := 4) (tgt := 93) (lIa_ok dd23) (by decide) ?_
        refine Y.callI (yC.S (As := [.int (nI 1)]) (st := [.int v34, .int (nI 1), .ref x2]) hV.1 cb_M_one lk_M_188 st_M_one (lIa_ok dd9) rfl rfl (Nat.le_of_ble_eq_true rfl) (by decide)) (k_M_one hV G (nI 1)) h (fun v37 G36 _ h => ?_)
        refine Y.blk (pc' := 97) (L' := [some (.ref x0), some (.int x1), some (.ref x2), some (.ref x3), some (.int x4), some (.int x5), some (.ref v23)]) (st' := [.int (v34 + v37), .int (nI 1), .ref x2]) (sg := [(.iadd, 0)]) (lSa_ok dd10) rfl ?_
        refine Y.iast (t0 := 0) (lIa_ok dd11) rfl (by decide) h (fun G38 _ _ h => ?_)
        refine Y.blk (pc' := 101) (L' := [some (.ref x0), some (.int x1), some (.ref x2), some (.ref x3), some (.int x4), some (.int x5), some (.ref v23)]) (st' := [.int (nI 2), .ref x2, .int (nI 2), .ref x2]) (sg := [(.aload_n 2, 0), (.iconst 2, nI 2), (.dup2, 0)]) (lSa_ok dd12) rfl ?_
        refine Y.iald (t0 := 0) (lIa_ok dd13) rfl h (fun v39 h => ?_)
        refine Y.blk (pc' := 104) (L' := [some (.ref x0), some (.int x1), some (.ref x2), some (.ref x3), some (.int x4), some (.int x5), some (.ref v23)]) (st' := [.ref v23, .int v39, .int (nI 2), .ref x2]) (sg := [(.aload 6, 0)]) (lSa_ok dd14) rfl ?_
        refine Y.ifnull_r (off := 15) (lIa_ok dd15) ?_
        refine Y.blk (pc' := 109) (L' := [some (.ref x0), some (.int x1), some (.ref x2), some (.ref x3), some (.int x4), some (.int x5), some (.ref v23)]) (st' := [.ref v23, .int v39, .int (nI 2), .ref x2]) (sg := [(.aload 6, 0)]) (lSa_ok dd24) rfl ?_
        refine Y.getI fl_M_99 (lIa_ok dd25) h (fun v40 h => ?_)
        refine Y.if_eq (off := 7) (tgt := 119) (lIa_ok dd26) (by decide) h (fun c49 h => ?_) (fun c49 h => ?_)
        · refine Y.blk (pc' := 120) (L' := [some (.ref x0), some (.int x1), some (.ref x2), some (.ref x3), some (.int x4), some (.int x5), some (.ref v23)]) (st' := [.int (nI 0), .int v39, .int (nI 2), .ref x2]) (sg := [(.iconst 0, nI 0)]) (lSa_ok dd16) rfl ?_
          refine Y.callI (yC.S (As := [.int (nI 0)]) (st := [.int v39, .int (nI 2), .ref x2]) hV.1 cb_M_one lk_M_188 st_M_one (lIa_ok dd17) rfl rfl (Nat.le_of_ble_eq_true rfl) (by decide)) (k_M_one hV G38 (nI 0)) h (fun v43 G42 _ h => ?_)
          refine Y.blk (pc' := 124) (L' := [some (.ref x0), some (.int x1), some (.ref x2), some (.ref x3), some (.int x4), some (.int x5), some (.ref v23)]) (st' := [.int (v39 + v43), .int (nI 2), .ref x2]) (sg := [(.iadd, 0)]) (lSa_ok dd18) rfl ?_
          refine Y.iast (t0 := 0) (lIa_ok dd19) rfl (by decide) h (fun G44 _ _ h => ?_)
          refine Y.blk (pc' := 128) (L' := [some (.ref x0), some (.int x1), some (.ref x2), some (.ref x3), some (.int x4), some (.int (x5 + (nI 1))), some (.ref v23)]) (st' := []) (sg := [(.iinc 5 1, nI 1)]) (lSa_ok dd20) rfl ?_
          refine Y.goto (off := -62) (tgt := 66) (lIa_ok dd21) (by decide) ?_
          refine Y.less (L' := [some (.ref x0), some (.int x1), some (.ref x2), some (.ref x3), some (.int x4), some (.int (x5 + (nI 1))), none]) (zLe_some (zLe_some (zLe_some (zLe_some (zLe_some (zLe_some (zLe_none (zLe_nil)))))))) ?_
          exact ih G44 x0 x1 x2 x3 x4 (x5 + (nI 1)) h
        · refine Y.blk (pc' := 116) (L' := [some (.ref x0), some (.int x1), some (.ref x2), some (.ref x3), some (.int x4), some (.int x5), some (.ref v23)]) (st' := [.int (nI 1), .int v39, .int (nI 2), .ref x2]) (sg := [(.iconst 1, nI 1)]) (lSa_ok dd27) rfl ?_
          refine Y.goto (off := 4) (tgt := 120) (lIa_ok dd28) (by decide) ?_
          refine Y.callI (yC.S (As := [.int (nI 1)]) (st := [.int v39, .int (nI 2), .ref x2]) hV.1 cb_M_one lk_M_188 st_M_one (lIa_ok dd17) rfl rfl (Nat.le_of_ble_eq_true rfl) (by decide)) (k_M_one hV G38 (nI 1)) h (fun v47 G46 _ h => ?_)
          refine Y.blk (pc' := 124) (L' := [some (.ref x0), some (.int x1), some (.ref x2), some (.ref x3), some (.int x4), some (.int x5), some (.ref v23)]) (st' := [.int (v39 + v47), .int (nI 2), .ref x2]) (sg := [(.iadd, 0)]) (lSa_ok dd18) rfl ?_
          refine Y.iast (t0 := 0) (lIa_ok dd19) rfl (by decide) h (fun G48 _ _ h => ?_)
          refine Y.blk (pc' := 128) (L' := [some (.ref x0), some (.int x1), some (.ref x2), some (.ref x3), some (.int x4), some (.int (x5 + (nI 1))), some (.ref v23)]) (st' := []) (sg := [(.iinc 5 1, nI 1)]) (lSa_ok dd20) rfl ?_
          refine Y.goto (off := -62) (tgt := 66) (lIa_ok dd21) (by decide) ?_
          refine Y.less (L' := [some (.ref x0), some (.int x1), some (.ref x2), some (.ref x3), some (.int x4), some (.int (x5 + (nI 1))), none]) (zLe_some (zLe_some (zLe_some (zLe_some (zLe_some (zLe_some (zLe_none (zLe_nil)))))))) ?_
          exact ih G48 x0 x1 x2 x3 x4 (x5 + (nI 1)) h
theorem k_M_houseTold {l : Launch} {D : va_G} {B : Nat} {O : State → Heap → Prop} (hV : zG l D B O) (G : gH) (a0 : Nat) (a1 : Int32) : gMet (zVm l D B O) m_M_houseTold 3 [.ref a0, .int a1] G (f_M_houseTold G a0 a1) := by
  have hdd : lSa m_M_houseTold 0 [(.iconst 3, nI 3)] = true ∧ lSa m_M_houseTold 3 [(.astore_n 2, 0), (.aload_n 0, 0)] = true ∧ lIa m_M_houseTold 5 (.getfield 18) 3 = true ∧ lSa m_M_houseTold 8 [(.astore_n 3, 0), (.aload_n 3, 0)] = true ∧ lIa m_M_houseTold 10 (.arraylength) 1 = true ∧ lSa m_M_houseTold 11 [(.istore 4, 0), (.iconst 0, nI 0), (.istore 5, 0)] = true ∧ lSa m_M_houseTold 54 [(.aload_n 0, 0)] = true ∧ lIa m_M_houseTold 55 (.getfield 24) 3 = true ∧ lSa m_M_houseTold 58 [(.astore_n 3, 0), (.aload_n 3, 0)] = true ∧ lIa m_M_houseTold 60 (.arraylength) 1 = true ∧ lSa m_M_houseTold 61 [(.istore 4, 0), (.iconst 0, nI 0), (.istore 5, 0)] = true ∧ lSa m_M_houseTold 131 [(.bipush 8, nI 8)] = true ∧ lSa m_M_houseTold 135 [(.dup, 0), (.iconst 0, nI 0), (.aload_n 0, 0)] = true ∧ lIa m_M_houseTold 138 (.getfield 76) 3 = true ∧ lIa m_M_houseTold 141 (.iastore) 1 = true ∧ lSa m_M_houseTold 142 [(.dup, 0), (.iconst 1, nI 1), (.aload_n 2, 0), (.iconst 0, nI 0)] = true ∧ lIa m_M_houseTold 146 (.iaload) 1 = true ∧ lIa m_M_houseTold 147 (.iastore) 1 = true ∧ lSa m_M_houseTold 148 [(.dup, 0), (.iconst 2, nI 2), (.aload_n 2, 0), (.iconst 1, nI 1)] = true ∧ lIa m_M_houseTold 152 (.iaload) 1 = true ∧ lIa m_M_houseTold 153 (.iastore) 1 = true ∧ lSa m_M_houseTold 154 [(.dup, 0), (.iconst 3, nI 3), (.aload_n 2, 0), (.iconst 2, nI 2)] = true ∧ lIa m_M_houseTold 158 (.iaload) 1 = true ∧ lIa m_M_houseTold 159 (.iastore) 1 = true ∧ lSa m_M_houseTold 160 [(.dup, 0), (.iconst 4, nI 4), (.aload_n 0, 0)] = true ∧ lIa m_M_houseTold 163 (.getfield 96) 3 = true ∧ lIa m_M_houseTold 166 (.iastore) 1 = true ∧ lSa m_M_houseTold 167 [(.dup, 0), (.iconst 5, nI 5), (.aload_n 0, 0)] = true ∧ lIa m_M_houseTold 170 (.getfield 83) 3 = true ∧ lIa m_M_houseTold 173 (.iastore) 1 = true ∧ lSa m_M_houseTold 174 [(.dup, 0), (.bipush 6, nI 6), (.aload_n 0, 0)] = true ∧ lIa m_M_houseTold 178 (.getfield 211) 3 = true ∧ lIa m_M_houseTold 181 (.iastore) 1 = true ∧ lSa m_M_houseTold 182 [(.dup, 0), (.bipush 7, nI 7), (.aload_n 0, 0)] = true ∧ lIa m_M_houseTold 186 (.getfield 293) 3 = true ∧ lIa m_M_houseTold 189 (.iastore) 1 = true ∧ lSa m_M_houseTold 190 [(.astore_n 3, 0), (.aload_n 3, 0), (.iload_n 1, 0)] = true ∧ lIa m_M_houseTold 193 (.iaload) 1 = true ∧ lIa m_M_houseTold 194 (.ireturn) 1 = true := by decide +kernel
  refine lA8 hdd (fun dd0 dd1 dd2 dd3 dd4 dd5 dd6 dd7 hdd => ?_)
  refine lA8 hdd (fun dd8 dd9 dd10 dd11 dd12 dd13 dd14 dd15 hdd => ?_)
  refine lA8 hdd (fun dd16 dd17 dd18 dd19 dd20 dd21 dd22 dd23 hdd => ?_)
  refine lA8 hdd (fun dd24 dd25 dd26 dd27 dd28 dd29 dd30 dd31 hdd => ?_)
  obtain ⟨dd32, dd33, dd34, dd35, dd36, dd37, dd38⟩ := hdd
  refine gMet.of (by decide +kernel) (Nat.le_of_ble_eq_true rfl) [some (.ref a0), some (.int a1), none, none, none, none, none] (fun ls h => zEn_ok (n := 7) h) ?_
  intro o Gf h
  unfold f_M_houseTold at h
  refine Y.blk (pc' := 1) (L' := [some (.ref a0), some (.int a1), none, none, none, none, none]) (st' := [.int (nI 3)]) (sg := [(.iconst 3, nI 3)]) (lSa_ok dd0) rfl ?_
  refine Y.newa (at_ := .int) (t0 := 0) ac_i rfl (by decide) rfl (by decide) (by decide +kernel) h (fun q1 G2 h => ?_)
  refine Y.blk (pc' := 5) (L' := [some (.ref a0), some (.int a1), some (.ref q1), none, none, none, none]) (st' := [.ref a0]) (sg := [(.astore_n 2, 0), (.aload_n 0, 0)]) (lSa_ok dd1) rfl ?_
  refine Y.getA fl_M_18 (lIa_ok dd2) h (fun v3 h => ?_)
  refine Y.blk (pc' := 10) (L' := [some (.ref a0), some (.int a1), some (.ref q1), some (.ref v3), none, none, none]) (st' := [.ref v3]) (sg := [(.astore_n 3, 0), (.aload_n 3, 0)]) (lSa_ok dd3) rfl ?_
  refine Y.alenq (t0 := 4) (lIa_ok dd4) rfl h (fun v4 h => ?_)
  refine Y.blk (pc' := 16) (L' := [some (.ref a0), some (.int a1), some (.ref q1), some (.ref v3), some (.int v4), some (.int (nI 0)), none]) (st' := []) (sg := [(.istore 4, 0), (.iconst 0, nI 0), (.istore 5, 0)]) (lSa_ok dd5) rfl ?_
  refine k_M_houseTold_L16 hV _ ?_  zFu G2 a0 a1 q1 v3 v4 (nI 0) h
  · intro G20 x17 x18 x19 h
    refine Y.blk (pc' := 55) (L' := [some (.ref x17), some (.int x18), some (.ref x19), none, none, none, none]) (st' := [.ref x17]) (sg := [(.aload_n 0, 0)]) (lSa_ok dd6) rfl ?_
    refine Y.getA fl_M_24 (lIa_ok dd7) h (fun v21 h => ?_)
    refine Y.blk (pc' := 60) (L' := [some (.ref x17), some (.int x18), some (.ref x19), some (.ref v21), none, none, none]) (st' := [.ref v21]) (sg := [(.astore_n 3, 0), (.aload_n 3, 0)]) (lSa_ok dd8) rfl ?_
    refine Y.alenq (t0 := 5) (lIa_ok dd9) rfl h (fun v22 h => ?_)
    refine Y.blk (pc' := 66) (L' := [some (.ref x17), some (.int x18), some (.ref x19), some (.ref v21), some (.int v22), some (.int (nI 0)), none]) (st' := []) (sg := [(.istore 4, 0), (.iconst 0, nI 0), (.istore 5, 0)]) (lSa_ok dd10) rfl ?_
    refine k_M_houseTold_L66 hV _ ?_  zFu G20 x17 x18 x19 v21 v22 (nI 0) h
    · intro G54 x51 x52 x53 h
      refine Y.blk (pc' := 133) (L' := [some (.ref x51), some (.int x52), some (.ref x53), none, none, none, none]) (st' := [.int (nI 8)]) (sg := [(.bipush 8, nI 8)]) (lSa_ok dd11) rfl ?_
      refine Y.newa (at_ := .int) (t0 := 0) ac_i rfl (by decide) rfl (by decide) (by decide +kernel) h (fun q55 G56 h => ?_)
      refine Y.blk (pc' := 138) (L' := [some (.ref x51), some (.int x52), some (.ref x53), none, none, none, none]) (st' := [.ref x51, .int (nI 0), .ref q55, .ref q55]) (sg := [(.dup, 0), (.iconst 0, nI 0), (.aload_n 0, 0)]) (lSa_ok dd12) rfl ?_
      refine Y.getI fl_M_76 (lIa_ok dd13) h (fun v57 h => ?_)
      refine Y.iast (t0 := 0) (lIa_ok dd14) rfl (by decide) h (fun G58 _ _ h => ?_)
      refine Y.blk (pc' := 146) (L' := [some (.ref x51), some (.int x52), some (.ref x53), none, none, none, none]) (st' := [.int (nI 0), .ref x53, .int (nI 1), .ref q55, .ref q55]) (sg := [(.dup, 0), (.iconst 1, nI 1), (.aload_n 2, 0), (.iconst 0, nI 0)]) (lSa_ok dd15) rfl ?_
      refine Y.iald (t0 := 0) (lIa_ok dd16) rfl h (fun v59 h => ?_)
      refine Y.iast (t0 := 0) (lIa_ok dd17) rfl (by decide) h (fun G60 _ _ h => ?_)
      refine Y.blk (pc' := 152) (L' := [some (.ref x51), some (.int x52), some (.ref x53), none, none, none, none]) (st' := [.int (nI 1), .ref x53, .int (nI 2), .ref q55, .ref q55]) (sg := [(.dup, 0), (.iconst 2, nI 2), (.aload_n 2, 0), (.iconst 1, nI 1)]) (lSa_ok dd18) rfl ?_
      refine Y.iald (t0 := 0) (lIa_ok dd19) rfl h (fun v61 h => ?_)
      refine Y.iast (t0 := 0) (lIa_ok dd20) rfl (by decide) h (fun G62 _ _ h => ?_)
      refine Y.blk (pc' := 158) (L' := [some (.ref x51), some (.int x52), some (.ref x53), none, none, none, none]) (st' := [.int (nI 2), .ref x53, .int (nI 3), .ref q55, .ref q55]) (sg := [(.dup, 0), (.iconst 3, nI 3), (.aload_n 2, 0), (.iconst 2, nI 2)]) (lSa_ok dd21) rfl ?_
      refine Y.iald (t0 := 0) (lIa_ok dd22) rfl h (fun v63 h => ?_)
      refine Y.iast (t0 := 0) (lIa_ok dd23) rfl (by decide) h (fun G64 _ _ h => ?_)
      refine Y.blk (pc' := 163) (L' := [some (.ref x51), some (.int x52), some (.ref x53), none, none, none, none]) (st' := [.ref x51, .int (nI 4), .ref q55, .ref q55]) (sg := [(.dup, 0), (.iconst 4, nI 4), (.aload_n 0, 0)]) (lSa_ok dd24) rfl ?_
      refine Y.getI fl_M_96 (lIa_ok dd25) h (fun v65 h => ?_)
      refine Y.iast (t0 := 0) (lIa_ok dd26) rfl (by decide) h (fun G66 _ _ h => ?_)
      refine Y.blk (pc' := 170) (L' := [some (.ref x51), some (.int x52), some (.ref x53), none, none, none, none]) (st' := [.ref x51, .int (nI 5), .ref q55, .ref q55]) (sg := [(.dup, 0), (.iconst 5, nI 5), (.aload_n 0, 0)]) (lSa_ok dd27) rfl ?_
      refine Y.getI fl_M_83 (lIa_ok dd28) h (fun v67 h => ?_)
      refine Y.iast (t0 := 0) (lIa_ok dd29) rfl (by decide) h (fun G68 _ _ h => ?_)
      refine Y.blk (pc' := 178) (L' := [some (.ref x51), some (.int x52), some (.ref x53), none, none, none, none]) (st' := [.ref x51, .int (nI 6), .ref q55, .ref q55]) (sg := [(.dup, 0), (.bipush 6, nI 6), (.aload_n 0, 0)]) (lSa_ok dd30) rfl ?_
      refine Y.getI fl_M_211 (lIa_ok dd31) h (fun v69 h => ?_)
      refine Y.iast (t0 := 0) (lIa_ok dd32) rfl (by decide) h (fun G70 _ _ h => ?_)
      refine Y.blk (pc' := 186) (L' := [some (.ref x51), some (.int x52), some (.ref x53), none, none, none, none]) (st' := [.ref x51, .int (nI 7), .ref q55, .ref q55]) (sg := [(.dup, 0), (.bipush 7, nI 7), (.aload_n 0, 0)]) (lSa_ok dd33) rfl ?_
      refine Y.getI fl_M_293 (lIa_ok dd34) h (fun v71 h => ?_)
      refine Y.iast (t0 := 0) (lIa_ok dd35) rfl (by decide) h (fun G72 _ _ h => ?_)
      refine Y.blk (pc' := 193) (L' := [some (.ref x51), some (.int x52), some (.ref x53), some (.ref q55), none, none, none]) (st' := [.int x52, .ref q55]) (sg := [(.astore_n 3, 0), (.aload_n 3, 0), (.iload_n 1, 0)]) (lSa_ok dd36) rfl ?_
      refine Y.iald (t0 := 0) (lIa_ok dd37) rfl h (fun v73 h => ?_)
      exact Y.iret rfl (lIa_ok dd38) h

def f_M_order_L12 (K83 : gH → Nat → Int32 → Int32 → gR) : Nat → gH → Nat → Int32 → Int32 → Int32 → gR
  | 0, _, _, _, _, _ => none
  | n + 1, G, x0, x1, x2, x3 =>
    if x3 ≤ 0 then K83 G x0 x1 x2
    else gOb G x0 9 fun o7 => bA (f_AL_get G x0 x3) fun v10 G9 => gCaA G9 v10 100 (gOb G9 x0 9 fun o12 => bA (f_AL_get G9 x0 (x3 - (nI 1))) fun v15 G14 => gCaA G14 v15 100 (bI (f_M_ahead G14 v10 v15 x1) fun v18 G17 => if 0 ≤ v18 then K83 G17 x0 x1 x2
      else gOb G17 x0 9 fun o20 => bA (f_AL_get G17 x0 x3) fun v23 G22 => gCaA G22 v23 100 (gOb G22 x0 9 fun o25 => bA (f_AL_get G22 x0 (x3 - (nI 1))) fun v28 G27 => gCaA G27 v28 100 (gOb G27 x0 9 fun o30 => bA (f_AL_set G27 x0 x3 v28) fun v33 G32 => gOb G32 x0 9 fun o35 => bA (f_AL_set G32 x0 (x3 - (nI 1)) v23) fun v38 G37 => f_M_order_L12 K83 n G37 x0 x1 x2 (x3 + (-1))))))
def f_M_order_L2 (K89 : gH → gR) : Nat → gH → Nat → Int32 → Int32 → gR
  | 0, _, _, _, _ => none
  | n + 1, G, x0, x1, x2 =>
    gOb G x0 9 fun o2 => bI (f_AL_size G x0) fun v5 G4 => if v5 ≤ x2 then K89 G4
    else f_M_order_L12 (fun G44 x41 x42 x43 => f_M_order_L2 K89 n G44 x41 x42 (x43 + (nI 1))) zFu G4 x0 x1 x2 x2
def f_M_order (G : gH) (a0 : Nat) (a1 : Int32) : gR :=
  f_M_order_L2 (fun G46 => rV G46) zFu G a0 a1 (nI 1)
theorem k_M_order_L12 {l : Launch} {D : va_G} {B : Nat} {O : State → Heap → Prop} (hV : zG l D B O) {o : gO} {Gf : gH} (K83 : gH → Nat → Int32 → Int32 → gR) (hK83 : ∀ (G : gH) (x0 : Nat) (x1 : Int32) (x2 : Int32), K83 G x0 x1 x2 = some (o, Gf) → Y (zVm l D B O) m_M_order 5 o Gf 83 [some (.ref x0), some (.int x1), some (.int x2), none, none] [] G) : ∀ (n : Nat) (G : gH) (x0 : Nat) (x1 : Int32) (x2 : Int32) (x3 : Int32), f_M_order_L12 K83 n G x0 x1 x2 x3 = some (o, Gf) → Y (zVm l D B O) m_M_order 5 o Gf 12 [some (.ref x0), some (.int x1), some (.int x2), some (.int x3), none] [] G := by
  have hdd : lSa m_M_order 12 [(.iload_n 3, 0)] = true ∧ lIa m_M_order 13 (.ifCond .le 70) 3 = true ∧ lSa m_M_order 16 [(.aload_n 0, 0), (.iload_n 3, 0)] = true ∧ lIa m_M_order 18 (.invokevirtual 57) 3 = true ∧ lIa m_M_order 21 (.checkcast 72) 3 = true ∧ lSa m_M_order 24 [(.aload_n 0, 0), (.iload_n 3, 0), (.iconst 1, nI 1), (.isub, 0)] = true ∧ lIa m_M_order 28 (.invokevirtual 57) 3 = true ∧ lIa m_M_order 31 (.checkcast 72) 3 = true ∧ lSa m_M_order 34 [(.iload_n 1, 0)] = true ∧ lIa m_M_order 35 (.invokestatic 180) 3 = true ∧ lIa m_M_order 38 (.ifCond .ge 45) 3 = true ∧ lSa m_M_order 41 [(.aload_n 0, 0), (.iload_n 3, 0)] = true ∧ lIa m_M_order 43 (.invokevirtual 57) 3 = true ∧ lIa m_M_order 46 (.checkcast 72) 3 = true ∧ lSa m_M_order 49 [(.astore 4, 0), (.aload_n 0, 0), (.iload_n 3, 0), (.aload_n 0, 0), (.iload_n 3, 0), (.iconst 1, nI 1), (.isub, 0)] = true ∧ lIa m_M_order 57 (.invokevirtual 57) 3 = true ∧ lIa m_M_order 60 (.checkcast 72) 3 = true ∧ lIa m_M_order 63 (.invokevirtual 143) 3 = true ∧ lSa m_M_order 66 [(.pop, 0), (.aload_n 0, 0), (.iload_n 3, 0), (.iconst 1, nI 1), (.isub, 0), (.aload 4, 0)] = true ∧ lIa m_M_order 73 (.invokevirtual 143) 3 = true ∧ lSa m_M_order 76 [(.pop, 0), (.iinc 3 (-1), -1)] = true ∧ lIa m_M_order 80 (.goto (-68)) 3 = true := by decide +kernel
  refine lA8 hdd (fun dd0 dd1 dd2 dd3 dd4 dd5 dd6 dd7 hdd => ?_)
  refine lA8 hdd (fun dd8 dd9 dd10 dd11 dd12 dd13 dd14 dd15 hdd => ?_)
  obtain ⟨dd16, dd17, dd18, dd19, dd20, dd21⟩ := hdd
  intro n
  induction n with
  | zero => intro G x0 x1 x2 x3 h; cases h
  | succ n ih =>
    intro G x0 x1 x2 x3 h
    unfold f_M_order_L12 at h
    refine Y.blk (pc' := 13) (L' := [some (.ref x0), some (.int x1), some (.int x2), some (.int x3), none]) (st' := [.int x3]) (sg := [(.iload_n 3, 0)]) (lSa_ok dd0) rfl ?_
    refine Y.if_le (off := 70) (tgt := 83) (lIa_ok dd1) (by decide) h (fun c40 h => ?_) (fun c40 h => ?_)
    · refine Y.less (L' := [some (.ref x0), some (.int x1), some (.int x2), none, none]) (zLe_some (zLe_some (zLe_some (zLe_none (zLe_some (zLe_nil)))))) ?_
      exact hK83 G x0 x1 x2 h
    · refine Y.blk (pc' := 18) (L' := [some (.ref x0), some (.int x1), some (.int x2), some (.int x3), none]) (st' := [.int x3, .ref x0]) (sg := [(.aload_n 0, 0), (.iload_n 3, 0)]) (lSa_ok dd2) rfl ?_
      obtain ⟨_, o7, e6, m8, h⟩ := gOb_inv h
      refine Y.callA (yC.Vi (b := x0) (As := [.int x3]) (st := []) (r := ("java/util/ArrayList", T_AL, 3)) hV.1 cb_AL_get lk_M_57 in_AL_get rfl se_AL_get (lIa_ok dd3) rfl rfl (Nat.le_of_ble_eq_true rfl) (by decide) e6 m8) (k_AL_get hV G x0 x3) h (fun v10 G9 _ h => ?_)
      refine Y.castA (t0 := 0) (nm := "[I") (lIa_ok dd4) rfl (by decide) ck_M_72 h (fun h => ?_)
      refine Y.blk (pc' := 28) (L' := [some (.ref x0), some (.int x1), some (.int x2), some (.int x3), none]) (st' := [.int (x3 - (nI 1)), .ref x0, .ref v10]) (sg := [(.aload_n 0, 0), (.iload_n 3, 0), (.iconst 1, nI 1), (.isub, 0)]) (lSa_ok dd5) rfl ?_
      obtain ⟨_, o12, e11, m13, h⟩ := gOb_inv h
      refine Y.callA (yC.Vi (b := x0) (As := [.int (x3 - (nI 1))]) (st := [.ref v10]) (r := ("java/util/ArrayList", T_AL, 3)) hV.1 cb_AL_get lk_M_57 in_AL_get rfl se_AL_get (lIa_ok dd6) rfl rfl (Nat.le_of_ble_eq_true rfl) (by decide) e11 m13) (k_AL_get hV G9 x0 (x3 - (nI 1))) h (fun v15 G14 _ h => ?_)
      refine Y.castA (t0 := 0) (nm := "[I") (lIa_ok dd7) rfl (by decide) ck_M_72 h (fun h => ?_)
      refine Y.blk (pc' := 35) (L' := [some (.ref x0), some (.int x1), some (.int x2), some (.int x3), none]) (st' := [.int x1, .ref v15, .ref v10]) (sg := [(.iload_n 1, 0)]) (lSa_ok dd8) rfl ?_
      refine Y.callI (yC.S (As := [.ref v10, .ref v15, .int x1]) (st := []) hV.1 cb_M_ahead lk_M_180 st_M_ahead (lIa_ok dd9) rfl rfl (Nat.le_of_ble_eq_true rfl) (by decide)) (k_M_ahead hV G14 v10 v15 x1) h (fun v18 G17 _ h => ?_)
      refine Y.if_ge (off := 45) (tgt := 83) (lIa_ok dd10) (by decide) h (fun c39 h => ?_) (fun c39 h => ?_)
      · refine Y.less (L' := [some (.ref x0), some (.int x1), some (.int x2), none, none]) (zLe_some (zLe_some (zLe_some (zLe_none (zLe_some (zLe_nil)))))) ?_
        exact hK83 G17 x0 x1 x2 h
      · refine Y.blk (pc' := 43) (L' := [some (.ref x0), some (.int x1), some (.int x2), some (.int x3), none]) (st' := [.int x3, .ref x0]) (sg := [(.aload_n 0, 0), (.iload_n 3, 0)]) (lSa_ok dd11) rfl ?_
        obtain ⟨_, o20, e19, m21, h⟩ := gOb_inv h
        refine Y.callA (yC.Vi (b := x0) (As := [.int x3]) (st := []) (r := ("java/util/ArrayList", T_AL, 3)) hV.1 cb_AL_get lk_M_57 in_AL_get rfl se_AL_get (lIa_ok dd12) rfl rfl (Nat.le_of_ble_eq_true rfl) (by decide) e19 m21) (k_AL_get hV G17 x0 x3) h (fun v23 G22 _ h => ?_)
        refine Y.castA (t0 := 0) (nm := "[I") (lIa_ok dd13) rfl (by decide) ck_M_72 h (fun h => ?_)
        refine Y.blk (pc' := 57) (L' := [some (.ref x0), some (.int x1), some (.int x2), some (.int x3), some (.ref v23)]) (st' := [.int (x3 - (nI 1)), .ref x0, .int x3, .ref x0]) (sg := [(.astore 4, 0), (.aload_n 0, 0), (.iload_n 3, 0), (.aload_n 0, 0), (.iload_n 3, 0), (.iconst 1, nI 1), (.isub, 0)]) (lSa_ok dd14) rfl ?_
        obtain ⟨_, o25, e24, m26, h⟩ := gOb_inv h
        refine Y.callA (yC.Vi (b := x0) (As := [.int (x3 - (nI 1))]) (st := [.int x3, .ref x0]) (r := ("java/util/ArrayList", T_AL, 3)) hV.1 cb_AL_get lk_M_57 in_AL_get rfl se_AL_get (lIa_ok dd15) rfl rfl (Nat.le_of_ble_eq_true rfl) (by decide) e24 m26) (k_AL_get hV G22 x0 (x3 - (nI 1))) h (fun v28 G27 _ h => ?_)
        refine Y.castA (t0 := 0) (nm := "[I") (lIa_ok dd16) rfl (by decide) ck_M_72 h (fun h => ?_)
        obtain ⟨_, o30, e29, m31, h⟩ := gOb_inv h
        refine Y.callA (yC.Vi (b := x0) (As := [.int x3, .ref v28]) (st := []) (r := ("java/util/ArrayList", T_AL, 3)) hV.1 cb_AL_set lk_M_143 in_AL_set rfl se_AL_set (lIa_ok dd17) rfl rfl (Nat.le_of_ble_eq_true rfl) (by decide) e29 m31) (k_AL_set hV G27 x0 x3 v28) h (fun v33 G32 _ h => ?_)
        refine Y.blk (pc' := 73) (L' := [some (.ref x0), some (.int x1), some (.int x2), some (.int x3), some (.ref v23)]) (st' := [.ref v23, .int (x3 - (nI 1)), .ref x0]) (sg := [(.pop, 0), (.aload_n 0, 0), (.iload_n 3, 0), (.iconst 1, nI 1), (.isub, 0), (.aload 4, 0)]) (lSa_ok dd18) rfl ?_
        obtain ⟨_, o35, e34, m36, h⟩ := gOb_inv h
        refine Y.callA (yC.Vi (b := x0) (As := [.int (x3 - (nI 1)), .ref v23]) (st := []) (r := ("java/util/ArrayList", T_AL, 3)) hV.1 cb_AL_set lk_M_143 in_AL_set rfl se_AL_set (lIa_ok dd19) rfl rfl (Nat.le_of_ble_eq_true rfl) (by decide) e34 m36) (k_AL_set hV G32 x0 (x3 - (nI 1)) v23) h (fun v38 G37 _ h => ?_)
        refine Y.blk (pc' := 80) (L' := [some (.ref x0), some (.int x1), some (.int x2), some (.int (x3 + (-1))), some (.ref v23)]) (st' := []) (sg := [(.pop, 0), (.iinc 3 (-1), -1)]) (lSa_ok dd20) rfl ?_
        refine Y.goto (off := -68) (tgt := 12) (lIa_ok dd21) (by decide) ?_
        refine Y.less (L' := [some (.ref x0), some (.int x1), some (.int x2), some (.int (x3 + (-1))), none]) (zLe_some (zLe_some (zLe_some (zLe_some (zLe_none (zLe_nil)))))) ?_
        exact ih G37 x0 x1 x2 (x3 + (-1)) h
theorem k_M_order_L2 {l : Launch} {D : va_G} {B : Nat} {O : State → Heap → Prop} (hV : zG l D B O) {o : gO} {Gf : gH} (K89 : gH → gR) (hK89 : ∀ (G : gH), K89 G  = some (o, Gf) → Y (zVm l D B O) m_M_order 5 o Gf 89 [none, none, none, none, none] [] G) : ∀ (n : Nat) (G : gH) (x0 : Nat) (x1 : Int32) (x2 : Int32), f_M_order_L2 K89 n G x0 x1 x2 = some (o, Gf) → Y (zVm l D B O) m_M_order 5 o Gf 2 [some (.ref x0), some (.int x1), some (.int x2), none, none] [] G := by
  have hdd : lSa m_M_order 2 [(.iload_n 2, 0), (.aload_n 0, 0)] = true ∧ lIa m_M_order 4 (.invokevirtual 61) 3 = true ∧ lIa m_M_order 7 (.if_icmp .ge 82) 3 = true ∧ lSa m_M_order 10 [(.iload_n 2, 0), (.istore_n 3, 0)] = true ∧ lSa m_M_order 83 [(.iinc 2 1, nI 1)] = true ∧ lIa m_M_order 86 (.goto (-84)) 3 = true := by decide +kernel
  obtain ⟨dd0, dd1, dd2, dd3, dd4, dd5⟩ := hdd
  intro n
  induction n with
  | zero => intro G x0 x1 x2 h; cases h
  | succ n ih =>
    intro G x0 x1 x2 h
    unfold f_M_order_L2 at h
    refine Y.blk (pc' := 4) (L' := [some (.ref x0), some (.int x1), some (.int x2), none, none]) (st' := [.ref x0, .int x2]) (sg := [(.iload_n 2, 0), (.aload_n 0, 0)]) (lSa_ok dd0) rfl ?_
    obtain ⟨_, o2, e1, m3, h⟩ := gOb_inv h
    refine Y.callI (yC.Vi (b := x0) (As := []) (st := [.int x2]) (r := ("java/util/ArrayList", T_AL, 3)) hV.1 cb_AL_size lk_M_61 in_AL_size rfl se_AL_size (lIa_ok dd1) rfl rfl (Nat.le_of_ble_eq_true rfl) (by decide) e1 m3) (k_AL_size hV G x0) h (fun v5 G4 _ h => ?_)
    refine Y.ic_ge (off := 82) (tgt := 89) (lIa_ok dd2) (by decide) h (fun c45 h => ?_) (fun c45 h => ?_)
    · refine Y.less (L' := [none, none, none, none, none]) (zLe_none (zLe_none (zLe_none (zLe_some (zLe_some (zLe_nil)))))) ?_
      exact hK89 G4  h
    · refine Y.blk (pc' := 12) (L' := [some (.ref x0), some (.int x1), some (.int x2), some (.int x2), none]) (st' := []) (sg := [(.iload_n 2, 0), (.istore_n 3, 0)]) (lSa_ok dd3) rfl ?_
      refine k_M_order_L12 hV _ ?_  zFu G4 x0 x1 x2 x2 h
      · intro G44 x41 x42 x43 h
        refine Y.blk (pc' := 86) (L' := [some (.ref x41), some (.int x42), some (.int (x43 + (nI 1))), none, none]) (st' := []) (sg := [(.iinc 2 1, nI 1)]) (lSa_ok dd4) rfl ?_
        refine Y.goto (off := -84) (tgt := 2) (lIa_ok dd5) (by decide) ?_
        exact ih G44 x41 x42 (x43 + (nI 1)) h
theorem k_M_order {l : Launch} {D : va_G} {B : Nat} {O : State → Heap → Prop} (hV : zG l D B O) (G : gH) (a0 : Nat) (a1 : Int32) : gMet (zVm l D B O) m_M_order 5 [.ref a0, .int a1] G (f_M_order G a0 a1) := by
  have hdd : lSa m_M_order 0 [(.iconst 1, nI 1), (.istore_n 2, 0)] = true ∧ lIa m_M_order 89 (.return_) 1 = true := by decide +kernel
  obtain ⟨dd0, dd1⟩ := hdd
  refine gMet.of (by decide +kernel) (Nat.le_of_ble_eq_true rfl) [some (.ref a0), some (.int a1), none, none, none] (fun ls h => zEn_ok (n := 5) h) ?_
  intro o Gf h
  unfold f_M_order at h
  refine Y.blk (pc' := 2) (L' := [some (.ref a0), some (.int a1), some (.int (nI 1)), none, none]) (st' := []) (sg := [(.iconst 1, nI 1), (.istore_n 2, 0)]) (lSa_ok dd0) rfl ?_
  refine k_M_order_L2 hV _ ?_  zFu G a0 a1 (nI 1) h
  · intro G46 h
    exact Y.vret rfl (lIa_ok dd1) h
