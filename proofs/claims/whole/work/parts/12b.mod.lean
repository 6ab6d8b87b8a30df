def f_M_change_L8 (K45 : gH → Nat → Int32 → Int32 → gR) : Nat → gH → Nat → Int32 → Int32 → Int32 → Int32 → gR
  | 0, _, _, _, _, _, _ => none
  | n + 1, G, x0, x1, x2, x3, x4 =>
    if x4 < (nI 2) then K45 G x0 x1 x3
    else gFA G x0 6 2 fun v1 => gLdq G v1 104 x4 (none) fun v2 => gFI G v2 5 2 fun v3 => gPut G v2 5 2 (.int (v3 + x2)) fun G4 => gFA G4 x0 6 2 fun v5 => gLdq G4 v5 104 x4 (none) fun v6 => gFI G4 v6 5 0 fun v7 => f_M_change_L8 K45 n G4 x0 x1 x2 x3 v7
def f_M_change_L55 (K136 : gH → Nat → Int32 → Int32 → gR) : Nat → gH → Nat → Int32 → Int32 → Int32 → Int32 → gR
  | 0, _, _, _, _, _, _ => none
  | n + 1, G, x0, x1, x3, x4, x5 =>
    if (nI 3) ≤ x5 then K136 G x0 x1 x4
    else if x5 = x3 then f_M_change_L55 K136 n G x0 x1 x3 x4 (x5 + (nI 1))
      else gFA G x0 6 3 fun v18 => gLdq G v18 105 x5 (f_M_change_L55 K136 n G x0 x1 x3 x4 (x5 + (nI 1))) fun v19 => gFA G x0 6 3 fun v20 => gLdq G v20 105 x5 (none) fun v21 => gFI G v21 4 0 fun v22 => gOb G x0 6 fun o24 => bI (f_M_rowOf zDp G x0 v22) fun v27 G26 => if v27 = x4 then (gFA G26 x0 6 3 fun v28 => gLdq G26 v28 105 x5 (none) fun v29 => gFI G26 v29 4 0 fun v30 => if v30 < (nI 2) then gFA G26 x0 6 3 fun v31 => gLdq G26 v31 105 x5 (none) fun v32 => gPut G26 v32 4 3 (.int (nI 1)) fun G33 => f_M_change_L55 K136 n G33 x0 x1 x3 x4 (x5 + (nI 1))
                else gOb G26 x0 6 fun o35 => bV (f_M_endCursor G26 x0 x5) fun G37 => f_M_change_L55 K136 n G37 x0 x1 x3 x4 (x5 + (nI 1)))
            else f_M_change_L55 K136 n G26 x0 x1 x3 x4 (x5 + (nI 1))
def f_M_change (G : gH) (a0 : Nat) (a1 : Int32) (a2 : Int32) (a3 : Int32) : gR :=
  if a2 = 0 then rV G
  else f_M_change_L8 (fun G12 x9 x10 x11 => gOb G12 x9 6 fun o14 => bI (f_M_rowOf zDp G12 x9 x10) fun v17 G16 => f_M_change_L55 (fun G45 x42 x43 x44 => gOb G45 x42 6 fun o47 => bI (f_M_endParts G45 x42 x44 x43) fun v50 G49 => rV G49) zFu G16 x9 x10 x11 v17 (nI 0)) zFu G a0 a1 a2 a3 a1
theorem k_M_change_L8 {l : Launch} {D : va_G} {B : Nat} {O : State → Heap → Prop} (hV : zG l D B O) {o : gO} {Gf : gH} (K45 : gH → Nat → Int32 → Int32 → gR) (hK45 : ∀ (G : gH) (x0 : Nat) (x1 : Int32) (x3 : Int32), K45 G x0 x1 x3 = some (o, Gf) → Y (zVm l D B O) m_M_change 13 o Gf 45 [some (.ref x0), some (.int x1), none, some (.int x3), none, none] [] G) : ∀ (n : Nat) (G : gH) (x0 : Nat) (x1 : Int32) (x2 : Int32) (x3 : Int32) (x4 : Int32), f_M_change_L8 K45 n G x0 x1 x2 x3 x4 = some (o, Gf) → Y (zVm l D B O) m_M_change 13 o Gf 8 [some (.ref x0), some (.int x1), some (.int x2), some (.int x3), some (.int x4), none] [] G := by
  have hdd : lSa m_M_change 8 [(.iload 4, 0), (.iconst 2, nI 2)] = true ∧ lIa m_M_change 11 (.if_icmp .lt 34) 3 = true ∧ lSa m_M_change 14 [(.aload_n 0, 0)] = true ∧ lIa m_M_change 15 (.getfield 18) 3 = true ∧ lSa m_M_change 18 [(.iload 4, 0)] = true ∧ lIa m_M_change 20 (.aaload) 1 = true ∧ lSa m_M_change 21 [(.dup, 0)] = true ∧ lIa m_M_change 22 (.getfield 65) 3 = true ∧ lSa m_M_change 25 [(.iload_n 2, 0), (.iadd, 0)] = true ∧ lIa m_M_change 27 (.putfield 65) 3 = true ∧ lSa m_M_change 30 [(.aload_n 0, 0)] = true ∧ lIa m_M_change 31 (.getfield 18) 3 = true ∧ lSa m_M_change 34 [(.iload 4, 0)] = true ∧ lIa m_M_change 36 (.aaload) 1 = true ∧ lIa m_M_change 37 (.getfield 44) 3 = true ∧ lSa m_M_change 40 [(.istore 4, 0)] = true ∧ lIa m_M_change 42 (.goto (-34)) 3 = true := by decide +kernel
  refine lA8 hdd (fun dd0 dd1 dd2 dd3 dd4 dd5 dd6 dd7 hdd => ?_)
  refine lA8 hdd (fun dd8 dd9 dd10 dd11 dd12 dd13 dd14 dd15 hdd => ?_)
  have dd16 := hdd
  intro n
  induction n with
  | zero => intro G x0 x1 x2 x3 x4 h; cases h
  | succ n ih =>
    intro G x0 x1 x2 x3 x4 h
    unfold f_M_change_L8 at h
    refine Y.blk (pc' := 11) (L' := [some (.ref x0), some (.int x1), some (.int x2), some (.int x3), some (.int x4), none]) (st' := [.int (nI 2), .int x4]) (sg := [(.iload 4, 0), (.iconst 2, nI 2)]) (lSa_ok dd0) rfl ?_
    refine Y.ic_lt (off := 34) (tgt := 45) (lIa_ok dd1) (by decide) h (fun c8 h => ?_) (fun c8 h => ?_)
    · refine Y.less (L' := [some (.ref x0), some (.int x1), none, some (.int x3), none, none]) (zLe_some (zLe_some (zLe_none (zLe_some (zLe_none (zLe_some (zLe_nil))))))) ?_
      exact hK45 G x0 x1 x3 h
    · refine Y.blk (pc' := 15) (L' := [some (.ref x0), some (.int x1), some (.int x2), some (.int x3), some (.int x4), none]) (st' := [.ref x0]) (sg := [(.aload_n 0, 0)]) (lSa_ok dd2) rfl ?_
      refine Y.getA fl_M_18 (lIa_ok dd3) h (fun v1 h => ?_)
      refine Y.blk (pc' := 20) (L' := [some (.ref x0), some (.int x1), some (.int x2), some (.int x3), some (.int x4), none]) (st' := [.int x4, .ref v1]) (sg := [(.iload 4, 0)]) (lSa_ok dd4) rfl ?_
      refine Y.aald (t0 := 4) (lIa_ok dd5) rfl h (fun h => ?_) (fun v2 h => ?_)
      · refine Y.blk (pc' := 22) (L' := [some (.ref x0), some (.int x1), some (.int x2), some (.int x3), some (.int x4), none]) (st' := [.null, .null]) (sg := [(.dup, 0)]) (lSa_ok dd6) rfl ?_
        cases h
      · refine Y.blk (pc' := 22) (L' := [some (.ref x0), some (.int x1), some (.int x2), some (.int x3), some (.int x4), none]) (st' := [.ref v2, .ref v2]) (sg := [(.dup, 0)]) (lSa_ok dd6) rfl ?_
        refine Y.getI fl_M_65 (lIa_ok dd7) h (fun v3 h => ?_)
        refine Y.blk (pc' := 27) (L' := [some (.ref x0), some (.int x1), some (.int x2), some (.int x3), some (.int x4), none]) (st' := [.int (v3 + x2), .ref v2]) (sg := [(.iload_n 2, 0), (.iadd, 0)]) (lSa_ok dd8) rfl ?_
        refine Y.putf fl_M_65 (by decide) rfl rfl (lIa_ok dd9) h (fun G4 _ _ h => ?_)
        refine Y.blk (pc' := 31) (L' := [some (.ref x0), some (.int x1), some (.int x2), some (.int x3), some (.int x4), none]) (st' := [.ref x0]) (sg := [(.aload_n 0, 0)]) (lSa_ok dd10) rfl ?_
        refine Y.getA fl_M_18 (lIa_ok dd11) h (fun v5 h => ?_)
        refine Y.blk (pc' := 36) (L' := [some (.ref x0), some (.int x1), some (.int x2), some (.int x3), some (.int x4), none]) (st' := [.int x4, .ref v5]) (sg := [(.iload 4, 0)]) (lSa_ok dd12) rfl ?_
        refine Y.aald (t0 := 4) (lIa_ok dd13) rfl h (fun h => ?_) (fun v6 h => ?_)
        · cases h
        · refine Y.getI fl_M_44 (lIa_ok dd14) h (fun v7 h => ?_)
          refine Y.blk (pc' := 42) (L' := [some (.ref x0), some (.int x1), some (.int x2), some (.int x3), some (.int v7), none]) (st' := []) (sg := [(.istore 4, 0)]) (lSa_ok dd15) rfl ?_
          refine Y.goto (off := -34) (tgt := 8) (lIa_ok dd16) (by decide) ?_
          exact ih G4 x0 x1 x2 x3 v7 h
theorem k_M_change_L55 {l : Launch} {D : va_G} {B : Nat} {O : State → Heap → Prop} (hV : zG l D B O) {o : gO} {Gf : gH} (K136 : gH → Nat → Int32 → Int32 → gR) (hK136 : ∀ (G : gH) (x0 : Nat) (x1 : Int32) (x4 : Int32), K136 G x0 x1 x4 = some (o, Gf) → Y (zVm l D B O) m_M_change 13 o Gf 136 [some (.ref x0), some (.int x1), none, none, some (.int x4), none] [] G) : ∀ (n : Nat) (G : gH) (x0 : Nat) (x1 : Int32) (x3 : Int32) (x4 : Int32) (x5 : Int32), f_M_change_L55 K136 n G x0 x1 x3 x4 x5 = some (o, Gf) → Y (zVm l D B O) m_M_change 13 o Gf 55 [some (.ref x0), some (.int x1), none, some (.int x3), some (.int x4), some (.int x5)] [] G := by
  have hdd : lSa m_M_change 55 [(.iload 5, 0), (.iconst 3, nI 3)] = true ∧ lIa m_M_change 58 (.if_icmp .ge 78) 3 = true ∧ lSa m_M_change 61 [(.iload 5, 0), (.iload_n 3, 0)] = true ∧ lIa m_M_change 64 (.if_icmp .eq 66) 3 = true ∧ lSa m_M_change 130 [(.iinc 5 1, nI 1)] = true ∧ lIa m_M_change 133 (.goto (-78)) 3 = true ∧ lSa m_M_change 67 [(.aload_n 0, 0)] = true ∧ lIa m_M_change 68 (.getfield 24) 3 = true ∧ lSa m_M_change 71 [(.iload 5, 0)] = true ∧ lIa m_M_change 73 (.aaload) 1 = true ∧ lIa m_M_change 74 (.ifnull 56) 3 = true ∧ lSa m_M_change 77 [(.aload_n 0, 0), (.aload_n 0, 0)] = true ∧ lIa m_M_change 79 (.getfield 24) 3 = true ∧ lSa m_M_change 82 [(.iload 5, 0)] = true ∧ lIa m_M_change 84 (.aaload) 1 = true ∧ lIa m_M_change 85 (.getfield 89) 3 = true ∧ lIa m_M_change 88 (.invokevirtual 47) 3 = true ∧ lSa m_M_change 91 [(.iload 4, 0)] = true ∧ lIa m_M_change 93 (.if_icmp .ne 37) 3 = true ∧ lSa m_M_change 96 [(.aload_n 0, 0)] = true ∧ lIa m_M_change 97 (.getfield 24) 3 = true ∧ lSa m_M_change 100 [(.iload 5, 0)] = true ∧ lIa m_M_change 102 (.aaload) 1 = true ∧ lIa m_M_change 103 (.getfield 89) 3 = true ∧ lSa m_M_change 106 [(.iconst 2, nI 2)] = true ∧ lIa m_M_change 107 (.if_icmp .lt 12) 3 = true ∧ lSa m_M_change 119 [(.aload_n 0, 0)] = true ∧ lIa m_M_change 120 (.getfield 24) 3 = true ∧ lSa m_M_change 123 [(.iload 5, 0)] = true ∧ lIa m_M_change 125 (.aaload) 1 = true ∧ lSa m_M_change 126 [(.iconst 1, nI 1)] = true ∧ lIa m_M_change 127 (.putfield 99) 3 = true ∧ lSa m_M_change 110 [(.aload_n 0, 0), (.iload 5, 0)] = true ∧ lIa m_M_change 113 (.invokevirtual 92) 3 = true ∧ lIa m_M_change 116 (.goto 14) 3 = true := by decide +kernel
  refine lA8 hdd (fun dd0 dd1 dd2 dd3 dd4 dd5 dd6 dd7 hdd => ?_)
  refine lA8 hdd (fun dd8 dd9 dd10 dd11 dd12 dd13 dd14 dd15 hdd => ?_)
  refine lA8 hdd (fun dd16 dd17 dd18 dd19 dd20 dd21 dd22 dd23 hdd => ?_)
  refine lA8 hdd (fun dd24 dd25 dd26 dd27 dd28 dd29 dd30 dd31 hdd => ?_)
  obtain ⟨dd32, dd33, dd34⟩ := hdd
  intro n
  induction n with
  | zero => intro G x0 x1 x3 x4 x5 h; cases h
  | succ n ih =>
    intro G x0 x1 x3 x4 x5 h
    unfold f_M_change_L55 at h
    refine Y.blk (pc' := 58) (L' := [some (.ref x0), some (.int x1), none, some (.int x3), some (.int x4), some (.int x5)]) (st' := [.int (nI 3), .int x5]) (sg := [(.iload 5, 0), (.iconst 3, nI 3)]) (lSa_ok dd0) rfl ?_
    refine Y.ic_ge (off := 78) (tgt := 136) (lIa_ok dd1) (by decide) h (fun c41 h => ?_) (fun c41 h => ?_)
    · refine Y.less (L' := [some (.ref x0), some (.int x1), none, none, some (.int x4), none]) (zLe_some (zLe_some (zLe_some (zLe_none (zLe_some (zLe_none (zLe_nil))))))) ?_
      exact hK136 G x0 x1 x4 h
    · refine Y.blk (pc' := 64) (L' := [some (.ref x0), some (.int x1), none, some (.int x3), some (.int x4), some (.int x5)]) (st' := [.int x3, .int x5]) (sg := [(.iload 5, 0), (.iload_n 3, 0)]) (lSa_ok dd2) rfl ?_
      refine Y.ic_eq (off := 66) (tgt := 130) (lIa_ok dd3) (by decide) h (fun c40 h => ?_) (fun c40 h => ?_)
      · refine Y.blk (pc' := 133) (L' := [some (.ref x0), some (.int x1), none, some (.int x3), some (.int x4), some (.int (x5 + (nI 1)))]) (st' := []) (sg := [(.iinc 5 1, nI 1)]) (lSa_ok dd4) rfl ?_
        refine Y.goto (off := -78) (tgt := 55) (lIa_ok dd5) (by decide) ?_
        exact ih G x0 x1 x3 x4 (x5 + (nI 1)) h
      · refine Y.blk (pc' := 68) (L' := [some (.ref x0), some (.int x1), none, some (.int x3), some (.int x4), some (.int x5)]) (st' := [.ref x0]) (sg := [(.aload_n 0, 0)]) (lSa_ok dd6) rfl ?_
        refine Y.getA fl_M_24 (lIa_ok dd7) h (fun v18 h => ?_)
        refine Y.blk (pc' := 73) (L' := [some (.ref x0), some (.int x1), none, some (.int x3), some (.int x4), some (.int x5)]) (st' := [.int x5, .ref v18]) (sg := [(.iload 5, 0)]) (lSa_ok dd8) rfl ?_
        refine Y.aald (t0 := 5) (lIa_ok dd9) rfl h (fun h => ?_) (fun v19 h => ?_)
        · refine Y.ifnull_n (off := 56) (tgt := 130) (lIa_ok dd10) (by decide) ?_
          refine Y.blk (pc' := 133) (L' := [some (.ref x0), some (.int x1), none, some (.int x3), some (.int x4), some (.int (x5 + (nI 1)))]) (st' := []) (sg := [(.iinc 5 1, nI 1)]) (lSa_ok dd4) rfl ?_
          refine Y.goto (off := -78) (tgt := 55) (lIa_ok dd5) (by decide) ?_
          exact ih G x0 x1 x3 x4 (x5 + (nI 1)) h
        · refine Y.ifnull_r (off := 56) (lIa_ok dd10) ?_
          refine Y.blk (pc' := 79) (L' := [some (.ref x0), some (.int x1), none, some (.int x3), some (.int x4), some (.int x5)]) (st' := [.ref x0, .ref x0]) (sg := [(.aload_n 0, 0), (.aload_n 0, 0)]) (lSa_ok dd11) rfl ?_
          refine Y.getA fl_M_24 (lIa_ok dd12) h (fun v20 h => ?_)
          refine Y.blk (pc' := 84) (L' := [some (.ref x0), some (.int x1), none, some (.int x3), some (.int x4), some (.int x5)]) (st' := [.int x5, .ref v20, .ref x0]) (sg := [(.iload 5, 0)]) (lSa_ok dd13) rfl ?_
          refine Y.aald (t0 := 5) (lIa_ok dd14) rfl h (fun h => ?_) (fun v21 h => ?_)
          · cases h
          · refine Y.getI fl_M_89 (lIa_ok dd15) h (fun v22 h => ?_)
            obtain ⟨_, o24, e23, m25, h⟩ := gOb_inv h
            refine Y.callI (yC.Vi (b := x0) (As := [.int v22]) (st := []) (r := ("PartlisterModel", T_M, 9)) hV.1 cb_M_rowOf lk_M_47 in_M_rowOf rfl se_M_rowOf (lIa_ok dd16) rfl rfl (Nat.le_of_ble_eq_true rfl) (by decide) e23 m25) (k_M_rowOf zDp hV G x0 v22) h (fun v27 G26 _ h => ?_)
            refine Y.blk (pc' := 93) (L' := [some (.ref x0), some (.int x1), none, some (.int x3), some (.int x4), some (.int x5)]) (st' := [.int x4, .int v27]) (sg := [(.iload 4, 0)]) (lSa_ok dd17) rfl ?_
            refine Y.ic_ne (off := 37) (tgt := 130) (lIa_ok dd18) (by decide) h (fun c39 h => ?_) (fun c39 h => ?_)
            · refine Y.blk (pc' := 97) (L' := [some (.ref x0), some (.int x1), none, some (.int x3), some (.int x4), some (.int x5)]) (st' := [.ref x0]) (sg := [(.aload_n 0, 0)]) (lSa_ok dd19) rfl ?_
              refine Y.getA fl_M_24 (lIa_ok dd20) h (fun v28 h => ?_)
              refine Y.blk (pc' := 102) (L' := [some (.ref x0), some (.int x1), none, some (.int x3), some (.int x4), some (.int x5)]) (st' := [.int x5, .ref v28]) (sg := [(.iload 5, 0)]) (lSa_ok dd21) rfl ?_
              refine Y.aald (t0 := 5) (lIa_ok dd22) rfl h (fun h => ?_) (fun v29 h => ?_)
              · cases h
              · refine Y.getI fl_M_89 (lIa_ok dd23) h (fun v30 h => ?_)
                refine Y.blk (pc' := 107) (L' := [some (.ref x0), some (.int x1), none, some (.int x3), some (.int x4), some (.int x5)]) (st' := [.int (nI 2), .int v30]) (sg := [(.iconst 2, nI 2)]) (lSa_ok dd24) rfl ?_
                refine Y.ic_lt (off := 12) (tgt := 119) (lIa_ok dd25) (by decide) h (fun c38 h => ?_) (fun c38 h => ?_)
                · refine Y.blk (pc' := 120) (L' := [some (.ref x0), some (.int x1), none, some (.int x3), some (.int x4), some (.int x5)]) (st' := [.ref x0]) (sg := [(.aload_n 0, 0)]) (lSa_ok dd26) rfl ?_
                  refine Y.getA fl_M_24 (lIa_ok dd27) h (fun v31 h => ?_)
                  refine Y.blk (pc' := 125) (L' := [some (.ref x0), some (.int x1), none, some (.int x3), some (.int x4), some (.int x5)]) (st' := [.int x5, .ref v31]) (sg := [(.iload 5, 0)]) (lSa_ok dd28) rfl ?_
                  refine Y.aald (t0 := 5) (lIa_ok dd29) rfl h (fun h => ?_) (fun v32 h => ?_)
                  · refine Y.blk (pc' := 127) (L' := [some (.ref x0), some (.int x1), none, some (.int x3), some (.int x4), some (.int x5)]) (st' := [.int (nI 1), .null]) (sg := [(.iconst 1, nI 1)]) (lSa_ok dd30) rfl ?_
                    cases h
                  · refine Y.blk (pc' := 127) (L' := [some (.ref x0), some (.int x1), none, some (.int x3), some (.int x4), some (.int x5)]) (st' := [.int (nI 1), .ref v32]) (sg := [(.iconst 1, nI 1)]) (lSa_ok dd30) rfl ?_
                    refine Y.putf fl_M_99 (by decide) rfl rfl (lIa_ok dd31) h (fun G33 _ _ h => ?_)
                    refine Y.blk (pc' := 133) (L' := [some (.ref x0), some (.int x1), none, some (.int x3), some (.int x4), some (.int (x5 + (nI 1)))]) (st' := []) (sg := [(.iinc 5 1, nI 1)]) (lSa_ok dd4) rfl ?_
                    refine Y.goto (off := -78) (tgt := 55) (lIa_ok dd5) (by decide) ?_
                    exact ih G33 x0 x1 x3 x4 (x5 + (nI 1)) h
                · refine Y.blk (pc' := 113) (L' := [some (.ref x0), some (.int x1), none, some (.int x3), some (.int x4), some (.int x5)]) (st' := [.int x5, .ref x0]) (sg := [(.aload_n 0, 0), (.iload 5, 0)]) (lSa_ok dd32) rfl ?_
                  obtain ⟨_, o35, e34, m36, h⟩ := gOb_inv h
                  refine Y.callN (yC.Vi (b := x0) (As := [.int x5]) (st := []) (r := ("PartlisterModel", T_M, 9)) hV.1 cb_M_endCursor lk_M_92 in_M_endCursor rfl se_M_endCursor (lIa_ok dd33) rfl rfl (Nat.le_of_ble_eq_true rfl) (by decide) e34 m36) (k_M_endCursor hV G26 x0 x5) h (fun G37 _ h => ?_)
                  refine Y.goto (off := 14) (tgt := 130) (lIa_ok dd34) (by decide) ?_
                  refine Y.blk (pc' := 133) (L' := [some (.ref x0), some (.int x1), none, some (.int x3), some (.int x4), some (.int (x5 + (nI 1)))]) (st' := []) (sg := [(.iinc 5 1, nI 1)]) (lSa_ok dd4) rfl ?_
                  refine Y.goto (off := -78) (tgt := 55) (lIa_ok dd5) (by decide) ?_
                  exact ih G37 x0 x1 x3 x4 (x5 + (nI 1)) h
            · refine Y.blk (pc' := 133) (L' := [some (.ref x0), some (.int x1), none, some (.int x3), some (.int x4), some (.int (x5 + (nI 1)))]) (st' := []) (sg := [(.iinc 5 1, nI 1)]) (lSa_ok dd4) rfl ?_
              refine Y.goto (off := -78) (tgt := 55) (lIa_ok dd5) (by decide) ?_
              exact ih G26 x0 x1 x3 x4 (x5 + (nI 1)) h
theorem k_M_change {l : Launch} {D : va_G} {B : Nat} {O : State → Heap → Prop} (hV : zG l D B O) (G : gH) (a0 : Nat) (a1 : Int32) (a2 : Int32) (a3 : Int32) : gMet (zVm l D B O) m_M_change 13 [.ref a0, .int a1, .int a2, .int a3] G (f_M_change G a0 a1 a2 a3) := by
  have hdd : lSa m_M_change 0 [(.iload_n 2, 0)] = true ∧ lIa m_M_change 1 (.ifCond .ne 4) 3 = true ∧ lIa m_M_change 4 (.return_) 1 = true ∧ lSa m_M_change 5 [(.iload_n 1, 0), (.istore 4, 0)] = true ∧ lSa m_M_change 45 [(.aload_n 0, 0), (.iload_n 1, 0)] = true ∧ lIa m_M_change 47 (.invokevirtual 47) 3 = true ∧ lSa m_M_change 50 [(.istore 4, 0), (.iconst 0, nI 0), (.istore 5, 0)] = true ∧ lSa m_M_change 136 [(.aload_n 0, 0), (.iload 4, 0), (.iload_n 1, 0)] = true ∧ lIa m_M_change 140 (.invokevirtual 103) 3 = true ∧ lSa m_M_change 143 [(.pop, 0)] = true ∧ lIa m_M_change 144 (.return_) 1 = true := by decide +kernel
  refine lA8 hdd (fun dd0 dd1 dd2 dd3 dd4 dd5 dd6 dd7 hdd => ?_)
  obtain ⟨dd8, dd9, dd10⟩ := hdd
  refine gMet.of (by decide +kernel) (Nat.le_of_ble_eq_true rfl) [some (.ref a0), some (.int a1), some (.int a2), some (.int a3), none, none] (fun ls h => zEn_ok (n := 6) h) ?_
  intro o Gf h
  unfold f_M_change at h
  refine Y.blk (pc' := 1) (L' := [some (.ref a0), some (.int a1), some (.int a2), some (.int a3), none, none]) (st' := [.int a2]) (sg := [(.iload_n 2, 0)]) (lSa_ok dd0) rfl ?_
  refine Y.if_ne (off := 4) (tgt := 5) (lIa_ok dd1) (by decide) h (fun c51 h => ?_) (fun c51 h => ?_)
  · exact Y.vret rfl (lIa_ok dd2) h
  · refine Y.blk (pc' := 8) (L' := [some (.ref a0), some (.int a1), some (.int a2), some (.int a3), some (.int a1), none]) (st' := []) (sg := [(.iload_n 1, 0), (.istore 4, 0)]) (lSa_ok dd3) rfl ?_
    refine k_M_change_L8 hV _ ?_  zFu G a0 a1 a2 a3 a1 h
    · intro G12 x9 x10 x11 h
      refine Y.blk (pc' := 47) (L' := [some (.ref x9), some (.int x10), none, some (.int x11), none, none]) (st' := [.int x10, .ref x9]) (sg := [(.aload_n 0, 0), (.iload_n 1, 0)]) (lSa_ok dd4) rfl ?_
      obtain ⟨_, o14, e13, m15, h⟩ := gOb_inv h
      refine Y.callI (yC.Vi (b := x9) (As := [.int x10]) (st := []) (r := ("PartlisterModel", T_M, 9)) hV.1 cb_M_rowOf lk_M_47 in_M_rowOf rfl se_M_rowOf (lIa_ok dd5) rfl rfl (Nat.le_of_ble_eq_true rfl) (by decide) e13 m15) (k_M_rowOf zDp hV G12 x9 x10) h (fun v17 G16 _ h => ?_)
      refine Y.blk (pc' := 55) (L' := [some (.ref x9), some (.int x10), none, some (.int x11), some (.int v17), some (.int (nI 0))]) (st' := []) (sg := [(.istore 4, 0), (.iconst 0, nI 0), (.istore 5, 0)]) (lSa_ok dd6) rfl ?_
      refine k_M_change_L55 hV _ ?_  zFu G16 x9 x10 x11 v17 (nI 0) h
      · intro G45 x42 x43 x44 h
        refine Y.blk (pc' := 140) (L' := [some (.ref x42), some (.int x43), none, none, some (.int x44), none]) (st' := [.int x43, .int x44, .ref x42]) (sg := [(.aload_n 0, 0), (.iload 4, 0), (.iload_n 1, 0)]) (lSa_ok dd7) rfl ?_
        obtain ⟨_, o47, e46, m48, h⟩ := gOb_inv h
        refine Y.callI (yC.Vi (b := x42) (As := [.int x44, .int x43]) (st := []) (r := ("PartlisterModel", T_M, 9)) hV.1 cb_M_endParts lk_M_103 in_M_endParts rfl se_M_endParts (lIa_ok dd8) rfl rfl (Nat.le_of_ble_eq_true rfl) (by decide) e46 m48) (k_M_endParts hV G45 x42 x44 x43) h (fun v50 G49 _ h => ?_)
        refine Y.blk (pc' := 144) (L' := [some (.ref x42), some (.int x43), none, none, some (.int x44), none]) (st' := []) (sg := [(.pop, 0)]) (lSa_ok dd9) rfl ?_
        exact Y.vret rfl (lIa_ok dd10) h

def f_M_base_B (rec : gH → Nat → Int32 → gR) (G : gH) (a0 : Nat) (a1 : Int32) : gR :=
  if (nI 2) ≤ a1 then gFA G a0 6 2 fun v1 => gLdq G v1 104 a1 (none) fun v2 => gFI G v2 5 1 fun v3 => gFA G a0 6 2 fun v4 => gLdq G v4 104 a1 (none) fun v5 => gFI G v5 5 0 fun v6 => gOb G a0 6 fun o8 => bI (rec G a0 v6) fun v11 G10 => rI (v3 + v11) G10
  else rI (nI 0) G
def f_M_base : Nat → gH → Nat → Int32 → gR
  | 0, _, _, _ => none
  | d + 1, G, a0, a1 => f_M_base_B (f_M_base d) G a0 a1
theorem k_M_base_B (d : Nat) {l : Launch} {D : va_G} {B : Nat} {O : State → Heap → Prop} (hV : zG l D B O) (rec : gH → Nat → Int32 → gR) (hrec : ∀ (G : gH) (a0 : Nat) (a1 : Int32), gMet (zVm l D B O) m_M_base (2 + d) [.ref a0, .int a1] G (rec G a0 a1)) (G : gH) (a0 : Nat) (a1 : Int32) : gMet (zVm l D B O) m_M_base (2 + (d + 1)) [.ref a0, .int a1] G (f_M_base_B rec G a0 a1) := by
  have hdd : lSa m_M_base 0 [(.iload_n 1, 0), (.iconst 2, nI 2)] = true ∧ lIa m_M_base 2 (.if_icmp .ge 7) 3 = true ∧ lSa m_M_base 9 [(.aload_n 0, 0)] = true ∧ lIa m_M_base 10 (.getfield 18) 3 = true ∧ lSa m_M_base 13 [(.iload_n 1, 0)] = true ∧ lIa m_M_base 14 (.aaload) 1 = true ∧ lIa m_M_base 15 (.getfield 51) 3 = true ∧ lSa m_M_base 18 [(.aload_n 0, 0), (.aload_n 0, 0)] = true ∧ lIa m_M_base 20 (.getfield 18) 3 = true ∧ lSa m_M_base 23 [(.iload_n 1, 0)] = true ∧ lIa m_M_base 24 (.aaload) 1 = true ∧ lIa m_M_base 25 (.getfield 44) 3 = true ∧ lIa m_M_base 28 (.invokevirtual 54) 3 = true ∧ lSa m_M_base 31 [(.iadd, 0)] = true ∧ lIa m_M_base 32 (.ireturn) 1 = true ∧ lSa m_M_base 5 [(.iconst 0, nI 0)] = true ∧ lIa m_M_base 6 (.goto 26) 3 = true := by decide +kernel
  refine lA8 hdd (fun dd0 dd1 dd2 dd3 dd4 dd5 dd6 dd7 hdd => ?_)
  refine lA8 hdd (fun dd8 dd9 dd10 dd11 dd12 dd13 dd14 dd15 hdd => ?_)
  have dd16 := hdd
  refine gMet.of (by decide +kernel) (Nat.le_of_ble_eq_true rfl) [some (.ref a0), some (.int a1)] (fun ls h => zEn_ok (n := 2) h) ?_
  intro o Gf h
  unfold f_M_base_B at h
  refine Y.blk (pc' := 2) (L' := [some (.ref a0), some (.int a1)]) (st' := [.int (nI 2), .int a1]) (sg := [(.iload_n 1, 0), (.iconst 2, nI 2)]) (lSa_ok dd0) rfl ?_
  refine Y.ic_ge (off := 7) (tgt := 9) (lIa_ok dd1) (by decide) h (fun c12 h => ?_) (fun c12 h => ?_)
  · refine Y.blk (pc' := 10) (L' := [some (.ref a0), some (.int a1)]) (st' := [.ref a0]) (sg := [(.aload_n 0, 0)]) (lSa_ok dd2) rfl ?_
    refine Y.getA fl_M_18 (lIa_ok dd3) h (fun v1 h => ?_)
    refine Y.blk (pc' := 14) (L' := [some (.ref a0), some (.int a1)]) (st' := [.int a1, .ref v1]) (sg := [(.iload_n 1, 0)]) (lSa_ok dd4) rfl ?_
    refine Y.aald (t0 := 4) (lIa_ok dd5) rfl h (fun h => ?_) (fun v2 h => ?_)
    · cases h
    · refine Y.getI fl_M_51 (lIa_ok dd6) h (fun v3 h => ?_)
      refine Y.blk (pc' := 20) (L' := [some (.ref a0), some (.int a1)]) (st' := [.ref a0, .ref a0, .int v3]) (sg := [(.aload_n 0, 0), (.aload_n 0, 0)]) (lSa_ok dd7) rfl ?_
      refine Y.getA fl_M_18 (lIa_ok dd8) h (fun v4 h => ?_)
      refine Y.blk (pc' := 24) (L' := [some (.ref a0), some (.int a1)]) (st' := [.int a1, .ref v4, .ref a0, .int v3]) (sg := [(.iload_n 1, 0)]) (lSa_ok dd9) rfl ?_
      refine Y.aald (t0 := 4) (lIa_ok dd10) rfl h (fun h => ?_) (fun v5 h => ?_)
      · cases h
      · refine Y.getI fl_M_44 (lIa_ok dd11) h (fun v6 h => ?_)
        obtain ⟨_, o8, e7, m9, h⟩ := gOb_inv h
        refine Y.callI (yC.Vi (b := a0) (As := [.int v6]) (st := [.int v3]) (r := ("PartlisterModel", T_M, 9)) hV.1 cb_M_base lk_M_54 in_M_base rfl se_M_base (lIa_ok dd12) rfl rfl (Nat.le_of_ble_eq_true rfl) (by omega) e7 m9) (hrec G a0 v6) h (fun v11 G10 _ h => ?_)
        refine Y.blk (pc' := 32) (L' := [some (.ref a0), some (.int a1)]) (st' := [.int (v3 + v11)]) (sg := [(.iadd, 0)]) (lSa_ok dd13) rfl ?_
        exact Y.iret rfl (lIa_ok dd14) h
  · refine Y.blk (pc' := 6) (L' := [some (.ref a0), some (.int a1)]) (st' := [.int (nI 0)]) (sg := [(.iconst 0, nI 0)]) (lSa_ok dd15) rfl ?_
    refine Y.goto (off := 26) (tgt := 32) (lIa_ok dd16) (by decide) ?_
    exact Y.iret rfl (lIa_ok dd14) h
theorem k_M_base (d : Nat) {l : Launch} {D : va_G} {B : Nat} {O : State → Heap → Prop} (hV : zG l D B O)  : ∀ (G : gH) (a0 : Nat) (a1 : Int32), gMet (zVm l D B O) m_M_base (2 + d) [.ref a0, .int a1] G (f_M_base d G a0 a1) := by
  induction d with
  | zero => intro G a0 a1 o Gf h; cases h
  | succ d ih => intro G a0 a1; exact k_M_base_B d hV _ ih G a0 a1

def f_AL_elementData (G : gH) (a0 : Nat) (a1 : Int32) : gR :=
  gFA G a0 9 0 fun v1 => gLdq G v1 103 a1 (none) fun v2 => rA v2 G
theorem k_AL_elementData {l : Launch} {D : va_G} {B : Nat} {O : State → Heap → Prop} (hV : zG l D B O) (G : gH) (a0 : Nat) (a1 : Int32) : gMet (zVm l D B O) m_AL_elementData 2 [.ref a0, .int a1] G (f_AL_elementData G a0 a1) := by
  have hdd : lSa m_AL_elementData 0 [(.aload_n 0, 0)] = true ∧ lIa m_AL_elementData 1 (.getfield 9) 3 = true ∧ lSa m_AL_elementData 4 [(.iload_n 1, 0)] = true ∧ lIa m_AL_elementData 5 (.aaload) 1 = true ∧ lIa m_AL_elementData 6 (.areturn) 1 = true := by decide +kernel
  obtain ⟨dd0, dd1, dd2, dd3, dd4⟩ := hdd
  refine gMet.of (by decide +kernel) (Nat.le_of_ble_eq_true rfl) [some (.ref a0), some (.int a1)] (fun ls h => zEn_ok (n := 2) h) ?_
  intro o Gf h
  unfold f_AL_elementData at h
  refine Y.blk (pc' := 1) (L' := [some (.ref a0), some (.int a1)]) (st' := [.ref a0]) (sg := [(.aload_n 0, 0)]) (lSa_ok dd0) rfl ?_
  refine Y.getA fl_AL_9 (lIa_ok dd1) h (fun v1 h => ?_)
  refine Y.blk (pc' := 5) (L' := [some (.ref a0), some (.int a1)]) (st' := [.int a1, .ref v1]) (sg := [(.iload_n 1, 0)]) (lSa_ok dd2) rfl ?_
  refine Y.aald (t0 := 3) (lIa_ok dd3) rfl h (fun h => ?_) (fun v2 h => ?_)
  · cases h
  · exact Y.aret rfl (by first | exact Or.inl ⟨_, rfl⟩ | exact Or.inr ⟨_, rfl⟩) (lIa_ok dd4) h

def f_PC_checkIndex (G : gH) (a0 : Int32) (a1 : Int32) : gR :=
  if a0 < 0 then none
  else if a0 < a1 then rI a0 G
    else none
theorem k_PC_checkIndex {l : Launch} {D : va_G} {B : Nat} {O : State → Heap → Prop} (hV : zG l D B O) (G : gH) (a0 : Int32) (a1 : Int32) : gMet (zVm l D B O) m_PC_checkIndex 2 [.int a0, .int a1, .null] G (f_PC_checkIndex G a0 a1) := by
  have hdd : lSa m_PC_checkIndex 0 [(.iload_n 0, 0)] = true ∧ lIa m_PC_checkIndex 1 (.ifCond .lt 8) 3 = true ∧ lSa m_PC_checkIndex 9 [(.aload_n 2, 0), (.iload_n 0, 0), (.iload_n 1, 0)] = true ∧ lSa m_PC_checkIndex 4 [(.iload_n 0, 0), (.iload_n 1, 0)] = true ∧ lIa m_PC_checkIndex 6 (.if_icmp .lt 10) 3 = true ∧ lSa m_PC_checkIndex 16 [(.iload_n 0, 0)] = true ∧ lIa m_PC_checkIndex 17 (.ireturn) 1 = true := by decide +kernel
  obtain ⟨dd0, dd1, dd2, dd3, dd4, dd5, dd6⟩ := hdd
  refine gMet.of (by decide +kernel) (Nat.le_of_ble_eq_true rfl) [some (.int a0), some (.int a1), some (.null)] (fun ls h => zEn_ok (n := 3) h) ?_
  intro o Gf h
  unfold f_PC_checkIndex at h
  refine Y.blk (pc' := 1) (L' := [some (.int a0), some (.int a1), some (.null)]) (st' := [.int a0]) (sg := [(.iload_n 0, 0)]) (lSa_ok dd0) rfl ?_
  refine Y.if_lt (off := 8) (tgt := 9) (lIa_ok dd1) (by decide) h (fun c2 h => ?_) (fun c2 h => ?_)
  · refine Y.blk (pc' := 12) (L' := [some (.int a0), some (.int a1), some (.null)]) (st' := [.int a1, .int a0, .null]) (sg := [(.aload_n 2, 0), (.iload_n 0, 0), (.iload_n 1, 0)]) (lSa_ok dd2) rfl ?_
    cases h
  · refine Y.blk (pc' := 6) (L' := [some (.int a0), some (.int a1), some (.null)]) (st' := [.int a1, .int a0]) (sg := [(.iload_n 0, 0), (.iload_n 1, 0)]) (lSa_ok dd3) rfl ?_
    refine Y.ic_lt (off := 10) (tgt := 16) (lIa_ok dd4) (by decide) h (fun c1 h => ?_) (fun c1 h => ?_)
    · refine Y.blk (pc' := 17) (L' := [some (.int a0), some (.int a1), some (.null)]) (st' := [.int a0]) (sg := [(.iload_n 0, 0)]) (lSa_ok dd5) rfl ?_
      exact Y.iret rfl (lIa_ok dd6) h
    · refine Y.blk (pc' := 12) (L' := [some (.int a0), some (.int a1), some (.null)]) (st' := [.int a1, .int a0, .null]) (sg := [(.aload_n 2, 0), (.iload_n 0, 0), (.iload_n 1, 0)]) (lSa_ok dd2) rfl ?_
      cases h

def f_OB_checkIndex (G : gH) (a0 : Int32) (a1 : Int32) : gR :=
  bI (f_PC_checkIndex G a0 a1) fun v3 G2 => rI v3 G2
theorem k_OB_checkIndex {l : Launch} {D : va_G} {B : Nat} {O : State → Heap → Prop} (hV : zG l D B O) (G : gH) (a0 : Int32) (a1 : Int32) : gMet (zVm l D B O) m_OB_checkIndex 3 [.int a0, .int a1] G (f_OB_checkIndex G a0 a1) := by
  have hdd : lSa m_OB_checkIndex 0 [(.iload_n 0, 0), (.iload_n 1, 0), (.aconst_null, 0)] = true ∧ lIa m_OB_checkIndex 3 (.invokestatic 105) 3 = true ∧ lIa m_OB_checkIndex 6 (.ireturn) 1 = true := by decide +kernel
  obtain ⟨dd0, dd1, dd2⟩ := hdd
  refine gMet.of (by decide +kernel) (Nat.le_of_ble_eq_true rfl) [some (.int a0), some (.int a1)] (fun ls h => zEn_ok (n := 2) h) ?_
  intro o Gf h
  unfold f_OB_checkIndex at h
  refine Y.blk (pc' := 3) (L' := [some (.int a0), some (.int a1)]) (st' := [.null, .int a1, .int a0]) (sg := [(.iload_n 0, 0), (.iload_n 1, 0), (.aconst_null, 0)]) (lSa_ok dd0) rfl ?_
  refine Y.callI (yC.S (As := [.int a0, .int a1, .null]) (st := []) hV.1 cb_PC_checkIndex lk_OB_105 st_PC_checkIndex (lIa_ok dd1) rfl rfl (Nat.le_of_ble_eq_true rfl) (by decide)) (k_PC_checkIndex hV G a0 a1) h (fun v3 G2 _ h => ?_)
  exact Y.iret rfl (lIa_ok dd2) h

def f_AL_get (G : gH) (a0 : Nat) (a1 : Int32) : gR :=
  gFI G a0 9 1 fun v1 => bI (f_OB_checkIndex G a1 v1) fun v4 G3 => gOb G3 a0 9 fun o6 => bA (f_AL_elementData G3 a0 a1) fun v9 G8 => rA v9 G8
theorem k_AL_get {l : Launch} {D : va_G} {B : Nat} {O : State → Heap → Prop} (hV : zG l D B O) (G : gH) (a0 : Nat) (a1 : Int32) : gMet (zVm l D B O) m_AL_get 4 [.ref a0, .int a1] G (f_AL_get G a0 a1) := by
  have hdd : lSa m_AL_get 0 [(.iload_n 1, 0), (.aload_n 0, 0)] = true ∧ lIa m_AL_get 2 (.getfield 48) 3 = true ∧ lIa m_AL_get 5 (.invokestatic 118) 3 = true ∧ lSa m_AL_get 8 [(.pop, 0), (.aload_n 0, 0), (.iload_n 1, 0)] = true ∧ lIa m_AL_get 11 (.invokevirtual 123) 3 = true ∧ lIa m_AL_get 14 (.areturn) 1 = true := by decide +kernel
  obtain ⟨dd0, dd1, dd2, dd3, dd4, dd5⟩ := hdd
  refine gMet.of (by decide +kernel) (Nat.le_of_ble_eq_true rfl) [some (.ref a0), some (.int a1)] (fun ls h => zEn_ok (n := 2) h) ?_
  intro o Gf h
  unfold f_AL_get at h
  refine Y.blk (pc' := 2) (L' := [some (.ref a0), some (.int a1)]) (st' := [.ref a0, .int a1]) (sg := [(.iload_n 1, 0), (.aload_n 0, 0)]) (lSa_ok dd0) rfl ?_
  refine Y.getI fl_AL_48 (lIa_ok dd1) h (fun v1 h => ?_)
  refine Y.callI (yC.S (As := [.int a1, .int v1]) (st := []) hV.1 cb_OB_checkIndex lk_AL_118 st_OB_checkIndex (lIa_ok dd2) rfl rfl (Nat.le_of_ble_eq_true rfl) (by decide)) (k_OB_checkIndex hV G a1 v1) h (fun v4 G3 _ h => ?_)
  refine Y.blk (pc' := 11) (L' := [some (.ref a0), some (.int a1)]) (st' := [.int a1, .ref a0]) (sg := [(.pop, 0), (.aload_n 0, 0), (.iload_n 1, 0)]) (lSa_ok dd3) rfl ?_
  obtain ⟨_, o6, e5, m7, h⟩ := gOb_inv h
  refine Y.callA (yC.Vi (b := a0) (As := [.int a1]) (st := []) (r := ("java/util/ArrayList", T_AL, 3)) hV.1 cb_AL_elementData lk_AL_123 in_AL_elementData rfl se_AL_elementData (lIa_ok dd4) rfl rfl (Nat.le_of_ble_eq_true rfl) (by decide) e5 m7) (k_AL_elementData hV G3 a0 a1) h (fun v9 G8 _ h => ?_)
  exact Y.aret rfl (by first | exact Or.inl ⟨_, rfl⟩ | exact Or.inr ⟨_, rfl⟩) (lIa_ok dd5) h

def f_M_row (G : gH) (a0 : Nat) (a1 : Int32) : gR :=
  gFA G a0 6 1 fun v1 => gOb G a0 6 fun o3 => bI (f_M_rowOf zDp G a0 a1) fun v6 G5 => gOb G5 v1 9 fun o8 => bA (f_AL_get G5 v1 v6) fun v11 G10 => gCaO G10 v11 9 (rA v11 G10)
theorem k_M_row {l : Launch} {D : va_G} {B : Nat} {O : State → Heap → Prop} (hV : zG l D B O) (G : gH) (a0 : Nat) (a1 : Int32) : gMet (zVm l D B O) m_M_row 11 [.ref a0, .int a1] G (f_M_row G a0 a1) := by
  have hdd : lSa m_M_row 0 [(.aload_n 0, 0)] = true ∧ lIa m_M_row 1 (.getfield 10) 3 = true ∧ lSa m_M_row 4 [(.aload_n 0, 0), (.iload_n 1, 0)] = true ∧ lIa m_M_row 6 (.invokevirtual 47) 3 = true ∧ lIa m_M_row 9 (.invokevirtual 57) 3 = true ∧ lIa m_M_row 12 (.checkcast 7) 3 = true ∧ lIa m_M_row 15 (.areturn) 1 = true := by decide +kernel
  obtain ⟨dd0, dd1, dd2, dd3, dd4, dd5, dd6⟩ := hdd
  refine gMet.of (by decide +kernel) (Nat.le_of_ble_eq_true rfl) [some (.ref a0), some (.int a1)] (fun ls h => zEn_ok (n := 2) h) ?_
  intro o Gf h
  unfold f_M_row at h
  refine Y.blk (pc' := 1) (L' := [some (.ref a0), some (.int a1)]) (st' := [.ref a0]) (sg := [(.aload_n 0, 0)]) (lSa_ok dd0) rfl ?_
  refine Y.getA fl_M_10 (lIa_ok dd1) h (fun v1 h => ?_)
  refine Y.blk (pc' := 6) (L' := [some (.ref a0), some (.int a1)]) (st' := [.int a1, .ref a0, .ref v1]) (sg := [(.aload_n 0, 0), (.iload_n 1, 0)]) (lSa_ok dd2) rfl ?_
  obtain ⟨_, o3, e2, m4, h⟩ := gOb_inv h
  refine Y.callI (yC.Vi (b := a0) (As := [.int a1]) (st := [.ref v1]) (r := ("PartlisterModel", T_M, 9)) hV.1 cb_M_rowOf lk_M_47 in_M_rowOf rfl se_M_rowOf (lIa_ok dd3) rfl rfl (Nat.le_of_ble_eq_true rfl) (by decide) e2 m4) (k_M_rowOf zDp hV G a0 a1) h (fun v6 G5 _ h => ?_)
  obtain ⟨_, o8, e7, m9, h⟩ := gOb_inv h
  refine Y.callA (yC.Vi (b := v1) (As := [.int v6]) (st := []) (r := ("java/util/ArrayList", T_AL, 3)) hV.1 cb_AL_get lk_M_57 in_AL_get rfl se_AL_get (lIa_ok dd4) rfl rfl (Nat.le_of_ble_eq_true rfl) (by decide) e7 m9) (k_AL_get hV G5 v1 v6) h (fun v11 G10 _ h => ?_)
  refine Y.castO (r := ("java/util/ArrayList", T_AL, 3)) (lIa_ok dd5) rfl ck_M_7 h (fun h => ?_)
  exact Y.aret rfl (by first | exact Or.inl ⟨_, rfl⟩ | exact Or.inr ⟨_, rfl⟩) (lIa_ok dd6) h

def f_AL_rangeCheckForAdd (G : gH) (a0 : Nat) (a1 : Int32) : gR :=
  gFI G a0 9 1 fun v1 => if v1 < a1 then none
  else if 0 ≤ a1 then rV G
    else none
theorem k_AL_rangeCheckForAdd {l : Launch} {D : va_G} {B : Nat} {O : State → Heap → Prop} (hV : zG l D B O) (G : gH) (a0 : Nat) (a1 : Int32) : gMet (zVm l D B O) m_AL_rangeCheckForAdd 2 [.ref a0, .int a1] G (f_AL_rangeCheckForAdd G a0 a1) := by
  have hdd : lSa m_AL_rangeCheckForAdd 0 [(.iload_n 1, 0), (.aload_n 0, 0)] = true ∧ lIa m_AL_rangeCheckForAdd 2 (.getfield 48) 3 = true ∧ lIa m_AL_rangeCheckForAdd 5 (.if_icmp .gt 7) 3 = true ∧ lSa m_AL_rangeCheckForAdd 8 [(.iload_n 1, 0)] = true ∧ lIa m_AL_rangeCheckForAdd 9 (.ifCond .ge 16) 3 = true ∧ lIa m_AL_rangeCheckForAdd 25 (.return_) 1 = true := by decide +kernel
  obtain ⟨dd0, dd1, dd2, dd3, dd4, dd5⟩ := hdd
  refine gMet.of (by decide +kernel) (Nat.le_of_ble_eq_true rfl) [some (.ref a0), some (.int a1)] (fun ls h => zEn_ok (n := 2) h) ?_
  intro o Gf h
  unfold f_AL_rangeCheckForAdd at h
  refine Y.blk (pc' := 2) (L' := [some (.ref a0), some (.int a1)]) (st' := [.ref a0, .int a1]) (sg := [(.iload_n 1, 0), (.aload_n 0, 0)]) (lSa_ok dd0) rfl ?_
  refine Y.getI fl_AL_48 (lIa_ok dd1) h (fun v1 h => ?_)
  refine Y.ic_gt (off := 7) (tgt := 12) (lIa_ok dd2) (by decide) h (fun c3 h => ?_) (fun c3 h => ?_)
  · cases h
  · refine Y.blk (pc' := 9) (L' := [some (.ref a0), some (.int a1)]) (st' := [.int a1]) (sg := [(.iload_n 1, 0)]) (lSa_ok dd3) rfl ?_
    refine Y.if_ge (off := 16) (tgt := 25) (lIa_ok dd4) (by decide) h (fun c2 h => ?_) (fun c2 h => ?_)
    · exact Y.vret rfl (lIa_ok dd5) h
    · cases h

def f_AL_add1 (w : Nat → Nat) (G : gH) (a0 : Nat) (a1 : Int32) (a2 : Nat) : gR :=
  gOb G a0 9 fun o2 => bV (f_AL_rangeCheckForAdd G a0 a1) fun G4 => gFI G4 a0 9 2 fun v5 => gPut G4 a0 9 2 (.int (v5 + (nI 1))) fun G6 => gFI G6 a0 9 1 fun v7 => gFA G6 a0 9 0 fun v8 => gLenq G6 v8 103 fun v9 => if v7 = v9 then gOb G6 a0 9 fun o11 => bA (f_AL_grow1 w G6 a0) fun v14 G13 => gCpQ G13 v14 a1 v14 (a1 + (nI 1)) (v7 - a1) fun G15 => gStX G15 v14 103 a1 a2 fun G16 => gPut G16 a0 9 1 (.int (v7 + (nI 1))) fun G17 => rV G17
  else gCpQ G6 v8 a1 v8 (a1 + (nI 1)) (v7 - a1) fun G18 => gStX G18 v8 103 a1 a2 fun G19 => gPut G19 a0 9 1 (.int (v7 + (nI 1))) fun G20 => rV G20
theorem k_AL_add1 {l : Launch} {D : va_G} {B : Nat} {O : State → Heap → Prop} {w : Nat → Nat} (hV : zGw l D B O w) (G : gH) (a0 : Nat) (a1 : Int32) (a2 : Nat) : gMet (zVm l D B O) m_AL_add1 6 [.ref a0, .int a1, .ref a2] G (f_AL_add1 w G a0 a1 a2) := by
  have hdd : lSa m_AL_add1 0 [(.aload_n 0, 0), (.iload_n 1, 0)] = true ∧ lIa m_AL_add1 2 (.invokevirtual 135) 3 = true ∧ lSa m_AL_add1 5 [(.aload_n 0, 0), (.dup, 0)] = true ∧ lIa m_AL_add1 7 (.getfield 63) 3 = true ∧ lSa m_AL_add1 10 [(.iconst 1, nI 1), (.iadd, 0)] = true ∧ lIa m_AL_add1 12 (.putfield 63) 3 = true ∧ lSa m_AL_add1 15 [(.aload_n 0, 0)] = true ∧ lIa m_AL_add1 16 (.getfield 48) 3 = true ∧ lSa m_AL_add1 19 [(.dup, 0), (.istore_n 3, 0), (.aload_n 0, 0)] = true ∧ lIa m_AL_add1 22 (.getfield 9) 3 = true ∧ lSa m_AL_add1 25 [(.dup, 0), (.astore 4, 0)] = true ∧ lIa m_AL_add1 28 (.arraylength) 1 = true ∧ lIa m_AL_add1 29 (.if_icmp .ne 9) 3 = true ∧ lSa m_AL_add1 32 [(.aload_n 0, 0)] = true ∧ lIa m_AL_add1 33 (.invokevirtual 129) 3 = true ∧ lSa m_AL_add1 36 [(.astore 4, 0), (.aload 4, 0), (.iload_n 1, 0), (.aload 4, 0), (.iload_n 1, 0), (.iconst 1, nI 1), (.iadd, 0), (.iload_n 3, 0), (.iload_n 1, 0), (.isub, 0)] = true ∧ lIa m_AL_add1 49 (.invokestatic 112) 3 = true ∧ lSa m_AL_add1 52 [(.aload 4, 0), (.iload_n 1, 0), (.aload_n 2, 0)] = true ∧ lIa m_AL_add1 56 (.aastore) 1 = true ∧ lSa m_AL_add1 57 [(.aload_n 0, 0), (.iload_n 3, 0), (.iconst 1, nI 1), (.iadd, 0)] = true ∧ lIa m_AL_add1 61 (.putfield 48) 3 = true ∧ lIa m_AL_add1 64 (.return_) 1 = true ∧ lSa m_AL_add1 38 [(.aload 4, 0), (.iload_n 1, 0), (.aload 4, 0), (.iload_n 1, 0), (.iconst 1, nI 1), (.iadd, 0), (.iload_n 3, 0), (.iload_n 1, 0), (.isub, 0)] = true := by decide +kernel
  refine lA8 hdd (fun dd0 dd1 dd2 dd3 dd4 dd5 dd6 dd7 hdd => ?_)
  refine lA8 hdd (fun dd8 dd9 dd10 dd11 dd12 dd13 dd14 dd15 hdd => ?_)
  obtain ⟨dd16, dd17, dd18, dd19, dd20, dd21, dd22⟩ := hdd
  refine gMet.of (by decide +kernel) (Nat.le_of_ble_eq_true rfl) [some (.ref a0), some (.int a1), some (.ref a2), none, none] (fun ls h => zEn_ok (n := 5) h) ?_
  intro o Gf h
  unfold f_AL_add1 at h
  refine Y.blk (pc' := 2) (L' := [some (.ref a0), some (.int a1), some (.ref a2), none, none]) (st' := [.int a1, .ref a0]) (sg := [(.aload_n 0, 0), (.iload_n 1, 0)]) (lSa_ok dd0) rfl ?_
  obtain ⟨_, o2, e1, m3, h⟩ := gOb_inv h
  refine Y.callN (yC.Vi (b := a0) (As := [.int a1]) (st := []) (r := ("java/util/ArrayList", T_AL, 3)) hV.1.1 cb_AL_rangeCheckForAdd lk_AL_135 in_AL_rangeCheckForAdd rfl se_AL_rangeCheckForAdd (lIa_ok dd1) rfl rfl (Nat.le_of_ble_eq_true rfl) (by decide) e1 m3) (k_AL_rangeCheckForAdd hV.1 G a0 a1) h (fun G4 _ h => ?_)
  refine Y.blk (pc' := 7) (L' := [some (.ref a0), some (.int a1), some (.ref a2), none, none]) (st' := [.ref a0, .ref a0]) (sg := [(.aload_n 0, 0), (.dup, 0)]) (lSa_ok dd2) rfl ?_
  refine Y.getI fl_AL_63 (lIa_ok dd3) h (fun v5 h => ?_)
  refine Y.blk (pc' := 12) (L' := [some (.ref a0), some (.int a1), some (.ref a2), none, none]) (st' := [.int (v5 + (nI 1)), .ref a0]) (sg := [(.iconst 1, nI 1), (.iadd, 0)]) (lSa_ok dd4) rfl ?_
  refine Y.putf fl_AL_63 (by decide) rfl rfl (lIa_ok dd5) h (fun G6 _ _ h => ?_)
  refine Y.blk (pc' := 16) (L' := [some (.ref a0), some (.int a1), some (.ref a2), none, none]) (st' := [.ref a0]) (sg := [(.aload_n 0, 0)]) (lSa_ok dd6) rfl ?_
  refine Y.getI fl_AL_48 (lIa_ok dd7) h (fun v7 h => ?_)
  refine Y.blk (pc' := 22) (L' := [some (.ref a0), some (.int a1), some (.ref a2), some (.int v7), none]) (st' := [.ref a0, .int v7]) (sg := [(.dup, 0), (.istore_n 3, 0), (.aload_n 0, 0)]) (lSa_ok dd8) rfl ?_
  refine Y.getA fl_AL_9 (lIa_ok dd9) h (fun v8 h => ?_)
  refine Y.blk (pc' := 28) (L' := [some (.ref a0), some (.int a1), some (.ref a2), some (.int v7), some (.ref v8)]) (st' := [.ref v8, .int v7]) (sg := [(.dup, 0), (.astore 4, 0)]) (lSa_ok dd10) rfl ?_
  refine Y.alenq (t0 := 3) (lIa_ok dd11) rfl h (fun v9 h => ?_)
  refine Y.ic_ne (off := 9) (tgt := 38) (lIa_ok dd12) (by decide) h (fun c21 h => ?_) (fun c21 h => ?_)
  · refine Y.blk (pc' := 33) (L' := [some (.ref a0), some (.int a1), some (.ref a2), some (.int v7), some (.ref v8)]) (st' := [.ref a0]) (sg := [(.aload_n 0, 0)]) (lSa_ok dd13) rfl ?_
    obtain ⟨_, o11, e10, m12, h⟩ := gOb_inv h
    refine Y.callA (yC.Vi (b := a0) (As := []) (st := []) (r := ("java/util/ArrayList", T_AL, 3)) hV.1.1 cb_AL_grow1 lk_AL_129 in_AL_grow1 rfl se_AL_grow1 (lIa_ok dd14) rfl rfl (Nat.le_of_ble_eq_true rfl) (by decide) e10 m12) (k_AL_grow1 hV G6 a0) h (fun v14 G13 _ h => ?_)
    refine Y.blk (pc' := 49) (L' := [some (.ref a0), some (.int a1), some (.ref a2), some (.int v7), some (.ref v14)]) (st' := [.int (v7 - a1), .int (a1 + (nI 1)), .ref v14, .int a1, .ref v14]) (sg := [(.astore 4, 0), (.aload 4, 0), (.iload_n 1, 0), (.aload 4, 0), (.iload_n 1, 0), (.iconst 1, nI 1), (.iadd, 0), (.iload_n 3, 0), (.iload_n 1, 0), (.isub, 0)]) (lSa_ok dd15) rfl ?_
    refine Y.copyQ (t0 := 3) lk_AL_112 nat_copy st_copy ini_SY (by decide) rfl (Nat.le_of_ble_eq_true rfl) (lIa_ok dd16) rfl ⟨_, rfl, ca_AL⟩ rfl h (fun G15 _ _ h => ?_)
    refine Y.blk (pc' := 56) (L' := [some (.ref a0), some (.int a1), some (.ref a2), some (.int v7), some (.ref v14)]) (st' := [.ref a2, .int a1, .ref v14]) (sg := [(.aload 4, 0), (.iload_n 1, 0), (.aload_n 2, 0)]) (lSa_ok dd17) rfl ?_
    refine Y.aastX (t0 := 3) (lIa_ok dd18) rfl rfl rfl h (fun G16 _ _ h => ?_)
    refine Y.blk (pc' := 61) (L' := [some (.ref a0), some (.int a1), some (.ref a2), some (.int v7), some (.ref v14)]) (st' := [.int (v7 + (nI 1)), .ref a0]) (sg := [(.aload_n 0, 0), (.iload_n 3, 0), (.iconst 1, nI 1), (.iadd, 0)]) (lSa_ok dd19) rfl ?_
    refine Y.putf fl_AL_48 (by decide) rfl rfl (lIa_ok dd20) h (fun G17 _ _ h => ?_)
    exact Y.vret rfl (lIa_ok dd21) h
  · refine Y.blk (pc' := 49) (L' := [some (.ref a0), some (.int a1), some (.ref a2), some (.int v7), some (.ref v8)]) (st' := [.int (v7 - a1), .int (a1 + (nI 1)), .ref v8, .int a1, .ref v8]) (sg := [(.aload 4, 0), (.iload_n 1, 0), (.aload 4, 0), (.iload_n 1, 0), (.iconst 1, nI 1), (.iadd, 0), (.iload_n 3, 0), (.iload_n 1, 0), (.isub, 0)]) (lSa_ok dd22) rfl ?_
    refine Y.copyQ (t0 := 3) lk_AL_112 nat_copy st_copy ini_SY (by decide) rfl (Nat.le_of_ble_eq_true rfl) (lIa_ok dd16) rfl ⟨_, rfl, ca_AL⟩ rfl h (fun G18 _ _ h => ?_)
    refine Y.blk (pc' := 56) (L' := [some (.ref a0), some (.int a1), some (.ref a2), some (.int v7), some (.ref v8)]) (st' := [.ref a2, .int a1, .ref v8]) (sg := [(.aload 4, 0), (.iload_n 1, 0), (.aload_n 2, 0)]) (lSa_ok dd17) rfl ?_
    refine Y.aastX (t0 := 3) (lIa_ok dd18) rfl rfl rfl h (fun G19 _ _ h => ?_)
    refine Y.blk (pc' := 61) (L' := [some (.ref a0), some (.int a1), some (.ref a2), some (.int v7), some (.ref v8)]) (st' := [.int (v7 + (nI 1)), .ref a0]) (sg := [(.aload_n 0, 0), (.iload_n 3, 0), (.iconst 1, nI 1), (.iadd, 0)]) (lSa_ok dd19) rfl ?_
    refine Y.putf fl_AL_48 (by decide) rfl rfl (lIa_ok dd20) h (fun G20 _ _ h => ?_)
    exact Y.vret rfl (lIa_ok dd21) h

def f_M_come (w : Nat → Nat) (G : gH) (a0 : Nat) (a1 : Int32) (a2 : Int32) (a3 : Nat) : gR :=
  gOb G a0 6 fun o2 => bA (f_M_row G a0 a1) fun v5 G4 => gOb G4 a0 6 fun o7 => bI (f_M_base zDp G4 a0 a1) fun v10 G9 => gOb G9 v5 9 fun o12 => bV (f_AL_add1 w G9 v5 (v10 + a2) a3) fun G14 => rV G14
theorem k_M_come {l : Launch} {D : va_G} {B : Nat} {O : State → Heap → Prop} {w : Nat → Nat} (hV : zGw l D B O w) (G : gH) (a0 : Nat) (a1 : Int32) (a2 : Int32) (a3 : Nat) : gMet (zVm l D B O) m_M_come 12 [.ref a0, .int a1, .int a2, .ref a3] G (f_M_come w G a0 a1 a2 a3) := by
  have hdd : lSa m_M_come 0 [(.aload_n 0, 0), (.iload_n 1, 0)] = true ∧ lIa m_M_come 2 (.invokevirtual 68) 3 = true ∧ lSa m_M_come 5 [(.aload_n 0, 0), (.iload_n 1, 0)] = true ∧ lIa m_M_come 7 (.invokevirtual 54) 3 = true ∧ lSa m_M_come 10 [(.iload_n 2, 0), (.iadd, 0), (.aload_n 3, 0)] = true ∧ lIa m_M_come 13 (.invokevirtual 107) 3 = true ∧ lIa m_M_come 16 (.return_) 1 = true := by decide +kernel
  obtain ⟨dd0, dd1, dd2, dd3, dd4, dd5, dd6⟩ := hdd
  refine gMet.of (by decide +kernel) (Nat.le_of_ble_eq_true rfl) [some (.ref a0), some (.int a1), some (.int a2), some (.ref a3)] (fun ls h => zEn_ok (n := 4) h) ?_
  intro o Gf h
  unfold f_M_come at h
  refine Y.blk (pc' := 2) (L' := [some (.ref a0), some (.int a1), some (.int a2), some (.ref a3)]) (st' := [.int a1, .ref a0]) (sg := [(.aload_n 0, 0), (.iload_n 1, 0)]) (lSa_ok dd0) rfl ?_
  obtain ⟨_, o2, e1, m3, h⟩ := gOb_inv h
  refine Y.callA (yC.Vi (b := a0) (As := [.int a1]) (st := []) (r := ("PartlisterModel", T_M, 9)) hV.1.1 cb_M_row lk_M_68 in_M_row rfl se_M_row (lIa_ok dd1) rfl rfl (Nat.le_of_ble_eq_true rfl) (by decide) e1 m3) (k_M_row hV.1 G a0 a1) h (fun v5 G4 _ h => ?_)
  refine Y.blk (pc' := 7) (L' := [some (.ref a0), some (.int a1), some (.int a2), some (.ref a3)]) (st' := [.int a1, .ref a0, .ref v5]) (sg := [(.aload_n 0, 0), (.iload_n 1, 0)]) (lSa_ok dd2) rfl ?_
  obtain ⟨_, o7, e6, m8, h⟩ := gOb_inv h
  refine Y.callI (yC.Vi (b := a0) (As := [.int a1]) (st := [.ref v5]) (r := ("PartlisterModel", T_M, 9)) hV.1.1 cb_M_base lk_M_54 in_M_base rfl se_M_base (lIa_ok dd3) rfl rfl (Nat.le_of_ble_eq_true rfl) (by decide) e6 m8) (k_M_base zDp hV.1 G4 a0 a1) h (fun v10 G9 _ h => ?_)
  refine Y.blk (pc' := 13) (L' := [some (.ref a0), some (.int a1), some (.int a2), some (.ref a3)]) (st' := [.ref a3, .int (v10 + a2), .ref v5]) (sg := [(.iload_n 2, 0), (.iadd, 0), (.aload_n 3, 0)]) (lSa_ok dd4) rfl ?_
  obtain ⟨_, o12, e11, m13, h⟩ := gOb_inv h
  refine Y.callN (yC.Vi (b := v5) (As := [.int (v10 + a2), .ref a3]) (st := []) (r := ("java/util/ArrayList", T_AL, 3)) hV.1.1 cb_AL_add1 lk_M_107 in_AL_add1 rfl se_AL_add1 (lIa_ok dd5) rfl rfl (Nat.le_of_ble_eq_true rfl) (by decide) e11 m13) (k_AL_add1 hV G9 v5 (v10 + a2) a3) h (fun G14 _ h => ?_)
  exact Y.vret rfl (lIa_ok dd6) h

def f_AL_size (G : gH) (a0 : Nat) : gR :=
  gFI G a0 9 1 fun v1 => rI v1 G
theorem k_AL_size {l : Launch} {D : va_G} {B : Nat} {O : State → Heap → Prop} (hV : zG l D B O) (G : gH) (a0 : Nat) : gMet (zVm l D B O) m_AL_size 2 [.ref a0] G (f_AL_size G a0) := by
  have hdd : lSa m_AL_size 0 [(.aload_n 0, 0)] = true ∧ lIa m_AL_size 1 (.getfield 48) 3 = true ∧ lIa m_AL_size 4 (.ireturn) 1 = true := by decide +kernel
  obtain ⟨dd0, dd1, dd2⟩ := hdd
  refine gMet.of (by decide +kernel) (Nat.le_of_ble_eq_true rfl) [some (.ref a0)] (fun ls h => zEn_ok (n := 1) h) ?_
  intro o Gf h
  unfold f_AL_size at h
  refine Y.blk (pc' := 1) (L' := [some (.ref a0)]) (st' := [.ref a0]) (sg := [(.aload_n 0, 0)]) (lSa_ok dd0) rfl ?_
  refine Y.getI fl_AL_48 (lIa_ok dd1) h (fun v1 h => ?_)
  exact Y.iret rfl (lIa_ok dd2) h

def f_M_isFull (G : gH) (a0 : Nat) (a1 : Int32) (a2 : Int32) : gR :=
  gOb G a0 6 fun o2 => bA (f_M_row G a0 a1) fun v5 G4 => gOb G4 v5 9 fun o7 => bI (f_AL_size G4 v5) fun v10 G9 => if (v10 + a2) ≤ (nI 31) then rZ (nI 0) G9
  else rZ (nI 1) G9
theorem k_M_isFull {l : Launch} {D : va_G} {B : Nat} {O : State → Heap → Prop} (hV : zG l D B O) (G : gH) (a0 : Nat) (a1 : Int32) (a2 : Int32) : gMet (zVm l D B O) m_M_isFull 12 [.ref a0, .int a1, .int a2] G (f_M_isFull G a0 a1 a2) := by
  have hdd : lSa m_M_isFull 0 [(.aload_n 0, 0), (.iload_n 1, 0)] = true ∧ lIa m_M_isFull 2 (.invokevirtual 68) 3 = true ∧ lIa m_M_isFull 5 (.invokevirtual 61) 3 = true ∧ lSa m_M_isFull 8 [(.iload_n 2, 0), (.iadd, 0), (.bipush 31, nI 31)] = true ∧ lIa m_M_isFull 12 (.if_icmp .le 7) 3 = true ∧ lSa m_M_isFull 19 [(.iconst 0, nI 0)] = true ∧ lIa m_M_isFull 20 (.ireturn) 1 = true ∧ lSa m_M_isFull 15 [(.iconst 1, nI 1)] = true ∧ lIa m_M_isFull 16 (.goto 4) 3 = true := by decide +kernel
  refine lA8 hdd (fun dd0 dd1 dd2 dd3 dd4 dd5 dd6 dd7 hdd => ?_)
  have dd8 := hdd
  refine gMet.of (by decide +kernel) (Nat.le_of_ble_eq_true rfl) [some (.ref a0), some (.int a1), some (.int a2)] (fun ls h => zEn_ok (n := 3) h) ?_
  intro o Gf h
  unfold f_M_isFull at h
  refine Y.blk (pc' := 2) (L' := [some (.ref a0), some (.int a1), some (.int a2)]) (st' := [.int a1, .ref a0]) (sg := [(.aload_n 0, 0), (.iload_n 1, 0)]) (lSa_ok dd0) rfl ?_
  obtain ⟨_, o2, e1, m3, h⟩ := gOb_inv h
  refine Y.callA (yC.Vi (b := a0) (As := [.int a1]) (st := []) (r := ("PartlisterModel", T_M, 9)) hV.1 cb_M_row lk_M_68 in_M_row rfl se_M_row (lIa_ok dd1) rfl rfl (Nat.le_of_ble_eq_true rfl) (by decide) e1 m3) (k_M_row hV G a0 a1) h (fun v5 G4 _ h => ?_)
  obtain ⟨_, o7, e6, m8, h⟩ := gOb_inv h
  refine Y.callI (yC.Vi (b := v5) (As := []) (st := []) (r := ("java/util/ArrayList", T_AL, 3)) hV.1 cb_AL_size lk_M_61 in_AL_size rfl se_AL_size (lIa_ok dd2) rfl rfl (Nat.le_of_ble_eq_true rfl) (by decide) e6 m8) (k_AL_size hV G4 v5) h (fun v10 G9 _ h => ?_)
  refine Y.blk (pc' := 12) (L' := [some (.ref a0), some (.int a1), some (.int a2)]) (st' := [.int (nI 31), .int (v10 + a2)]) (sg := [(.iload_n 2, 0), (.iadd, 0), (.bipush 31, nI 31)]) (lSa_ok dd3) rfl ?_
  refine Y.ic_le (off := 7) (tgt := 19) (lIa_ok dd4) (by decide) h (fun c11 h => ?_) (fun c11 h => ?_)
  · refine Y.blk (pc' := 20) (L' := [some (.ref a0), some (.int a1), some (.int a2)]) (st' := [.int (nI 0)]) (sg := [(.iconst 0, nI 0)]) (lSa_ok dd5) rfl ?_
    exact Y.zret rfl (lIa_ok dd6) h
  · refine Y.blk (pc' := 16) (L' := [some (.ref a0), some (.int a1), some (.int a2)]) (st' := [.int (nI 1)]) (sg := [(.iconst 1, nI 1)]) (lSa_ok dd7) rfl ?_
    refine Y.goto (off := 4) (tgt := 20) (lIa_ok dd8) (by decide) ?_
    exact Y.zret rfl (lIa_ok dd6) h

def f_M_isIn (G : gH) (a0 : Int32) (a1 : Int32) (a2 : Int32) : gR :=
  if a0 < a1 then rZ (nI 0) G
  else if a2 < a0 then rZ (nI 0) G
    else rZ (nI 1) G
theorem k_M_isIn {l : Launch} {D : va_G} {B : Nat} {O : State → Heap → Prop} (hV : zG l D B O) (G : gH) (a0 : Int32) (a1 : Int32) (a2 : Int32) : gMet (zVm l D B O) m_M_isIn 2 [.int a0, .int a1, .int a2] G (f_M_isIn G a0 a1 a2) := by
  have hdd : lSa m_M_isIn 0 [(.iload_n 0, 0), (.iload_n 1, 0)] = true ∧ lIa m_M_isIn 2 (.if_icmp .lt 12) 3 = true ∧ lSa m_M_isIn 14 [(.iconst 0, nI 0)] = true ∧ lIa m_M_isIn 15 (.ireturn) 1 = true ∧ lSa m_M_isIn 5 [(.iload_n 0, 0), (.iload_n 2, 0)] = true ∧ lIa m_M_isIn 7 (.if_icmp .gt 7) 3 = true ∧ lSa m_M_isIn 10 [(.iconst 1, nI 1)] = true ∧ lIa m_M_isIn 11 (.goto 4) 3 = true := by decide +kernel
  obtain ⟨dd0, dd1, dd2, dd3, dd4, dd5, dd6, dd7⟩ := hdd
  refine gMet.of (by decide +kernel) (Nat.le_of_ble_eq_true rfl) [some (.int a0), some (.int a1), some (.int a2)] (fun ls h => zEn_ok (n := 3) h) ?_
  intro o Gf h
  unfold f_M_isIn at h
  refine Y.blk (pc' := 2) (L' := [some (.int a0), some (.int a1), some (.int a2)]) (st' := [.int a1, .int a0]) (sg := [(.iload_n 0, 0), (.iload_n 1, 0)]) (lSa_ok dd0) rfl ?_
  refine Y.ic_lt (off := 12) (tgt := 14) (lIa_ok dd1) (by decide) h (fun c2 h => ?_) (fun c2 h => ?_)
  · refine Y.blk (pc' := 15) (L' := [some (.int a0), some (.int a1), some (.int a2)]) (st' := [.int (nI 0)]) (sg := [(.iconst 0, nI 0)]) (lSa_ok dd2) rfl ?_
    exact Y.zret rfl (lIa_ok dd3) h
  · refine Y.blk (pc' := 7) (L' := [some (.int a0), some (.int a1), some (.int a2)]) (st' := [.int a2, .int a0]) (sg := [(.iload_n 0, 0), (.iload_n 2, 0)]) (lSa_ok dd4) rfl ?_
    refine Y.ic_gt (off := 7) (tgt := 14) (lIa_ok dd5) (by decide) h (fun c1 h => ?_) (fun c1 h => ?_)
    · refine Y.blk (pc' := 15) (L' := [some (.int a0), some (.int a1), some (.int a2)]) (st' := [.int (nI 0)]) (sg := [(.iconst 0, nI 0)]) (lSa_ok dd2) rfl ?_
      exact Y.zret rfl (lIa_ok dd3) h
    · refine Y.blk (pc' := 11) (L' := [some (.int a0), some (.int a1), some (.int a2)]) (st' := [.int (nI 1)]) (sg := [(.iconst 1, nI 1)]) (lSa_ok dd6) rfl ?_
      refine Y.goto (off := 4) (tgt := 15) (lIa_ok dd7) (by decide) ?_
      exact Y.zret rfl (lIa_ok dd3) h

def f_M_isNoList (G : gH) (a0 : Nat) (a1 : Int32) : gR :=
  bI (f_M_isIn G a1 (nI 0) (nI 5)) fun v3 G2 => if v3 = 0 then rZ (nI 1) G2
  else if a1 < (nI 2) then rZ (nI 0) G2
    else gFA G2 a0 6 2 fun v4 => gLdq G2 v4 104 a1 (rZ (nI 1) G2) fun v5 => rZ (nI 0) G2
theorem k_M_isNoList {l : Launch} {D : va_G} {B : Nat} {O : State → Heap → Prop} (hV : zG l D B O) (G : gH) (a0 : Nat) (a1 : Int32) : gMet (zVm l D B O) m_M_isNoList 3 [.ref a0, .int a1] G (f_M_isNoList G a0 a1) := by
  have hdd : lSa m_M_isNoList 0 [(.iload_n 1, 0), (.iconst 0, nI 0), (.iconst 5, nI 5)] = true ∧ lIa m_M_isNoList 3 (.invokestatic 40) 3 = true ∧ lIa m_M_isNoList 6 (.ifCond .eq 17) 3 = true ∧ lSa m_M_isNoList 23 [(.iconst 1, nI 1)] = true ∧ lIa m_M_isNoList 24 (.goto 4) 3 = true ∧ lIa m_M_isNoList 28 (.ireturn) 1 = true ∧ lSa m_M_isNoList 9 [(.iload_n 1, 0), (.iconst 2, nI 2)] = true ∧ lIa m_M_isNoList 11 (.if_icmp .lt 16) 3 = true ∧ lSa m_M_isNoList 27 [(.iconst 0, nI 0)] = true ∧ lSa m_M_isNoList 14 [(.aload_n 0, 0)] = true ∧ lIa m_M_isNoList 15 (.getfield 18) 3 = true ∧ lSa m_M_isNoList 18 [(.iload_n 1, 0)] = true ∧ lIa m_M_isNoList 19 (.aaload) 1 = true ∧ lIa m_M_isNoList 20 (.ifnonnull 7) 3 = true := by decide +kernel
  refine lA8 hdd (fun dd0 dd1 dd2 dd3 dd4 dd5 dd6 dd7 hdd => ?_)
  obtain ⟨dd8, dd9, dd10, dd11, dd12, dd13⟩ := hdd
  refine gMet.of (by decide +kernel) (Nat.le_of_ble_eq_true rfl) [some (.ref a0), some (.int a1)] (fun ls h => zEn_ok (n := 2) h) ?_
  intro o Gf h
  unfold f_M_isNoList at h
  refine Y.blk (pc' := 3) (L' := [some (.ref a0), some (.int a1)]) (st' := [.int (nI 5), .int (nI 0), .int a1]) (sg := [(.iload_n 1, 0), (.iconst 0, nI 0), (.iconst 5, nI 5)]) (lSa_ok dd0) rfl ?_
  refine Y.callI (yC.S (As := [.int a1, .int (nI 0), .int (nI 5)]) (st := []) hV.1 cb_M_isIn lk_M_40 st_M_isIn (lIa_ok dd1) rfl rfl (Nat.le_of_ble_eq_true rfl) (by decide)) (k_M_isIn hV G a1 (nI 0) (nI 5)) h (fun v3 G2 _ h => ?_)
  refine Y.if_eq (off := 17) (tgt := 23) (lIa_ok dd2) (by decide) h (fun c7 h => ?_) (fun c7 h => ?_)
  · refine Y.blk (pc' := 24) (L' := [some (.ref a0), some (.int a1)]) (st' := [.int (nI 1)]) (sg := [(.iconst 1, nI 1)]) (lSa_ok dd3) rfl ?_
    refine Y.goto (off := 4) (tgt := 28) (lIa_ok dd4) (by decide) ?_
    exact Y.zret rfl (lIa_ok dd5) h
  · refine Y.blk (pc' := 11) (L' := [some (.ref a0), some (.int a1)]) (st' := [.int (nI 2), .int a1]) (sg := [(.iload_n 1, 0), (.iconst 2, nI 2)]) (lSa_ok dd6) rfl ?_
    refine Y.ic_lt (off := 16) (tgt := 27) (lIa_ok dd7) (by decide) h (fun c6 h => ?_) (fun c6 h => ?_)
    · refine Y.blk (pc' := 28) (L' := [some (.ref a0), some (.int a1)]) (st' := [.int (nI 0)]) (sg := [(.iconst 0, nI 0)]) (lSa_ok dd8) rfl ?_
      exact Y.zret rfl (lIa_ok dd5) h
    · refine Y.blk (pc' := 15) (L' := [some (.ref a0), some (.int a1)]) (st' := [.ref a0]) (sg := [(.aload_n 0, 0)]) (lSa_ok dd9) rfl ?_
      refine Y.getA fl_M_18 (lIa_ok dd10) h (fun v4 h => ?_)
      refine Y.blk (pc' := 19) (L' := [some (.ref a0), some (.int a1)]) (st' := [.int a1, .ref v4]) (sg := [(.iload_n 1, 0)]) (lSa_ok dd11) rfl ?_
      refine Y.aald (t0 := 4) (lIa_ok dd12) rfl h (fun h => ?_) (fun v5 h => ?_)
      · refine Y.ifnonnull_n (off := 7) (lIa_ok dd13) ?_
        refine Y.blk (pc' := 24) (L' := [some (.ref a0), some (.int a1)]) (st' := [.int (nI 1)]) (sg := [(.iconst 1, nI 1)]) (lSa_ok dd3) rfl ?_
        refine Y.goto (off := 4) (tgt := 28) (lIa_ok dd4) (by decide) ?_
        exact Y.zret rfl (lIa_ok dd5) h
      · refine Y.ifnonnull_r (off := 7) (tgt := 27) (lIa_ok dd13) (by decide) ?_
        refine Y.blk (pc' := 28) (L' := [some (.ref a0), some (.int a1)]) (st' := [.int (nI 0)]) (sg := [(.iconst 0, nI 0)]) (lSa_ok dd8) rfl ?_
        exact Y.zret rfl (lIa_ok dd5) h

def f_M_length (G : gH) (a0 : Nat) (a1 : Int32) : gR :=
  if (nI 2) ≤ a1 then gFA G a0 6 2 fun v1 => gLdq G v1 104 a1 (none) fun v2 => gFI G v2 5 2 fun v3 => rI v3 G
  else gFA G a0 6 1 fun v4 => gOb G v4 9 fun o6 => bA (f_AL_get G v4 a1) fun v9 G8 => gCaO G8 v9 9 (gOb G8 v9 9 fun o11 => bI (f_AL_size G8 v9) fun v14 G13 => rI v14 G13)
theorem k_M_length {l : Launch} {D : va_G} {B : Nat} {O : State → Heap → Prop} (hV : zG l D B O) (G : gH) (a0 : Nat) (a1 : Int32) : gMet (zVm l D B O) m_M_length 5 [.ref a0, .int a1] G (f_M_length G a0 a1) := by
  have hdd : lSa m_M_length 0 [(.iload_n 1, 0), (.iconst 2, nI 2)] = true ∧ lIa m_M_length 2 (.if_icmp .ge 20) 3 = true ∧ lSa m_M_length 22 [(.aload_n 0, 0)] = true ∧ lIa m_M_length 23 (.getfield 18) 3 = true ∧ lSa m_M_length 26 [(.iload_n 1, 0)] = true ∧ lIa m_M_length 27 (.aaload) 1 = true ∧ lIa m_M_length 28 (.getfield 65) 3 = true ∧ lIa m_M_length 31 (.ireturn) 1 = true ∧ lSa m_M_length 5 [(.aload_n 0, 0)] = true ∧ lIa m_M_length 6 (.getfield 10) 3 = true ∧ lSa m_M_length 9 [(.iload_n 1, 0)] = true ∧ lIa m_M_length 10 (.invokevirtual 57) 3 = true ∧ lIa m_M_length 13 (.checkcast 7) 3 = true ∧ lIa m_M_length 16 (.invokevirtual 61) 3 = true ∧ lIa m_M_length 19 (.goto 12) 3 = true := by decide +kernel
  refine lA8 hdd (fun dd0 dd1 dd2 dd3 dd4 dd5 dd6 dd7 hdd => ?_)
  obtain ⟨dd8, dd9, dd10, dd11, dd12, dd13, dd14⟩ := hdd
  refine gMet.of (by decide +kernel) (Nat.le_of_ble_eq_true rfl) [some (.ref a0), some (.int a1)] (fun ls h => zEn_ok (n := 2) h) ?_
  intro o Gf h
  unfold f_M_length at h
  refine Y.blk (pc' := 2) (L' := [some (.ref a0), some (.int a1)]) (st' := [.int (nI 2), .int a1]) (sg := [(.iload_n 1, 0), (.iconst 2, nI 2)]) (lSa_ok dd0) rfl ?_
  refine Y.ic_ge (off := 20) (tgt := 22) (lIa_ok dd1) (by decide) h (fun c15 h => ?_) (fun c15 h => ?_)
  · refine Y.blk (pc' := 23) (L' := [some (.ref a0), some (.int a1)]) (st' := [.ref a0]) (sg := [(.aload_n 0, 0)]) (lSa_ok dd2) rfl ?_
    refine Y.getA fl_M_18 (lIa_ok dd3) h (fun v1 h => ?_)
    refine Y.blk (pc' := 27) (L' := [some (.ref a0), some (.int a1)]) (st' := [.int a1, .ref v1]) (sg := [(.iload_n 1, 0)]) (lSa_ok dd4) rfl ?_
    refine Y.aald (t0 := 4) (lIa_ok dd5) rfl h (fun h => ?_) (fun v2 h => ?_)
    · cases h
    · refine Y.getI fl_M_65 (lIa_ok dd6) h (fun v3 h => ?_)
      exact Y.iret rfl (lIa_ok dd7) h
  · refine Y.blk (pc' := 6) (L' := [some (.ref a0), some (.int a1)]) (st' := [.ref a0]) (sg := [(.aload_n 0, 0)]) (lSa_ok dd8) rfl ?_
    refine Y.getA fl_M_10 (lIa_ok dd9) h (fun v4 h => ?_)
    refine Y.blk (pc' := 10) (L' := [some (.ref a0), some (.int a1)]) (st' := [.int a1, .ref v4]) (sg := [(.iload_n 1, 0)]) (lSa_ok dd10) rfl ?_
    obtain ⟨_, o6, e5, m7, h⟩ := gOb_inv h
    refine Y.callA (yC.Vi (b := v4) (As := [.int a1]) (st := []) (r := ("java/util/ArrayList", T_AL, 3)) hV.1 cb_AL_get lk_M_57 in_AL_get rfl se_AL_get (lIa_ok dd11) rfl rfl (Nat.le_of_ble_eq_true rfl) (by decide) e5 m7) (k_AL_get hV G v4 a1) h (fun v9 G8 _ h => ?_)
    refine Y.castO (r := ("java/util/ArrayList", T_AL, 3)) (lIa_ok dd12) rfl ck_M_7 h (fun h => ?_)
    obtain ⟨_, o11, e10, m12, h⟩ := gOb_inv h
    refine Y.callI (yC.Vi (b := v9) (As := []) (st := []) (r := ("java/util/ArrayList", T_AL, 3)) hV.1 cb_AL_size lk_M_61 in_AL_size rfl se_AL_size (lIa_ok dd13) rfl rfl (Nat.le_of_ble_eq_true rfl) (by decide) e10 m12) (k_AL_size hV G8 v9) h (fun v14 G13 _ h => ?_)
    refine Y.goto (off := 12) (tgt := 31) (lIa_ok dd14) (by decide) ?_
    exact Y.iret rfl (lIa_ok dd7) h

def f_M_make (G : gH) (a0 : Nat) (a1 : Int32) : gR :=
  gFI G a0 6 4 fun v1 => gPut G a0 6 4 (.int (v1 + (nI 1))) fun G2 => gNewA G2 100 (nI 2) fun q3 G4 => gSt G4 q3 100 (nI 0) a1 fun G5 => gFI G5 a0 6 4 fun v6 => gSt G5 q3 100 (nI 1) (v6 - (nI 1)) fun G7 => rA q3 G7
theorem k_M_make {l : Launch} {D : va_G} {B : Nat} {O : State → Heap → Prop} (hV : zG l D B O) (G : gH) (a0 : Nat) (a1 : Int32) : gMet (zVm l D B O) m_M_make 2 [.ref a0, .int a1] G (f_M_make G a0 a1) := by
  have hdd : lSa m_M_make 0 [(.aload_n 0, 0), (.dup, 0)] = true ∧ lIa m_M_make 2 (.getfield 76) 3 = true ∧ lSa m_M_make 5 [(.iconst 1, nI 1), (.iadd, 0)] = true ∧ lIa m_M_make 7 (.putfield 76) 3 = true ∧ lSa m_M_make 10 [(.iconst 2, nI 2)] = true ∧ lSa m_M_make 13 [(.dup, 0), (.iconst 0, nI 0), (.iload_n 1, 0)] = true ∧ lIa m_M_make 16 (.iastore) 1 = true ∧ lSa m_M_make 17 [(.dup, 0), (.iconst 1, nI 1), (.aload_n 0, 0)] = true ∧ lIa m_M_make 20 (.getfield 76) 3 = true ∧ lSa m_M_make 23 [(.iconst 1, nI 1), (.isub, 0)] = true ∧ lIa m_M_make 25 (.iastore) 1 = true ∧ lIa m_M_make 26 (.areturn) 1 = true := by decide +kernel
  refine lA8 hdd (fun dd0 dd1 dd2 dd3 dd4 dd5 dd6 dd7 hdd => ?_)
  obtain ⟨dd8, dd9, dd10, dd11⟩ := hdd
  refine gMet.of (by decide +kernel) (Nat.le_of_ble_eq_true rfl) [some (.ref a0), some (.int a1)] (fun ls h => zEn_ok (n := 2) h) ?_
  intro o Gf h
  unfold f_M_make at h
  refine Y.blk (pc' := 2) (L' := [some (.ref a0), some (.int a1)]) (st' := [.ref a0, .ref a0]) (sg := [(.aload_n 0, 0), (.dup, 0)]) (lSa_ok dd0) rfl ?_
  refine Y.getI fl_M_76 (lIa_ok dd1) h (fun v1 h => ?_)
  refine Y.blk (pc' := 7) (L' := [some (.ref a0), some (.int a1)]) (st' := [.int (v1 + (nI 1)), .ref a0]) (sg := [(.iconst 1, nI 1), (.iadd, 0)]) (lSa_ok dd2) rfl ?_
  refine Y.putf fl_M_76 (by decide) rfl rfl (lIa_ok dd3) h (fun G2 _ _ h => ?_)
  refine Y.blk (pc' := 11) (L' := [some (.ref a0), some (.int a1)]) (st' := [.int (nI 2)]) (sg := [(.iconst 2, nI 2)]) (lSa_ok dd4) rfl ?_
  refine Y.newa (at_ := .int) (t0 := 0) ac_i rfl (by decide) rfl (by decide) (by decide +kernel) h (fun q3 G4 h => ?_)
  refine Y.blk (pc' := 16) (L' := [some (.ref a0), some (.int a1)]) (st' := [.int a1, .int (nI 0), .ref q3, .ref q3]) (sg := [(.dup, 0), (.iconst 0, nI 0), (.iload_n 1, 0)]) (lSa_ok dd5) rfl ?_
  refine Y.iast (t0 := 0) (lIa_ok dd6) rfl (by decide) h (fun G5 _ _ h => ?_)
  refine Y.blk (pc' := 20) (L' := [some (.ref a0), some (.int a1)]) (st' := [.ref a0, .int (nI 1), .ref q3, .ref q3]) (sg := [(.dup, 0), (.iconst 1, nI 1), (.aload_n 0, 0)]) (lSa_ok dd7) rfl ?_
  refine Y.getI fl_M_76 (lIa_ok dd8) h (fun v6 h => ?_)
  refine Y.blk (pc' := 25) (L' := [some (.ref a0), some (.int a1)]) (st' := [.int (v6 - (nI 1)), .int (nI 1), .ref q3, .ref q3]) (sg := [(.iconst 1, nI 1), (.isub, 0)]) (lSa_ok dd9) rfl ?_
  refine Y.iast (t0 := 0) (lIa_ok dd10) rfl (by decide) h (fun G7 _ _ h => ?_)
  exact Y.aret rfl (by first | exact Or.inl ⟨_, rfl⟩ | exact Or.inr ⟨_, rfl⟩) (lIa_ok dd11) h

def f_M_refuse (G : gH) (a0 : Nat) (a1 : Int32) (a2 : Int32) : gR :=
  if a1 = 0 then (gFI G a0 6 0 fun v1 => if v1 ≤ 0 then rZ (nI 0) G
    else rZ (nI 1) G)
  else gFI G a0 6 0 fun v3 => if v3 = 0 then (gPut G a0 6 0 (.int a2) fun G4 => gFI G4 a0 6 0 fun v5 => if v5 ≤ 0 then rZ (nI 0) G4
      else rZ (nI 1) G4)
    else gFI G a0 6 0 fun v7 => if v7 ≤ 0 then rZ (nI 0) G
      else rZ (nI 1) G
theorem k_M_refuse {l : Launch} {D : va_G} {B : Nat} {O : State → Heap → Prop} (hV : zG l D B O) (G : gH) (a0 : Nat) (a1 : Int32) (a2 : Int32) : gMet (zVm l D B O) m_M_refuse 2 [.ref a0, .int a1, .int a2] G (f_M_refuse G a0 a1 a2) := by
  have hdd : lSa m_M_refuse 0 [(.iload_n 1, 0)] = true ∧ lIa m_M_refuse 1 (.ifCond .eq 15) 3 = true ∧ lSa m_M_refuse 16 [(.aload_n 0, 0)] = true ∧ lIa m_M_refuse 17 (.getfield 32) 3 = true ∧ lIa m_M_refuse 20 (.ifCond .le 7) 3 = true ∧ lSa m_M_refuse 27 [(.iconst 0, nI 0)] = true ∧ lIa m_M_refuse 28 (.ireturn) 1 = true ∧ lSa m_M_refuse 23 [(.iconst 1, nI 1)] = true ∧ lIa m_M_refuse 24 (.goto 4) 3 = true ∧ lSa m_M_refuse 4 [(.aload_n 0, 0)] = true ∧ lIa m_M_refuse 5 (.getfield 32) 3 = true ∧ lIa m_M_refuse 8 (.ifCond .ne 8) 3 = true ∧ lSa m_M_refuse 11 [(.aload_n 0, 0), (.iload_n 2, 0)] = true ∧ lIa m_M_refuse 13 (.putfield 32) 3 = true := by decide +kernel
  refine lA8 hdd (fun dd0 dd1 dd2 dd3 dd4 dd5 dd6 dd7 hdd => ?_)
  obtain ⟨dd8, dd9, dd10, dd11, dd12, dd13⟩ := hdd
  refine gMet.of (by decide +kernel) (Nat.le_of_ble_eq_true rfl) [some (.ref a0), some (.int a1), some (.int a2)] (fun ls h => zEn_ok (n := 3) h) ?_
  intro o Gf h
  unfold f_M_refuse at h
  refine Y.blk (pc' := 1) (L' := [some (.ref a0), some (.int a1), some (.int a2)]) (st' := [.int a1]) (sg := [(.iload_n 1, 0)]) (lSa_ok dd0) rfl ?_
  refine Y.if_eq (off := 15) (tgt := 16) (lIa_ok dd1) (by decide) h (fun c10 h => ?_) (fun c10 h => ?_)
  · refine Y.blk (pc' := 17) (L' := [some (.ref a0), some (.int a1), some (.int a2)]) (st' := [.ref a0]) (sg := [(.aload_n 0, 0)]) (lSa_ok dd2) rfl ?_
    refine Y.getI fl_M_32 (lIa_ok dd3) h (fun v1 h => ?_)
    refine Y.if_le (off := 7) (tgt := 27) (lIa_ok dd4) (by decide) h (fun c2 h => ?_) (fun c2 h => ?_)
    · refine Y.blk (pc' := 28) (L' := [some (.ref a0), some (.int a1), some (.int a2)]) (st' := [.int (nI 0)]) (sg := [(.iconst 0, nI 0)]) (lSa_ok dd5) rfl ?_
      exact Y.zret rfl (lIa_ok dd6) h
    · refine Y.blk (pc' := 24) (L' := [some (.ref a0), some (.int a1), some (.int a2)]) (st' := [.int (nI 1)]) (sg := [(.iconst 1, nI 1)]) (lSa_ok dd7) rfl ?_
      refine Y.goto (off := 4) (tgt := 28) (lIa_ok dd8) (by decide) ?_
      exact Y.zret rfl (lIa_ok dd6) h
  · refine Y.blk (pc' := 5) (L' := [some (.ref a0), some (.int a1), some (.int a2)]) (st' := [.ref a0]) (sg := [(.aload_n 0, 0)]) (lSa_ok dd9) rfl ?_
    refine Y.getI fl_M_32 (lIa_ok dd10) h (fun v3 h => ?_)
    refine Y.if_ne (off := 8) (tgt := 16) (lIa_ok dd11) (by decide) h (fun c9 h => ?_) (fun c9 h => ?_)
    · refine Y.blk (pc' := 13) (L' := [some (.ref a0), some (.int a1), some (.int a2)]) (st' := [.int a2, .ref a0]) (sg := [(.aload_n 0, 0), (.iload_n 2, 0)]) (lSa_ok dd12) rfl ?_
      refine Y.putf fl_M_32 (by decide) rfl rfl (lIa_ok dd13) h (fun G4 _ _ h => ?_)
      refine Y.blk (pc' := 17) (L' := [some (.ref a0), some (.int a1), some (.int a2)]) (st' := [.ref a0]) (sg := [(.aload_n 0, 0)]) (lSa_ok dd2) rfl ?_
      refine Y.getI fl_M_32 (lIa_ok dd3) h (fun v5 h => ?_)
      refine Y.if_le (off := 7) (tgt := 27) (lIa_ok dd4) (by decide) h (fun c6 h => ?_) (fun c6 h => ?_)
      · refine Y.blk (pc' := 28) (L' := [some (.ref a0), some (.int a1), some (.int a2)]) (st' := [.int (nI 0)]) (sg := [(.iconst 0, nI 0)]) (lSa_ok dd5) rfl ?_
        exact Y.zret rfl (lIa_ok dd6) h
      · refine Y.blk (pc' := 24) (L' := [some (.ref a0), some (.int a1), some (.int a2)]) (st' := [.int (nI 1)]) (sg := [(.iconst 1, nI 1)]) (lSa_ok dd7) rfl ?_
        refine Y.goto (off := 4) (tgt := 28) (lIa_ok dd8) (by decide) ?_
        exact Y.zret rfl (lIa_ok dd6) h
    · refine Y.blk (pc' := 17) (L' := [some (.ref a0), some (.int a1), some (.int a2)]) (st' := [.ref a0]) (sg := [(.aload_n 0, 0)]) (lSa_ok dd2) rfl ?_
      refine Y.getI fl_M_32 (lIa_ok dd3) h (fun v7 h => ?_)
      refine Y.if_le (off := 7) (tgt := 27) (lIa_ok dd4) (by decide) h (fun c8 h => ?_) (fun c8 h => ?_)
      · refine Y.blk (pc' := 28) (L' := [some (.ref a0), some (.int a1), some (.int a2)]) (st' := [.int (nI 0)]) (sg := [(.iconst 0, nI 0)]) (lSa_ok dd5) rfl ?_
        exact Y.zret rfl (lIa_ok dd6) h
      · refine Y.blk (pc' := 24) (L' := [some (.ref a0), some (.int a1), some (.int a2)]) (st' := [.int (nI 1)]) (sg := [(.iconst 1, nI 1)]) (lSa_ok dd7) rfl ?_
        refine Y.goto (off := 4) (tgt := 28) (lIa_ok dd8) (by decide) ?_
        exact Y.zret rfl (lIa_ok dd6) h

def f_M_start (G : gH) (a0 : Nat) (a1 : Int32) (a2 : Int32) : gR :=
  gPut G a0 6 0 (.int (nI 0)) fun G1 => gOb G1 a0 6 fun o3 => bI (f_M_refuse G1 a0 a1 a2) fun v6 G5 => rZ v6 G5
theorem k_M_start {l : Launch} {D : va_G} {B : Nat} {O : State → Heap → Prop} (hV : zG l D B O) (G : gH) (a0 : Nat) (a1 : Int32) (a2 : Int32) : gMet (zVm l D B O) m_M_start 3 [.ref a0, .int a1, .int a2] G (f_M_start G a0 a1 a2) := by
  have hdd : lSa m_M_start 0 [(.aload_n 0, 0), (.iconst 0, nI 0)] = true ∧ lIa m_M_start 2 (.putfield 32) 3 = true ∧ lSa m_M_start 5 [(.aload_n 0, 0), (.iload_n 1, 0), (.iload_n 2, 0)] = true ∧ lIa m_M_start 8 (.invokevirtual 36) 3 = true ∧ lIa m_M_start 11 (.ireturn) 1 = true := by decide +kernel
  obtain ⟨dd0, dd1, dd2, dd3, dd4⟩ := hdd
  refine gMet.of (by decide +kernel) (Nat.le_of_ble_eq_true rfl) [some (.ref a0), some (.int a1), some (.int a2)] (fun ls h => zEn_ok (n := 3) h) ?_
  intro o Gf h
  unfold f_M_start at h
  refine Y.blk (pc' := 2) (L' := [some (.ref a0), some (.int a1), some (.int a2)]) (st' := [.int (nI 0), .ref a0]) (sg := [(.aload_n 0, 0), (.iconst 0, nI 0)]) (lSa_ok dd0) rfl ?_
  refine Y.putf fl_M_32 (by decide) rfl rfl (lIa_ok dd1) h (fun G1 _ _ h => ?_)
  refine Y.blk (pc' := 8) (L' := [some (.ref a0), some (.int a1), some (.int a2)]) (st' := [.int a2, .int a1, .ref a0]) (sg := [(.aload_n 0, 0), (.iload_n 1, 0), (.iload_n 2, 0)]) (lSa_ok dd2) rfl ?_
  obtain ⟨_, o3, e2, m4, h⟩ := gOb_inv h
  refine Y.callI (yC.Vi (b := a0) (As := [.int a1, .int a2]) (st := []) (r := ("PartlisterModel", T_M, 9)) hV.1 cb_M_refuse lk_M_36 in_M_refuse rfl se_M_refuse (lIa_ok dd3) rfl rfl (Nat.le_of_ble_eq_true rfl) (by decide) e2 m4) (k_M_refuse hV G1 a0 a1 a2) h (fun v6 G5 _ h => ?_)
  exact Y.zret rfl (lIa_ok dd4) h

def f_M_add1 (w : Nat → Nat) (G : gH) (a0 : Nat) (a1 : Int32) (a2 : Int32) : gR :=
  gOb G a0 6 fun o2 => bI (f_M_isNoList G a0 a1) fun v5 G4 => gOb G4 a0 6 fun o7 => bI (f_M_start G4 a0 v5 (nI 1)) fun v10 G9 => if v10 = 0 then (bI (f_M_isIn G9 a2 (nI 0) (nI 30)) fun v13 G12 => if v13 = 0 then (gOb G12 a0 6 fun o15 => bI (f_M_refuse G12 a0 (nI 1) (nI 2)) fun v18 G17 => if v18 = 0 then (gOb G17 a0 6 fun o20 => bI (f_M_isFull G17 a0 a1 (nI 1)) fun v23 G22 => gOb G22 a0 6 fun o25 => bI (f_M_refuse G22 a0 v23 (nI 3)) fun v28 G27 => if v28 = 0 then gOb G27 a0 6 fun o30 => bI (f_M_length G27 a0 a1) fun v33 G32 => gOb G32 a0 6 fun o35 => bA (f_M_make G32 a0 a2) fun v38 G37 => gOb G37 a0 6 fun o40 => bV (f_M_come w G37 a0 a1 v33 v38) fun G42 => gOb G42 a0 6 fun o44 => bV (f_M_change G42 a0 a1 (nI 1) (-1)) fun G46 => gOb G46 a0 6 fun o48 => bI (f_M_length G46 a0 a1) fun v51 G50 => rI v51 G50
        else rI (nI 0) G27)
      else rI (nI 0) G17)
    else gOb G12 a0 6 fun o55 => bI (f_M_refuse G12 a0 (nI 0) (nI 2)) fun v58 G57 => if v58 = 0 then (gOb G57 a0 6 fun o60 => bI (f_M_isFull G57 a0 a1 (nI 1)) fun v63 G62 => gOb G62 a0 6 fun o65 => bI (f_M_refuse G62 a0 v63 (nI 3)) fun v68 G67 => if v68 = 0 then gOb G67 a0 6 fun o70 => bI (f_M_length G67 a0 a1) fun v73 G72 => gOb G72 a0 6 fun o75 => bA (f_M_make G72 a0 a2) fun v78 G77 => gOb G77 a0 6 fun o80 => bV (f_M_come w G77 a0 a1 v73 v78) fun G82 => gOb G82 a0 6 fun o84 => bV (f_M_change G82 a0 a1 (nI 1) (-1)) fun G86 => gOb G86 a0 6 fun o88 => bI (f_M_length G86 a0 a1) fun v91 G90 => rI v91 G90
        else rI (nI 0) G67)
      else rI (nI 0) G57)
  else rI (nI 0) G9
theorem k_M_add1 {l : Launch} {D : va_G} {B : Nat} {O : State → Heap → Prop} {w : Nat → Nat} (hV : zGw l D B O w) (G : gH) (a0 : Nat) (a1 : Int32) (a2 : Int32) : gMet (zVm l D B O) m_M_add1 14 [.ref a0, .int a1, .int a2] G (f_M_add1 w G a0 a1 a2) := by
  have hdd : lSa m_M_add1 0 [(.aload_n 0, 0), (.aload_n 0, 0), (.iload_n 1, 0)] = true ∧ lIa m_M_add1 3 (.invokevirtual 110) 3 = true ∧ lSa m_M_add1 6 [(.iconst 1, nI 1)] = true ∧ lIa m_M_add1 7 (.invokevirtual 114) 3 = true ∧ lIa m_M_add1 10 (.ifCond .ne 40) 3 = true ∧ lSa m_M_add1 13 [(.aload_n 0, 0), (.iload_n 2, 0), (.iconst 0, nI 0), (.bipush 30, nI 30)] = true ∧ lIa m_M_add1 18 (.invokestatic 40) 3 = true ∧ lIa m_M_add1 21 (.ifCond .ne 7) 3 = true ∧ lSa m_M_add1 24 [(.iconst 1, nI 1)] = true ∧ lIa m_M_add1 25 (.goto 4) 3 = true ∧ lSa m_M_add1 29 [(.iconst 2, nI 2)] = true ∧ lIa m_M_add1 30 (.invokevirtual 36) 3 = true ∧ lIa m_M_add1 33 (.ifCond .ne 17) 3 = true ∧ lSa m_M_add1 36 [(.aload_n 0, 0), (.aload_n 0, 0), (.iload_n 1, 0), (.iconst 1, nI 1)] = true ∧ lIa m_M_add1 40 (.invokevirtual 117) 3 = true ∧ lSa m_M_add1 43 [(.iconst 3, nI 3)] = true ∧ lIa m_M_add1 44 (.invokevirtual 36) 3 = true ∧ lIa m_M_add1 47 (.ifCond .eq 5) 3 = true ∧ lSa m_M_add1 52 [(.aload_n 0, 0), (.iload_n 1, 0), (.aload_n 0, 0), (.iload_n 1, 0)] = true ∧ lIa m_M_add1 56 (.invokevirtual 74) 3 = true ∧ lSa m_M_add1 59 [(.aload_n 0, 0), (.iload_n 2, 0)] = true ∧ lIa m_M_add1 61 (.invokevirtual 120) 3 = true ∧ lIa m_M_add1 64 (.invokevirtual 124) 3 = true ∧ lSa m_M_add1 67 [(.aload_n 0, 0), (.iload_n 1, 0), (.iconst 1, nI 1), (.iconst (-1), -1)] = true ∧ lIa m_M_add1 71 (.invokevirtual 128) 3 = true ∧ lSa m_M_add1 74 [(.aload_n 0, 0), (.iload_n 1, 0)] = true ∧ lIa m_M_add1 76 (.invokevirtual 74) 3 = true ∧ lIa m_M_add1 79 (.ireturn) 1 = true ∧ lSa m_M_add1 50 [(.iconst 0, nI 0)] = true ∧ lIa m_M_add1 51 (.ireturn) 1 = true ∧ lSa m_M_add1 28 [(.iconst 0, nI 0), (.iconst 2, nI 2)] = true := by decide +kernel
  refine lA8 hdd (fun dd0 dd1 dd2 dd3 dd4 dd5 dd6 dd7 hdd => ?_)
  refine lA8 hdd (fun dd8 dd9 dd10 dd11 dd12 dd13 dd14 dd15 hdd => ?_)
  refine lA8 hdd (fun dd16 dd17 dd18 dd19 dd20 dd21 dd22 dd23 hdd => ?_)
  obtain ⟨dd24, dd25, dd26, dd27, dd28, dd29, dd30⟩ := hdd
  refine gMet.of (by decide +kernel) (Nat.le_of_ble_eq_true rfl) [some (.ref a0), some (.int a1), some (.int a2)] (fun ls h => zEn_ok (n := 3) h) ?_
  intro o Gf h
  unfold f_M_add1 at h
  refine Y.blk (pc' := 3) (L' := [some (.ref a0), some (.int a1), some (.int a2)]) (st' := [.int a1, .ref a0, .ref a0]) (sg := [(.aload_n 0, 0), (.aload_n 0, 0), (.iload_n 1, 0)]) (lSa_ok dd0) rfl ?_
  obtain ⟨_, o2, e1, m3, h⟩ := gOb_inv h
  refine Y.callI (yC.Vi (b := a0) (As := [.int a1]) (st := [.ref a0]) (r := ("PartlisterModel", T_M, 9)) hV.1.1 cb_M_isNoList lk_M_110 in_M_isNoList rfl se_M_isNoList (lIa_ok dd1) rfl rfl (Nat.le_of_ble_eq_true rfl) (by decide) e1 m3) (k_M_isNoList hV.1 G a0 a1) h (fun v5 G4 _ h => ?_)
  refine Y.blk (pc' := 7) (L' := [some (.ref a0), some (.int a1), some (.int a2)]) (st' := [.int (nI 1), .int v5, .ref a0]) (sg := [(.iconst 1, nI 1)]) (lSa_ok dd2) rfl ?_
  obtain ⟨_, o7, e6, m8, h⟩ := gOb_inv h
  refine Y.callI (yC.Vi (b := a0) (As := [.int v5, .int (nI 1)]) (st := []) (r := ("PartlisterModel", T_M, 9)) hV.1.1 cb_M_start lk_M_114 in_M_start rfl se_M_start (lIa_ok dd3) rfl rfl (Nat.le_of_ble_eq_true rfl) (by decide) e6 m8) (k_M_start hV.1 G4 a0 v5 (nI 1)) h (fun v10 G9 _ h => ?_)
  refine Y.if_ne (off := 40) (tgt := 50) (lIa_ok dd4) (by decide) h (fun c95 h => ?_) (fun c95 h => ?_)
  · refine Y.blk (pc' := 18) (L' := [some (.ref a0), some (.int a1), some (.int a2)]) (st' := [.int (nI 30), .int (nI 0), .int a2, .ref a0]) (sg := [(.aload_n 0, 0), (.iload_n 2, 0), (.iconst 0, nI 0), (.bipush 30, nI 30)]) (lSa_ok dd5) rfl ?_
    refine Y.callI (yC.S (As := [.int a2, .int (nI 0), .int (nI 30)]) (st := [.ref a0]) hV.1.1 cb_M_isIn lk_M_40 st_M_isIn (lIa_ok dd6) rfl rfl (Nat.le_of_ble_eq_true rfl) (by decide)) (k_M_isIn hV.1 G9 a2 (nI 0) (nI 30)) h (fun v13 G12 _ h => ?_)
    refine Y.if_ne (off := 7) (tgt := 28) (lIa_ok dd7) (by decide) h (fun c94 h => ?_) (fun c94 h => ?_)
    · refine Y.blk (pc' := 25) (L' := [some (.ref a0), some (.int a1), some (.int a2)]) (st' := [.int (nI 1), .ref a0]) (sg := [(.iconst 1, nI 1)]) (lSa_ok dd8) rfl ?_
      refine Y.goto (off := 4) (tgt := 29) (lIa_ok dd9) (by decide) ?_
      refine Y.blk (pc' := 30) (L' := [some (.ref a0), some (.int a1), some (.int a2)]) (st' := [.int (nI 2), .int (nI 1), .ref a0]) (sg := [(.iconst 2, nI 2)]) (lSa_ok dd10) rfl ?_
      obtain ⟨_, o15, e14, m16, h⟩ := gOb_inv h
      refine Y.callI (yC.Vi (b := a0) (As := [.int (nI 1), .int (nI 2)]) (st := []) (r := ("PartlisterModel", T_M, 9)) hV.1.1 cb_M_refuse lk_M_36 in_M_refuse rfl se_M_refuse (lIa_ok dd11) rfl rfl (Nat.le_of_ble_eq_true rfl) (by decide) e14 m16) (k_M_refuse hV.1 G12 a0 (nI 1) (nI 2)) h (fun v18 G17 _ h => ?_)
      refine Y.if_ne (off := 17) (tgt := 50) (lIa_ok dd12) (by decide) h (fun c53 h => ?_) (fun c53 h => ?_)
      · refine Y.blk (pc' := 40) (L' := [some (.ref a0), some (.int a1), some (.int a2)]) (st' := [.int (nI 1), .int a1, .ref a0, .ref a0]) (sg := [(.aload_n 0, 0), (.aload_n 0, 0), (.iload_n 1, 0), (.iconst 1, nI 1)]) (lSa_ok dd13) rfl ?_
        obtain ⟨_, o20, e19, m21, h⟩ := gOb_inv h
        refine Y.callI (yC.Vi (b := a0) (As := [.int a1, .int (nI 1)]) (st := [.ref a0]) (r := ("PartlisterModel", T_M, 9)) hV.1.1 cb_M_isFull lk_M_117 in_M_isFull rfl se_M_isFull (lIa_ok dd14) rfl rfl (Nat.le_of_ble_eq_true rfl) (by decide) e19 m21) (k_M_isFull hV.1 G17 a0 a1 (nI 1)) h (fun v23 G22 _ h => ?_)
        refine Y.blk (pc' := 44) (L' := [some (.ref a0), some (.int a1), some (.int a2)]) (st' := [.int (nI 3), .int v23, .ref a0]) (sg := [(.iconst 3, nI 3)]) (lSa_ok dd15) rfl ?_
        obtain ⟨_, o25, e24, m26, h⟩ := gOb_inv h
        refine Y.callI (yC.Vi (b := a0) (As := [.int v23, .int (nI 3)]) (st := []) (r := ("PartlisterModel", T_M, 9)) hV.1.1 cb_M_refuse lk_M_36 in_M_refuse rfl se_M_refuse (lIa_ok dd16) rfl rfl (Nat.le_of_ble_eq_true rfl) (by decide) e24 m26) (k_M_refuse hV.1 G22 a0 v23 (nI 3)) h (fun v28 G27 _ h => ?_)
        refine Y.if_eq (off := 5) (tgt := 52) (lIa_ok dd17) (by decide) h (fun c52 h => ?_) (fun c52 h => ?_)
        · refine Y.blk (pc' := 56) (L' := [some (.ref a0), some (.int a1), some (.int a2)]) (st' := [.int a1, .ref a0, .int a1, .ref a0]) (sg := [(.aload_n 0, 0), (.iload_n 1, 0), (.aload_n 0, 0), (.iload_n 1, 0)]) (lSa_ok dd18) rfl ?_
          obtain ⟨_, o30, e29, m31, h⟩ := gOb_inv h
          refine Y.callI (yC.Vi (b := a0) (As := [.int a1]) (st := [.int a1, .ref a0]) (r := ("PartlisterModel", T_M, 9)) hV.1.1 cb_M_length lk_M_74 in_M_length rfl se_M_length (lIa_ok dd19) rfl rfl (Nat.le_of_ble_eq_true rfl) (by decide) e29 m31) (k_M_length hV.1 G27 a0 a1) h (fun v33 G32 _ h => ?_)
          refine Y.blk (pc' := 61) (L' := [some (.ref a0), some (.int a1), some (.int a2)]) (st' := [.int a2, .ref a0, .int v33, .int a1, .ref a0]) (sg := [(.aload_n 0, 0), (.iload_n 2, 0)]) (lSa_ok dd20) rfl ?_
          obtain ⟨_, o35, e34, m36, h⟩ := gOb_inv h
          refine Y.callA (yC.Vi (b := a0) (As := [.int a2]) (st := [.int v33, .int a1, .ref a0]) (r := ("PartlisterModel", T_M, 9)) hV.1.1 cb_M_make lk_M_120 in_M_make rfl se_M_make (lIa_ok dd21) rfl rfl (Nat.le_of_ble_eq_true rfl) (by decide) e34 m36) (k_M_make hV.1 G32 a0 a2) h (fun v38 G37 _ h => ?_)
          obtain ⟨_, o40, e39, m41, h⟩ := gOb_inv h
          refine Y.callN (yC.Vi (b := a0) (As := [.int a1, .int v33, .ref v38]) (st := []) (r := ("PartlisterModel", T_M, 9)) hV.1.1 cb_M_come lk_M_124 in_M_come rfl se_M_come (lIa_ok dd22) rfl rfl (Nat.le_of_ble_eq_true rfl) (by decide) e39 m41) (k_M_come hV G37 a0 a1 v33 v38) h (fun G42 _ h => ?_)
          refine Y.blk (pc' := 71) (L' := [some (.ref a0), some (.int a1), some (.int a2)]) (st' := [.int (-1), .int (nI 1), .int a1, .ref a0]) (sg := [(.aload_n 0, 0), (.iload_n 1, 0), (.iconst 1, nI 1), (.iconst (-1), -1)]) (lSa_ok dd23) rfl ?_
          obtain ⟨_, o44, e43, m45, h⟩ := gOb_inv h
          refine Y.callN (yC.Vi (b := a0) (As := [.int a1, .int (nI 1), .int (-1)]) (st := []) (r := ("PartlisterModel", T_M, 9)) hV.1.1 cb_M_change lk_M_128 in_M_change rfl se_M_change (lIa_ok dd24) rfl rfl (Nat.le_of_ble_eq_true rfl) (by decide) e43 m45) (k_M_change hV.1 G42 a0 a1 (nI 1) (-1)) h (fun G46 _ h => ?_)
          refine Y.blk (pc' := 76) (L' := [some (.ref a0), some (.int a1), some (.int a2)]) (st' := [.int a1, .ref a0]) (sg := [(.aload_n 0, 0), (.iload_n 1, 0)]) (lSa_ok dd25) rfl ?_
          obtain ⟨_, o48, e47, m49, h⟩ := gOb_inv h
          refine Y.callI (yC.Vi (b := a0) (As := [.int a1]) (st := []) (r := ("PartlisterModel", T_M, 9)) hV.1.1 cb_M_length lk_M_74 in_M_length rfl se_M_length (lIa_ok dd26) rfl rfl (Nat.le_of_ble_eq_true rfl) (by decide) e47 m49) (k_M_length hV.1 G46 a0 a1) h (fun v51 G50 _ h => ?_)
          exact Y.iret rfl (lIa_ok dd27) h
        · refine Y.blk (pc' := 51) (L' := [some (.ref a0), some (.int a1), some (.int a2)]) (st' := [.int (nI 0)]) (sg := [(.iconst 0, nI 0)]) (lSa_ok dd28) rfl ?_
          exact Y.iret rfl (lIa_ok dd29) h
      · refine Y.blk (pc' := 51) (L' := [some (.ref a0), some (.int a1), some (.int a2)]) (st' := [.int (nI 0)]) (sg := [(.iconst 0, nI 0)]) (lSa_ok dd28) rfl ?_
        exact Y.iret rfl (lIa_ok dd29) h
    · refine Y.blk (pc' := 30) (L' := [some (.ref a0), some (.int a1), some (.int a2)]) (st' := [.int (nI 2), .int (nI 0), .ref a0]) (sg := [(.iconst 0, nI 0), (.iconst 2, nI 2)]) (lSa_ok dd30) rfl ?_
      obtain ⟨_, o55, e54, m56, h⟩ := gOb_inv h
      refine Y.callI (yC.Vi (b := a0) (As := [.int (nI 0), .int (nI 2)]) (st := []) (r := ("PartlisterModel", T_M, 9)) hV.1.1 cb_M_refuse lk_M_36 in_M_refuse rfl se_M_refuse (lIa_ok dd11) rfl rfl (Nat.le_of_ble_eq_true rfl) (by decide) e54 m56) (k_M_refuse hV.1 G12 a0 (nI 0) (nI 2)) h (fun v58 G57 _ h => ?_)
      refine Y.if_ne (off := 17) (tgt := 50) (lIa_ok dd12) (by decide) h (fun c93 h => ?_) (fun c93 h => ?_)
      · refine Y.blk (pc' := 40) (L' := [some (.ref a0), some (.int a1), some (.int a2)]) (st' := [.int (nI 1), .int a1, .ref a0, .ref a0]) (sg := [(.aload_n 0, 0), (.aload_n 0, 0), (.iload_n 1, 0), (.iconst 1, nI 1)]) (lSa_ok dd13) rfl ?_
        obtain ⟨_, o60, e59, m61, h⟩ := gOb_inv h
        refine Y.callI (yC.Vi (b := a0) (As := [.int a1, .int (nI 1)]) (st := [.ref a0]) (r := ("PartlisterModel", T_M, 9)) hV.1.1 cb_M_isFull lk_M_117 in_M_isFull rfl se_M_isFull (lIa_ok dd14) rfl rfl (Nat.le_of_ble_eq_true rfl) (by decide) e59 m61) (k_M_isFull hV.1 G57 a0 a1 (nI 1)) h (fun v63 G62 _ h => ?_)
        refine Y.blk (pc' := 44) (L' := [some (.ref a0), some (.int a1), some (.int a2)]) (st' := [.int (nI 3), .int v63, .ref a0]) (sg := [(.iconst 3, nI 3)]) (lSa_ok dd15) rfl ?_
        obtain ⟨_, o65, e64, m66, h⟩ := gOb_inv h
        refine Y.callI (yC.Vi (b := a0) (As := [.int v63, .int (nI 3)]) (st := []) (r := ("PartlisterModel", T_M, 9)) hV.1.1 cb_M_refuse lk_M_36 in_M_refuse rfl se_M_refuse (lIa_ok dd16) rfl rfl (Nat.le_of_ble_eq_true rfl) (by decide) e64 m66) (k_M_refuse hV.1 G62 a0 v63 (nI 3)) h (fun v68 G67 _ h => ?_)
        refine Y.if_eq (off := 5) (tgt := 52) (lIa_ok dd17) (by decide) h (fun c92 h => ?_) (fun c92 h => ?_)
        · refine Y.blk (pc' := 56) (L' := [some (.ref a0), some (.int a1), some (.int a2)]) (st' := [.int a1, .ref a0, .int a1, .ref a0]) (sg := [(.aload_n 0, 0), (.iload_n 1, 0), (.aload_n 0, 0), (.iload_n 1, 0)]) (lSa_ok dd18) rfl ?_
          obtain ⟨_, o70, e69, m71, h⟩ := gOb_inv h
          refine Y.callI (yC.Vi (b := a0) (As := [.int a1]) (st := [.int a1, .ref a0]) (r := ("PartlisterModel", T_M, 9)) hV.1.1 cb_M_length lk_M_74 in_M_length rfl se_M_length (lIa_ok dd19) rfl rfl (Nat.le_of_ble_eq_true rfl) (by decide) e69 m71) (k_M_length hV.1 G67 a0 a1) h (fun v73 G72 _ h => ?_)
          refine Y.blk (pc' := 61) (L' := [some (.ref a0), some (.int a1), some (.int a2)]) (st' := [.int a2, .ref a0, .int v73, .int a1, .ref a0]) (sg := [(.aload_n 0, 0), (.iload_n 2, 0)]) (lSa_ok dd20) rfl ?_
          obtain ⟨_, o75, e74, m76, h⟩ := gOb_inv h
          refine Y.callA (yC.Vi (b := a0) (As := [.int a2]) (st := [.int v73, .int a1, .ref a0]) (r := ("PartlisterModel", T_M, 9)) hV.1.1 cb_M_make lk_M_120 in_M_make rfl se_M_make (lIa_ok dd21) rfl rfl (Nat.le_of_ble_eq_true rfl) (by decide) e74 m76) (k_M_make hV.1 G72 a0 a2) h (fun v78 G77 _ h => ?_)
          obtain ⟨_, o80, e79, m81, h⟩ := gOb_inv h
          refine Y.callN (yC.Vi (b := a0) (As := [.int a1, .int v73, .ref v78]) (st := []) (r := ("PartlisterModel", T_M, 9)) hV.1.1 cb_M_come lk_M_124 in_M_come rfl se_M_come (lIa_ok dd22) rfl rfl (Nat.le_of_ble_eq_true rfl) (by decide) e79 m81) (k_M_come hV G77 a0 a1 v73 v78) h (fun G82 _ h => ?_)
          refine Y.blk (pc' := 71) (L' := [some (.ref a0), some (.int a1), some (.int a2)]) (st' := [.int (-1), .int (nI 1), .int a1, .ref a0]) (sg := [(.aload_n 0, 0), (.iload_n 1, 0), (.iconst 1, nI 1), (.iconst (-1), -1)]) (lSa_ok dd23) rfl ?_
          obtain ⟨_, o84, e83, m85, h⟩ := gOb_inv h
          refine Y.callN (yC.Vi (b := a0) (As := [.int a1, .int (nI 1), .int (-1)]) (st := []) (r := ("PartlisterModel", T_M, 9)) hV.1.1 cb_M_change lk_M_128 in_M_change rfl se_M_change (lIa_ok dd24) rfl rfl (Nat.le_of_ble_eq_true rfl) (by decide) e83 m85) (k_M_change hV.1 G82 a0 a1 (nI 1) (-1)) h (fun G86 _ h => ?_)
          refine Y.blk (pc' := 76) (L' := [some (.ref a0), some (.int a1), some (.int a2)]) (st' := [.int a1, .ref a0]) (sg := [(.aload_n 0, 0), (.iload_n 1, 0)]) (lSa_ok dd25) rfl ?_
          obtain ⟨_, o88, e87, m89, h⟩ := gOb_inv h
          refine Y.callI (yC.Vi (b := a0) (As := [.int a1]) (st := []) (r := ("PartlisterModel", T_M, 9)) hV.1.1 cb_M_length lk_M_74 in_M_length rfl se_M_length (lIa_ok dd26) rfl rfl (Nat.le_of_ble_eq_true rfl) (by decide) e87 m89) (k_M_length hV.1 G86 a0 a1) h (fun v91 G90 _ h => ?_)
          exact Y.iret rfl (lIa_ok dd27) h
        · refine Y.blk (pc' := 51) (L' := [some (.ref a0), some (.int a1), some (.int a2)]) (st' := [.int (nI 0)]) (sg := [(.iconst 0, nI 0)]) (lSa_ok dd28) rfl ?_
          exact Y.iret rfl (lIa_ok dd29) h
      · refine Y.blk (pc' := 51) (L' := [some (.ref a0), some (.int a1), some (.int a2)]) (st' := [.int (nI 0)]) (sg := [(.iconst 0, nI 0)]) (lSa_ok dd28) rfl ?_
        exact Y.iret rfl (lIa_ok dd29) h
  · refine Y.blk (pc' := 51) (L' := [some (.ref a0), some (.int a1), some (.int a2)]) (st' := [.int (nI 0)]) (sg := [(.iconst 0, nI 0)]) (lSa_ok dd28) rfl ?_
    exact Y.iret rfl (lIa_ok dd29) h
