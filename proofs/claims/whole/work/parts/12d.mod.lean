def f_M_addAt (w : Nat → Nat) (G : gH) (a0 : Nat) (a1 : Int32) (a2 : Int32) (a3 : Int32) : gR :=
  gOb G a0 6 fun o2 => bI (f_M_isNoList G a0 a1) fun v5 G4 => gOb G4 a0 6 fun o7 => bI (f_M_start G4 a0 v5 (nI 1)) fun v10 G9 => if v10 = 0 then (gOb G9 a0 6 fun o12 => bI (f_M_length G9 a0 a1) fun v15 G14 => bI (f_M_isIn G14 a2 (nI 0) v15) fun v18 G17 => if v18 = 0 then (gOb G17 a0 6 fun o20 => bI (f_M_refuse G17 a0 (nI 1) (nI 1)) fun v23 G22 => if v23 = 0 then (bI (f_M_isIn G22 a3 (nI 0) (nI 30)) fun v26 G25 => if v26 = 0 then (gOb G25 a0 6 fun o28 => bI (f_M_refuse G25 a0 (nI 1) (nI 2)) fun v31 G30 => if v31 = 0 then (gOb G30 a0 6 fun o33 => bI (f_M_isFull G30 a0 a1 (nI 1)) fun v36 G35 => gOb G35 a0 6 fun o38 => bI (f_M_refuse G35 a0 v36 (nI 3)) fun v41 G40 => if v41 = 0 then gOb G40 a0 6 fun o43 => bA (f_M_make G40 a0 a3) fun v46 G45 => gOb G45 a0 6 fun o48 => bV (f_M_come w G45 a0 a1 a2 v46) fun G50 => gOb G50 a0 6 fun o52 => bV (f_M_change G50 a0 a1 (nI 1) (-1)) fun G54 => gFI G54 a0 6 4 fun v55 => rI (v55 - (nI 1)) G54
            else rI (nI 0) G40)
          else rI (nI 0) G30)
        else gOb G25 a0 6 fun o59 => bI (f_M_refuse G25 a0 (nI 0) (nI 2)) fun v62 G61 => if v62 = 0 then (gOb G61 a0 6 fun o64 => bI (f_M_isFull G61 a0 a1 (nI 1)) fun v67 G66 => gOb G66 a0 6 fun o69 => bI (f_M_refuse G66 a0 v67 (nI 3)) fun v72 G71 => if v72 = 0 then gOb G71 a0 6 fun o74 => bA (f_M_make G71 a0 a3) fun v77 G76 => gOb G76 a0 6 fun o79 => bV (f_M_come w G76 a0 a1 a2 v77) fun G81 => gOb G81 a0 6 fun o83 => bV (f_M_change G81 a0 a1 (nI 1) (-1)) fun G85 => gFI G85 a0 6 4 fun v86 => rI (v86 - (nI 1)) G85
            else rI (nI 0) G71)
          else rI (nI 0) G61)
      else rI (nI 0) G22)
    else gOb G17 a0 6 fun o92 => bI (f_M_refuse G17 a0 (nI 0) (nI 1)) fun v95 G94 => if v95 = 0 then (bI (f_M_isIn G94 a3 (nI 0) (nI 30)) fun v98 G97 => if v98 = 0 then (gOb G97 a0 6 fun o100 => bI (f_M_refuse G97 a0 (nI 1) (nI 2)) fun v103 G102 => if v103 = 0 then (gOb G102 a0 6 fun o105 => bI (f_M_isFull G102 a0 a1 (nI 1)) fun v108 G107 => gOb G107 a0 6 fun o110 => bI (f_M_refuse G107 a0 v108 (nI 3)) fun v113 G112 => if v113 = 0 then gOb G112 a0 6 fun o115 => bA (f_M_make G112 a0 a3) fun v118 G117 => gOb G117 a0 6 fun o120 => bV (f_M_come w G117 a0 a1 a2 v118) fun G122 => gOb G122 a0 6 fun o124 => bV (f_M_change G122 a0 a1 (nI 1) (-1)) fun G126 => gFI G126 a0 6 4 fun v127 => rI (v127 - (nI 1)) G126
            else rI (nI 0) G112)
          else rI (nI 0) G102)
        else gOb G97 a0 6 fun o131 => bI (f_M_refuse G97 a0 (nI 0) (nI 2)) fun v134 G133 => if v134 = 0 then (gOb G133 a0 6 fun o136 => bI (f_M_isFull G133 a0 a1 (nI 1)) fun v139 G138 => gOb G138 a0 6 fun o141 => bI (f_M_refuse G138 a0 v139 (nI 3)) fun v144 G143 => if v144 = 0 then gOb G143 a0 6 fun o146 => bA (f_M_make G143 a0 a3) fun v149 G148 => gOb G148 a0 6 fun o151 => bV (f_M_come w G148 a0 a1 a2 v149) fun G153 => gOb G153 a0 6 fun o155 => bV (f_M_change G153 a0 a1 (nI 1) (-1)) fun G157 => gFI G157 a0 6 4 fun v158 => rI (v158 - (nI 1)) G157
            else rI (nI 0) G143)
          else rI (nI 0) G133)
      else rI (nI 0) G94)
  else rI (nI 0) G9
theorem k_M_addAt {l : Launch} {D : va_G} {B : Nat} {O : State → Heap → Prop} {w : Nat → Nat} (hV : zGw l D B O w) (G : gH) (a0 : Nat) (a1 : Int32) (a2 : Int32) (a3 : Int32) : gMet (zVm l D B O) m_M_addAt 14 [.ref a0, .int a1, .int a2, .int a3] G (f_M_addAt w G a0 a1 a2 a3) := by
  have hdd : lSa m_M_addAt 0 [(.aload_n 0, 0), (.aload_n 0, 0), (.iload_n 1, 0)] = true ∧ lIa m_M_addAt 3 (.invokevirtual 110) 3 = true ∧ lSa m_M_addAt 6 [(.iconst 1, nI 1)] = true ∧ lIa m_M_addAt 7 (.invokevirtual 114) 3 = true ∧ lIa m_M_addAt 10 (.ifCond .ne 66) 3 = true ∧ lSa m_M_addAt 13 [(.aload_n 0, 0), (.iload_n 2, 0), (.iconst 0, nI 0), (.aload_n 0, 0), (.iload_n 1, 0)] = true ∧ lIa m_M_addAt 18 (.invokevirtual 74) 3 = true ∧ lIa m_M_addAt 21 (.invokestatic 40) 3 = true ∧ lIa m_M_addAt 24 (.ifCond .ne 7) 3 = true ∧ lSa m_M_addAt 27 [(.iconst 1, nI 1)] = true ∧ lIa m_M_addAt 28 (.goto 4) 3 = true ∧ lSa m_M_addAt 32 [(.iconst 1, nI 1)] = true ∧ lIa m_M_addAt 33 (.invokevirtual 36) 3 = true ∧ lIa m_M_addAt 36 (.ifCond .ne 40) 3 = true ∧ lSa m_M_addAt 39 [(.aload_n 0, 0), (.iload_n 3, 0), (.iconst 0, nI 0), (.bipush 30, nI 30)] = true ∧ lIa m_M_addAt 44 (.invokestatic 40) 3 = true ∧ lIa m_M_addAt 47 (.ifCond .ne 7) 3 = true ∧ lSa m_M_addAt 50 [(.iconst 1, nI 1)] = true ∧ lIa m_M_addAt 51 (.goto 4) 3 = true ∧ lSa m_M_addAt 55 [(.iconst 2, nI 2)] = true ∧ lIa m_M_addAt 56 (.invokevirtual 36) 3 = true ∧ lIa m_M_addAt 59 (.ifCond .ne 17) 3 = true ∧ lSa m_M_addAt 62 [(.aload_n 0, 0), (.aload_n 0, 0), (.iload_n 1, 0), (.iconst 1, nI 1)] = true ∧ lIa m_M_addAt 66 (.invokevirtual 117) 3 = true ∧ lSa m_M_addAt 69 [(.iconst 3, nI 3)] = true ∧ lIa m_M_addAt 70 (.invokevirtual 36) 3 = true ∧ lIa m_M_addAt 73 (.ifCond .eq 5) 3 = true ∧ lSa m_M_addAt 78 [(.aload_n 0, 0), (.iload_n 1, 0), (.iload_n 2, 0), (.aload_n 0, 0), (.iload_n 3, 0)] = true ∧ lIa m_M_addAt 83 (.invokevirtual 120) 3 = true ∧ lIa m_M_addAt 86 (.invokevirtual 124) 3 = true ∧ lSa m_M_addAt 89 [(.aload_n 0, 0), (.iload_n 1, 0), (.iconst 1, nI 1), (.iconst (-1), -1)] = true ∧ lIa m_M_addAt 93 (.invokevirtual 128) 3 = true ∧ lSa m_M_addAt 96 [(.aload_n 0, 0)] = true ∧ lIa m_M_addAt 97 (.getfield 76) 3 = true ∧ lSa m_M_addAt 100 [(.iconst 1, nI 1), (.isub, 0)] = true ∧ lIa m_M_addAt 102 (.ireturn) 1 = true ∧ lSa m_M_addAt 76 [(.iconst 0, nI 0)] = true ∧ lIa m_M_addAt 77 (.ireturn) 1 = true ∧ lSa m_M_addAt 54 [(.iconst 0, nI 0), (.iconst 2, nI 2)] = true ∧ lSa m_M_addAt 31 [(.iconst 0, nI 0), (.iconst 1, nI 1)] = true := by decide +kernel
  refine lA8 hdd (fun dd0 dd1 dd2 dd3 dd4 dd5 dd6 dd7 hdd => ?_)
  refine lA8 hdd (fun dd8 dd9 dd10 dd11 dd12 dd13 dd14 dd15 hdd => ?_)
  refine lA8 hdd (fun dd16 dd17 dd18 dd19 dd20 dd21 dd22 dd23 hdd => ?_)
  refine lA8 hdd (fun dd24 dd25 dd26 dd27 dd28 dd29 dd30 dd31 hdd => ?_)
  obtain ⟨dd32, dd33, dd34, dd35, dd36, dd37, dd38, dd39⟩ := hdd
  refine gMet.of (by decide +kernel) (Nat.le_of_ble_eq_true rfl) [some (.ref a0), some (.int a1), some (.int a2), some (.int a3)] (fun ls h => zEn_ok (n := 4) h) ?_
  intro o Gf h
  unfold f_M_addAt at h
  refine Y.blk (pc' := 3) (L' := [some (.ref a0), some (.int a1), some (.int a2), some (.int a3)]) (st' := [.int a1, .ref a0, .ref a0]) (sg := [(.aload_n 0, 0), (.aload_n 0, 0), (.iload_n 1, 0)]) (lSa_ok dd0) rfl ?_
  obtain ⟨_, o2, e1, m3, h⟩ := gOb_inv h
  refine Y.callI (yC.Vi (b := a0) (As := [.int a1]) (st := [.ref a0]) (r := ("PartlisterModel", T_M, 9)) hV.1.1 cb_M_isNoList lk_M_110 in_M_isNoList rfl se_M_isNoList (lIa_ok dd1) rfl rfl (Nat.le_of_ble_eq_true rfl) (by decide) e1 m3) (k_M_isNoList hV.1 G a0 a1) h (fun v5 G4 _ h => ?_)
  refine Y.blk (pc' := 7) (L' := [some (.ref a0), some (.int a1), some (.int a2), some (.int a3)]) (st' := [.int (nI 1), .int v5, .ref a0]) (sg := [(.iconst 1, nI 1)]) (lSa_ok dd2) rfl ?_
  obtain ⟨_, o7, e6, m8, h⟩ := gOb_inv h
  refine Y.callI (yC.Vi (b := a0) (As := [.int v5, .int (nI 1)]) (st := []) (r := ("PartlisterModel", T_M, 9)) hV.1.1 cb_M_start lk_M_114 in_M_start rfl se_M_start (lIa_ok dd3) rfl rfl (Nat.le_of_ble_eq_true rfl) (by decide) e6 m8) (k_M_start hV.1 G4 a0 v5 (nI 1)) h (fun v10 G9 _ h => ?_)
  refine Y.if_ne (off := 66) (tgt := 76) (lIa_ok dd4) (by decide) h (fun c164 h => ?_) (fun c164 h => ?_)
  · refine Y.blk (pc' := 18) (L' := [some (.ref a0), some (.int a1), some (.int a2), some (.int a3)]) (st' := [.int a1, .ref a0, .int (nI 0), .int a2, .ref a0]) (sg := [(.aload_n 0, 0), (.iload_n 2, 0), (.iconst 0, nI 0), (.aload_n 0, 0), (.iload_n 1, 0)]) (lSa_ok dd5) rfl ?_
    obtain ⟨_, o12, e11, m13, h⟩ := gOb_inv h
    refine Y.callI (yC.Vi (b := a0) (As := [.int a1]) (st := [.int (nI 0), .int a2, .ref a0]) (r := ("PartlisterModel", T_M, 9)) hV.1.1 cb_M_length lk_M_74 in_M_length rfl se_M_length (lIa_ok dd6) rfl rfl (Nat.le_of_ble_eq_true rfl) (by decide) e11 m13) (k_M_length hV.1 G9 a0 a1) h (fun v15 G14 _ h => ?_)
    refine Y.callI (yC.S (As := [.int a2, .int (nI 0), .int v15]) (st := [.ref a0]) hV.1.1 cb_M_isIn lk_M_40 st_M_isIn (lIa_ok dd7) rfl rfl (Nat.le_of_ble_eq_true rfl) (by decide)) (k_M_isIn hV.1 G14 a2 (nI 0) v15) h (fun v18 G17 _ h => ?_)
    refine Y.if_ne (off := 7) (tgt := 31) (lIa_ok dd8) (by decide) h (fun c163 h => ?_) (fun c163 h => ?_)
    · refine Y.blk (pc' := 28) (L' := [some (.ref a0), some (.int a1), some (.int a2), some (.int a3)]) (st' := [.int (nI 1), .ref a0]) (sg := [(.iconst 1, nI 1)]) (lSa_ok dd9) rfl ?_
      refine Y.goto (off := 4) (tgt := 32) (lIa_ok dd10) (by decide) ?_
      refine Y.blk (pc' := 33) (L' := [some (.ref a0), some (.int a1), some (.int a2), some (.int a3)]) (st' := [.int (nI 1), .int (nI 1), .ref a0]) (sg := [(.iconst 1, nI 1)]) (lSa_ok dd11) rfl ?_
      obtain ⟨_, o20, e19, m21, h⟩ := gOb_inv h
      refine Y.callI (yC.Vi (b := a0) (As := [.int (nI 1), .int (nI 1)]) (st := []) (r := ("PartlisterModel", T_M, 9)) hV.1.1 cb_M_refuse lk_M_36 in_M_refuse rfl se_M_refuse (lIa_ok dd12) rfl rfl (Nat.le_of_ble_eq_true rfl) (by decide) e19 m21) (k_M_refuse hV.1 G17 a0 (nI 1) (nI 1)) h (fun v23 G22 _ h => ?_)
      refine Y.if_ne (off := 40) (tgt := 76) (lIa_ok dd13) (by decide) h (fun c90 h => ?_) (fun c90 h => ?_)
      · refine Y.blk (pc' := 44) (L' := [some (.ref a0), some (.int a1), some (.int a2), some (.int a3)]) (st' := [.int (nI 30), .int (nI 0), .int a3, .ref a0]) (sg := [(.aload_n 0, 0), (.iload_n 3, 0), (.iconst 0, nI 0), (.bipush 30, nI 30)]) (lSa_ok dd14) rfl ?_
        refine Y.callI (yC.S (As := [.int a3, .int (nI 0), .int (nI 30)]) (st := [.ref a0]) hV.1.1 cb_M_isIn lk_M_40 st_M_isIn (lIa_ok dd15) rfl rfl (Nat.le_of_ble_eq_true rfl) (by decide)) (k_M_isIn hV.1 G22 a3 (nI 0) (nI 30)) h (fun v26 G25 _ h => ?_)
        refine Y.if_ne (off := 7) (tgt := 54) (lIa_ok dd16) (by decide) h (fun c89 h => ?_) (fun c89 h => ?_)
        · refine Y.blk (pc' := 51) (L' := [some (.ref a0), some (.int a1), some (.int a2), some (.int a3)]) (st' := [.int (nI 1), .ref a0]) (sg := [(.iconst 1, nI 1)]) (lSa_ok dd17) rfl ?_
          refine Y.goto (off := 4) (tgt := 55) (lIa_ok dd18) (by decide) ?_
          refine Y.blk (pc' := 56) (L' := [some (.ref a0), some (.int a1), some (.int a2), some (.int a3)]) (st' := [.int (nI 2), .int (nI 1), .ref a0]) (sg := [(.iconst 2, nI 2)]) (lSa_ok dd19) rfl ?_
          obtain ⟨_, o28, e27, m29, h⟩ := gOb_inv h
          refine Y.callI (yC.Vi (b := a0) (As := [.int (nI 1), .int (nI 2)]) (st := []) (r := ("PartlisterModel", T_M, 9)) hV.1.1 cb_M_refuse lk_M_36 in_M_refuse rfl se_M_refuse (lIa_ok dd20) rfl rfl (Nat.le_of_ble_eq_true rfl) (by decide) e27 m29) (k_M_refuse hV.1 G25 a0 (nI 1) (nI 2)) h (fun v31 G30 _ h => ?_)
          refine Y.if_ne (off := 17) (tgt := 76) (lIa_ok dd21) (by decide) h (fun c57 h => ?_) (fun c57 h => ?_)
          · refine Y.blk (pc' := 66) (L' := [some (.ref a0), some (.int a1), some (.int a2), some (.int a3)]) (st' := [.int (nI 1), .int a1, .ref a0, .ref a0]) (sg := [(.aload_n 0, 0), (.aload_n 0, 0), (.iload_n 1, 0), (.iconst 1, nI 1)]) (lSa_ok dd22) rfl ?_
            obtain ⟨_, o33, e32, m34, h⟩ := gOb_inv h
            refine Y.callI (yC.Vi (b := a0) (As := [.int a1, .int (nI 1)]) (st := [.ref a0]) (r := ("PartlisterModel", T_M, 9)) hV.1.1 cb_M_isFull lk_M_117 in_M_isFull rfl se_M_isFull (lIa_ok dd23) rfl rfl (Nat.le_of_ble_eq_true rfl) (by decide) e32 m34) (k_M_isFull hV.1 G30 a0 a1 (nI 1)) h (fun v36 G35 _ h => ?_)
            refine Y.blk (pc' := 70) (L' := [some (.ref a0), some (.int a1), some (.int a2), some (.int a3)]) (st' := [.int (nI 3), .int v36, .ref a0]) (sg := [(.iconst 3, nI 3)]) (lSa_ok dd24) rfl ?_
            obtain ⟨_, o38, e37, m39, h⟩ := gOb_inv h
            refine Y.callI (yC.Vi (b := a0) (As := [.int v36, .int (nI 3)]) (st := []) (r := ("PartlisterModel", T_M, 9)) hV.1.1 cb_M_refuse lk_M_36 in_M_refuse rfl se_M_refuse (lIa_ok dd25) rfl rfl (Nat.le_of_ble_eq_true rfl) (by decide) e37 m39) (k_M_refuse hV.1 G35 a0 v36 (nI 3)) h (fun v41 G40 _ h => ?_)
            refine Y.if_eq (off := 5) (tgt := 78) (lIa_ok dd26) (by decide) h (fun c56 h => ?_) (fun c56 h => ?_)
            · refine Y.blk (pc' := 83) (L' := [some (.ref a0), some (.int a1), some (.int a2), some (.int a3)]) (st' := [.int a3, .ref a0, .int a2, .int a1, .ref a0]) (sg := [(.aload_n 0, 0), (.iload_n 1, 0), (.iload_n 2, 0), (.aload_n 0, 0), (.iload_n 3, 0)]) (lSa_ok dd27) rfl ?_
              obtain ⟨_, o43, e42, m44, h⟩ := gOb_inv h
              refine Y.callA (yC.Vi (b := a0) (As := [.int a3]) (st := [.int a2, .int a1, .ref a0]) (r := ("PartlisterModel", T_M, 9)) hV.1.1 cb_M_make lk_M_120 in_M_make rfl se_M_make (lIa_ok dd28) rfl rfl (Nat.le_of_ble_eq_true rfl) (by decide) e42 m44) (k_M_make hV.1 G40 a0 a3) h (fun v46 G45 _ h => ?_)
              obtain ⟨_, o48, e47, m49, h⟩ := gOb_inv h
              refine Y.callN (yC.Vi (b := a0) (As := [.int a1, .int a2, .ref v46]) (st := []) (r := ("PartlisterModel", T_M, 9)) hV.1.1 cb_M_come lk_M_124 in_M_come rfl se_M_come (lIa_ok dd29) rfl rfl (Nat.le_of_ble_eq_true rfl) (by decide) e47 m49) (k_M_come hV G45 a0 a1 a2 v46) h (fun G50 _ h => ?_)
              refine Y.blk (pc' := 93) (L' := [some (.ref a0), some (.int a1), some (.int a2), some (.int a3)]) (st' := [.int (-1), .int (nI 1), .int a1, .ref a0]) (sg := [(.aload_n 0, 0), (.iload_n 1, 0), (.iconst 1, nI 1), (.iconst (-1), -1)]) (lSa_ok dd30) rfl ?_
              obtain ⟨_, o52, e51, m53, h⟩ := gOb_inv h
              refine Y.callN (yC.Vi (b := a0) (As := [.int a1, .int (nI 1), .int (-1)]) (st := []) (r := ("PartlisterModel", T_M, 9)) hV.1.1 cb_M_change lk_M_128 in_M_change rfl se_M_change (lIa_ok dd31) rfl rfl (Nat.le_of_ble_eq_true rfl) (by decide) e51 m53) (k_M_change hV.1 G50 a0 a1 (nI 1) (-1)) h (fun G54 _ h => ?_)
              refine Y.blk (pc' := 97) (L' := [some (.ref a0), some (.int a1), some (.int a2), some (.int a3)]) (st' := [.ref a0]) (sg := [(.aload_n 0, 0)]) (lSa_ok dd32) rfl ?_
              refine Y.getI fl_M_76 (lIa_ok dd33) h (fun v55 h => ?_)
              refine Y.blk (pc' := 102) (L' := [some (.ref a0), some (.int a1), some (.int a2), some (.int a3)]) (st' := [.int (v55 - (nI 1))]) (sg := [(.iconst 1, nI 1), (.isub, 0)]) (lSa_ok dd34) rfl ?_
              exact Y.iret rfl (lIa_ok dd35) h
            · refine Y.blk (pc' := 77) (L' := [some (.ref a0), some (.int a1), some (.int a2), some (.int a3)]) (st' := [.int (nI 0)]) (sg := [(.iconst 0, nI 0)]) (lSa_ok dd36) rfl ?_
              exact Y.iret rfl (lIa_ok dd37) h
          · refine Y.blk (pc' := 77) (L' := [some (.ref a0), some (.int a1), some (.int a2), some (.int a3)]) (st' := [.int (nI 0)]) (sg := [(.iconst 0, nI 0)]) (lSa_ok dd36) rfl ?_
            exact Y.iret rfl (lIa_ok dd37) h
        · refine Y.blk (pc' := 56) (L' := [some (.ref a0), some (.int a1), some (.int a2), some (.int a3)]) (st' := [.int (nI 2), .int (nI 0), .ref a0]) (sg := [(.iconst 0, nI 0), (.iconst 2, nI 2)]) (lSa_ok dd38) rfl ?_
          obtain ⟨_, o59, e58, m60, h⟩ := gOb_inv h
          refine Y.callI (yC.Vi (b := a0) (As := [.int (nI 0), .int (nI 2)]) (st := []) (r := ("PartlisterModel", T_M, 9)) hV.1.1 cb_M_refuse lk_M_36 in_M_refuse rfl se_M_refuse (lIa_ok dd20) rfl rfl (Nat.le_of_ble_eq_true rfl) (by decide) e58 m60) (k_M_refuse hV.1 G25 a0 (nI 0) (nI 2)) h (fun v62 G61 _ h => ?_)
          refine Y.if_ne (off := 17) (tgt := 76) (lIa_ok dd21) (by decide) h (fun c88 h => ?_) (fun c88 h => ?_)
          · refine Y.blk (pc' := 66) (L' := [some (.ref a0), some (.int a1), some (.int a2), some (.int a3)]) (st' := [.int (nI 1), .int a1, .ref a0, .ref a0]) (sg := [(.aload_n 0, 0), (.aload_n 0, 0), (.iload_n 1, 0), (.iconst 1, nI 1)]) (lSa_ok dd22) rfl ?_
            obtain ⟨_, o64, e63, m65, h⟩ := gOb_inv h
            refine Y.callI (yC.Vi (b := a0) (As := [.int a1, .int (nI 1)]) (st := [.ref a0]) (r := ("PartlisterModel", T_M, 9)) hV.1.1 cb_M_isFull lk_M_117 in_M_isFull rfl se_M_isFull (lIa_ok dd23) rfl rfl (Nat.le_of_ble_eq_true rfl) (by decide) e63 m65) (k_M_isFull hV.1 G61 a0 a1 (nI 1)) h (fun v67 G66 _ h => ?_)
            refine Y.blk (pc' := 70) (L' := [some (.ref a0), some (.int a1), some (.int a2), some (.int a3)]) (st' := [.int (nI 3), .int v67, .ref a0]) (sg := [(.iconst 3, nI 3)]) (lSa_ok dd24) rfl ?_
            obtain ⟨_, o69, e68, m70, h⟩ := gOb_inv h
            refine Y.callI (yC.Vi (b := a0) (As := [.int v67, .int (nI 3)]) (st := []) (r := ("PartlisterModel", T_M, 9)) hV.1.1 cb_M_refuse lk_M_36 in_M_refuse rfl se_M_refuse (lIa_ok dd25) rfl rfl (Nat.le_of_ble_eq_true rfl) (by decide) e68 m70) (k_M_refuse hV.1 G66 a0 v67 (nI 3)) h (fun v72 G71 _ h => ?_)
            refine Y.if_eq (off := 5) (tgt := 78) (lIa_ok dd26) (by decide) h (fun c87 h => ?_) (fun c87 h => ?_)
            · refine Y.blk (pc' := 83) (L' := [some (.ref a0), some (.int a1), some (.int a2), some (.int a3)]) (st' := [.int a3, .ref a0, .int a2, .int a1, .ref a0]) (sg := [(.aload_n 0, 0), (.iload_n 1, 0), (.iload_n 2, 0), (.aload_n 0, 0), (.iload_n 3, 0)]) (lSa_ok dd27) rfl ?_
              obtain ⟨_, o74, e73, m75, h⟩ := gOb_inv h
              refine Y.callA (yC.Vi (b := a0) (As := [.int a3]) (st := [.int a2, .int a1, .ref a0]) (r := ("PartlisterModel", T_M, 9)) hV.1.1 cb_M_make lk_M_120 in_M_make rfl se_M_make (lIa_ok dd28) rfl rfl (Nat.le_of_ble_eq_true rfl) (by decide) e73 m75) (k_M_make hV.1 G71 a0 a3) h (fun v77 G76 _ h => ?_)
              obtain ⟨_, o79, e78, m80, h⟩ := gOb_inv h
              refine Y.callN (yC.Vi (b := a0) (As := [.int a1, .int a2, .ref v77]) (st := []) (r := ("PartlisterModel", T_M, 9)) hV.1.1 cb_M_come lk_M_124 in_M_come rfl se_M_come (lIa_ok dd29) rfl rfl (Nat.le_of_ble_eq_true rfl) (by decide) e78 m80) (k_M_come hV G76 a0 a1 a2 v77) h (fun G81 _ h => ?_)
              refine Y.blk (pc' := 93) (L' := [some (.ref a0), some (.int a1), some (.int a2), some (.int a3)]) (st' := [.int (-1), .int (nI 1), .int a1, .ref a0]) (sg := [(.aload_n 0, 0), (.iload_n 1, 0), (.iconst 1, nI 1), (.iconst (-1), -1)]) (lSa_ok dd30) rfl ?_
              obtain ⟨_, o83, e82, m84, h⟩ := gOb_inv h
              refine Y.callN (yC.Vi (b := a0) (As := [.int a1, .int (nI 1), .int (-1)]) (st := []) (r := ("PartlisterModel", T_M, 9)) hV.1.1 cb_M_change lk_M_128 in_M_change rfl se_M_change (lIa_ok dd31) rfl rfl (Nat.le_of_ble_eq_true rfl) (by decide) e82 m84) (k_M_change hV.1 G81 a0 a1 (nI 1) (-1)) h (fun G85 _ h => ?_)
              refine Y.blk (pc' := 97) (L' := [some (.ref a0), some (.int a1), some (.int a2), some (.int a3)]) (st' := [.ref a0]) (sg := [(.aload_n 0, 0)]) (lSa_ok dd32) rfl ?_
              refine Y.getI fl_M_76 (lIa_ok dd33) h (fun v86 h => ?_)
              refine Y.blk (pc' := 102) (L' := [some (.ref a0), some (.int a1), some (.int a2), some (.int a3)]) (st' := [.int (v86 - (nI 1))]) (sg := [(.iconst 1, nI 1), (.isub, 0)]) (lSa_ok dd34) rfl ?_
              exact Y.iret rfl (lIa_ok dd35) h
            · refine Y.blk (pc' := 77) (L' := [some (.ref a0), some (.int a1), some (.int a2), some (.int a3)]) (st' := [.int (nI 0)]) (sg := [(.iconst 0, nI 0)]) (lSa_ok dd36) rfl ?_
              exact Y.iret rfl (lIa_ok dd37) h
          · refine Y.blk (pc' := 77) (L' := [some (.ref a0), some (.int a1), some (.int a2), some (.int a3)]) (st' := [.int (nI 0)]) (sg := [(.iconst 0, nI 0)]) (lSa_ok dd36) rfl ?_
            exact Y.iret rfl (lIa_ok dd37) h
      · refine Y.blk (pc' := 77) (L' := [some (.ref a0), some (.int a1), some (.int a2), some (.int a3)]) (st' := [.int (nI 0)]) (sg := [(.iconst 0, nI 0)]) (lSa_ok dd36) rfl ?_
        exact Y.iret rfl (lIa_ok dd37) h
    · refine Y.blk (pc' := 33) (L' := [some (.ref a0), some (.int a1), some (.int a2), some (.int a3)]) (st' := [.int (nI 1), .int (nI 0), .ref a0]) (sg := [(.iconst 0, nI 0), (.iconst 1, nI 1)]) (lSa_ok dd39) rfl ?_
      obtain ⟨_, o92, e91, m93, h⟩ := gOb_inv h
      refine Y.callI (yC.Vi (b := a0) (As := [.int (nI 0), .int (nI 1)]) (st := []) (r := ("PartlisterModel", T_M, 9)) hV.1.1 cb_M_refuse lk_M_36 in_M_refuse rfl se_M_refuse (lIa_ok dd12) rfl rfl (Nat.le_of_ble_eq_true rfl) (by decide) e91 m93) (k_M_refuse hV.1 G17 a0 (nI 0) (nI 1)) h (fun v95 G94 _ h => ?_)
      refine Y.if_ne (off := 40) (tgt := 76) (lIa_ok dd13) (by decide) h (fun c162 h => ?_) (fun c162 h => ?_)
      · refine Y.blk (pc' := 44) (L' := [some (.ref a0), some (.int a1), some (.int a2), some (.int a3)]) (st' := [.int (nI 30), .int (nI 0), .int a3, .ref a0]) (sg := [(.aload_n 0, 0), (.iload_n 3, 0), (.iconst 0, nI 0), (.bipush 30, nI 30)]) (lSa_ok dd14) rfl ?_
        refine Y.callI (yC.S (As := [.int a3, .int (nI 0), .int (nI 30)]) (st := [.ref a0]) hV.1.1 cb_M_isIn lk_M_40 st_M_isIn (lIa_ok dd15) rfl rfl (Nat.le_of_ble_eq_true rfl) (by decide)) (k_M_isIn hV.1 G94 a3 (nI 0) (nI 30)) h (fun v98 G97 _ h => ?_)
        refine Y.if_ne (off := 7) (tgt := 54) (lIa_ok dd16) (by decide) h (fun c161 h => ?_) (fun c161 h => ?_)
        · refine Y.blk (pc' := 51) (L' := [some (.ref a0), some (.int a1), some (.int a2), some (.int a3)]) (st' := [.int (nI 1), .ref a0]) (sg := [(.iconst 1, nI 1)]) (lSa_ok dd17) rfl ?_
          refine Y.goto (off := 4) (tgt := 55) (lIa_ok dd18) (by decide) ?_
          refine Y.blk (pc' := 56) (L' := [some (.ref a0), some (.int a1), some (.int a2), some (.int a3)]) (st' := [.int (nI 2), .int (nI 1), .ref a0]) (sg := [(.iconst 2, nI 2)]) (lSa_ok dd19) rfl ?_
          obtain ⟨_, o100, e99, m101, h⟩ := gOb_inv h
          refine Y.callI (yC.Vi (b := a0) (As := [.int (nI 1), .int (nI 2)]) (st := []) (r := ("PartlisterModel", T_M, 9)) hV.1.1 cb_M_refuse lk_M_36 in_M_refuse rfl se_M_refuse (lIa_ok dd20) rfl rfl (Nat.le_of_ble_eq_true rfl) (by decide) e99 m101) (k_M_refuse hV.1 G97 a0 (nI 1) (nI 2)) h (fun v103 G102 _ h => ?_)
          refine Y.if_ne (off := 17) (tgt := 76) (lIa_ok dd21) (by decide) h (fun c129 h => ?_) (fun c129 h => ?_)
          · refine Y.blk (pc' := 66) (L' := [some (.ref a0), some (.int a1), some (.int a2), some (.int a3)]) (st' := [.int (nI 1), .int a1, .ref a0, .ref a0]) (sg := [(.aload_n 0, 0), (.aload_n 0, 0), (.iload_n 1, 0), (.iconst 1, nI 1)]) (lSa_ok dd22) rfl ?_
            obtain ⟨_, o105, e104, m106, h⟩ := gOb_inv h
            refine Y.callI (yC.Vi (b := a0) (As := [.int a1, .int (nI 1)]) (st := [.ref a0]) (r := ("PartlisterModel", T_M, 9)) hV.1.1 cb_M_isFull lk_M_117 in_M_isFull rfl se_M_isFull (lIa_ok dd23) rfl rfl (Nat.le_of_ble_eq_true rfl) (by decide) e104 m106) (k_M_isFull hV.1 G102 a0 a1 (nI 1)) h (fun v108 G107 _ h => ?_)
            refine Y.blk (pc' := 70) (L' := [some (.ref a0), some (.int a1), some (.int a2), some (.int a3)]) (st' := [.int (nI 3), .int v108, .ref a0]) (sg := [(.iconst 3, nI 3)]) (lSa_ok dd24) rfl ?_
            obtain ⟨_, o110, e109, m111, h⟩ := gOb_inv h
            refine Y.callI (yC.Vi (b := a0) (As := [.int v108, .int (nI 3)]) (st := []) (r := ("PartlisterModel", T_M, 9)) hV.1.1 cb_M_refuse lk_M_36 in_M_refuse rfl se_M_refuse (lIa_ok dd25) rfl rfl (Nat.le_of_ble_eq_true rfl) (by decide) e109 m111) (k_M_refuse hV.1 G107 a0 v108 (nI 3)) h (fun v113 G112 _ h => ?_)
            refine Y.if_eq (off := 5) (tgt := 78) (lIa_ok dd26) (by decide) h (fun c128 h => ?_) (fun c128 h => ?_)
            · refine Y.blk (pc' := 83) (L' := [some (.ref a0), some (.int a1), some (.int a2), some (.int a3)]) (st' := [.int a3, .ref a0, .int a2, .int a1, .ref a0]) (sg := [(.aload_n 0, 0), (.iload_n 1, 0), (.iload_n 2, 0), (.aload_n 0, 0), (.iload_n 3, 0)]) (lSa_ok dd27) rfl ?_
              obtain ⟨_, o115, e114, m116, h⟩ := gOb_inv h
              refine Y.callA (yC.Vi (b := a0) (As := [.int a3]) (st := [.int a2, .int a1, .ref a0]) (r := ("PartlisterModel", T_M, 9)) hV.1.1 cb_M_make lk_M_120 in_M_make rfl se_M_make (lIa_ok dd28) rfl rfl (Nat.le_of_ble_eq_true rfl) (by decide) e114 m116) (k_M_make hV.1 G112 a0 a3) h (fun v118 G117 _ h => ?_)
              obtain ⟨_, o120, e119, m121, h⟩ := gOb_inv h
              refine Y.callN (yC.Vi (b := a0) (As := [.int a1, .int a2, .ref v118]) (st := []) (r := ("PartlisterModel", T_M, 9)) hV.1.1 cb_M_come lk_M_124 in_M_come rfl se_M_come (lIa_ok dd29) rfl rfl (Nat.le_of_ble_eq_true rfl) (by decide) e119 m121) (k_M_come hV G117 a0 a1 a2 v118) h (fun G122 _ h => ?_)
              refine Y.blk (pc' := 93) (L' := [some (.ref a0), some (.int a1), some (.int a2), some (.int a3)]) (st' := [.int (-1), .int (nI 1), .int a1, .ref a0]) (sg := [(.aload_n 0, 0), (.iload_n 1, 0), (.iconst 1, nI 1), (.iconst (-1), -1)]) (lSa_ok dd30) rfl ?_
              obtain ⟨_, o124, e123, m125, h⟩ := gOb_inv h
              refine Y.callN (yC.Vi (b := a0) (As := [.int a1, .int (nI 1), .int (-1)]) (st := []) (r := ("PartlisterModel", T_M, 9)) hV.1.1 cb_M_change lk_M_128 in_M_change rfl se_M_change (lIa_ok dd31) rfl rfl (Nat.le_of_ble_eq_true rfl) (by decide) e123 m125) (k_M_change hV.1 G122 a0 a1 (nI 1) (-1)) h (fun G126 _ h => ?_)
              refine Y.blk (pc' := 97) (L' := [some (.ref a0), some (.int a1), some (.int a2), some (.int a3)]) (st' := [.ref a0]) (sg := [(.aload_n 0, 0)]) (lSa_ok dd32) rfl ?_
              refine Y.getI fl_M_76 (lIa_ok dd33) h (fun v127 h => ?_)
              refine Y.blk (pc' := 102) (L' := [some (.ref a0), some (.int a1), some (.int a2), some (.int a3)]) (st' := [.int (v127 - (nI 1))]) (sg := [(.iconst 1, nI 1), (.isub, 0)]) (lSa_ok dd34) rfl ?_
              exact Y.iret rfl (lIa_ok dd35) h
            · refine Y.blk (pc' := 77) (L' := [some (.ref a0), some (.int a1), some (.int a2), some (.int a3)]) (st' := [.int (nI 0)]) (sg := [(.iconst 0, nI 0)]) (lSa_ok dd36) rfl ?_
              exact Y.iret rfl (lIa_ok dd37) h
          · refine Y.blk (pc' := 77) (L' := [some (.ref a0), some (.int a1), some (.int a2), some (.int a3)]) (st' := [.int (nI 0)]) (sg := [(.iconst 0, nI 0)]) (lSa_ok dd36) rfl ?_
            exact Y.iret rfl (lIa_ok dd37) h
        · refine Y.blk (pc' := 56) (L' := [some (.ref a0), some (.int a1), some (.int a2), some (.int a3)]) (st' := [.int (nI 2), .int (nI 0), .ref a0]) (sg := [(.iconst 0, nI 0), (.iconst 2, nI 2)]) (lSa_ok dd38) rfl ?_
          obtain ⟨_, o131, e130, m132, h⟩ := gOb_inv h
          refine Y.callI (yC.Vi (b := a0) (As := [.int (nI 0), .int (nI 2)]) (st := []) (r := ("PartlisterModel", T_M, 9)) hV.1.1 cb_M_refuse lk_M_36 in_M_refuse rfl se_M_refuse (lIa_ok dd20) rfl rfl (Nat.le_of_ble_eq_true rfl) (by decide) e130 m132) (k_M_refuse hV.1 G97 a0 (nI 0) (nI 2)) h (fun v134 G133 _ h => ?_)
          refine Y.if_ne (off := 17) (tgt := 76) (lIa_ok dd21) (by decide) h (fun c160 h => ?_) (fun c160 h => ?_)
          · refine Y.blk (pc' := 66) (L' := [some (.ref a0), some (.int a1), some (.int a2), some (.int a3)]) (st' := [.int (nI 1), .int a1, .ref a0, .ref a0]) (sg := [(.aload_n 0, 0), (.aload_n 0, 0), (.iload_n 1, 0), (.iconst 1, nI 1)]) (lSa_ok dd22) rfl ?_
            obtain ⟨_, o136, e135, m137, h⟩ := gOb_inv h
            refine Y.callI (yC.Vi (b := a0) (As := [.int a1, .int (nI 1)]) (st := [.ref a0]) (r := ("PartlisterModel", T_M, 9)) hV.1.1 cb_M_isFull lk_M_117 in_M_isFull rfl se_M_isFull (lIa_ok dd23) rfl rfl (Nat.le_of_ble_eq_true rfl) (by decide) e135 m137) (k_M_isFull hV.1 G133 a0 a1 (nI 1)) h (fun v139 G138 _ h => ?_)
            refine Y.blk (pc' := 70) (L' := [some (.ref a0), some (.int a1), some (.int a2), some (.int a3)]) (st' := [.int (nI 3), .int v139, .ref a0]) (sg := [(.iconst 3, nI 3)]) (lSa_ok dd24) rfl ?_
            obtain ⟨_, o141, e140, m142, h⟩ := gOb_inv h
            refine Y.callI (yC.Vi (b := a0) (As := [.int v139, .int (nI 3)]) (st := []) (r := ("PartlisterModel", T_M, 9)) hV.1.1 cb_M_refuse lk_M_36 in_M_refuse rfl se_M_refuse (lIa_ok dd25) rfl rfl (Nat.le_of_ble_eq_true rfl) (by decide) e140 m142) (k_M_refuse hV.1 G138 a0 v139 (nI 3)) h (fun v144 G143 _ h => ?_)
            refine Y.if_eq (off := 5) (tgt := 78) (lIa_ok dd26) (by decide) h (fun c159 h => ?_) (fun c159 h => ?_)
            · refine Y.blk (pc' := 83) (L' := [some (.ref a0), some (.int a1), some (.int a2), some (.int a3)]) (st' := [.int a3, .ref a0, .int a2, .int a1, .ref a0]) (sg := [(.aload_n 0, 0), (.iload_n 1, 0), (.iload_n 2, 0), (.aload_n 0, 0), (.iload_n 3, 0)]) (lSa_ok dd27) rfl ?_
              obtain ⟨_, o146, e145, m147, h⟩ := gOb_inv h
              refine Y.callA (yC.Vi (b := a0) (As := [.int a3]) (st := [.int a2, .int a1, .ref a0]) (r := ("PartlisterModel", T_M, 9)) hV.1.1 cb_M_make lk_M_120 in_M_make rfl se_M_make (lIa_ok dd28) rfl rfl (Nat.le_of_ble_eq_true rfl) (by decide) e145 m147) (k_M_make hV.1 G143 a0 a3) h (fun v149 G148 _ h => ?_)
              obtain ⟨_, o151, e150, m152, h⟩ := gOb_inv h
              refine Y.callN (yC.Vi (b := a0) (As := [.int a1, .int a2, .ref v149]) (st := []) (r := ("PartlisterModel", T_M, 9)) hV.1.1 cb_M_come lk_M_124 in_M_come rfl se_M_come (lIa_ok dd29) rfl rfl (Nat.le_of_ble_eq_true rfl) (by decide) e150 m152) (k_M_come hV G148 a0 a1 a2 v149) h (fun G153 _ h => ?_)
              refine Y.blk (pc' := 93) (L' := [some (.ref a0), some (.int a1), some (.int a2), some (.int a3)]) (st' := [.int (-1), .int (nI 1), .int a1, .ref a0]) (sg := [(.aload_n 0, 0), (.iload_n 1, 0), (.iconst 1, nI 1), (.iconst (-1), -1)]) (lSa_ok dd30) rfl ?_
              obtain ⟨_, o155, e154, m156, h⟩ := gOb_inv h
              refine Y.callN (yC.Vi (b := a0) (As := [.int a1, .int (nI 1), .int (-1)]) (st := []) (r := ("PartlisterModel", T_M, 9)) hV.1.1 cb_M_change lk_M_128 in_M_change rfl se_M_change (lIa_ok dd31) rfl rfl (Nat.le_of_ble_eq_true rfl) (by decide) e154 m156) (k_M_change hV.1 G153 a0 a1 (nI 1) (-1)) h (fun G157 _ h => ?_)
              refine Y.blk (pc' := 97) (L' := [some (.ref a0), some (.int a1), some (.int a2), some (.int a3)]) (st' := [.ref a0]) (sg := [(.aload_n 0, 0)]) (lSa_ok dd32) rfl ?_
              refine Y.getI fl_M_76 (lIa_ok dd33) h (fun v158 h => ?_)
              refine Y.blk (pc' := 102) (L' := [some (.ref a0), some (.int a1), some (.int a2), some (.int a3)]) (st' := [.int (v158 - (nI 1))]) (sg := [(.iconst 1, nI 1), (.isub, 0)]) (lSa_ok dd34) rfl ?_
              exact Y.iret rfl (lIa_ok dd35) h
            · refine Y.blk (pc' := 77) (L' := [some (.ref a0), some (.int a1), some (.int a2), some (.int a3)]) (st' := [.int (nI 0)]) (sg := [(.iconst 0, nI 0)]) (lSa_ok dd36) rfl ?_
              exact Y.iret rfl (lIa_ok dd37) h
          · refine Y.blk (pc' := 77) (L' := [some (.ref a0), some (.int a1), some (.int a2), some (.int a3)]) (st' := [.int (nI 0)]) (sg := [(.iconst 0, nI 0)]) (lSa_ok dd36) rfl ?_
            exact Y.iret rfl (lIa_ok dd37) h
      · refine Y.blk (pc' := 77) (L' := [some (.ref a0), some (.int a1), some (.int a2), some (.int a3)]) (st' := [.int (nI 0)]) (sg := [(.iconst 0, nI 0)]) (lSa_ok dd36) rfl ?_
        exact Y.iret rfl (lIa_ok dd37) h
  · refine Y.blk (pc' := 77) (L' := [some (.ref a0), some (.int a1), some (.int a2), some (.int a3)]) (st' := [.int (nI 0)]) (sg := [(.iconst 0, nI 0)]) (lSa_ok dd36) rfl ?_
    exact Y.iret rfl (lIa_ok dd37) h

def f_M_ahead (G : gH) (a0 : Nat) (a1 : Nat) (a2 : Int32) : gR :=
  if a2.toInt = 0 then (gLd G a0 100 (nI 0) fun v1 => gLd G a1 100 (nI 0) fun v2 => rI (v1 - v2) G)
  else if a2.toInt = 1 then (gLd G a1 100 (nI 0) fun v4 => gLd G a0 100 (nI 0) fun v5 => rI (v4 - v5) G)
  else if a2.toInt = 2 then (gLd G a0 100 (nI 0) fun v7 => gRem v7 (nI 5) fun v8 => gLd G a1 100 (nI 0) fun v9 => gRem v9 (nI 5) fun v10 => rI (v8 - v10) G)
  else if a2.toInt = 3 then (gLd G a1 100 (nI 1) fun v12 => gLd G a0 100 (nI 1) fun v13 => rI (v12 - v13) G)
  else gLd G a0 100 (nI 0) fun v15 => gRem v15 (nI 2) fun v16 => gLd G a1 100 (nI 0) fun v17 => gRem v17 (nI 2) fun v18 => if v16 = v18 then gLd G a0 100 (nI 0) fun v19 => gLd G a1 100 (nI 0) fun v20 => rI (v19 - v20) G
    else gLd G a1 100 (nI 0) fun v21 => gRem v21 (nI 2) fun v22 => gLd G a0 100 (nI 0) fun v23 => gRem v23 (nI 2) fun v24 => rI (v22 - v24) G
theorem k_M_ahead {l : Launch} {D : va_G} {B : Nat} {O : State → Heap → Prop} (hV : zG l D B O) (G : gH) (a0 : Nat) (a1 : Nat) (a2 : Int32) : gMet (zVm l D B O) m_M_ahead 2 [.ref a0, .ref a1, .int a2] G (f_M_ahead G a0 a1 a2) := by
  have hdd : lSa m_M_ahead 0 [(.iload_n 2, 0)] = true ∧ lSa m_M_ahead 32 [(.aload_n 0, 0), (.iconst 0, nI 0)] = true ∧ lIa m_M_ahead 34 (.iaload) 1 = true ∧ lSa m_M_ahead 35 [(.aload_n 1, 0), (.iconst 0, nI 0)] = true ∧ lIa m_M_ahead 37 (.iaload) 1 = true ∧ lSa m_M_ahead 38 [(.isub, 0)] = true ∧ lIa m_M_ahead 39 (.ireturn) 1 = true ∧ lSa m_M_ahead 40 [(.aload_n 1, 0), (.iconst 0, nI 0)] = true ∧ lIa m_M_ahead 42 (.iaload) 1 = true ∧ lSa m_M_ahead 43 [(.aload_n 0, 0), (.iconst 0, nI 0)] = true ∧ lIa m_M_ahead 45 (.iaload) 1 = true ∧ lSa m_M_ahead 46 [(.isub, 0)] = true ∧ lIa m_M_ahead 47 (.ireturn) 1 = true ∧ lSa m_M_ahead 48 [(.aload_n 0, 0), (.iconst 0, nI 0)] = true ∧ lIa m_M_ahead 50 (.iaload) 1 = true ∧ lSa m_M_ahead 51 [(.iconst 5, nI 5)] = true ∧ lIa m_M_ahead 52 (.irem) 1 = true ∧ lSa m_M_ahead 53 [(.aload_n 1, 0), (.iconst 0, nI 0)] = true ∧ lIa m_M_ahead 55 (.iaload) 1 = true ∧ lSa m_M_ahead 56 [(.iconst 5, nI 5)] = true ∧ lIa m_M_ahead 57 (.irem) 1 = true ∧ lSa m_M_ahead 58 [(.isub, 0)] = true ∧ lIa m_M_ahead 59 (.ireturn) 1 = true ∧ lSa m_M_ahead 60 [(.aload_n 1, 0), (.iconst 1, nI 1)] = true ∧ lIa m_M_ahead 62 (.iaload) 1 = true ∧ lSa m_M_ahead 63 [(.aload_n 0, 0), (.iconst 1, nI 1)] = true ∧ lIa m_M_ahead 65 (.iaload) 1 = true ∧ lSa m_M_ahead 66 [(.isub, 0)] = true ∧ lIa m_M_ahead 67 (.ireturn) 1 = true ∧ lSa m_M_ahead 68 [(.aload_n 0, 0), (.iconst 0, nI 0)] = true ∧ lIa m_M_ahead 70 (.iaload) 1 = true ∧ lSa m_M_ahead 71 [(.iconst 2, nI 2)] = true ∧ lIa m_M_ahead 72 (.irem) 1 = true ∧ lSa m_M_ahead 73 [(.aload_n 1, 0), (.iconst 0, nI 0)] = true ∧ lIa m_M_ahead 75 (.iaload) 1 = true ∧ lSa m_M_ahead 76 [(.iconst 2, nI 2)] = true ∧ lIa m_M_ahead 77 (.irem) 1 = true ∧ lIa m_M_ahead 78 (.if_icmp .ne 13) 3 = true ∧ lSa m_M_ahead 81 [(.aload_n 0, 0), (.iconst 0, nI 0)] = true ∧ lIa m_M_ahead 83 (.iaload) 1 = true ∧ lSa m_M_ahead 84 [(.aload_n 1, 0), (.iconst 0, nI 0)] = true ∧ lIa m_M_ahead 86 (.iaload) 1 = true ∧ lSa m_M_ahead 87 [(.isub, 0)] = true ∧ lIa m_M_ahead 88 (.goto 14) 3 = true ∧ lIa m_M_ahead 102 (.ireturn) 1 = true ∧ lSa m_M_ahead 91 [(.aload_n 1, 0), (.iconst 0, nI 0)] = true ∧ lIa m_M_ahead 93 (.iaload) 1 = true ∧ lSa m_M_ahead 94 [(.iconst 2, nI 2)] = true ∧ lIa m_M_ahead 95 (.irem) 1 = true ∧ lSa m_M_ahead 96 [(.aload_n 0, 0), (.iconst 0, nI 0)] = true ∧ lIa m_M_ahead 98 (.iaload) 1 = true ∧ lSa m_M_ahead 99 [(.iconst 2, nI 2)] = true ∧ lIa m_M_ahead 100 (.irem) 1 = true ∧ lSa m_M_ahead 101 [(.isub, 0)] = true := by decide +kernel
  refine lA8 hdd (fun dd0 dd1 dd2 dd3 dd4 dd5 dd6 dd7 hdd => ?_)
  refine lA8 hdd (fun dd8 dd9 dd10 dd11 dd12 dd13 dd14 dd15 hdd => ?_)
  refine lA8 hdd (fun dd16 dd17 dd18 dd19 dd20 dd21 dd22 dd23 hdd => ?_)
  refine lA8 hdd (fun dd24 dd25 dd26 dd27 dd28 dd29 dd30 dd31 hdd => ?_)
  refine lA8 hdd (fun dd32 dd33 dd34 dd35 dd36 dd37 dd38 dd39 hdd => ?_)
  refine lA8 hdd (fun dd40 dd41 dd42 dd43 dd44 dd45 dd46 dd47 hdd => ?_)
  obtain ⟨dd48, dd49, dd50, dd51, dd52, dd53⟩ := hdd
  refine gMet.of (by decide +kernel) (Nat.le_of_ble_eq_true rfl) [some (.ref a0), some (.ref a1), some (.int a2)] (fun ls h => zEn_ok (n := 3) h) ?_
  intro o Gf h
  unfold f_M_ahead at h
  refine Y.blk (pc' := 1) (L' := [some (.ref a0), some (.ref a1), some (.int a2)]) (st' := [.int a2]) (sg := [(.iload_n 2, 0)]) (lSa_ok dd0) rfl ?_
  refine Y.swC (j := 0) (off := 31) (tgt := 32) (dflt := 67) (lo := 0) (hi := 3) (offs := #[31, 39, 47, 59]) (len := 31) (by decide +kernel) (by decide) (by decide) (by decide) h (fun c3 h => ?_) (fun c3 h => ?_)
  · refine Y.blk (pc' := 34) (L' := [some (.ref a0), some (.ref a1), some (.int a2)]) (st' := [.int (nI 0), .ref a0]) (sg := [(.aload_n 0, 0), (.iconst 0, nI 0)]) (lSa_ok dd1) rfl ?_
    refine Y.iald (t0 := 0) (lIa_ok dd2) rfl h (fun v1 h => ?_)
    refine Y.blk (pc' := 37) (L' := [some (.ref a0), some (.ref a1), some (.int a2)]) (st' := [.int (nI 0), .ref a1, .int v1]) (sg := [(.aload_n 1, 0), (.iconst 0, nI 0)]) (lSa_ok dd3) rfl ?_
    refine Y.iald (t0 := 0) (lIa_ok dd4) rfl h (fun v2 h => ?_)
    refine Y.blk (pc' := 39) (L' := [some (.ref a0), some (.ref a1), some (.int a2)]) (st' := [.int (v1 - v2)]) (sg := [(.isub, 0)]) (lSa_ok dd5) rfl ?_
    exact Y.iret rfl (lIa_ok dd6) h
  refine Y.swC (j := 1) (off := 39) (tgt := 40) (dflt := 67) (lo := 0) (hi := 3) (offs := #[31, 39, 47, 59]) (len := 31) (by decide +kernel) (by decide) (by decide) (by decide) h (fun c6 h => ?_) (fun c6 h => ?_)
  · refine Y.blk (pc' := 42) (L' := [some (.ref a0), some (.ref a1), some (.int a2)]) (st' := [.int (nI 0), .ref a1]) (sg := [(.aload_n 1, 0), (.iconst 0, nI 0)]) (lSa_ok dd7) rfl ?_
    refine Y.iald (t0 := 0) (lIa_ok dd8) rfl h (fun v4 h => ?_)
    refine Y.blk (pc' := 45) (L' := [some (.ref a0), some (.ref a1), some (.int a2)]) (st' := [.int (nI 0), .ref a0, .int v4]) (sg := [(.aload_n 0, 0), (.iconst 0, nI 0)]) (lSa_ok dd9) rfl ?_
    refine Y.iald (t0 := 0) (lIa_ok dd10) rfl h (fun v5 h => ?_)
    refine Y.blk (pc' := 47) (L' := [some (.ref a0), some (.ref a1), some (.int a2)]) (st' := [.int (v4 - v5)]) (sg := [(.isub, 0)]) (lSa_ok dd11) rfl ?_
    exact Y.iret rfl (lIa_ok dd12) h
  refine Y.swC (j := 2) (off := 47) (tgt := 48) (dflt := 67) (lo := 0) (hi := 3) (offs := #[31, 39, 47, 59]) (len := 31) (by decide +kernel) (by decide) (by decide) (by decide) h (fun c11 h => ?_) (fun c11 h => ?_)
  · refine Y.blk (pc' := 50) (L' := [some (.ref a0), some (.ref a1), some (.int a2)]) (st' := [.int (nI 0), .ref a0]) (sg := [(.aload_n 0, 0), (.iconst 0, nI 0)]) (lSa_ok dd13) rfl ?_
    refine Y.iald (t0 := 0) (lIa_ok dd14) rfl h (fun v7 h => ?_)
    refine Y.blk (pc' := 52) (L' := [some (.ref a0), some (.ref a1), some (.int a2)]) (st' := [.int (nI 5), .int v7]) (sg := [(.iconst 5, nI 5)]) (lSa_ok dd15) rfl ?_
    refine Y.irem (lIa_ok dd16) h (fun v8 h => ?_)
    refine Y.blk (pc' := 55) (L' := [some (.ref a0), some (.ref a1), some (.int a2)]) (st' := [.int (nI 0), .ref a1, .int v8]) (sg := [(.aload_n 1, 0), (.iconst 0, nI 0)]) (lSa_ok dd17) rfl ?_
    refine Y.iald (t0 := 0) (lIa_ok dd18) rfl h (fun v9 h => ?_)
    refine Y.blk (pc' := 57) (L' := [some (.ref a0), some (.ref a1), some (.int a2)]) (st' := [.int (nI 5), .int v9, .int v8]) (sg := [(.iconst 5, nI 5)]) (lSa_ok dd19) rfl ?_
    refine Y.irem (lIa_ok dd20) h (fun v10 h => ?_)
    refine Y.blk (pc' := 59) (L' := [some (.ref a0), some (.ref a1), some (.int a2)]) (st' := [.int (v8 - v10)]) (sg := [(.isub, 0)]) (lSa_ok dd21) rfl ?_
    exact Y.iret rfl (lIa_ok dd22) h
  refine Y.swC (j := 3) (off := 59) (tgt := 60) (dflt := 67) (lo := 0) (hi := 3) (offs := #[31, 39, 47, 59]) (len := 31) (by decide +kernel) (by decide) (by decide) (by decide) h (fun c14 h => ?_) (fun c14 h => ?_)
  · refine Y.blk (pc' := 62) (L' := [some (.ref a0), some (.ref a1), some (.int a2)]) (st' := [.int (nI 1), .ref a1]) (sg := [(.aload_n 1, 0), (.iconst 1, nI 1)]) (lSa_ok dd23) rfl ?_
    refine Y.iald (t0 := 0) (lIa_ok dd24) rfl h (fun v12 h => ?_)
    refine Y.blk (pc' := 65) (L' := [some (.ref a0), some (.ref a1), some (.int a2)]) (st' := [.int (nI 1), .ref a0, .int v12]) (sg := [(.aload_n 0, 0), (.iconst 1, nI 1)]) (lSa_ok dd25) rfl ?_
    refine Y.iald (t0 := 0) (lIa_ok dd26) rfl h (fun v13 h => ?_)
    refine Y.blk (pc' := 67) (L' := [some (.ref a0), some (.ref a1), some (.int a2)]) (st' := [.int (v12 - v13)]) (sg := [(.isub, 0)]) (lSa_ok dd27) rfl ?_
    exact Y.iret rfl (lIa_ok dd28) h
  refine Y.swOut (dflt := 67) (lo := 0) (hi := 3) (offs := #[31, 39, 47, 59]) (len := 31) (tgt := 68) (by decide +kernel) (by omega) (by decide) ?_
  refine Y.blk (pc' := 70) (L' := [some (.ref a0), some (.ref a1), some (.int a2)]) (st' := [.int (nI 0), .ref a0]) (sg := [(.aload_n 0, 0), (.iconst 0, nI 0)]) (lSa_ok dd29) rfl ?_
  refine Y.iald (t0 := 0) (lIa_ok dd30) rfl h (fun v15 h => ?_)
  refine Y.blk (pc' := 72) (L' := [some (.ref a0), some (.ref a1), some (.int a2)]) (st' := [.int (nI 2), .int v15]) (sg := [(.iconst 2, nI 2)]) (lSa_ok dd31) rfl ?_
  refine Y.irem (lIa_ok dd32) h (fun v16 h => ?_)
  refine Y.blk (pc' := 75) (L' := [some (.ref a0), some (.ref a1), some (.int a2)]) (st' := [.int (nI 0), .ref a1, .int v16]) (sg := [(.aload_n 1, 0), (.iconst 0, nI 0)]) (lSa_ok dd33) rfl ?_
  refine Y.iald (t0 := 0) (lIa_ok dd34) rfl h (fun v17 h => ?_)
  refine Y.blk (pc' := 77) (L' := [some (.ref a0), some (.ref a1), some (.int a2)]) (st' := [.int (nI 2), .int v17, .int v16]) (sg := [(.iconst 2, nI 2)]) (lSa_ok dd35) rfl ?_
  refine Y.irem (lIa_ok dd36) h (fun v18 h => ?_)
  refine Y.ic_ne (off := 13) (tgt := 91) (lIa_ok dd37) (by decide) h (fun c25 h => ?_) (fun c25 h => ?_)
  · refine Y.blk (pc' := 83) (L' := [some (.ref a0), some (.ref a1), some (.int a2)]) (st' := [.int (nI 0), .ref a0]) (sg := [(.aload_n 0, 0), (.iconst 0, nI 0)]) (lSa_ok dd38) rfl ?_
    refine Y.iald (t0 := 0) (lIa_ok dd39) rfl h (fun v19 h => ?_)
    refine Y.blk (pc' := 86) (L' := [some (.ref a0), some (.ref a1), some (.int a2)]) (st' := [.int (nI 0), .ref a1, .int v19]) (sg := [(.aload_n 1, 0), (.iconst 0, nI 0)]) (lSa_ok dd40) rfl ?_
    refine Y.iald (t0 := 0) (lIa_ok dd41) rfl h (fun v20 h => ?_)
    refine Y.blk (pc' := 88) (L' := [some (.ref a0), some (.ref a1), some (.int a2)]) (st' := [.int (v19 - v20)]) (sg := [(.isub, 0)]) (lSa_ok dd42) rfl ?_
    refine Y.goto (off := 14) (tgt := 102) (lIa_ok dd43) (by decide) ?_
    exact Y.iret rfl (lIa_ok dd44) h
  · refine Y.blk (pc' := 93) (L' := [some (.ref a0), some (.ref a1), some (.int a2)]) (st' := [.int (nI 0), .ref a1]) (sg := [(.aload_n 1, 0), (.iconst 0, nI 0)]) (lSa_ok dd45) rfl ?_
    refine Y.iald (t0 := 0) (lIa_ok dd46) rfl h (fun v21 h => ?_)
    refine Y.blk (pc' := 95) (L' := [some (.ref a0), some (.ref a1), some (.int a2)]) (st' := [.int (nI 2), .int v21]) (sg := [(.iconst 2, nI 2)]) (lSa_ok dd47) rfl ?_
    refine Y.irem (lIa_ok dd48) h (fun v22 h => ?_)
    refine Y.blk (pc' := 98) (L' := [some (.ref a0), some (.ref a1), some (.int a2)]) (st' := [.int (nI 0), .ref a0, .int v22]) (sg := [(.aload_n 0, 0), (.iconst 0, nI 0)]) (lSa_ok dd49) rfl ?_
    refine Y.iald (t0 := 0) (lIa_ok dd50) rfl h (fun v23 h => ?_)
    refine Y.blk (pc' := 100) (L' := [some (.ref a0), some (.ref a1), some (.int a2)]) (st' := [.int (nI 2), .int v23, .int v22]) (sg := [(.iconst 2, nI 2)]) (lSa_ok dd51) rfl ?_
    refine Y.irem (lIa_ok dd52) h (fun v24 h => ?_)
    refine Y.blk (pc' := 102) (L' := [some (.ref a0), some (.ref a1), some (.int a2)]) (st' := [.int (v22 - v24)]) (sg := [(.isub, 0)]) (lSa_ok dd53) rfl ?_
    exact Y.iret rfl (lIa_ok dd44) h

def f_M_append (w : Nat → Nat) (G : gH) (a0 : Nat) (a1 : Int32) (a2 : Int32) : gR :=
  gOb G a0 6 fun o2 => bI (f_M_isNoList G a0 a1) fun v5 G4 => if v5 = 0 then (gOb G4 a0 6 fun o7 => bI (f_M_isNoList G4 a0 a2) fun v10 G9 => if v10 = 0 then (gOb G9 a0 6 fun o12 => bI (f_M_start G9 a0 (nI 0) (nI 1)) fun v15 G14 => if v15 = 0 then (gOb G14 a0 6 fun o17 => bI (f_M_rowOf zDp G14 a0 a1) fun v20 G19 => gOb G19 a0 6 fun o22 => bI (f_M_rowOf zDp G19 a0 a2) fun v25 G24 => if v20 = v25 then (gOb G24 a0 6 fun o27 => bI (f_M_refuse G24 a0 (nI 1) (nI 2)) fun v30 G29 => if v30 = 0 then gOb G29 a0 6 fun o32 => bI (f_M_length G29 a0 a1) fun v35 G34 => gOb G34 a0 6 fun o37 => bI (f_M_bring w G34 a0 a1 v35 a2) fun v40 G39 => gOb G39 a0 6 fun o42 => bI (f_M_length G39 a0 a1) fun v45 G44 => rI v45 G44
          else rI (nI 0) G29)
        else gOb G24 a0 6 fun o48 => bI (f_M_length G24 a0 a2) fun v51 G50 => gOb G50 a0 6 fun o53 => bI (f_M_isFull G50 a0 a1 v51) fun v56 G55 => if v56 = 0 then (gOb G55 a0 6 fun o58 => bI (f_M_refuse G55 a0 (nI 0) (nI 2)) fun v61 G60 => if v61 = 0 then gOb G60 a0 6 fun o63 => bI (f_M_length G60 a0 a1) fun v66 G65 => gOb G65 a0 6 fun o68 => bI (f_M_bring w G65 a0 a1 v66 a2) fun v71 G70 => gOb G70 a0 6 fun o73 => bI (f_M_length G70 a0 a1) fun v76 G75 => rI v76 G75
            else rI (nI 0) G60)
          else gOb G55 a0 6 fun o79 => bI (f_M_refuse G55 a0 (nI 1) (nI 2)) fun v82 G81 => if v82 = 0 then gOb G81 a0 6 fun o84 => bI (f_M_length G81 a0 a1) fun v87 G86 => gOb G86 a0 6 fun o89 => bI (f_M_bring w G86 a0 a1 v87 a2) fun v92 G91 => gOb G91 a0 6 fun o94 => bI (f_M_length G91 a0 a1) fun v97 G96 => rI v97 G96
            else rI (nI 0) G81)
      else rI (nI 0) G14)
    else gOb G9 a0 6 fun o103 => bI (f_M_start G9 a0 (nI 1) (nI 1)) fun v106 G105 => if v106 = 0 then (gOb G105 a0 6 fun o108 => bI (f_M_rowOf zDp G105 a0 a1) fun v111 G110 => gOb G110 a0 6 fun o113 => bI (f_M_rowOf zDp G110 a0 a2) fun v116 G115 => if v111 = v116 then (gOb G115 a0 6 fun o118 => bI (f_M_refuse G115 a0 (nI 1) (nI 2)) fun v121 G120 => if v121 = 0 then gOb G120 a0 6 fun o123 => bI (f_M_length G120 a0 a1) fun v126 G125 => gOb G125 a0 6 fun o128 => bI (f_M_bring w G125 a0 a1 v126 a2) fun v131 G130 => gOb G130 a0 6 fun o133 => bI (f_M_length G130 a0 a1) fun v136 G135 => rI v136 G135
          else rI (nI 0) G120)
        else gOb G115 a0 6 fun o139 => bI (f_M_length G115 a0 a2) fun v142 G141 => gOb G141 a0 6 fun o144 => bI (f_M_isFull G141 a0 a1 v142) fun v147 G146 => if v147 = 0 then (gOb G146 a0 6 fun o149 => bI (f_M_refuse G146 a0 (nI 0) (nI 2)) fun v152 G151 => if v152 = 0 then gOb G151 a0 6 fun o154 => bI (f_M_length G151 a0 a1) fun v157 G156 => gOb G156 a0 6 fun o159 => bI (f_M_bring w G156 a0 a1 v157 a2) fun v162 G161 => gOb G161 a0 6 fun o164 => bI (f_M_length G161 a0 a1) fun v167 G166 => rI v167 G166
            else rI (nI 0) G151)
          else gOb G146 a0 6 fun o170 => bI (f_M_refuse G146 a0 (nI 1) (nI 2)) fun v173 G172 => if v173 = 0 then gOb G172 a0 6 fun o175 => bI (f_M_length G172 a0 a1) fun v178 G177 => gOb G177 a0 6 fun o180 => bI (f_M_bring w G177 a0 a1 v178 a2) fun v183 G182 => gOb G182 a0 6 fun o185 => bI (f_M_length G182 a0 a1) fun v188 G187 => rI v188 G187
            else rI (nI 0) G172)
      else rI (nI 0) G105)
  else gOb G4 a0 6 fun o195 => bI (f_M_start G4 a0 (nI 1) (nI 1)) fun v198 G197 => if v198 = 0 then (gOb G197 a0 6 fun o200 => bI (f_M_rowOf zDp G197 a0 a1) fun v203 G202 => gOb G202 a0 6 fun o205 => bI (f_M_rowOf zDp G202 a0 a2) fun v208 G207 => if v203 = v208 then (gOb G207 a0 6 fun o210 => bI (f_M_refuse G207 a0 (nI 1) (nI 2)) fun v213 G212 => if v213 = 0 then gOb G212 a0 6 fun o215 => bI (f_M_length G212 a0 a1) fun v218 G217 => gOb G217 a0 6 fun o220 => bI (f_M_bring w G217 a0 a1 v218 a2) fun v223 G222 => gOb G222 a0 6 fun o225 => bI (f_M_length G222 a0 a1) fun v228 G227 => rI v228 G227
        else rI (nI 0) G212)
      else gOb G207 a0 6 fun o231 => bI (f_M_length G207 a0 a2) fun v234 G233 => gOb G233 a0 6 fun o236 => bI (f_M_isFull G233 a0 a1 v234) fun v239 G238 => if v239 = 0 then (gOb G238 a0 6 fun o241 => bI (f_M_refuse G238 a0 (nI 0) (nI 2)) fun v244 G243 => if v244 = 0 then gOb G243 a0 6 fun o246 => bI (f_M_length G243 a0 a1) fun v249 G248 => gOb G248 a0 6 fun o251 => bI (f_M_bring w G248 a0 a1 v249 a2) fun v254 G253 => gOb G253 a0 6 fun o256 => bI (f_M_length G253 a0 a1) fun v259 G258 => rI v259 G258
          else rI (nI 0) G243)
        else gOb G238 a0 6 fun o262 => bI (f_M_refuse G238 a0 (nI 1) (nI 2)) fun v265 G264 => if v265 = 0 then gOb G264 a0 6 fun o267 => bI (f_M_length G264 a0 a1) fun v270 G269 => gOb G269 a0 6 fun o272 => bI (f_M_bring w G269 a0 a1 v270 a2) fun v275 G274 => gOb G274 a0 6 fun o277 => bI (f_M_length G274 a0 a1) fun v280 G279 => rI v280 G279
          else rI (nI 0) G264)
    else rI (nI 0) G197
theorem k_M_append {l : Launch} {D : va_G} {B : Nat} {O : State → Heap → Prop} {w : Nat → Nat} (hV : zGw l D B O w) (G : gH) (a0 : Nat) (a1 : Int32) (a2 : Int32) : gMet (zVm l D B O) m_M_append 15 [.ref a0, .int a1, .int a2] G (f_M_append w G a0 a1 a2) := by
  have hdd : lSa m_M_append 0 [(.aload_n 0, 0), (.aload_n 0, 0), (.iload_n 1, 0)] = true ∧ lIa m_M_append 3 (.invokevirtual 110) 3 = true ∧ lIa m_M_append 6 (.ifCond .ne 11) 3 = true ∧ lSa m_M_append 9 [(.aload_n 0, 0), (.iload_n 2, 0)] = true ∧ lIa m_M_append 11 (.invokevirtual 110) 3 = true ∧ lIa m_M_append 14 (.ifCond .eq 7) 3 = true ∧ lSa m_M_append 21 [(.iconst 0, nI 0), (.iconst 1, nI 1)] = true ∧ lIa m_M_append 23 (.invokevirtual 114) 3 = true ∧ lIa m_M_append 26 (.ifCond .ne 42) 3 = true ∧ lSa m_M_append 29 [(.aload_n 0, 0), (.aload_n 0, 0), (.iload_n 1, 0)] = true ∧ lIa m_M_append 32 (.invokevirtual 47) 3 = true ∧ lSa m_M_append 35 [(.aload_n 0, 0), (.iload_n 2, 0)] = true ∧ lIa m_M_append 37 (.invokevirtual 47) 3 = true ∧ lIa m_M_append 40 (.if_icmp .eq 16) 3 = true ∧ lSa m_M_append 56 [(.iconst 1, nI 1)] = true ∧ lIa m_M_append 57 (.goto 4) 3 = true ∧ lSa m_M_append 61 [(.iconst 2, nI 2)] = true ∧ lIa m_M_append 62 (.invokevirtual 36) 3 = true ∧ lIa m_M_append 65 (.ifCond .eq 5) 3 = true ∧ lSa m_M_append 70 [(.aload_n 0, 0), (.iload_n 1, 0), (.aload_n 0, 0), (.iload_n 1, 0)] = true ∧ lIa m_M_append 74 (.invokevirtual 74) 3 = true ∧ lSa m_M_append 77 [(.iload_n 2, 0)] = true ∧ lIa m_M_append 78 (.invokevirtual 139) 3 = true ∧ lSa m_M_append 81 [(.pop, 0), (.aload_n 0, 0), (.iload_n 1, 0)] = true ∧ lIa m_M_append 84 (.invokevirtual 74) 3 = true ∧ lIa m_M_append 87 (.ireturn) 1 = true ∧ lSa m_M_append 68 [(.iconst 0, nI 0)] = true ∧ lIa m_M_append 69 (.ireturn) 1 = true ∧ lSa m_M_append 43 [(.aload_n 0, 0), (.iload_n 1, 0), (.aload_n 0, 0), (.iload_n 2, 0)] = true ∧ lIa m_M_append 47 (.invokevirtual 74) 3 = true ∧ lIa m_M_append 50 (.invokevirtual 117) 3 = true ∧ lIa m_M_append 53 (.ifCond .eq 7) 3 = true ∧ lSa m_M_append 60 [(.iconst 0, nI 0), (.iconst 2, nI 2)] = true ∧ lSa m_M_append 17 [(.iconst 1, nI 1)] = true ∧ lIa m_M_append 18 (.goto 4) 3 = true ∧ lSa m_M_append 22 [(.iconst 1, nI 1)] = true := by decide +kernel
  refine lA8 hdd (fun dd0 dd1 dd2 dd3 dd4 dd5 dd6 dd7 hdd => ?_)
  refine lA8 hdd (fun dd8 dd9 dd10 dd11 dd12 dd13 dd14 dd15 hdd => ?_)
  refine lA8 hdd (fun dd16 dd17 dd18 dd19 dd20 dd21 dd22 dd23 hdd => ?_)
  refine lA8 hdd (fun dd24 dd25 dd26 dd27 dd28 dd29 dd30 dd31 hdd => ?_)
  obtain ⟨dd32, dd33, dd34, dd35⟩ := hdd
  refine gMet.of (by decide +kernel) (Nat.le_of_ble_eq_true rfl) [some (.ref a0), some (.int a1), some (.int a2)] (fun ls h => zEn_ok (n := 3) h) ?_
  intro o Gf h
  unfold f_M_append at h
  refine Y.blk (pc' := 3) (L' := [some (.ref a0), some (.int a1), some (.int a2)]) (st' := [.int a1, .ref a0, .ref a0]) (sg := [(.aload_n 0, 0), (.aload_n 0, 0), (.iload_n 1, 0)]) (lSa_ok dd0) rfl ?_
  obtain ⟨_, o2, e1, m3, h⟩ := gOb_inv h
  refine Y.callI (yC.Vi (b := a0) (As := [.int a1]) (st := [.ref a0]) (r := ("PartlisterModel", T_M, 9)) hV.1.1 cb_M_isNoList lk_M_110 in_M_isNoList rfl se_M_isNoList (lIa_ok dd1) rfl rfl (Nat.le_of_ble_eq_true rfl) (by decide) e1 m3) (k_M_isNoList hV.1 G a0 a1) h (fun v5 G4 _ h => ?_)
  refine Y.if_ne (off := 11) (tgt := 17) (lIa_ok dd2) (by decide) h (fun c285 h => ?_) (fun c285 h => ?_)
  · refine Y.blk (pc' := 11) (L' := [some (.ref a0), some (.int a1), some (.int a2)]) (st' := [.int a2, .ref a0, .ref a0]) (sg := [(.aload_n 0, 0), (.iload_n 2, 0)]) (lSa_ok dd3) rfl ?_
    obtain ⟨_, o7, e6, m8, h⟩ := gOb_inv h
    refine Y.callI (yC.Vi (b := a0) (As := [.int a2]) (st := [.ref a0]) (r := ("PartlisterModel", T_M, 9)) hV.1.1 cb_M_isNoList lk_M_110 in_M_isNoList rfl se_M_isNoList (lIa_ok dd4) rfl rfl (Nat.le_of_ble_eq_true rfl) (by decide) e6 m8) (k_M_isNoList hV.1 G4 a0 a2) h (fun v10 G9 _ h => ?_)
    refine Y.if_eq (off := 7) (tgt := 21) (lIa_ok dd5) (by decide) h (fun c193 h => ?_) (fun c193 h => ?_)
    · refine Y.blk (pc' := 23) (L' := [some (.ref a0), some (.int a1), some (.int a2)]) (st' := [.int (nI 1), .int (nI 0), .ref a0]) (sg := [(.iconst 0, nI 0), (.iconst 1, nI 1)]) (lSa_ok dd6) rfl ?_
      obtain ⟨_, o12, e11, m13, h⟩ := gOb_inv h
      refine Y.callI (yC.Vi (b := a0) (As := [.int (nI 0), .int (nI 1)]) (st := []) (r := ("PartlisterModel", T_M, 9)) hV.1.1 cb_M_start lk_M_114 in_M_start rfl se_M_start (lIa_ok dd7) rfl rfl (Nat.le_of_ble_eq_true rfl) (by decide) e11 m13) (k_M_start hV.1 G9 a0 (nI 0) (nI 1)) h (fun v15 G14 _ h => ?_)
      refine Y.if_ne (off := 42) (tgt := 68) (lIa_ok dd8) (by decide) h (fun c101 h => ?_) (fun c101 h => ?_)
      · refine Y.blk (pc' := 32) (L' := [some (.ref a0), some (.int a1), some (.int a2)]) (st' := [.int a1, .ref a0, .ref a0]) (sg := [(.aload_n 0, 0), (.aload_n 0, 0), (.iload_n 1, 0)]) (lSa_ok dd9) rfl ?_
        obtain ⟨_, o17, e16, m18, h⟩ := gOb_inv h
        refine Y.callI (yC.Vi (b := a0) (As := [.int a1]) (st := [.ref a0]) (r := ("PartlisterModel", T_M, 9)) hV.1.1 cb_M_rowOf lk_M_47 in_M_rowOf rfl se_M_rowOf (lIa_ok dd10) rfl rfl (Nat.le_of_ble_eq_true rfl) (by decide) e16 m18) (k_M_rowOf zDp hV.1 G14 a0 a1) h (fun v20 G19 _ h => ?_)
        refine Y.blk (pc' := 37) (L' := [some (.ref a0), some (.int a1), some (.int a2)]) (st' := [.int a2, .ref a0, .int v20, .ref a0]) (sg := [(.aload_n 0, 0), (.iload_n 2, 0)]) (lSa_ok dd11) rfl ?_
        obtain ⟨_, o22, e21, m23, h⟩ := gOb_inv h
        refine Y.callI (yC.Vi (b := a0) (As := [.int a2]) (st := [.int v20, .ref a0]) (r := ("PartlisterModel", T_M, 9)) hV.1.1 cb_M_rowOf lk_M_47 in_M_rowOf rfl se_M_rowOf (lIa_ok dd12) rfl rfl (Nat.le_of_ble_eq_true rfl) (by decide) e21 m23) (k_M_rowOf zDp hV.1 G19 a0 a2) h (fun v25 G24 _ h => ?_)
        refine Y.ic_eq (off := 16) (tgt := 56) (lIa_ok dd13) (by decide) h (fun c100 h => ?_) (fun c100 h => ?_)
        · refine Y.blk (pc' := 57) (L' := [some (.ref a0), some (.int a1), some (.int a2)]) (st' := [.int (nI 1), .ref a0]) (sg := [(.iconst 1, nI 1)]) (lSa_ok dd14) rfl ?_
          refine Y.goto (off := 4) (tgt := 61) (lIa_ok dd15) (by decide) ?_
          refine Y.blk (pc' := 62) (L' := [some (.ref a0), some (.int a1), some (.int a2)]) (st' := [.int (nI 2), .int (nI 1), .ref a0]) (sg := [(.iconst 2, nI 2)]) (lSa_ok dd16) rfl ?_
          obtain ⟨_, o27, e26, m28, h⟩ := gOb_inv h
          refine Y.callI (yC.Vi (b := a0) (As := [.int (nI 1), .int (nI 2)]) (st := []) (r := ("PartlisterModel", T_M, 9)) hV.1.1 cb_M_refuse lk_M_36 in_M_refuse rfl se_M_refuse (lIa_ok dd17) rfl rfl (Nat.le_of_ble_eq_true rfl) (by decide) e26 m28) (k_M_refuse hV.1 G24 a0 (nI 1) (nI 2)) h (fun v30 G29 _ h => ?_)
          refine Y.if_eq (off := 5) (tgt := 70) (lIa_ok dd18) (by decide) h (fun c46 h => ?_) (fun c46 h => ?_)
          · refine Y.blk (pc' := 74) (L' := [some (.ref a0), some (.int a1), some (.int a2)]) (st' := [.int a1, .ref a0, .int a1, .ref a0]) (sg := [(.aload_n 0, 0), (.iload_n 1, 0), (.aload_n 0, 0), (.iload_n 1, 0)]) (lSa_ok dd19) rfl ?_
            obtain ⟨_, o32, e31, m33, h⟩ := gOb_inv h
            refine Y.callI (yC.Vi (b := a0) (As := [.int a1]) (st := [.int a1, .ref a0]) (r := ("PartlisterModel", T_M, 9)) hV.1.1 cb_M_length lk_M_74 in_M_length rfl se_M_length (lIa_ok dd20) rfl rfl (Nat.le_of_ble_eq_true rfl) (by decide) e31 m33) (k_M_length hV.1 G29 a0 a1) h (fun v35 G34 _ h => ?_)
            refine Y.blk (pc' := 78) (L' := [some (.ref a0), some (.int a1), some (.int a2)]) (st' := [.int a2, .int v35, .int a1, .ref a0]) (sg := [(.iload_n 2, 0)]) (lSa_ok dd21) rfl ?_
            obtain ⟨_, o37, e36, m38, h⟩ := gOb_inv h
            refine Y.callI (yC.Vi (b := a0) (As := [.int a1, .int v35, .int a2]) (st := []) (r := ("PartlisterModel", T_M, 9)) hV.1.1 cb_M_bring lk_M_139 in_M_bring rfl se_M_bring (lIa_ok dd22) rfl rfl (Nat.le_of_ble_eq_true rfl) (by decide) e36 m38) (k_M_bring hV G34 a0 a1 v35 a2) h (fun v40 G39 _ h => ?_)
            refine Y.blk (pc' := 84) (L' := [some (.ref a0), some (.int a1), some (.int a2)]) (st' := [.int a1, .ref a0]) (sg := [(.pop, 0), (.aload_n 0, 0), (.iload_n 1, 0)]) (lSa_ok dd23) rfl ?_
            obtain ⟨_, o42, e41, m43, h⟩ := gOb_inv h
            refine Y.callI (yC.Vi (b := a0) (As := [.int a1]) (st := []) (r := ("PartlisterModel", T_M, 9)) hV.1.1 cb_M_length lk_M_74 in_M_length rfl se_M_length (lIa_ok dd24) rfl rfl (Nat.le_of_ble_eq_true rfl) (by decide) e41 m43) (k_M_length hV.1 G39 a0 a1) h (fun v45 G44 _ h => ?_)
            exact Y.iret rfl (lIa_ok dd25) h
          · refine Y.blk (pc' := 69) (L' := [some (.ref a0), some (.int a1), some (.int a2)]) (st' := [.int (nI 0)]) (sg := [(.iconst 0, nI 0)]) (lSa_ok dd26) rfl ?_
            exact Y.iret rfl (lIa_ok dd27) h
        · refine Y.blk (pc' := 47) (L' := [some (.ref a0), some (.int a1), some (.int a2)]) (st' := [.int a2, .ref a0, .int a1, .ref a0, .ref a0]) (sg := [(.aload_n 0, 0), (.iload_n 1, 0), (.aload_n 0, 0), (.iload_n 2, 0)]) (lSa_ok dd28) rfl ?_
          obtain ⟨_, o48, e47, m49, h⟩ := gOb_inv h
          refine Y.callI (yC.Vi (b := a0) (As := [.int a2]) (st := [.int a1, .ref a0, .ref a0]) (r := ("PartlisterModel", T_M, 9)) hV.1.1 cb_M_length lk_M_74 in_M_length rfl se_M_length (lIa_ok dd29) rfl rfl (Nat.le_of_ble_eq_true rfl) (by decide) e47 m49) (k_M_length hV.1 G24 a0 a2) h (fun v51 G50 _ h => ?_)
          obtain ⟨_, o53, e52, m54, h⟩ := gOb_inv h
          refine Y.callI (yC.Vi (b := a0) (As := [.int a1, .int v51]) (st := [.ref a0]) (r := ("PartlisterModel", T_M, 9)) hV.1.1 cb_M_isFull lk_M_117 in_M_isFull rfl se_M_isFull (lIa_ok dd30) rfl rfl (Nat.le_of_ble_eq_true rfl) (by decide) e52 m54) (k_M_isFull hV.1 G50 a0 a1 v51) h (fun v56 G55 _ h => ?_)
          refine Y.if_eq (off := 7) (tgt := 60) (lIa_ok dd31) (by decide) h (fun c99 h => ?_) (fun c99 h => ?_)
          · refine Y.blk (pc' := 62) (L' := [some (.ref a0), some (.int a1), some (.int a2)]) (st' := [.int (nI 2), .int (nI 0), .ref a0]) (sg := [(.iconst 0, nI 0), (.iconst 2, nI 2)]) (lSa_ok dd32) rfl ?_
            obtain ⟨_, o58, e57, m59, h⟩ := gOb_inv h
            refine Y.callI (yC.Vi (b := a0) (As := [.int (nI 0), .int (nI 2)]) (st := []) (r := ("PartlisterModel", T_M, 9)) hV.1.1 cb_M_refuse lk_M_36 in_M_refuse rfl se_M_refuse (lIa_ok dd17) rfl rfl (Nat.le_of_ble_eq_true rfl) (by decide) e57 m59) (k_M_refuse hV.1 G55 a0 (nI 0) (nI 2)) h (fun v61 G60 _ h => ?_)
            refine Y.if_eq (off := 5) (tgt := 70) (lIa_ok dd18) (by decide) h (fun c77 h => ?_) (fun c77 h => ?_)
            · refine Y.blk (pc' := 74) (L' := [some (.ref a0), some (.int a1), some (.int a2)]) (st' := [.int a1, .ref a0, .int a1, .ref a0]) (sg := [(.aload_n 0, 0), (.iload_n 1, 0), (.aload_n 0, 0), (.iload_n 1, 0)]) (lSa_ok dd19) rfl ?_
              obtain ⟨_, o63, e62, m64, h⟩ := gOb_inv h
              refine Y.callI (yC.Vi (b := a0) (As := [.int a1]) (st := [.int a1, .ref a0]) (r := ("PartlisterModel", T_M, 9)) hV.1.1 cb_M_length lk_M_74 in_M_length rfl se_M_length (lIa_ok dd20) rfl rfl (Nat.le_of_ble_eq_true rfl) (by decide) e62 m64) (k_M_length hV.1 G60 a0 a1) h (fun v66 G65 _ h => ?_)
              refine Y.blk (pc' := 78) (L' := [some (.ref a0), some (.int a1), some (.int a2)]) (st' := [.int a2, .int v66, .int a1, .ref a0]) (sg := [(.iload_n 2, 0)]) (lSa_ok dd21) rfl ?_
              obtain ⟨_, o68, e67, m69, h⟩ := gOb_inv h
              refine Y.callI (yC.Vi (b := a0) (As := [.int a1, .int v66, .int a2]) (st := []) (r := ("PartlisterModel", T_M, 9)) hV.1.1 cb_M_bring lk_M_139 in_M_bring rfl se_M_bring (lIa_ok dd22) rfl rfl (Nat.le_of_ble_eq_true rfl) (by decide) e67 m69) (k_M_bring hV G65 a0 a1 v66 a2) h (fun v71 G70 _ h => ?_)
              refine Y.blk (pc' := 84) (L' := [some (.ref a0), some (.int a1), some (.int a2)]) (st' := [.int a1, .ref a0]) (sg := [(.pop, 0), (.aload_n 0, 0), (.iload_n 1, 0)]) (lSa_ok dd23) rfl ?_
              obtain ⟨_, o73, e72, m74, h⟩ := gOb_inv h
              refine Y.callI (yC.Vi (b := a0) (As := [.int a1]) (st := []) (r := ("PartlisterModel", T_M, 9)) hV.1.1 cb_M_length lk_M_74 in_M_length rfl se_M_length (lIa_ok dd24) rfl rfl (Nat.le_of_ble_eq_true rfl) (by decide) e72 m74) (k_M_length hV.1 G70 a0 a1) h (fun v76 G75 _ h => ?_)
              exact Y.iret rfl (lIa_ok dd25) h
            · refine Y.blk (pc' := 69) (L' := [some (.ref a0), some (.int a1), some (.int a2)]) (st' := [.int (nI 0)]) (sg := [(.iconst 0, nI 0)]) (lSa_ok dd26) rfl ?_
              exact Y.iret rfl (lIa_ok dd27) h
          · refine Y.blk (pc' := 57) (L' := [some (.ref a0), some (.int a1), some (.int a2)]) (st' := [.int (nI 1), .ref a0]) (sg := [(.iconst 1, nI 1)]) (lSa_ok dd14) rfl ?_
            refine Y.goto (off := 4) (tgt := 61) (lIa_ok dd15) (by decide) ?_
            refine Y.blk (pc' := 62) (L' := [some (.ref a0), some (.int a1), some (.int a2)]) (st' := [.int (nI 2), .int (nI 1), .ref a0]) (sg := [(.iconst 2, nI 2)]) (lSa_ok dd16) rfl ?_
            obtain ⟨_, o79, e78, m80, h⟩ := gOb_inv h
            refine Y.callI (yC.Vi (b := a0) (As := [.int (nI 1), .int (nI 2)]) (st := []) (r := ("PartlisterModel", T_M, 9)) hV.1.1 cb_M_refuse lk_M_36 in_M_refuse rfl se_M_refuse (lIa_ok dd17) rfl rfl (Nat.le_of_ble_eq_true rfl) (by decide) e78 m80) (k_M_refuse hV.1 G55 a0 (nI 1) (nI 2)) h (fun v82 G81 _ h => ?_)
            refine Y.if_eq (off := 5) (tgt := 70) (lIa_ok dd18) (by decide) h (fun c98 h => ?_) (fun c98 h => ?_)
            · refine Y.blk (pc' := 74) (L' := [some (.ref a0), some (.int a1), some (.int a2)]) (st' := [.int a1, .ref a0, .int a1, .ref a0]) (sg := [(.aload_n 0, 0), (.iload_n 1, 0), (.aload_n 0, 0), (.iload_n 1, 0)]) (lSa_ok dd19) rfl ?_
              obtain ⟨_, o84, e83, m85, h⟩ := gOb_inv h
              refine Y.callI (yC.Vi (b := a0) (As := [.int a1]) (st := [.int a1, .ref a0]) (r := ("PartlisterModel", T_M, 9)) hV.1.1 cb_M_length lk_M_74 in_M_length rfl se_M_length (lIa_ok dd20) rfl rfl (Nat.le_of_ble_eq_true rfl) (by decide) e83 m85) (k_M_length hV.1 G81 a0 a1) h (fun v87 G86 _ h => ?_)
              refine Y.blk (pc' := 78) (L' := [some (.ref a0), some (.int a1), some (.int a2)]) (st' := [.int a2, .int v87, .int a1, .ref a0]) (sg := [(.iload_n 2, 0)]) (lSa_ok dd21) rfl ?_
              obtain ⟨_, o89, e88, m90, h⟩ := gOb_inv h
              refine Y.callI (yC.Vi (b := a0) (As := [.int a1, .int v87, .int a2]) (st := []) (r := ("PartlisterModel", T_M, 9)) hV.1.1 cb_M_bring lk_M_139 in_M_bring rfl se_M_bring (lIa_ok dd22) rfl rfl (Nat.le_of_ble_eq_true rfl) (by decide) e88 m90) (k_M_bring hV G86 a0 a1 v87 a2) h (fun v92 G91 _ h => ?_)
              refine Y.blk (pc' := 84) (L' := [some (.ref a0), some (.int a1), some (.int a2)]) (st' := [.int a1, .ref a0]) (sg := [(.pop, 0), (.aload_n 0, 0), (.iload_n 1, 0)]) (lSa_ok dd23) rfl ?_
              obtain ⟨_, o94, e93, m95, h⟩ := gOb_inv h
              refine Y.callI (yC.Vi (b := a0) (As := [.int a1]) (st := []) (r := ("PartlisterModel", T_M, 9)) hV.1.1 cb_M_length lk_M_74 in_M_length rfl se_M_length (lIa_ok dd24) rfl rfl (Nat.le_of_ble_eq_true rfl) (by decide) e93 m95) (k_M_length hV.1 G91 a0 a1) h (fun v97 G96 _ h => ?_)
              exact Y.iret rfl (lIa_ok dd25) h
            · refine Y.blk (pc' := 69) (L' := [some (.ref a0), some (.int a1), some (.int a2)]) (st' := [.int (nI 0)]) (sg := [(.iconst 0, nI 0)]) (lSa_ok dd26) rfl ?_
              exact Y.iret rfl (lIa_ok dd27) h
      · refine Y.blk (pc' := 69) (L' := [some (.ref a0), some (.int a1), some (.int a2)]) (st' := [.int (nI 0)]) (sg := [(.iconst 0, nI 0)]) (lSa_ok dd26) rfl ?_
        exact Y.iret rfl (lIa_ok dd27) h
    · refine Y.blk (pc' := 18) (L' := [some (.ref a0), some (.int a1), some (.int a2)]) (st' := [.int (nI 1), .ref a0]) (sg := [(.iconst 1, nI 1)]) (lSa_ok dd33) rfl ?_
      refine Y.goto (off := 4) (tgt := 22) (lIa_ok dd34) (by decide) ?_
      refine Y.blk (pc' := 23) (L' := [some (.ref a0), some (.int a1), some (.int a2)]) (st' := [.int (nI 1), .int (nI 1), .ref a0]) (sg := [(.iconst 1, nI 1)]) (lSa_ok dd35) rfl ?_
      obtain ⟨_, o103, e102, m104, h⟩ := gOb_inv h
      refine Y.callI (yC.Vi (b := a0) (As := [.int (nI 1), .int (nI 1)]) (st := []) (r := ("PartlisterModel", T_M, 9)) hV.1.1 cb_M_start lk_M_114 in_M_start rfl se_M_start (lIa_ok dd7) rfl rfl (Nat.le_of_ble_eq_true rfl) (by decide) e102 m104) (k_M_start hV.1 G9 a0 (nI 1) (nI 1)) h (fun v106 G105 _ h => ?_)
      refine Y.if_ne (off := 42) (tgt := 68) (lIa_ok dd8) (by decide) h (fun c192 h => ?_) (fun c192 h => ?_)
      · refine Y.blk (pc' := 32) (L' := [some (.ref a0), some (.int a1), some (.int a2)]) (st' := [.int a1, .ref a0, .ref a0]) (sg := [(.aload_n 0, 0), (.aload_n 0, 0), (.iload_n 1, 0)]) (lSa_ok dd9) rfl ?_
        obtain ⟨_, o108, e107, m109, h⟩ := gOb_inv h
        refine Y.callI (yC.Vi (b := a0) (As := [.int a1]) (st := [.ref a0]) (r := ("PartlisterModel", T_M, 9)) hV.1.1 cb_M_rowOf lk_M_47 in_M_rowOf rfl se_M_rowOf (lIa_ok dd10) rfl rfl (Nat.le_of_ble_eq_true rfl) (by decide) e107 m109) (k_M_rowOf zDp hV.1 G105 a0 a1) h (fun v111 G110 _ h => ?_)
        refine Y.blk (pc' := 37) (L' := [some (.ref a0), some (.int a1), some (.int a2)]) (st' := [.int a2, .ref a0, .int v111, .ref a0]) (sg := [(.aload_n 0, 0), (.iload_n 2, 0)]) (lSa_ok dd11) rfl ?_
        obtain ⟨_, o113, e112, m114, h⟩ := gOb_inv h
        refine Y.callI (yC.Vi (b := a0) (As := [.int a2]) (st := [.int v111, .ref a0]) (r := ("PartlisterModel", T_M, 9)) hV.1.1 cb_M_rowOf lk_M_47 in_M_rowOf rfl se_M_rowOf (lIa_ok dd12) rfl rfl (Nat.le_of_ble_eq_true rfl) (by decide) e112 m114) (k_M_rowOf zDp hV.1 G110 a0 a2) h (fun v116 G115 _ h => ?_)
        refine Y.ic_eq (off := 16) (tgt := 56) (lIa_ok dd13) (by decide) h (fun c191 h => ?_) (fun c191 h => ?_)
        · refine Y.blk (pc' := 57) (L' := [some (.ref a0), some (.int a1), some (.int a2)]) (st' := [.int (nI 1), .ref a0]) (sg := [(.iconst 1, nI 1)]) (lSa_ok dd14) rfl ?_
          refine Y.goto (off := 4) (tgt := 61) (lIa_ok dd15) (by decide) ?_
          refine Y.blk (pc' := 62) (L' := [some (.ref a0), some (.int a1), some (.int a2)]) (st' := [.int (nI 2), .int (nI 1), .ref a0]) (sg := [(.iconst 2, nI 2)]) (lSa_ok dd16) rfl ?_
          obtain ⟨_, o118, e117, m119, h⟩ := gOb_inv h
          refine Y.callI (yC.Vi (b := a0) (As := [.int (nI 1), .int (nI 2)]) (st := []) (r := ("PartlisterModel", T_M, 9)) hV.1.1 cb_M_refuse lk_M_36 in_M_refuse rfl se_M_refuse (lIa_ok dd17) rfl rfl (Nat.le_of_ble_eq_true rfl) (by decide) e117 m119) (k_M_refuse hV.1 G115 a0 (nI 1) (nI 2)) h (fun v121 G120 _ h => ?_)
          refine Y.if_eq (off := 5) (tgt := 70) (lIa_ok dd18) (by decide) h (fun c137 h => ?_) (fun c137 h => ?_)
          · refine Y.blk (pc' := 74) (L' := [some (.ref a0), some (.int a1), some (.int a2)]) (st' := [.int a1, .ref a0, .int a1, .ref a0]) (sg := [(.aload_n 0, 0), (.iload_n 1, 0), (.aload_n 0, 0), (.iload_n 1, 0)]) (lSa_ok dd19) rfl ?_
            obtain ⟨_, o123, e122, m124, h⟩ := gOb_inv h
            refine Y.callI (yC.Vi (b := a0) (As := [.int a1]) (st := [.int a1, .ref a0]) (r := ("PartlisterModel", T_M, 9)) hV.1.1 cb_M_length lk_M_74 in_M_length rfl se_M_length (lIa_ok dd20) rfl rfl (Nat.le_of_ble_eq_true rfl) (by decide) e122 m124) (k_M_length hV.1 G120 a0 a1) h (fun v126 G125 _ h => ?_)
            refine Y.blk (pc' := 78) (L' := [some (.ref a0), some (.int a1), some (.int a2)]) (st' := [.int a2, .int v126, .int a1, .ref a0]) (sg := [(.iload_n 2, 0)]) (lSa_ok dd21) rfl ?_
            obtain ⟨_, o128, e127, m129, h⟩ := gOb_inv h
            refine Y.callI (yC.Vi (b := a0) (As := [.int a1, .int v126, .int a2]) (st := []) (r := ("PartlisterModel", T_M, 9)) hV.1.1 cb_M_bring lk_M_139 in_M_bring rfl se_M_bring (lIa_ok dd22) rfl rfl (Nat.le_of_ble_eq_true rfl) (by decide) e127 m129) (k_M_bring hV G125 a0 a1 v126 a2) h (fun v131 G130 _ h => ?_)
            refine Y.blk (pc' := 84) (L' := [some (.ref a0), some (.int a1), some (.int a2)]) (st' := [.int a1, .ref a0]) (sg := [(.pop, 0), (.aload_n 0, 0), (.iload_n 1, 0)]) (lSa_ok dd23) rfl ?_
            obtain ⟨_, o133, e132, m134, h⟩ := gOb_inv h
            refine Y.callI (yC.Vi (b := a0) (As := [.int a1]) (st := []) (r := ("PartlisterModel", T_M, 9)) hV.1.1 cb_M_length lk_M_74 in_M_length rfl se_M_length (lIa_ok dd24) rfl rfl (Nat.le_of_ble_eq_true rfl) (by decide) e132 m134) (k_M_length hV.1 G130 a0 a1) h (fun v136 G135 _ h => ?_)
            exact Y.iret rfl (lIa_ok dd25) h
          · refine Y.blk (pc' := 69) (L' := [some (.ref a0), some (.int a1), some (.int a2)]) (st' := [.int (nI 0)]) (sg := [(.iconst 0, nI 0)]) (lSa_ok dd26) rfl ?_
            exact Y.iret rfl (lIa_ok dd27) h
        · refine Y.blk (pc' := 47) (L' := [some (.ref a0), some (.int a1), some (.int a2)]) (st' := [.int a2, .ref a0, .int a1, .ref a0, .ref a0]) (sg := [(.aload_n 0, 0), (.iload_n 1, 0), (.aload_n 0, 0), (.iload_n 2, 0)]) (lSa_ok dd28) rfl ?_
          obtain ⟨_, o139, e138, m140, h⟩ := gOb_inv h
          refine Y.callI (yC.Vi (b := a0) (As := [.int a2]) (st := [.int a1, .ref a0, .ref a0]) (r := ("PartlisterModel", T_M, 9)) hV.1.1 cb_M_length lk_M_74 in_M_length rfl se_M_length (lIa_ok dd29) rfl rfl (Nat.le_of_ble_eq_true rfl) (by decide) e138 m140) (k_M_length hV.1 G115 a0 a2) h (fun v142 G141 _ h => ?_)
          obtain ⟨_, o144, e143, m145, h⟩ := gOb_inv h
          refine Y.callI (yC.Vi (b := a0) (As := [.int a1, .int v142]) (st := [.ref a0]) (r := ("PartlisterModel", T_M, 9)) hV.1.1 cb_M_isFull lk_M_117 in_M_isFull rfl se_M_isFull (lIa_ok dd30) rfl rfl (Nat.le_of_ble_eq_true rfl) (by decide) e143 m145) (k_M_isFull hV.1 G141 a0 a1 v142) h (fun v147 G146 _ h => ?_)
          refine Y.if_eq (off := 7) (tgt := 60) (lIa_ok dd31) (by decide) h (fun c190 h => ?_) (fun c190 h => ?_)
          · refine Y.blk (pc' := 62) (L' := [some (.ref a0), some (.int a1), some (.int a2)]) (st' := [.int (nI 2), .int (nI 0), .ref a0]) (sg := [(.iconst 0, nI 0), (.iconst 2, nI 2)]) (lSa_ok dd32) rfl ?_
            obtain ⟨_, o149, e148, m150, h⟩ := gOb_inv h
            refine Y.callI (yC.Vi (b := a0) (As := [.int (nI 0), .int (nI 2)]) (st := []) (r := ("PartlisterModel", T_M, 9)) hV.1.1 cb_M_refuse lk_M_36 in_M_refuse rfl se_M_refuse (lIa_ok dd17) rfl rfl (Nat.le_of_ble_eq_true rfl) (by decide) e148 m150) (k_M_refuse hV.1 G146 a0 (nI 0) (nI 2)) h (fun v152 G151 _ h => ?_)
            refine Y.if_eq (off := 5) (tgt := 70) (lIa_ok dd18) (by decide) h (fun c168 h => ?_) (fun c168 h => ?_)
            · refine Y.blk (pc' := 74) (L' := [some (.ref a0), some (.int a1), some (.int a2)]) (st' := [.int a1, .ref a0, .int a1, .ref a0]) (sg := [(.aload_n 0, 0), (.iload_n 1, 0), (.aload_n 0, 0), (.iload_n 1, 0)]) (lSa_ok dd19) rfl ?_
              obtain ⟨_, o154, e153, m155, h⟩ := gOb_inv h
              refine Y.callI (yC.Vi (b := a0) (As := [.int a1]) (st := [.int a1, .ref a0]) (r := ("PartlisterModel", T_M, 9)) hV.1.1 cb_M_length lk_M_74 in_M_length rfl se_M_length (lIa_ok dd20) rfl rfl (Nat.le_of_ble_eq_true rfl) (by decide) e153 m155) (k_M_length hV.1 G151 a0 a1) h (fun v157 G156 _ h => ?_)
              refine Y.blk (pc' := 78) (L' := [some (.ref a0), some (.int a1), some (.int a2)]) (st' := [.int a2, .int v157, .int a1, .ref a0]) (sg := [(.iload_n 2, 0)]) (lSa_ok dd21) rfl ?_
              obtain ⟨_, o159, e158, m160, h⟩ := gOb_inv h
              refine Y.callI (yC.Vi (b := a0) (As := [.int a1, .int v157, .int a2]) (st := []) (r := ("PartlisterModel", T_M, 9)) hV.1.1 cb_M_bring lk_M_139 in_M_bring rfl se_M_bring (lIa_ok dd22) rfl rfl (Nat.le_of_ble_eq_true rfl) (by decide) e158 m160) (k_M_bring hV G156 a0 a1 v157 a2) h (fun v162 G161 _ h => ?_)
              refine Y.blk (pc' := 84) (L' := [some (.ref a0), some (.int a1), some (.int a2)]) (st' := [.int a1, .ref a0]) (sg := [(.pop, 0), (.aload_n 0, 0), (.iload_n 1, 0)]) (lSa_ok dd23) rfl ?_
              obtain ⟨_, o164, e163, m165, h⟩ := gOb_inv h
              refine Y.callI (yC.Vi (b := a0) (As := [.int a1]) (st := []) (r := ("PartlisterModel", T_M, 9)) hV.1.1 cb_M_length lk_M_74 in_M_length rfl se_M_length (lIa_ok dd24) rfl rfl (Nat.le_of_ble_eq_true rfl) (by decide) e163 m165) (k_M_length hV.1 G161 a0 a1) h (fun v167 G166 _ h => ?_)
              exact Y.iret rfl (lIa_ok dd25) h
            · refine Y.blk (pc' := 69) (L' := [some (.ref a0), some (.int a1), some (.int a2)]) (st' := [.int (nI 0)]) (sg := [(.iconst 0, nI 0)]) (lSa_ok dd26) rfl ?_
              exact Y.iret rfl (lIa_ok dd27) h
          · refine Y.blk (pc' := 57) (L' := [some (.ref a0), some (.int a1), some (.int a2)]) (st' := [.int (nI 1), .ref a0]) (sg := [(.iconst 1, nI 1)]) (lSa_ok dd14) rfl ?_
            refine Y.goto (off := 4) (tgt := 61) (lIa_ok dd15) (by decide) ?_
            refine Y.blk (pc' := 62) (L' := [some (.ref a0), some (.int a1), some (.int a2)]) (st' := [.int (nI 2), .int (nI 1), .ref a0]) (sg := [(.iconst 2, nI 2)]) (lSa_ok dd16) rfl ?_
            obtain ⟨_, o170, e169, m171, h⟩ := gOb_inv h
            refine Y.callI (yC.Vi (b := a0) (As := [.int (nI 1), .int (nI 2)]) (st := []) (r := ("PartlisterModel", T_M, 9)) hV.1.1 cb_M_refuse lk_M_36 in_M_refuse rfl se_M_refuse (lIa_ok dd17) rfl rfl (Nat.le_of_ble_eq_true rfl) (by decide) e169 m171) (k_M_refuse hV.1 G146 a0 (nI 1) (nI 2)) h (fun v173 G172 _ h => ?_)
            refine Y.if_eq (off := 5) (tgt := 70) (lIa_ok dd18) (by decide) h (fun c189 h => ?_) (fun c189 h => ?_)
            · refine Y.blk (pc' := 74) (L' := [some (.ref a0), some (.int a1), some (.int a2)]) (st' := [.int a1, .ref a0, .int a1, .ref a0]) (sg := [(.aload_n 0, 0), (.iload_n 1, 0), (.aload_n 0, 0), (.iload_n 1, 0)]) (lSa_ok dd19) rfl ?_
              obtain ⟨_, o175, e174, m176, h⟩ := gOb_inv h
              refine Y.callI (yC.Vi (b := a0) (As := [.int a1]) (st := [.int a1, .ref a0]) (r := ("PartlisterModel", T_M, 9)) hV.1.1 cb_M_length lk_M_74 in_M_length rfl se_M_length (lIa_ok dd20) rfl rfl (Nat.le_of_ble_eq_true rfl) (by decide) e174 m176) (k_M_length hV.1 G172 a0 a1) h (fun v178 G177 _ h => ?_)
              refine Y.blk (pc' := 78) (L' := [some (.ref a0), some (.int a1), some (.int a2)]) (st' := [.int a2, .int v178, .int a1, .ref a0]) (sg := [(.iload_n 2, 0)]) (lSa_ok dd21) rfl ?_
              obtain ⟨_, o180, e179, m181, h⟩ := gOb_inv h
              refine Y.callI (yC.Vi (b := a0) (As := [.int a1, .int v178, .int a2]) (st := []) (r := ("PartlisterModel", T_M, 9)) hV.1.1 cb_M_bring lk_M_139 in_M_bring rfl se_M_bring (lIa_ok dd22) rfl rfl (Nat.le_of_ble_eq_true rfl) (by decide) e179 m181) (k_M_bring hV G177 a0 a1 v178 a2) h (fun v183 G182 _ h => ?_)
              refine Y.blk (pc' := 84) (L' := [some (.ref a0), some (.int a1), some (.int a2)]) (st' := [.int a1, .ref a0]) (sg := [(.pop, 0), (.aload_n 0, 0), (.iload_n 1, 0)]) (lSa_ok dd23) rfl ?_
              obtain ⟨_, o185, e184, m186, h⟩ := gOb_inv h
              refine Y.callI (yC.Vi (b := a0) (As := [.int a1]) (st := []) (r := ("PartlisterModel", T_M, 9)) hV.1.1 cb_M_length lk_M_74 in_M_length rfl se_M_length (lIa_ok dd24) rfl rfl (Nat.le_of_ble_eq_true rfl) (by decide) e184 m186) (k_M_length hV.1 G182 a0 a1) h (fun v188 G187 _ h => ?_)
              exact Y.iret rfl (lIa_ok dd25) h
            · refine Y.blk (pc' := 69) (L' := [some (.ref a0), some (.int a1), some (.int a2)]) (st' := [.int (nI 0)]) (sg := [(.iconst 0, nI 0)]) (lSa_ok dd26) rfl ?_
              exact Y.iret rfl (lIa_ok dd27) h
      · refine Y.blk (pc' := 69) (L' := [some (.ref a0), some (.int a1), some (.int a2)]) (st' := [.int (nI 0)]) (sg := [(.iconst 0, nI 0)]) (lSa_ok dd26) rfl ?_
        exact Y.iret rfl (lIa_ok dd27) h
  · refine Y.blk (pc' := 18) (L' := [some (.ref a0), some (.int a1), some (.int a2)]) (st' := [.int (nI 1), .ref a0]) (sg := [(.iconst 1, nI 1)]) (lSa_ok dd33) rfl ?_
    refine Y.goto (off := 4) (tgt := 22) (lIa_ok dd34) (by decide) ?_
    refine Y.blk (pc' := 23) (L' := [some (.ref a0), some (.int a1), some (.int a2)]) (st' := [.int (nI 1), .int (nI 1), .ref a0]) (sg := [(.iconst 1, nI 1)]) (lSa_ok dd35) rfl ?_
    obtain ⟨_, o195, e194, m196, h⟩ := gOb_inv h
    refine Y.callI (yC.Vi (b := a0) (As := [.int (nI 1), .int (nI 1)]) (st := []) (r := ("PartlisterModel", T_M, 9)) hV.1.1 cb_M_start lk_M_114 in_M_start rfl se_M_start (lIa_ok dd7) rfl rfl (Nat.le_of_ble_eq_true rfl) (by decide) e194 m196) (k_M_start hV.1 G4 a0 (nI 1) (nI 1)) h (fun v198 G197 _ h => ?_)
    refine Y.if_ne (off := 42) (tgt := 68) (lIa_ok dd8) (by decide) h (fun c284 h => ?_) (fun c284 h => ?_)
    · refine Y.blk (pc' := 32) (L' := [some (.ref a0), some (.int a1), some (.int a2)]) (st' := [.int a1, .ref a0, .ref a0]) (sg := [(.aload_n 0, 0), (.aload_n 0, 0), (.iload_n 1, 0)]) (lSa_ok dd9) rfl ?_
      obtain ⟨_, o200, e199, m201, h⟩ := gOb_inv h
      refine Y.callI (yC.Vi (b := a0) (As := [.int a1]) (st := [.ref a0]) (r := ("PartlisterModel", T_M, 9)) hV.1.1 cb_M_rowOf lk_M_47 in_M_rowOf rfl se_M_rowOf (lIa_ok dd10) rfl rfl (Nat.le_of_ble_eq_true rfl) (by decide) e199 m201) (k_M_rowOf zDp hV.1 G197 a0 a1) h (fun v203 G202 _ h => ?_)
      refine Y.blk (pc' := 37) (L' := [some (.ref a0), some (.int a1), some (.int a2)]) (st' := [.int a2, .ref a0, .int v203, .ref a0]) (sg := [(.aload_n 0, 0), (.iload_n 2, 0)]) (lSa_ok dd11) rfl ?_
      obtain ⟨_, o205, e204, m206, h⟩ := gOb_inv h
      refine Y.callI (yC.Vi (b := a0) (As := [.int a2]) (st := [.int v203, .ref a0]) (r := ("PartlisterModel", T_M, 9)) hV.1.1 cb_M_rowOf lk_M_47 in_M_rowOf rfl se_M_rowOf (lIa_ok dd12) rfl rfl (Nat.le_of_ble_eq_true rfl) (by decide) e204 m206) (k_M_rowOf zDp hV.1 G202 a0 a2) h (fun v208 G207 _ h => ?_)
      refine Y.ic_eq (off := 16) (tgt := 56) (lIa_ok dd13) (by decide) h (fun c283 h => ?_) (fun c283 h => ?_)
      · refine Y.blk (pc' := 57) (L' := [some (.ref a0), some (.int a1), some (.int a2)]) (st' := [.int (nI 1), .ref a0]) (sg := [(.iconst 1, nI 1)]) (lSa_ok dd14) rfl ?_
        refine Y.goto (off := 4) (tgt := 61) (lIa_ok dd15) (by decide) ?_
        refine Y.blk (pc' := 62) (L' := [some (.ref a0), some (.int a1), some (.int a2)]) (st' := [.int (nI 2), .int (nI 1), .ref a0]) (sg := [(.iconst 2, nI 2)]) (lSa_ok dd16) rfl ?_
        obtain ⟨_, o210, e209, m211, h⟩ := gOb_inv h
        refine Y.callI (yC.Vi (b := a0) (As := [.int (nI 1), .int (nI 2)]) (st := []) (r := ("PartlisterModel", T_M, 9)) hV.1.1 cb_M_refuse lk_M_36 in_M_refuse rfl se_M_refuse (lIa_ok dd17) rfl rfl (Nat.le_of_ble_eq_true rfl) (by decide) e209 m211) (k_M_refuse hV.1 G207 a0 (nI 1) (nI 2)) h (fun v213 G212 _ h => ?_)
        refine Y.if_eq (off := 5) (tgt := 70) (lIa_ok dd18) (by decide) h (fun c229 h => ?_) (fun c229 h => ?_)
        · refine Y.blk (pc' := 74) (L' := [some (.ref a0), some (.int a1), some (.int a2)]) (st' := [.int a1, .ref a0, .int a1, .ref a0]) (sg := [(.aload_n 0, 0), (.iload_n 1, 0), (.aload_n 0, 0), (.iload_n 1, 0)]) (lSa_ok dd19) rfl ?_
          obtain ⟨_, o215, e214, m216, h⟩ := gOb_inv h
          refine Y.callI (yC.Vi (b := a0) (As := [.int a1]) (st := [.int a1, .ref a0]) (r := ("PartlisterModel", T_M, 9)) hV.1.1 cb_M_length lk_M_74 in_M_length rfl se_M_length (lIa_ok dd20) rfl rfl (Nat.le_of_ble_eq_true rfl) (by decide) e214 m216) (k_M_length hV.1 G212 a0 a1) h (fun v218 G217 _ h => ?_)
          refine Y.blk (pc' := 78) (L' := [some (.ref a0), some (.int a1), some (.int a2)]) (st' := [.int a2, .int v218, .int a1, .ref a0]) (sg := [(.iload_n 2, 0)]) (lSa_ok dd21) rfl ?_
          obtain ⟨_, o220, e219, m221, h⟩ := gOb_inv h
          refine Y.callI (yC.Vi (b := a0) (As := [.int a1, .int v218, .int a2]) (st := []) (r := ("PartlisterModel", T_M, 9)) hV.1.1 cb_M_bring lk_M_139 in_M_bring rfl se_M_bring (lIa_ok dd22) rfl rfl (Nat.le_of_ble_eq_true rfl) (by decide) e219 m221) (k_M_bring hV G217 a0 a1 v218 a2) h (fun v223 G222 _ h => ?_)
          refine Y.blk (pc' := 84) (L' := [some (.ref a0), some (.int a1), some (.int a2)]) (st' := [.int a1, .ref a0]) (sg := [(.pop, 0), (.aload_n 0, 0), (.iload_n 1, 0)]) (lSa_ok dd23) rfl ?_
          obtain ⟨_, o225, e224, m226, h⟩ := gOb_inv h
          refine Y.callI (yC.Vi (b := a0) (As := [.int a1]) (st := []) (r := ("PartlisterModel", T_M, 9)) hV.1.1 cb_M_length lk_M_74 in_M_length rfl se_M_length (lIa_ok dd24) rfl rfl (Nat.le_of_ble_eq_true rfl) (by decide) e224 m226) (k_M_length hV.1 G222 a0 a1) h (fun v228 G227 _ h => ?_)
          exact Y.iret rfl (lIa_ok dd25) h
        · refine Y.blk (pc' := 69) (L' := [some (.ref a0), some (.int a1), some (.int a2)]) (st' := [.int (nI 0)]) (sg := [(.iconst 0, nI 0)]) (lSa_ok dd26) rfl ?_
          exact Y.iret rfl (lIa_ok dd27) h
      · refine Y.blk (pc' := 47) (L' := [some (.ref a0), some (.int a1), some (.int a2)]) (st' := [.int a2, .ref a0, .int a1, .ref a0, .ref a0]) (sg := [(.aload_n 0, 0), (.iload_n 1, 0), (.aload_n 0, 0), (.iload_n 2, 0)]) (lSa_ok dd28) rfl ?_
        obtain ⟨_, o231, e230, m232, h⟩ := gOb_inv h
        refine Y.callI (yC.Vi (b := a0) (As := [.int a2]) (st := [.int a1, .ref a0, .ref a0]) (r := ("PartlisterModel", T_M, 9)) hV.1.1 cb_M_length lk_M_74 in_M_length rfl se_M_length (lIa_ok dd29) rfl rfl (Nat.le_of_ble_eq_true rfl) (by decide) e230 m232) (k_M_length hV.1 G207 a0 a2) h (fun v234 G233 _ h => ?_)
        obtain ⟨_, o236, e235, m237, h⟩ := gOb_inv h
        refine Y.callI (yC.Vi (b := a0) (As := [.int a1, .int v234]) (st := [.ref a0]) (r := ("PartlisterModel", T_M, 9)) hV.1.1 cb_M_isFull lk_M_117 in_M_isFull rfl se_M_isFull (lIa_ok dd30) rfl rfl (Nat.le_of_ble_eq_true rfl) (by decide) e235 m237) (k_M_isFull hV.1 G233 a0 a1 v234) h (fun v239 G238 _ h => ?_)
        refine Y.if_eq (off := 7) (tgt := 60) (lIa_ok dd31) (by decide) h (fun c282 h => ?_) (fun c282 h => ?_)
        · refine Y.blk (pc' := 62) (L' := [some (.ref a0), some (.int a1), some (.int a2)]) (st' := [.int (nI 2), .int (nI 0), .ref a0]) (sg := [(.iconst 0, nI 0), (.iconst 2, nI 2)]) (lSa_ok dd32) rfl ?_
          obtain ⟨_, o241, e240, m242, h⟩ := gOb_inv h
          refine Y.callI (yC.Vi (b := a0) (As := [.int (nI 0), .int (nI 2)]) (st := []) (r := ("PartlisterModel", T_M, 9)) hV.1.1 cb_M_refuse lk_M_36 in_M_refuse rfl se_M_refuse (lIa_ok dd17) rfl rfl (Nat.le_of_ble_eq_true rfl) (by decide) e240 m242) (k_M_refuse hV.1 G238 a0 (nI 0) (nI 2)) h (fun v244 G243 _ h => ?_)
          refine Y.if_eq (off := 5) (tgt := 70) (lIa_ok dd18) (by decide) h (fun c260 h => ?_) (fun c260 h => ?_)
          · refine Y.blk (pc' := 74) (L' := [some (.ref a0), some (.int a1), some (.int a2)]) (st' := [.int a1, .ref a0, .int a1, .ref a0]) (sg := [(.aload_n 0, 0), (.iload_n 1, 0), (.aload_n 0, 0), (.iload_n 1, 0)]) (lSa_ok dd19) rfl ?_
            obtain ⟨_, o246, e245, m247, h⟩ := gOb_inv h
            refine Y.callI (yC.Vi (b := a0) (As := [.int a1]) (st := [.int a1, .ref a0]) (r := ("PartlisterModel", T_M, 9)) hV.1.1 cb_M_length lk_M_74 in_M_length rfl se_M_length (lIa_ok dd20) rfl rfl (Nat.le_of_ble_eq_true rfl) (by decide) e245 m247) (k_M_length hV.1 G243 a0 a1) h (fun v249 G248 _ h => ?_)
            refine Y.blk (pc' := 78) (L' := [some (.ref a0), some (.int a1), some (.int a2)]) (st' := [.int a2, .int v249, .int a1, .ref a0]) (sg := [(.iload_n 2, 0)]) (lSa_ok dd21) rfl ?_
            obtain ⟨_, o251, e250, m252, h⟩ := gOb_inv h
            refine Y.callI (yC.Vi (b := a0) (As := [.int a1, .int v249, .int a2]) (st := []) (r := ("PartlisterModel", T_M, 9)) hV.1.1 cb_M_bring lk_M_139 in_M_bring rfl se_M_bring (lIa_ok dd22) rfl rfl (Nat.le_of_ble_eq_true rfl) (by decide) e250 m252) (k_M_bring hV G248 a0 a1 v249 a2) h (fun v254 G253 _ h => ?_)
            refine Y.blk (pc' := 84) (L' := [some (.ref a0), some (.int a1), some (.int a2)]) (st' := [.int a1, .ref a0]) (sg := [(.pop, 0), (.aload_n 0, 0), (.iload_n 1, 0)]) (lSa_ok dd23) rfl ?_
            obtain ⟨_, o256, e255, m257, h⟩ := gOb_inv h
            refine Y.callI (yC.Vi (b := a0) (As := [.int a1]) (st := []) (r := ("PartlisterModel", T_M, 9)) hV.1.1 cb_M_length lk_M_74 in_M_length rfl se_M_length (lIa_ok dd24) rfl rfl (Nat.le_of_ble_eq_true rfl) (by decide) e255 m257) (k_M_length hV.1 G253 a0 a1) h (fun v259 G258 _ h => ?_)
            exact Y.iret rfl (lIa_ok dd25) h
          · refine Y.blk (pc' := 69) (L' := [some (.ref a0), some (.int a1), some (.int a2)]) (st' := [.int (nI 0)]) (sg := [(.iconst 0, nI 0)]) (lSa_ok dd26) rfl ?_
            exact Y.iret rfl (lIa_ok dd27) h
        · refine Y.blk (pc' := 57) (L' := [some (.ref a0), some (.int a1), some (.int a2)]) (st' := [.int (nI 1), .ref a0]) (sg := [(.iconst 1, nI 1)]) (lSa_ok dd14) rfl ?_
          refine Y.goto (off := 4) (tgt := 61) (lIa_ok dd15) (by decide) ?_
          refine Y.blk (pc' := 62) (L' := [some (.ref a0), some (.int a1), some (.int a2)]) (st' := [.int (nI 2), .int (nI 1), .ref a0]) (sg := [(.iconst 2, nI 2)]) (lSa_ok dd16) rfl ?_
          obtain ⟨_, o262, e261, m263, h⟩ := gOb_inv h
          refine Y.callI (yC.Vi (b := a0) (As := [.int (nI 1), .int (nI 2)]) (st := []) (r := ("PartlisterModel", T_M, 9)) hV.1.1 cb_M_refuse lk_M_36 in_M_refuse rfl se_M_refuse (lIa_ok dd17) rfl rfl (Nat.le_of_ble_eq_true rfl) (by decide) e261 m263) (k_M_refuse hV.1 G238 a0 (nI 1) (nI 2)) h (fun v265 G264 _ h => ?_)
          refine Y.if_eq (off := 5) (tgt := 70) (lIa_ok dd18) (by decide) h (fun c281 h => ?_) (fun c281 h => ?_)
          · refine Y.blk (pc' := 74) (L' := [some (.ref a0), some (.int a1), some (.int a2)]) (st' := [.int a1, .ref a0, .int a1, .ref a0]) (sg := [(.aload_n 0, 0), (.iload_n 1, 0), (.aload_n 0, 0), (.iload_n 1, 0)]) (lSa_ok dd19) rfl ?_
            obtain ⟨_, o267, e266, m268, h⟩ := gOb_inv h
            refine Y.callI (yC.Vi (b := a0) (As := [.int a1]) (st := [.int a1, .ref a0]) (r := ("PartlisterModel", T_M, 9)) hV.1.1 cb_M_length lk_M_74 in_M_length rfl se_M_length (lIa_ok dd20) rfl rfl (Nat.le_of_ble_eq_true rfl) (by decide) e266 m268) (k_M_length hV.1 G264 a0 a1) h (fun v270 G269 _ h => ?_)
            refine Y.blk (pc' := 78) (L' := [some (.ref a0), some (.int a1), some (.int a2)]) (st' := [.int a2, .int v270, .int a1, .ref a0]) (sg := [(.iload_n 2, 0)]) (lSa_ok dd21) rfl ?_
            obtain ⟨_, o272, e271, m273, h⟩ := gOb_inv h
            refine Y.callI (yC.Vi (b := a0) (As := [.int a1, .int v270, .int a2]) (st := []) (r := ("PartlisterModel", T_M, 9)) hV.1.1 cb_M_bring lk_M_139 in_M_bring rfl se_M_bring (lIa_ok dd22) rfl rfl (Nat.le_of_ble_eq_true rfl) (by decide) e271 m273) (k_M_bring hV G269 a0 a1 v270 a2) h (fun v275 G274 _ h => ?_)
            refine Y.blk (pc' := 84) (L' := [some (.ref a0), some (.int a1), some (.int a2)]) (st' := [.int a1, .ref a0]) (sg := [(.pop, 0), (.aload_n 0, 0), (.iload_n 1, 0)]) (lSa_ok dd23) rfl ?_
            obtain ⟨_, o277, e276, m278, h⟩ := gOb_inv h
            refine Y.callI (yC.Vi (b := a0) (As := [.int a1]) (st := []) (r := ("PartlisterModel", T_M, 9)) hV.1.1 cb_M_length lk_M_74 in_M_length rfl se_M_length (lIa_ok dd24) rfl rfl (Nat.le_of_ble_eq_true rfl) (by decide) e276 m278) (k_M_length hV.1 G274 a0 a1) h (fun v280 G279 _ h => ?_)
            exact Y.iret rfl (lIa_ok dd25) h
          · refine Y.blk (pc' := 69) (L' := [some (.ref a0), some (.int a1), some (.int a2)]) (st' := [.int (nI 0)]) (sg := [(.iconst 0, nI 0)]) (lSa_ok dd26) rfl ?_
            exact Y.iret rfl (lIa_ok dd27) h
    · refine Y.blk (pc' := 69) (L' := [some (.ref a0), some (.int a1), some (.int a2)]) (st' := [.int (nI 0)]) (sg := [(.iconst 0, nI 0)]) (lSa_ok dd26) rfl ?_
      exact Y.iret rfl (lIa_ok dd27) h
