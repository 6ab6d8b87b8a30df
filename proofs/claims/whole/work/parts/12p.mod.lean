def f_M_spot_L51 (K78 : gH → Nat → Int32 → Int32 → Int32 → gR) : Nat → gH → Nat → Int32 → Int32 → Int32 → gR
  | 0, _, _, _, _, _ => none
  | n + 1, G, x0, x1, x2, x3 =>
    gOb G x0 6 fun o32 => bI (f_M_length G x0 x1) fun v35 G34 => if v35 ≤ x3 then K78 G34 x0 x1 x2 x3
    else gOb G34 x0 6 fun o37 => bA (f_M_at G34 x0 x1 x3) fun v40 G39 => gLd G39 v40 100 (nI 0) fun v41 => if x2 ≤ v41 then K78 G39 x0 x1 x2 x3
      else f_M_spot_L51 K78 n G39 x0 x1 x2 (x3 + (nI 1))
def f_M_spot (G : gH) (a0 : Nat) (a1 : Int32) (a2 : Int32) : gR :=
  gOb G a0 6 fun o2 => bI (f_M_isNoList G a0 a1) fun v5 G4 => gOb G4 a0 6 fun o7 => bI (f_M_start G4 a0 v5 (nI 1)) fun v10 G9 => if v10 = 0 then (gOb G9 a0 6 fun o12 => bI (f_M_isNoKey G9 a0 a2) fun v15 G14 => gOb G14 a0 6 fun o17 => bI (f_M_refuse G14 a0 v15 (nI 2)) fun v20 G19 => if v20 = 0 then (gOb G19 a0 6 fun o22 => bI (f_M_isSorted G19 a0 a1) fun v25 G24 => if v25 = 0 then (gOb G24 a0 6 fun o27 => bI (f_M_refuse G24 a0 (nI 1) (nI 3)) fun v30 G29 => if v30 = 0 then (f_M_spot_L51 (fun G48 x44 x45 x46 x47 => gOb G48 x44 6 fun o50 => bI (f_M_firstOf G48 x44 x45 x46) fun v53 G52 => if v53 = (-1) then rI x47 G52
            else rI (nI 99) G52) zFu G29 a0 a1 a2 (nI 0))
        else rI (nI 0) G29)
      else gOb G24 a0 6 fun o57 => bI (f_M_refuse G24 a0 (nI 0) (nI 3)) fun v60 G59 => if v60 = 0 then (f_M_spot_L51 (fun G65 x61 x62 x63 x64 => gOb G65 x61 6 fun o67 => bI (f_M_firstOf G65 x61 x62 x63) fun v70 G69 => if v70 = (-1) then rI x64 G69
            else rI (nI 99) G69) zFu G59 a0 a1 a2 (nI 0))
        else rI (nI 0) G59)
    else rI (nI 0) G19)
  else rI (nI 0) G9
theorem k_M_spot_L51 {l : Launch} {D : va_G} {B : Nat} {O : State → Heap → Prop} (hV : zG l D B O) {o : gO} {Gf : gH} (K78 : gH → Nat → Int32 → Int32 → Int32 → gR) (hK78 : ∀ (G : gH) (x0 : Nat) (x1 : Int32) (x2 : Int32) (x3 : Int32), K78 G x0 x1 x2 x3 = some (o, Gf) → Y (zVm l D B O) m_M_spot 14 o Gf 78 [some (.ref x0), some (.int x1), some (.int x2), some (.int x3)] [] G) : ∀ (n : Nat) (G : gH) (x0 : Nat) (x1 : Int32) (x2 : Int32) (x3 : Int32), f_M_spot_L51 K78 n G x0 x1 x2 x3 = some (o, Gf) → Y (zVm l D B O) m_M_spot 14 o Gf 51 [some (.ref x0), some (.int x1), some (.int x2), some (.int x3)] [] G := by
  have hdd : lSa m_M_spot 51 [(.iload_n 3, 0), (.aload_n 0, 0), (.iload_n 1, 0)] = true ∧ lIa m_M_spot 54 (.invokevirtual 74) 3 = true ∧ lIa m_M_spot 57 (.if_icmp .ge 21) 3 = true ∧ lSa m_M_spot 60 [(.aload_n 0, 0), (.iload_n 1, 0), (.iload_n 3, 0)] = true ∧ lIa m_M_spot 63 (.invokevirtual 132) 3 = true ∧ lSa m_M_spot 66 [(.iconst 0, nI 0)] = true ∧ lIa m_M_spot 67 (.iaload) 1 = true ∧ lSa m_M_spot 68 [(.iload_n 2, 0)] = true ∧ lIa m_M_spot 69 (.if_icmp .ge 9) 3 = true ∧ lSa m_M_spot 72 [(.iinc 3 1, nI 1)] = true ∧ lIa m_M_spot 75 (.goto (-24)) 3 = true := by decide +kernel
  refine lA8 hdd (fun dd0 dd1 dd2 dd3 dd4 dd5 dd6 dd7 hdd => ?_)
  obtain ⟨dd8, dd9, dd10⟩ := hdd
  intro n
  induction n with
  | zero => intro G x0 x1 x2 x3 h; cases h
  | succ n ih =>
    intro G x0 x1 x2 x3 h
    unfold f_M_spot_L51 at h
    refine Y.blk (pc' := 54) (L' := [some (.ref x0), some (.int x1), some (.int x2), some (.int x3)]) (st' := [.int x1, .ref x0, .int x3]) (sg := [(.iload_n 3, 0), (.aload_n 0, 0), (.iload_n 1, 0)]) (lSa_ok dd0) rfl ?_
    obtain ⟨_, o32, e31, m33, h⟩ := gOb_inv h
    refine Y.callI (yC.Vi (b := x0) (As := [.int x1]) (st := [.int x3]) (r := ("PartlisterModel", T_M, 9)) hV.1 cb_M_length lk_M_74 in_M_length rfl se_M_length (lIa_ok dd1) rfl rfl (Nat.le_of_ble_eq_true rfl) (by decide) e31 m33) (k_M_length hV G x0 x1) h (fun v35 G34 _ h => ?_)
    refine Y.ic_ge (off := 21) (tgt := 78) (lIa_ok dd2) (by decide) h (fun c43 h => ?_) (fun c43 h => ?_)
    · exact hK78 G34 x0 x1 x2 x3 h
    · refine Y.blk (pc' := 63) (L' := [some (.ref x0), some (.int x1), some (.int x2), some (.int x3)]) (st' := [.int x3, .int x1, .ref x0]) (sg := [(.aload_n 0, 0), (.iload_n 1, 0), (.iload_n 3, 0)]) (lSa_ok dd3) rfl ?_
      obtain ⟨_, o37, e36, m38, h⟩ := gOb_inv h
      refine Y.callA (yC.Vi (b := x0) (As := [.int x1, .int x3]) (st := []) (r := ("PartlisterModel", T_M, 9)) hV.1 cb_M_at lk_M_132 in_M_at rfl se_M_at (lIa_ok dd4) rfl rfl (Nat.le_of_ble_eq_true rfl) (by decide) e36 m38) (k_M_at hV G34 x0 x1 x3) h (fun v40 G39 _ h => ?_)
      refine Y.blk (pc' := 67) (L' := [some (.ref x0), some (.int x1), some (.int x2), some (.int x3)]) (st' := [.int (nI 0), .ref v40]) (sg := [(.iconst 0, nI 0)]) (lSa_ok dd5) rfl ?_
      refine Y.iald (t0 := 0) (lIa_ok dd6) rfl h (fun v41 h => ?_)
      refine Y.blk (pc' := 69) (L' := [some (.ref x0), some (.int x1), some (.int x2), some (.int x3)]) (st' := [.int x2, .int v41]) (sg := [(.iload_n 2, 0)]) (lSa_ok dd7) rfl ?_
      refine Y.ic_ge (off := 9) (tgt := 78) (lIa_ok dd8) (by decide) h (fun c42 h => ?_) (fun c42 h => ?_)
      · exact hK78 G39 x0 x1 x2 x3 h
      · refine Y.blk (pc' := 75) (L' := [some (.ref x0), some (.int x1), some (.int x2), some (.int (x3 + (nI 1)))]) (st' := []) (sg := [(.iinc 3 1, nI 1)]) (lSa_ok dd9) rfl ?_
        refine Y.goto (off := -24) (tgt := 51) (lIa_ok dd10) (by decide) ?_
        exact ih G39 x0 x1 x2 (x3 + (nI 1)) h
theorem k_M_spot {l : Launch} {D : va_G} {B : Nat} {O : State → Heap → Prop} (hV : zG l D B O) (G : gH) (a0 : Nat) (a1 : Int32) (a2 : Int32) : gMet (zVm l D B O) m_M_spot 14 [.ref a0, .int a1, .int a2] G (f_M_spot G a0 a1 a2) := by
  have hdd : lSa m_M_spot 0 [(.aload_n 0, 0), (.aload_n 0, 0), (.iload_n 1, 0)] = true ∧ lIa m_M_spot 3 (.invokevirtual 110) 3 = true ∧ lSa m_M_spot 6 [(.iconst 1, nI 1)] = true ∧ lIa m_M_spot 7 (.invokevirtual 114) 3 = true ∧ lIa m_M_spot 10 (.ifCond .ne 37) 3 = true ∧ lSa m_M_spot 13 [(.aload_n 0, 0), (.aload_n 0, 0), (.iload_n 2, 0)] = true ∧ lIa m_M_spot 16 (.invokevirtual 160) 3 = true ∧ lSa m_M_spot 19 [(.iconst 2, nI 2)] = true ∧ lIa m_M_spot 20 (.invokevirtual 36) 3 = true ∧ lIa m_M_spot 23 (.ifCond .ne 24) 3 = true ∧ lSa m_M_spot 26 [(.aload_n 0, 0), (.aload_n 0, 0), (.iload_n 1, 0)] = true ∧ lIa m_M_spot 29 (.invokevirtual 250) 3 = true ∧ lIa m_M_spot 32 (.ifCond .ne 7) 3 = true ∧ lSa m_M_spot 35 [(.iconst 1, nI 1)] = true ∧ lIa m_M_spot 36 (.goto 4) 3 = true ∧ lSa m_M_spot 40 [(.iconst 3, nI 3)] = true ∧ lIa m_M_spot 41 (.invokevirtual 36) 3 = true ∧ lIa m_M_spot 44 (.ifCond .eq 5) 3 = true ∧ lSa m_M_spot 49 [(.iconst 0, nI 0), (.istore_n 3, 0)] = true ∧ lSa m_M_spot 78 [(.aload_n 0, 0), (.iload_n 1, 0), (.iload_n 2, 0)] = true ∧ lIa m_M_spot 81 (.invokevirtual 163) 3 = true ∧ lSa m_M_spot 84 [(.iconst (-1), -1)] = true ∧ lIa m_M_spot 85 (.if_icmp .ne 7) 3 = true ∧ lSa m_M_spot 88 [(.iload_n 3, 0)] = true ∧ lIa m_M_spot 89 (.goto 5) 3 = true ∧ lIa m_M_spot 94 (.ireturn) 1 = true ∧ lSa m_M_spot 92 [(.bipush 99, nI 99)] = true ∧ lSa m_M_spot 47 [(.iconst 0, nI 0)] = true ∧ lIa m_M_spot 48 (.ireturn) 1 = true ∧ lSa m_M_spot 39 [(.iconst 0, nI 0), (.iconst 3, nI 3)] = true := by decide +kernel
  refine lA8 hdd (fun dd0 dd1 dd2 dd3 dd4 dd5 dd6 dd7 hdd => ?_)
  refine lA8 hdd (fun dd8 dd9 dd10 dd11 dd12 dd13 dd14 dd15 hdd => ?_)
  refine lA8 hdd (fun dd16 dd17 dd18 dd19 dd20 dd21 dd22 dd23 hdd => ?_)
  obtain ⟨dd24, dd25, dd26, dd27, dd28, dd29⟩ := hdd
  refine gMet.of (by decide +kernel) (Nat.le_of_ble_eq_true rfl) [some (.ref a0), some (.int a1), some (.int a2), none] (fun ls h => zEn_ok (n := 4) h) ?_
  intro o Gf h
  unfold f_M_spot at h
  refine Y.blk (pc' := 3) (L' := [some (.ref a0), some (.int a1), some (.int a2), none]) (st' := [.int a1, .ref a0, .ref a0]) (sg := [(.aload_n 0, 0), (.aload_n 0, 0), (.iload_n 1, 0)]) (lSa_ok dd0) rfl ?_
  obtain ⟨_, o2, e1, m3, h⟩ := gOb_inv h
  refine Y.callI (yC.Vi (b := a0) (As := [.int a1]) (st := [.ref a0]) (r := ("PartlisterModel", T_M, 9)) hV.1 cb_M_isNoList lk_M_110 in_M_isNoList rfl se_M_isNoList (lIa_ok dd1) rfl rfl (Nat.le_of_ble_eq_true rfl) (by decide) e1 m3) (k_M_isNoList hV G a0 a1) h (fun v5 G4 _ h => ?_)
  refine Y.blk (pc' := 7) (L' := [some (.ref a0), some (.int a1), some (.int a2), none]) (st' := [.int (nI 1), .int v5, .ref a0]) (sg := [(.iconst 1, nI 1)]) (lSa_ok dd2) rfl ?_
  obtain ⟨_, o7, e6, m8, h⟩ := gOb_inv h
  refine Y.callI (yC.Vi (b := a0) (As := [.int v5, .int (nI 1)]) (st := []) (r := ("PartlisterModel", T_M, 9)) hV.1 cb_M_start lk_M_114 in_M_start rfl se_M_start (lIa_ok dd3) rfl rfl (Nat.le_of_ble_eq_true rfl) (by decide) e6 m8) (k_M_start hV G4 a0 v5 (nI 1)) h (fun v10 G9 _ h => ?_)
  refine Y.if_ne (off := 37) (tgt := 47) (lIa_ok dd4) (by decide) h (fun c75 h => ?_) (fun c75 h => ?_)
  · refine Y.blk (pc' := 16) (L' := [some (.ref a0), some (.int a1), some (.int a2), none]) (st' := [.int a2, .ref a0, .ref a0]) (sg := [(.aload_n 0, 0), (.aload_n 0, 0), (.iload_n 2, 0)]) (lSa_ok dd5) rfl ?_
    obtain ⟨_, o12, e11, m13, h⟩ := gOb_inv h
    refine Y.callI (yC.Vi (b := a0) (As := [.int a2]) (st := [.ref a0]) (r := ("PartlisterModel", T_M, 9)) hV.1 cb_M_isNoKey lk_M_160 in_M_isNoKey rfl se_M_isNoKey (lIa_ok dd6) rfl rfl (Nat.le_of_ble_eq_true rfl) (by decide) e11 m13) (k_M_isNoKey hV G9 a0 a2) h (fun v15 G14 _ h => ?_)
    refine Y.blk (pc' := 20) (L' := [some (.ref a0), some (.int a1), some (.int a2), none]) (st' := [.int (nI 2), .int v15, .ref a0]) (sg := [(.iconst 2, nI 2)]) (lSa_ok dd7) rfl ?_
    obtain ⟨_, o17, e16, m18, h⟩ := gOb_inv h
    refine Y.callI (yC.Vi (b := a0) (As := [.int v15, .int (nI 2)]) (st := []) (r := ("PartlisterModel", T_M, 9)) hV.1 cb_M_refuse lk_M_36 in_M_refuse rfl se_M_refuse (lIa_ok dd8) rfl rfl (Nat.le_of_ble_eq_true rfl) (by decide) e16 m18) (k_M_refuse hV G14 a0 v15 (nI 2)) h (fun v20 G19 _ h => ?_)
    refine Y.if_ne (off := 24) (tgt := 47) (lIa_ok dd9) (by decide) h (fun c74 h => ?_) (fun c74 h => ?_)
    · refine Y.blk (pc' := 29) (L' := [some (.ref a0), some (.int a1), some (.int a2), none]) (st' := [.int a1, .ref a0, .ref a0]) (sg := [(.aload_n 0, 0), (.aload_n 0, 0), (.iload_n 1, 0)]) (lSa_ok dd10) rfl ?_
      obtain ⟨_, o22, e21, m23, h⟩ := gOb_inv h
      refine Y.callI (yC.Vi (b := a0) (As := [.int a1]) (st := [.ref a0]) (r := ("PartlisterModel", T_M, 9)) hV.1 cb_M_isSorted lk_M_250 in_M_isSorted rfl se_M_isSorted (lIa_ok dd11) rfl rfl (Nat.le_of_ble_eq_true rfl) (by decide) e21 m23) (k_M_isSorted hV G19 a0 a1) h (fun v25 G24 _ h => ?_)
      refine Y.if_ne (off := 7) (tgt := 39) (lIa_ok dd12) (by decide) h (fun c73 h => ?_) (fun c73 h => ?_)
      · refine Y.blk (pc' := 36) (L' := [some (.ref a0), some (.int a1), some (.int a2), none]) (st' := [.int (nI 1), .ref a0]) (sg := [(.iconst 1, nI 1)]) (lSa_ok dd13) rfl ?_
        refine Y.goto (off := 4) (tgt := 40) (lIa_ok dd14) (by decide) ?_
        refine Y.blk (pc' := 41) (L' := [some (.ref a0), some (.int a1), some (.int a2), none]) (st' := [.int (nI 3), .int (nI 1), .ref a0]) (sg := [(.iconst 3, nI 3)]) (lSa_ok dd15) rfl ?_
        obtain ⟨_, o27, e26, m28, h⟩ := gOb_inv h
        refine Y.callI (yC.Vi (b := a0) (As := [.int (nI 1), .int (nI 3)]) (st := []) (r := ("PartlisterModel", T_M, 9)) hV.1 cb_M_refuse lk_M_36 in_M_refuse rfl se_M_refuse (lIa_ok dd16) rfl rfl (Nat.le_of_ble_eq_true rfl) (by decide) e26 m28) (k_M_refuse hV G24 a0 (nI 1) (nI 3)) h (fun v30 G29 _ h => ?_)
        refine Y.if_eq (off := 5) (tgt := 49) (lIa_ok dd17) (by decide) h (fun c55 h => ?_) (fun c55 h => ?_)
        · refine Y.blk (pc' := 51) (L' := [some (.ref a0), some (.int a1), some (.int a2), some (.int (nI 0))]) (st' := []) (sg := [(.iconst 0, nI 0), (.istore_n 3, 0)]) (lSa_ok dd18) rfl ?_
          refine k_M_spot_L51 hV _ ?_  zFu G29 a0 a1 a2 (nI 0) h
          · intro G48 x44 x45 x46 x47 h
            refine Y.blk (pc' := 81) (L' := [some (.ref x44), some (.int x45), some (.int x46), some (.int x47)]) (st' := [.int x46, .int x45, .ref x44]) (sg := [(.aload_n 0, 0), (.iload_n 1, 0), (.iload_n 2, 0)]) (lSa_ok dd19) rfl ?_
            obtain ⟨_, o50, e49, m51, h⟩ := gOb_inv h
            refine Y.callI (yC.Vi (b := x44) (As := [.int x45, .int x46]) (st := []) (r := ("PartlisterModel", T_M, 9)) hV.1 cb_M_firstOf lk_M_163 in_M_firstOf rfl se_M_firstOf (lIa_ok dd20) rfl rfl (Nat.le_of_ble_eq_true rfl) (by decide) e49 m51) (k_M_firstOf hV G48 x44 x45 x46) h (fun v53 G52 _ h => ?_)
            refine Y.blk (pc' := 85) (L' := [some (.ref x44), some (.int x45), some (.int x46), some (.int x47)]) (st' := [.int (-1), .int v53]) (sg := [(.iconst (-1), -1)]) (lSa_ok dd21) rfl ?_
            refine Y.ic_ne (off := 7) (tgt := 92) (lIa_ok dd22) (by decide) h (fun c54 h => ?_) (fun c54 h => ?_)
            · refine Y.blk (pc' := 89) (L' := [some (.ref x44), some (.int x45), some (.int x46), some (.int x47)]) (st' := [.int x47]) (sg := [(.iload_n 3, 0)]) (lSa_ok dd23) rfl ?_
              refine Y.goto (off := 5) (tgt := 94) (lIa_ok dd24) (by decide) ?_
              exact Y.iret rfl (lIa_ok dd25) h
            · refine Y.blk (pc' := 94) (L' := [some (.ref x44), some (.int x45), some (.int x46), some (.int x47)]) (st' := [.int (nI 99)]) (sg := [(.bipush 99, nI 99)]) (lSa_ok dd26) rfl ?_
              exact Y.iret rfl (lIa_ok dd25) h
        · refine Y.blk (pc' := 48) (L' := [some (.ref a0), some (.int a1), some (.int a2), none]) (st' := [.int (nI 0)]) (sg := [(.iconst 0, nI 0)]) (lSa_ok dd27) rfl ?_
          exact Y.iret rfl (lIa_ok dd28) h
      · refine Y.blk (pc' := 41) (L' := [some (.ref a0), some (.int a1), some (.int a2), none]) (st' := [.int (nI 3), .int (nI 0), .ref a0]) (sg := [(.iconst 0, nI 0), (.iconst 3, nI 3)]) (lSa_ok dd29) rfl ?_
        obtain ⟨_, o57, e56, m58, h⟩ := gOb_inv h
        refine Y.callI (yC.Vi (b := a0) (As := [.int (nI 0), .int (nI 3)]) (st := []) (r := ("PartlisterModel", T_M, 9)) hV.1 cb_M_refuse lk_M_36 in_M_refuse rfl se_M_refuse (lIa_ok dd16) rfl rfl (Nat.le_of_ble_eq_true rfl) (by decide) e56 m58) (k_M_refuse hV G24 a0 (nI 0) (nI 3)) h (fun v60 G59 _ h => ?_)
        refine Y.if_eq (off := 5) (tgt := 49) (lIa_ok dd17) (by decide) h (fun c72 h => ?_) (fun c72 h => ?_)
        · refine Y.blk (pc' := 51) (L' := [some (.ref a0), some (.int a1), some (.int a2), some (.int (nI 0))]) (st' := []) (sg := [(.iconst 0, nI 0), (.istore_n 3, 0)]) (lSa_ok dd18) rfl ?_
          refine k_M_spot_L51 hV _ ?_  zFu G59 a0 a1 a2 (nI 0) h
          · intro G65 x61 x62 x63 x64 h
            refine Y.blk (pc' := 81) (L' := [some (.ref x61), some (.int x62), some (.int x63), some (.int x64)]) (st' := [.int x63, .int x62, .ref x61]) (sg := [(.aload_n 0, 0), (.iload_n 1, 0), (.iload_n 2, 0)]) (lSa_ok dd19) rfl ?_
            obtain ⟨_, o67, e66, m68, h⟩ := gOb_inv h
            refine Y.callI (yC.Vi (b := x61) (As := [.int x62, .int x63]) (st := []) (r := ("PartlisterModel", T_M, 9)) hV.1 cb_M_firstOf lk_M_163 in_M_firstOf rfl se_M_firstOf (lIa_ok dd20) rfl rfl (Nat.le_of_ble_eq_true rfl) (by decide) e66 m68) (k_M_firstOf hV G65 x61 x62 x63) h (fun v70 G69 _ h => ?_)
            refine Y.blk (pc' := 85) (L' := [some (.ref x61), some (.int x62), some (.int x63), some (.int x64)]) (st' := [.int (-1), .int v70]) (sg := [(.iconst (-1), -1)]) (lSa_ok dd21) rfl ?_
            refine Y.ic_ne (off := 7) (tgt := 92) (lIa_ok dd22) (by decide) h (fun c71 h => ?_) (fun c71 h => ?_)
            · refine Y.blk (pc' := 89) (L' := [some (.ref x61), some (.int x62), some (.int x63), some (.int x64)]) (st' := [.int x64]) (sg := [(.iload_n 3, 0)]) (lSa_ok dd23) rfl ?_
              refine Y.goto (off := 5) (tgt := 94) (lIa_ok dd24) (by decide) ?_
              exact Y.iret rfl (lIa_ok dd25) h
            · refine Y.blk (pc' := 94) (L' := [some (.ref x61), some (.int x62), some (.int x63), some (.int x64)]) (st' := [.int (nI 99)]) (sg := [(.bipush 99, nI 99)]) (lSa_ok dd26) rfl ?_
              exact Y.iret rfl (lIa_ok dd25) h
        · refine Y.blk (pc' := 48) (L' := [some (.ref a0), some (.int a1), some (.int a2), none]) (st' := [.int (nI 0)]) (sg := [(.iconst 0, nI 0)]) (lSa_ok dd27) rfl ?_
          exact Y.iret rfl (lIa_ok dd28) h
    · refine Y.blk (pc' := 48) (L' := [some (.ref a0), some (.int a1), some (.int a2), none]) (st' := [.int (nI 0)]) (sg := [(.iconst 0, nI 0)]) (lSa_ok dd27) rfl ?_
      exact Y.iret rfl (lIa_ok dd28) h
  · refine Y.blk (pc' := 48) (L' := [some (.ref a0), some (.int a1), some (.int a2), none]) (st' := [.int (nI 0)]) (sg := [(.iconst 0, nI 0)]) (lSa_ok dd27) rfl ?_
    exact Y.iret rfl (lIa_ok dd28) h

def f_M_tag (G : gH) (a0 : Nat) (a1 : Int32) (a2 : Int32) : gR :=
  gOb G a0 6 fun o2 => bI (f_M_isNoList G a0 a1) fun v5 G4 => if v5 = 0 then (gOb G4 a0 6 fun o7 => bI (f_M_isNoPlace G4 a0 a1 a2) fun v10 G9 => if v10 = 0 then (gOb G9 a0 6 fun o12 => bI (f_M_start G9 a0 (nI 0) (nI 1)) fun v15 G14 => if v15 = 0 then gOb G14 a0 6 fun o17 => bA (f_M_at G14 a0 a1 a2) fun v20 G19 => gLd G19 v20 100 (nI 1) fun v21 => rI v21 G19
      else rI (nI 0) G14)
    else gOb G9 a0 6 fun o24 => bI (f_M_start G9 a0 (nI 1) (nI 1)) fun v27 G26 => if v27 = 0 then gOb G26 a0 6 fun o29 => bA (f_M_at G26 a0 a1 a2) fun v32 G31 => gLd G31 v32 100 (nI 1) fun v33 => rI v33 G31
      else rI (nI 0) G26)
  else gOb G4 a0 6 fun o37 => bI (f_M_start G4 a0 (nI 1) (nI 1)) fun v40 G39 => if v40 = 0 then gOb G39 a0 6 fun o42 => bA (f_M_at G39 a0 a1 a2) fun v45 G44 => gLd G44 v45 100 (nI 1) fun v46 => rI v46 G44
    else rI (nI 0) G39
theorem k_M_tag {l : Launch} {D : va_G} {B : Nat} {O : State → Heap → Prop} (hV : zG l D B O) (G : gH) (a0 : Nat) (a1 : Int32) (a2 : Int32) : gMet (zVm l D B O) m_M_tag 13 [.ref a0, .int a1, .int a2] G (f_M_tag G a0 a1 a2) := by
  have hdd : lSa m_M_tag 0 [(.aload_n 0, 0), (.aload_n 0, 0), (.iload_n 1, 0)] = true ∧ lIa m_M_tag 3 (.invokevirtual 110) 3 = true ∧ lIa m_M_tag 6 (.ifCond .ne 12) 3 = true ∧ lSa m_M_tag 9 [(.aload_n 0, 0), (.iload_n 1, 0), (.iload_n 2, 0)] = true ∧ lIa m_M_tag 12 (.invokevirtual 147) 3 = true ∧ lIa m_M_tag 15 (.ifCond .eq 7) 3 = true ∧ lSa m_M_tag 22 [(.iconst 0, nI 0), (.iconst 1, nI 1)] = true ∧ lIa m_M_tag 24 (.invokevirtual 114) 3 = true ∧ lIa m_M_tag 27 (.ifCond .eq 7) 3 = true ∧ lSa m_M_tag 34 [(.aload_n 0, 0), (.iload_n 1, 0), (.iload_n 2, 0)] = true ∧ lIa m_M_tag 37 (.invokevirtual 132) 3 = true ∧ lSa m_M_tag 40 [(.iconst 1, nI 1)] = true ∧ lIa m_M_tag 41 (.iaload) 1 = true ∧ lIa m_M_tag 42 (.ireturn) 1 = true ∧ lSa m_M_tag 30 [(.iconst 0, nI 0)] = true ∧ lIa m_M_tag 31 (.goto 11) 3 = true ∧ lSa m_M_tag 18 [(.iconst 1, nI 1)] = true ∧ lIa m_M_tag 19 (.goto 4) 3 = true ∧ lSa m_M_tag 23 [(.iconst 1, nI 1)] = true := by decide +kernel
  refine lA8 hdd (fun dd0 dd1 dd2 dd3 dd4 dd5 dd6 dd7 hdd => ?_)
  refine lA8 hdd (fun dd8 dd9 dd10 dd11 dd12 dd13 dd14 dd15 hdd => ?_)
  obtain ⟨dd16, dd17, dd18⟩ := hdd
  refine gMet.of (by decide +kernel) (Nat.le_of_ble_eq_true rfl) [some (.ref a0), some (.int a1), some (.int a2)] (fun ls h => zEn_ok (n := 3) h) ?_
  intro o Gf h
  unfold f_M_tag at h
  refine Y.blk (pc' := 3) (L' := [some (.ref a0), some (.int a1), some (.int a2)]) (st' := [.int a1, .ref a0, .ref a0]) (sg := [(.aload_n 0, 0), (.aload_n 0, 0), (.iload_n 1, 0)]) (lSa_ok dd0) rfl ?_
  obtain ⟨_, o2, e1, m3, h⟩ := gOb_inv h
  refine Y.callI (yC.Vi (b := a0) (As := [.int a1]) (st := [.ref a0]) (r := ("PartlisterModel", T_M, 9)) hV.1 cb_M_isNoList lk_M_110 in_M_isNoList rfl se_M_isNoList (lIa_ok dd1) rfl rfl (Nat.le_of_ble_eq_true rfl) (by decide) e1 m3) (k_M_isNoList hV G a0 a1) h (fun v5 G4 _ h => ?_)
  refine Y.if_ne (off := 12) (tgt := 18) (lIa_ok dd2) (by decide) h (fun c48 h => ?_) (fun c48 h => ?_)
  · refine Y.blk (pc' := 12) (L' := [some (.ref a0), some (.int a1), some (.int a2)]) (st' := [.int a2, .int a1, .ref a0, .ref a0]) (sg := [(.aload_n 0, 0), (.iload_n 1, 0), (.iload_n 2, 0)]) (lSa_ok dd3) rfl ?_
    obtain ⟨_, o7, e6, m8, h⟩ := gOb_inv h
    refine Y.callI (yC.Vi (b := a0) (As := [.int a1, .int a2]) (st := [.ref a0]) (r := ("PartlisterModel", T_M, 9)) hV.1 cb_M_isNoPlace lk_M_147 in_M_isNoPlace rfl se_M_isNoPlace (lIa_ok dd4) rfl rfl (Nat.le_of_ble_eq_true rfl) (by decide) e6 m8) (k_M_isNoPlace hV G4 a0 a1 a2) h (fun v10 G9 _ h => ?_)
    refine Y.if_eq (off := 7) (tgt := 22) (lIa_ok dd5) (by decide) h (fun c35 h => ?_) (fun c35 h => ?_)
    · refine Y.blk (pc' := 24) (L' := [some (.ref a0), some (.int a1), some (.int a2)]) (st' := [.int (nI 1), .int (nI 0), .ref a0]) (sg := [(.iconst 0, nI 0), (.iconst 1, nI 1)]) (lSa_ok dd6) rfl ?_
      obtain ⟨_, o12, e11, m13, h⟩ := gOb_inv h
      refine Y.callI (yC.Vi (b := a0) (As := [.int (nI 0), .int (nI 1)]) (st := []) (r := ("PartlisterModel", T_M, 9)) hV.1 cb_M_start lk_M_114 in_M_start rfl se_M_start (lIa_ok dd7) rfl rfl (Nat.le_of_ble_eq_true rfl) (by decide) e11 m13) (k_M_start hV G9 a0 (nI 0) (nI 1)) h (fun v15 G14 _ h => ?_)
      refine Y.if_eq (off := 7) (tgt := 34) (lIa_ok dd8) (by decide) h (fun c22 h => ?_) (fun c22 h => ?_)
      · refine Y.blk (pc' := 37) (L' := [some (.ref a0), some (.int a1), some (.int a2)]) (st' := [.int a2, .int a1, .ref a0]) (sg := [(.aload_n 0, 0), (.iload_n 1, 0), (.iload_n 2, 0)]) (lSa_ok dd9) rfl ?_
        obtain ⟨_, o17, e16, m18, h⟩ := gOb_inv h
        refine Y.callA (yC.Vi (b := a0) (As := [.int a1, .int a2]) (st := []) (r := ("PartlisterModel", T_M, 9)) hV.1 cb_M_at lk_M_132 in_M_at rfl se_M_at (lIa_ok dd10) rfl rfl (Nat.le_of_ble_eq_true rfl) (by decide) e16 m18) (k_M_at hV G14 a0 a1 a2) h (fun v20 G19 _ h => ?_)
        refine Y.blk (pc' := 41) (L' := [some (.ref a0), some (.int a1), some (.int a2)]) (st' := [.int (nI 1), .ref v20]) (sg := [(.iconst 1, nI 1)]) (lSa_ok dd11) rfl ?_
        refine Y.iald (t0 := 0) (lIa_ok dd12) rfl h (fun v21 h => ?_)
        exact Y.iret rfl (lIa_ok dd13) h
      · refine Y.blk (pc' := 31) (L' := [some (.ref a0), some (.int a1), some (.int a2)]) (st' := [.int (nI 0)]) (sg := [(.iconst 0, nI 0)]) (lSa_ok dd14) rfl ?_
        refine Y.goto (off := 11) (tgt := 42) (lIa_ok dd15) (by decide) ?_
        exact Y.iret rfl (lIa_ok dd13) h
    · refine Y.blk (pc' := 19) (L' := [some (.ref a0), some (.int a1), some (.int a2)]) (st' := [.int (nI 1), .ref a0]) (sg := [(.iconst 1, nI 1)]) (lSa_ok dd16) rfl ?_
      refine Y.goto (off := 4) (tgt := 23) (lIa_ok dd17) (by decide) ?_
      refine Y.blk (pc' := 24) (L' := [some (.ref a0), some (.int a1), some (.int a2)]) (st' := [.int (nI 1), .int (nI 1), .ref a0]) (sg := [(.iconst 1, nI 1)]) (lSa_ok dd18) rfl ?_
      obtain ⟨_, o24, e23, m25, h⟩ := gOb_inv h
      refine Y.callI (yC.Vi (b := a0) (As := [.int (nI 1), .int (nI 1)]) (st := []) (r := ("PartlisterModel", T_M, 9)) hV.1 cb_M_start lk_M_114 in_M_start rfl se_M_start (lIa_ok dd7) rfl rfl (Nat.le_of_ble_eq_true rfl) (by decide) e23 m25) (k_M_start hV G9 a0 (nI 1) (nI 1)) h (fun v27 G26 _ h => ?_)
      refine Y.if_eq (off := 7) (tgt := 34) (lIa_ok dd8) (by decide) h (fun c34 h => ?_) (fun c34 h => ?_)
      · refine Y.blk (pc' := 37) (L' := [some (.ref a0), some (.int a1), some (.int a2)]) (st' := [.int a2, .int a1, .ref a0]) (sg := [(.aload_n 0, 0), (.iload_n 1, 0), (.iload_n 2, 0)]) (lSa_ok dd9) rfl ?_
        obtain ⟨_, o29, e28, m30, h⟩ := gOb_inv h
        refine Y.callA (yC.Vi (b := a0) (As := [.int a1, .int a2]) (st := []) (r := ("PartlisterModel", T_M, 9)) hV.1 cb_M_at lk_M_132 in_M_at rfl se_M_at (lIa_ok dd10) rfl rfl (Nat.le_of_ble_eq_true rfl) (by decide) e28 m30) (k_M_at hV G26 a0 a1 a2) h (fun v32 G31 _ h => ?_)
        refine Y.blk (pc' := 41) (L' := [some (.ref a0), some (.int a1), some (.int a2)]) (st' := [.int (nI 1), .ref v32]) (sg := [(.iconst 1, nI 1)]) (lSa_ok dd11) rfl ?_
        refine Y.iald (t0 := 0) (lIa_ok dd12) rfl h (fun v33 h => ?_)
        exact Y.iret rfl (lIa_ok dd13) h
      · refine Y.blk (pc' := 31) (L' := [some (.ref a0), some (.int a1), some (.int a2)]) (st' := [.int (nI 0)]) (sg := [(.iconst 0, nI 0)]) (lSa_ok dd14) rfl ?_
        refine Y.goto (off := 11) (tgt := 42) (lIa_ok dd15) (by decide) ?_
        exact Y.iret rfl (lIa_ok dd13) h
  · refine Y.blk (pc' := 19) (L' := [some (.ref a0), some (.int a1), some (.int a2)]) (st' := [.int (nI 1), .ref a0]) (sg := [(.iconst 1, nI 1)]) (lSa_ok dd16) rfl ?_
    refine Y.goto (off := 4) (tgt := 23) (lIa_ok dd17) (by decide) ?_
    refine Y.blk (pc' := 24) (L' := [some (.ref a0), some (.int a1), some (.int a2)]) (st' := [.int (nI 1), .int (nI 1), .ref a0]) (sg := [(.iconst 1, nI 1)]) (lSa_ok dd18) rfl ?_
    obtain ⟨_, o37, e36, m38, h⟩ := gOb_inv h
    refine Y.callI (yC.Vi (b := a0) (As := [.int (nI 1), .int (nI 1)]) (st := []) (r := ("PartlisterModel", T_M, 9)) hV.1 cb_M_start lk_M_114 in_M_start rfl se_M_start (lIa_ok dd7) rfl rfl (Nat.le_of_ble_eq_true rfl) (by decide) e36 m38) (k_M_start hV G4 a0 (nI 1) (nI 1)) h (fun v40 G39 _ h => ?_)
    refine Y.if_eq (off := 7) (tgt := 34) (lIa_ok dd8) (by decide) h (fun c47 h => ?_) (fun c47 h => ?_)
    · refine Y.blk (pc' := 37) (L' := [some (.ref a0), some (.int a1), some (.int a2)]) (st' := [.int a2, .int a1, .ref a0]) (sg := [(.aload_n 0, 0), (.iload_n 1, 0), (.iload_n 2, 0)]) (lSa_ok dd9) rfl ?_
      obtain ⟨_, o42, e41, m43, h⟩ := gOb_inv h
      refine Y.callA (yC.Vi (b := a0) (As := [.int a1, .int a2]) (st := []) (r := ("PartlisterModel", T_M, 9)) hV.1 cb_M_at lk_M_132 in_M_at rfl se_M_at (lIa_ok dd10) rfl rfl (Nat.le_of_ble_eq_true rfl) (by decide) e41 m43) (k_M_at hV G39 a0 a1 a2) h (fun v45 G44 _ h => ?_)
      refine Y.blk (pc' := 41) (L' := [some (.ref a0), some (.int a1), some (.int a2)]) (st' := [.int (nI 1), .ref v45]) (sg := [(.iconst 1, nI 1)]) (lSa_ok dd11) rfl ?_
      refine Y.iald (t0 := 0) (lIa_ok dd12) rfl h (fun v46 h => ?_)
      exact Y.iret rfl (lIa_ok dd13) h
    · refine Y.blk (pc' := 31) (L' := [some (.ref a0), some (.int a1), some (.int a2)]) (st' := [.int (nI 0)]) (sg := [(.iconst 0, nI 0)]) (lSa_ok dd14) rfl ?_
      refine Y.goto (off := 11) (tgt := 42) (lIa_ok dd15) (by decide) ?_
      exact Y.iret rfl (lIa_ok dd13) h

def f_M_text (w : Nat → Nat) (G : gH) (a0 : Nat) (a1 : Int32) : gR :=
  gOb G a0 6 fun o2 => bI (f_M_isNoList G a0 a1) fun v5 G4 => gOb G4 a0 6 fun o7 => bI (f_M_start G4 a0 v5 (nI 1)) fun v10 G9 => if v10 = 0 then gOb G9 a0 6 fun o12 => bA (f_M_textOf w G9 a0 a1) fun v15 G14 => rA v15 G14
  else rA (w 5) G9
theorem k_M_text {l : Launch} {D : va_G} {B : Nat} {O : State → Heap → Prop} {w : Nat → Nat} (hV : zGw l D B O w) (G : gH) (a0 : Nat) (a1 : Int32) : gMet (zVm l D B O) m_M_text 14 [.ref a0, .int a1] G (f_M_text w G a0 a1) := by
  have hdd : lSa m_M_text 0 [(.aload_n 0, 0), (.aload_n 0, 0), (.iload_n 1, 0)] = true ∧ lIa m_M_text 3 (.invokevirtual 110) 3 = true ∧ lSa m_M_text 6 [(.iconst 1, nI 1)] = true ∧ lIa m_M_text 7 (.invokevirtual 114) 3 = true ∧ lIa m_M_text 10 (.ifCond .eq 9) 3 = true ∧ lSa m_M_text 19 [(.aload_n 0, 0), (.iload_n 1, 0)] = true ∧ lIa m_M_text 21 (.invokevirtual 283) 3 = true ∧ lIa m_M_text 24 (.areturn) 1 = true ∧ lIa m_M_text 13 (.ldc_w 263) 3 = true ∧ lIa m_M_text 16 (.goto 8) 3 = true := by decide +kernel
  refine lA8 hdd (fun dd0 dd1 dd2 dd3 dd4 dd5 dd6 dd7 hdd => ?_)
  obtain ⟨dd8, dd9⟩ := hdd
  refine gMet.of (by decide +kernel) (Nat.le_of_ble_eq_true rfl) [some (.ref a0), some (.int a1)] (fun ls h => zEn_ok (n := 2) h) ?_
  intro o Gf h
  unfold f_M_text at h
  refine Y.blk (pc' := 3) (L' := [some (.ref a0), some (.int a1)]) (st' := [.int a1, .ref a0, .ref a0]) (sg := [(.aload_n 0, 0), (.aload_n 0, 0), (.iload_n 1, 0)]) (lSa_ok dd0) rfl ?_
  obtain ⟨_, o2, e1, m3, h⟩ := gOb_inv h
  refine Y.callI (yC.Vi (b := a0) (As := [.int a1]) (st := [.ref a0]) (r := ("PartlisterModel", T_M, 9)) hV.1.1 cb_M_isNoList lk_M_110 in_M_isNoList rfl se_M_isNoList (lIa_ok dd1) rfl rfl (Nat.le_of_ble_eq_true rfl) (by decide) e1 m3) (k_M_isNoList hV.1 G a0 a1) h (fun v5 G4 _ h => ?_)
  refine Y.blk (pc' := 7) (L' := [some (.ref a0), some (.int a1)]) (st' := [.int (nI 1), .int v5, .ref a0]) (sg := [(.iconst 1, nI 1)]) (lSa_ok dd2) rfl ?_
  obtain ⟨_, o7, e6, m8, h⟩ := gOb_inv h
  refine Y.callI (yC.Vi (b := a0) (As := [.int v5, .int (nI 1)]) (st := []) (r := ("PartlisterModel", T_M, 9)) hV.1.1 cb_M_start lk_M_114 in_M_start rfl se_M_start (lIa_ok dd3) rfl rfl (Nat.le_of_ble_eq_true rfl) (by decide) e6 m8) (k_M_start hV.1 G4 a0 v5 (nI 1)) h (fun v10 G9 _ h => ?_)
  refine Y.if_eq (off := 9) (tgt := 19) (lIa_ok dd4) (by decide) h (fun c16 h => ?_) (fun c16 h => ?_)
  · refine Y.blk (pc' := 21) (L' := [some (.ref a0), some (.int a1)]) (st' := [.int a1, .ref a0]) (sg := [(.aload_n 0, 0), (.iload_n 1, 0)]) (lSa_ok dd5) rfl ?_
    obtain ⟨_, o12, e11, m13, h⟩ := gOb_inv h
    refine Y.callA (yC.Vi (b := a0) (As := [.int a1]) (st := []) (r := ("PartlisterModel", T_M, 9)) hV.1.1 cb_M_textOf lk_M_283 in_M_textOf rfl se_M_textOf (lIa_ok dd6) rfl rfl (Nat.le_of_ble_eq_true rfl) (by decide) e11 m13) (k_M_textOf hV G9 a0 a1) h (fun v15 G14 _ h => ?_)
    exact Y.aret rfl (by first | exact Or.inl ⟨_, rfl⟩ | exact Or.inr ⟨_, rfl⟩) (lIa_ok dd7) h
  · refine Y.ldcSW (fun U H h => (hV.2 U H h).2.2.2.2.2.1) (lIa_ok dd8) ?_
    refine Y.goto (off := 8) (tgt := 24) (lIa_ok dd9) (by decide) ?_
    exact Y.aret rfl (by first | exact Or.inl ⟨_, rfl⟩ | exact Or.inr ⟨_, rfl⟩) (lIa_ok dd7) h

def f_M_turn_L23 (w : Nat → Nat) (K59 : gH → Nat → gR) : Nat → gH → Nat → Int32 → Nat → Int32 → gR
  | 0, _, _, _, _, _ => none
  | n + 1, G, x0, x1, x2, x3 =>
    gOb G x2 9 fun o17 => bI (f_AL_size G x2) fun v20 G19 => if v20 ≤ x3 then K59 G19 x2
    else gOb G19 x2 9 fun o22 => bI (f_AL_size G19 x2) fun v25 G24 => gOb G24 x2 9 fun o27 => bA (f_AL_get G24 x2 ((v25 - (nI 1)) - x3)) fun v30 G29 => gCaA G29 v30 100 (gOb G29 x0 6 fun o32 => bA (f_M_write G29 x0 x1 x3 v30) fun v35 G34 => f_M_turn_L23 w K59 n G34 x0 x1 x2 (x3 + (nI 1)))
def f_M_turn (w : Nat → Nat) (G : gH) (a0 : Nat) (a1 : Int32) : gR :=
  gOb G a0 6 fun o2 => bI (f_M_isNoList G a0 a1) fun v5 G4 => gOb G4 a0 6 fun o7 => bI (f_M_start G4 a0 v5 (nI 1)) fun v10 G9 => if v10 = 0 then gOb G9 a0 6 fun o12 => bA (f_M_copy w G9 a0 a1) fun v15 G14 => f_M_turn_L23 w (fun G38 x37 => gOb G38 x37 9 fun o40 => bI (f_AL_size G38 x37) fun v43 G42 => rI v43 G42) zFu G14 a0 a1 v15 (nI 0)
  else rI (nI 0) G9
theorem k_M_turn_L23 {l : Launch} {D : va_G} {B : Nat} {O : State → Heap → Prop} {w : Nat → Nat} (hV : zGw l D B O w) {o : gO} {Gf : gH} (K59 : gH → Nat → gR) (hK59 : ∀ (G : gH) (x2 : Nat), K59 G x2 = some (o, Gf) → Y (zVm l D B O) m_M_turn 14 o Gf 59 [none, none, some (.ref x2), none] [] G) : ∀ (n : Nat) (G : gH) (x0 : Nat) (x1 : Int32) (x2 : Nat) (x3 : Int32), f_M_turn_L23 w K59 n G x0 x1 x2 x3 = some (o, Gf) → Y (zVm l D B O) m_M_turn 14 o Gf 23 [some (.ref x0), some (.int x1), some (.ref x2), some (.int x3)] [] G := by
  have hdd : lSa m_M_turn 23 [(.iload_n 3, 0), (.aload_n 2, 0)] = true ∧ lIa m_M_turn 25 (.invokevirtual 61) 3 = true ∧ lIa m_M_turn 28 (.if_icmp .ge 31) 3 = true ∧ lSa m_M_turn 31 [(.aload_n 0, 0), (.iload_n 1, 0), (.iload_n 3, 0), (.aload_n 2, 0), (.aload_n 2, 0)] = true ∧ lIa m_M_turn 36 (.invokevirtual 61) 3 = true ∧ lSa m_M_turn 39 [(.iconst 1, nI 1), (.isub, 0), (.iload_n 3, 0), (.isub, 0)] = true ∧ lIa m_M_turn 43 (.invokevirtual 57) 3 = true ∧ lIa m_M_turn 46 (.checkcast 72) 3 = true ∧ lIa m_M_turn 49 (.invokevirtual 150) 3 = true ∧ lSa m_M_turn 52 [(.pop, 0), (.iinc 3 1, nI 1)] = true ∧ lIa m_M_turn 56 (.goto (-33)) 3 = true := by decide +kernel
  refine lA8 hdd (fun dd0 dd1 dd2 dd3 dd4 dd5 dd6 dd7 hdd => ?_)
  obtain ⟨dd8, dd9, dd10⟩ := hdd
  intro n
  induction n with
  | zero => intro G x0 x1 x2 x3 h; cases h
  | succ n ih =>
    intro G x0 x1 x2 x3 h
    unfold f_M_turn_L23 at h
    refine Y.blk (pc' := 25) (L' := [some (.ref x0), some (.int x1), some (.ref x2), some (.int x3)]) (st' := [.ref x2, .int x3]) (sg := [(.iload_n 3, 0), (.aload_n 2, 0)]) (lSa_ok dd0) rfl ?_
    obtain ⟨_, o17, e16, m18, h⟩ := gOb_inv h
    refine Y.callI (yC.Vi (b := x2) (As := []) (st := [.int x3]) (r := ("java/util/ArrayList", T_AL, 3)) hV.1.1 cb_AL_size lk_M_61 in_AL_size rfl se_AL_size (lIa_ok dd1) rfl rfl (Nat.le_of_ble_eq_true rfl) (by decide) e16 m18) (k_AL_size hV.1 G x2) h (fun v20 G19 _ h => ?_)
    refine Y.ic_ge (off := 31) (tgt := 59) (lIa_ok dd2) (by decide) h (fun c36 h => ?_) (fun c36 h => ?_)
    · refine Y.less (L' := [none, none, some (.ref x2), none]) (zLe_none (zLe_none (zLe_some (zLe_none (zLe_nil))))) ?_
      exact hK59 G19 x2 h
    · refine Y.blk (pc' := 36) (L' := [some (.ref x0), some (.int x1), some (.ref x2), some (.int x3)]) (st' := [.ref x2, .ref x2, .int x3, .int x1, .ref x0]) (sg := [(.aload_n 0, 0), (.iload_n 1, 0), (.iload_n 3, 0), (.aload_n 2, 0), (.aload_n 2, 0)]) (lSa_ok dd3) rfl ?_
      obtain ⟨_, o22, e21, m23, h⟩ := gOb_inv h
      refine Y.callI (yC.Vi (b := x2) (As := []) (st := [.ref x2, .int x3, .int x1, .ref x0]) (r := ("java/util/ArrayList", T_AL, 3)) hV.1.1 cb_AL_size lk_M_61 in_AL_size rfl se_AL_size (lIa_ok dd4) rfl rfl (Nat.le_of_ble_eq_true rfl) (by decide) e21 m23) (k_AL_size hV.1 G19 x2) h (fun v25 G24 _ h => ?_)
      refine Y.blk (pc' := 43) (L' := [some (.ref x0), some (.int x1), some (.ref x2), some (.int x3)]) (st' := [.int ((v25 - (nI 1)) - x3), .ref x2, .int x3, .int x1, .ref x0]) (sg := [(.iconst 1, nI 1), (.isub, 0), (.iload_n 3, 0), (.isub, 0)]) (lSa_ok dd5) rfl ?_
      obtain ⟨_, o27, e26, m28, h⟩ := gOb_inv h
      refine Y.callA (yC.Vi (b := x2) (As := [.int ((v25 - (nI 1)) - x3)]) (st := [.int x3, .int x1, .ref x0]) (r := ("java/util/ArrayList", T_AL, 3)) hV.1.1 cb_AL_get lk_M_57 in_AL_get rfl se_AL_get (lIa_ok dd6) rfl rfl (Nat.le_of_ble_eq_true rfl) (by decide) e26 m28) (k_AL_get hV.1 G24 x2 ((v25 - (nI 1)) - x3)) h (fun v30 G29 _ h => ?_)
      refine Y.castA (t0 := 0) (nm := "[I") (lIa_ok dd7) rfl (by decide) ck_M_72 h (fun h => ?_)
      obtain ⟨_, o32, e31, m33, h⟩ := gOb_inv h
      refine Y.callA (yC.Vi (b := x0) (As := [.int x1, .int x3, .ref v30]) (st := []) (r := ("PartlisterModel", T_M, 9)) hV.1.1 cb_M_write lk_M_150 in_M_write rfl se_M_write (lIa_ok dd8) rfl rfl (Nat.le_of_ble_eq_true rfl) (by decide) e31 m33) (k_M_write hV.1 G29 x0 x1 x3 v30) h (fun v35 G34 _ h => ?_)
      refine Y.blk (pc' := 56) (L' := [some (.ref x0), some (.int x1), some (.ref x2), some (.int (x3 + (nI 1)))]) (st' := []) (sg := [(.pop, 0), (.iinc 3 1, nI 1)]) (lSa_ok dd9) rfl ?_
      refine Y.goto (off := -33) (tgt := 23) (lIa_ok dd10) (by decide) ?_
      exact ih G34 x0 x1 x2 (x3 + (nI 1)) h
theorem k_M_turn {l : Launch} {D : va_G} {B : Nat} {O : State → Heap → Prop} {w : Nat → Nat} (hV : zGw l D B O w) (G : gH) (a0 : Nat) (a1 : Int32) : gMet (zVm l D B O) m_M_turn 14 [.ref a0, .int a1] G (f_M_turn w G a0 a1) := by
  have hdd : lSa m_M_turn 0 [(.aload_n 0, 0), (.aload_n 0, 0), (.iload_n 1, 0)] = true ∧ lIa m_M_turn 3 (.invokevirtual 110) 3 = true ∧ lSa m_M_turn 6 [(.iconst 1, nI 1)] = true ∧ lIa m_M_turn 7 (.invokevirtual 114) 3 = true ∧ lIa m_M_turn 10 (.ifCond .eq 5) 3 = true ∧ lSa m_M_turn 15 [(.aload_n 0, 0), (.iload_n 1, 0)] = true ∧ lIa m_M_turn 17 (.invokevirtual 136) 3 = true ∧ lSa m_M_turn 20 [(.astore_n 2, 0), (.iconst 0, nI 0), (.istore_n 3, 0)] = true ∧ lSa m_M_turn 59 [(.aload_n 2, 0)] = true ∧ lIa m_M_turn 60 (.invokevirtual 61) 3 = true ∧ lIa m_M_turn 63 (.ireturn) 1 = true ∧ lSa m_M_turn 13 [(.iconst 0, nI 0)] = true ∧ lIa m_M_turn 14 (.ireturn) 1 = true := by decide +kernel
  refine lA8 hdd (fun dd0 dd1 dd2 dd3 dd4 dd5 dd6 dd7 hdd => ?_)
  obtain ⟨dd8, dd9, dd10, dd11, dd12⟩ := hdd
  refine gMet.of (by decide +kernel) (Nat.le_of_ble_eq_true rfl) [some (.ref a0), some (.int a1), none, none] (fun ls h => zEn_ok (n := 4) h) ?_
  intro o Gf h
  unfold f_M_turn at h
  refine Y.blk (pc' := 3) (L' := [some (.ref a0), some (.int a1), none, none]) (st' := [.int a1, .ref a0, .ref a0]) (sg := [(.aload_n 0, 0), (.aload_n 0, 0), (.iload_n 1, 0)]) (lSa_ok dd0) rfl ?_
  obtain ⟨_, o2, e1, m3, h⟩ := gOb_inv h
  refine Y.callI (yC.Vi (b := a0) (As := [.int a1]) (st := [.ref a0]) (r := ("PartlisterModel", T_M, 9)) hV.1.1 cb_M_isNoList lk_M_110 in_M_isNoList rfl se_M_isNoList (lIa_ok dd1) rfl rfl (Nat.le_of_ble_eq_true rfl) (by decide) e1 m3) (k_M_isNoList hV.1 G a0 a1) h (fun v5 G4 _ h => ?_)
  refine Y.blk (pc' := 7) (L' := [some (.ref a0), some (.int a1), none, none]) (st' := [.int (nI 1), .int v5, .ref a0]) (sg := [(.iconst 1, nI 1)]) (lSa_ok dd2) rfl ?_
  obtain ⟨_, o7, e6, m8, h⟩ := gOb_inv h
  refine Y.callI (yC.Vi (b := a0) (As := [.int v5, .int (nI 1)]) (st := []) (r := ("PartlisterModel", T_M, 9)) hV.1.1 cb_M_start lk_M_114 in_M_start rfl se_M_start (lIa_ok dd3) rfl rfl (Nat.le_of_ble_eq_true rfl) (by decide) e6 m8) (k_M_start hV.1 G4 a0 v5 (nI 1)) h (fun v10 G9 _ h => ?_)
  refine Y.if_eq (off := 5) (tgt := 15) (lIa_ok dd4) (by decide) h (fun c44 h => ?_) (fun c44 h => ?_)
  · refine Y.blk (pc' := 17) (L' := [some (.ref a0), some (.int a1), none, none]) (st' := [.int a1, .ref a0]) (sg := [(.aload_n 0, 0), (.iload_n 1, 0)]) (lSa_ok dd5) rfl ?_
    obtain ⟨_, o12, e11, m13, h⟩ := gOb_inv h
    refine Y.callA (yC.Vi (b := a0) (As := [.int a1]) (st := []) (r := ("PartlisterModel", T_M, 9)) hV.1.1 cb_M_copy lk_M_136 in_M_copy rfl se_M_copy (lIa_ok dd6) rfl rfl (Nat.le_of_ble_eq_true rfl) (by decide) e11 m13) (k_M_copy hV G9 a0 a1) h (fun v15 G14 _ h => ?_)
    refine Y.blk (pc' := 23) (L' := [some (.ref a0), some (.int a1), some (.ref v15), some (.int (nI 0))]) (st' := []) (sg := [(.astore_n 2, 0), (.iconst 0, nI 0), (.istore_n 3, 0)]) (lSa_ok dd7) rfl ?_
    refine k_M_turn_L23 hV _ ?_  zFu G14 a0 a1 v15 (nI 0) h
    · intro G38 x37 h
      refine Y.blk (pc' := 60) (L' := [none, none, some (.ref x37), none]) (st' := [.ref x37]) (sg := [(.aload_n 2, 0)]) (lSa_ok dd8) rfl ?_
      obtain ⟨_, o40, e39, m41, h⟩ := gOb_inv h
      refine Y.callI (yC.Vi (b := x37) (As := []) (st := []) (r := ("java/util/ArrayList", T_AL, 3)) hV.1.1 cb_AL_size lk_M_61 in_AL_size rfl se_AL_size (lIa_ok dd9) rfl rfl (Nat.le_of_ble_eq_true rfl) (by decide) e39 m41) (k_AL_size hV.1 G38 x37) h (fun v43 G42 _ h => ?_)
      exact Y.iret rfl (lIa_ok dd10) h
  · refine Y.blk (pc' := 14) (L' := [some (.ref a0), some (.int a1), none, none]) (st' := [.int (nI 0)]) (sg := [(.iconst 0, nI 0)]) (lSa_ok dd11) rfl ?_
    exact Y.iret rfl (lIa_ok dd12) h

def f_X_text_L32 (w : Nat → Nat) (K95 : gH → Nat → gR) : Nat → gH → Nat → Int32 → Int32 → Nat → Int32 → gR
  | 0, _, _, _, _, _, _ => none
  | n + 1, G, x0, x1, x2, x3, x4 =>
    if x2 ≤ x4 then K95 G x3
    else if x4 ≤ 0 then gFA G x0 3 0 fun v15 => gOb G v15 1 fun o17 => bI (f_I_thingAt G v15 x1 x4) fun v20 G19 => bI (f_X_keyOf G19 v20) fun v23 G22 => gOb G22 x3 10 fun o25 => bA (f_SB_append2 w G22 x3 v23) fun v28 G27 => gOb G27 x3 10 fun o30 => bA (f_SB_append1 w G27 x3 (nI 46)) fun v33 G32 => bI (f_X_tagOf G32 v20) fun v36 G35 => gOb G35 x3 10 fun o38 => bA (f_SB_append2 w G35 x3 v36) fun v41 G40 => f_X_text_L32 w K95 n G40 x0 x1 x2 x3 (x4 + (nI 1))
      else gOb G x3 10 fun o43 => bA (f_SB_append1 w G x3 (nI 44)) fun v46 G45 => gFA G45 x0 3 0 fun v47 => gOb G45 v47 1 fun o49 => bI (f_I_thingAt G45 v47 x1 x4) fun v52 G51 => bI (f_X_keyOf G51 v52) fun v55 G54 => gOb G54 x3 10 fun o57 => bA (f_SB_append2 w G54 x3 v55) fun v60 G59 => gOb G59 x3 10 fun o62 => bA (f_SB_append1 w G59 x3 (nI 46)) fun v65 G64 => bI (f_X_tagOf G64 v52) fun v68 G67 => gOb G67 x3 10 fun o70 => bA (f_SB_append2 w G67 x3 v68) fun v73 G72 => f_X_text_L32 w K95 n G72 x0 x1 x2 x3 (x4 + (nI 1))
def f_X_text (w : Nat → Nat) (G : gH) (a0 : Nat) (a1 : Int32) : gR :=
  gOb G a0 3 fun o2 => bV (f_X_needList G a0 a1) fun G4 => gFA G4 a0 3 0 fun v5 => gOb G4 v5 1 fun o7 => bI (f_I_lengthOf G4 v5 a1) fun v10 G9 => if v10 = 0 then rA (w 9) G9
  else gNewO G9 10 4 [.null, .int 0, .int 0, .int 0] fun q11 G12 => bV (f_SB_init w G12 q11) fun G14 => f_X_text_L32 w (fun G77 x76 => gOb G77 x76 10 fun o79 => bA (f_SB_toString w G77 x76) fun v82 G81 => rA v82 G81) zFu G14 a0 a1 v10 q11 (nI 0)
theorem k_X_text_L32 {l : Launch} {D : va_G} {B : Nat} {O : State → Heap → Prop} {w : Nat → Nat} (hV : zGw l D B O w) {o : gO} {Gf : gH} (K95 : gH → Nat → gR) (hK95 : ∀ (G : gH) (x3 : Nat), K95 G x3 = some (o, Gf) → Y (zVm l D B O) m_X_text 8 o Gf 95 [none, none, none, some (.ref x3), none, none] [] G) : ∀ (n : Nat) (G : gH) (x0 : Nat) (x1 : Int32) (x2 : Int32) (x3 : Nat) (x4 : Int32), f_X_text_L32 w K95 n G x0 x1 x2 x3 x4 = some (o, Gf) → Y (zVm l D B O) m_X_text 8 o Gf 32 [some (.ref x0), some (.int x1), some (.int x2), some (.ref x3), some (.int x4), none] [] G := by
  have hdd : lSa m_X_text 32 [(.iload 4, 0), (.iload_n 2, 0)] = true ∧ lIa m_X_text 35 (.if_icmp .ge 60) 3 = true ∧ lSa m_X_text 38 [(.iload 4, 0)] = true ∧ lIa m_X_text 40 (.ifCond .le 10) 3 = true ∧ lSa m_X_text 50 [(.aload_n 0, 0)] = true ∧ lIa m_X_text 51 (.getfield 10) 3 = true ∧ lSa m_X_text 54 [(.iload_n 1, 0), (.iload 4, 0)] = true ∧ lIa m_X_text 57 (.invokevirtual 94) 3 = true ∧ lSa m_X_text 60 [(.istore 5, 0), (.aload_n 3, 0), (.iload 5, 0)] = true ∧ lIa m_X_text 65 (.invokestatic 97) 3 = true ∧ lIa m_X_text 68 (.invokevirtual 229) 3 = true ∧ lSa m_X_text 71 [(.pop, 0), (.aload_n 3, 0), (.bipush 46, nI 46)] = true ∧ lIa m_X_text 75 (.invokevirtual 225) 3 = true ∧ lSa m_X_text 78 [(.pop, 0), (.aload_n 3, 0), (.iload 5, 0)] = true ∧ lIa m_X_text 82 (.invokestatic 48) 3 = true ∧ lIa m_X_text 85 (.invokevirtual 229) 3 = true ∧ lSa m_X_text 88 [(.pop, 0), (.iinc 4 1, nI 1)] = true ∧ lIa m_X_text 92 (.goto (-60)) 3 = true ∧ lSa m_X_text 43 [(.aload_n 3, 0), (.bipush 44, nI 44)] = true ∧ lIa m_X_text 46 (.invokevirtual 225) 3 = true ∧ lSa m_X_text 49 [(.pop, 0), (.aload_n 0, 0)] = true := by decide +kernel
  refine lA8 hdd (fun dd0 dd1 dd2 dd3 dd4 dd5 dd6 dd7 hdd => ?_)
  refine lA8 hdd (fun dd8 dd9 dd10 dd11 dd12 dd13 dd14 dd15 hdd => ?_)
  obtain ⟨dd16, dd17, dd18, dd19, dd20⟩ := hdd
  intro n
  induction n with
  | zero => intro G x0 x1 x2 x3 x4 h; cases h
  | succ n ih =>
    intro G x0 x1 x2 x3 x4 h
    unfold f_X_text_L32 at h
    refine Y.blk (pc' := 35) (L' := [some (.ref x0), some (.int x1), some (.int x2), some (.ref x3), some (.int x4), none]) (st' := [.int x2, .int x4]) (sg := [(.iload 4, 0), (.iload_n 2, 0)]) (lSa_ok dd0) rfl ?_
    refine Y.ic_ge (off := 60) (tgt := 95) (lIa_ok dd1) (by decide) h (fun c75 h => ?_) (fun c75 h => ?_)
    · refine Y.less (L' := [none, none, none, some (.ref x3), none, none]) (zLe_none (zLe_none (zLe_none (zLe_some (zLe_none (zLe_some (zLe_nil))))))) ?_
      exact hK95 G x3 h
    · refine Y.blk (pc' := 40) (L' := [some (.ref x0), some (.int x1), some (.int x2), some (.ref x3), some (.int x4), none]) (st' := [.int x4]) (sg := [(.iload 4, 0)]) (lSa_ok dd2) rfl ?_
      refine Y.if_le (off := 10) (tgt := 50) (lIa_ok dd3) (by decide) h (fun c74 h => ?_) (fun c74 h => ?_)
      · refine Y.blk (pc' := 51) (L' := [some (.ref x0), some (.int x1), some (.int x2), some (.ref x3), some (.int x4), none]) (st' := [.ref x0]) (sg := [(.aload_n 0, 0)]) (lSa_ok dd4) rfl ?_
        refine Y.getA fl_X_10 (lIa_ok dd5) h (fun v15 h => ?_)
        refine Y.blk (pc' := 57) (L' := [some (.ref x0), some (.int x1), some (.int x2), some (.ref x3), some (.int x4), none]) (st' := [.int x4, .int x1, .ref v15]) (sg := [(.iload_n 1, 0), (.iload 4, 0)]) (lSa_ok dd6) rfl ?_
        obtain ⟨_, o17, e16, m18, h⟩ := gOb_inv h
        refine Y.callI (yC.Vi (b := v15) (As := [.int x1, .int x4]) (st := []) (r := ("Partlister$Lists", T_I, 7)) hV.1.1 cb_I_thingAt lk_X_94 in_I_thingAt rfl se_I_thingAt (lIa_ok dd7) rfl rfl (Nat.le_of_ble_eq_true rfl) (by decide) e16 m18) (k_I_thingAt hV.1 G v15 x1 x4) h (fun v20 G19 _ h => ?_)
        refine Y.blk (pc' := 65) (L' := [some (.ref x0), some (.int x1), some (.int x2), some (.ref x3), some (.int x4), some (.int v20)]) (st' := [.int v20, .ref x3]) (sg := [(.istore 5, 0), (.aload_n 3, 0), (.iload 5, 0)]) (lSa_ok dd8) rfl ?_
        refine Y.callI (yC.S (As := [.int v20]) (st := [.ref x3]) hV.1.1 cb_X_keyOf lk_X_97 st_X_keyOf (lIa_ok dd9) rfl rfl (Nat.le_of_ble_eq_true rfl) (by decide)) (k_X_keyOf hV.1 G19 v20) h (fun v23 G22 _ h => ?_)
        obtain ⟨_, o25, e24, m26, h⟩ := gOb_inv h
        refine Y.callA (yC.Vi (b := x3) (As := [.int v23]) (st := []) (r := ("java/lang/StringBuilder", T_SB, 4)) hV.1.1 cb_SB_append2 lk_X_229 in_SB_append2 rfl se_SB_append2 (lIa_ok dd10) rfl rfl (Nat.le_of_ble_eq_true rfl) (by decide) e24 m26) (k_SB_append2 hV G22 x3 v23) h (fun v28 G27 _ h => ?_)
        refine Y.blk (pc' := 75) (L' := [some (.ref x0), some (.int x1), some (.int x2), some (.ref x3), some (.int x4), some (.int v20)]) (st' := [.int (nI 46), .ref x3]) (sg := [(.pop, 0), (.aload_n 3, 0), (.bipush 46, nI 46)]) (lSa_ok dd11) rfl ?_
        obtain ⟨_, o30, e29, m31, h⟩ := gOb_inv h
        refine Y.callA (yC.Vi (b := x3) (As := [.int (nI 46)]) (st := []) (r := ("java/lang/StringBuilder", T_SB, 4)) hV.1.1 cb_SB_append1 lk_X_225 in_SB_append1 rfl se_SB_append1 (lIa_ok dd12) rfl rfl (Nat.le_of_ble_eq_true rfl) (by decide) e29 m31) (k_SB_append1 hV G27 x3 (nI 46)) h (fun v33 G32 _ h => ?_)
        refine Y.blk (pc' := 82) (L' := [some (.ref x0), some (.int x1), some (.int x2), some (.ref x3), some (.int x4), some (.int v20)]) (st' := [.int v20, .ref x3]) (sg := [(.pop, 0), (.aload_n 3, 0), (.iload 5, 0)]) (lSa_ok dd13) rfl ?_
        refine Y.callI (yC.S (As := [.int v20]) (st := [.ref x3]) hV.1.1 cb_X_tagOf lk_X_48 st_X_tagOf (lIa_ok dd14) rfl rfl (Nat.le_of_ble_eq_true rfl) (by decide)) (k_X_tagOf hV.1 G32 v20) h (fun v36 G35 _ h => ?_)
        obtain ⟨_, o38, e37, m39, h⟩ := gOb_inv h
        refine Y.callA (yC.Vi (b := x3) (As := [.int v36]) (st := []) (r := ("java/lang/StringBuilder", T_SB, 4)) hV.1.1 cb_SB_append2 lk_X_229 in_SB_append2 rfl se_SB_append2 (lIa_ok dd15) rfl rfl (Nat.le_of_ble_eq_true rfl) (by decide) e37 m39) (k_SB_append2 hV G35 x3 v36) h (fun v41 G40 _ h => ?_)
        refine Y.blk (pc' := 92) (L' := [some (.ref x0), some (.int x1), some (.int x2), some (.ref x3), some (.int (x4 + (nI 1))), some (.int v20)]) (st' := []) (sg := [(.pop, 0), (.iinc 4 1, nI 1)]) (lSa_ok dd16) rfl ?_
        refine Y.goto (off := -60) (tgt := 32) (lIa_ok dd17) (by decide) ?_
        refine Y.less (L' := [some (.ref x0), some (.int x1), some (.int x2), some (.ref x3), some (.int (x4 + (nI 1))), none]) (zLe_some (zLe_some (zLe_some (zLe_some (zLe_some (zLe_none (zLe_nil))))))) ?_
        exact ih G40 x0 x1 x2 x3 (x4 + (nI 1)) h
      · refine Y.blk (pc' := 46) (L' := [some (.ref x0), some (.int x1), some (.int x2), some (.ref x3), some (.int x4), none]) (st' := [.int (nI 44), .ref x3]) (sg := [(.aload_n 3, 0), (.bipush 44, nI 44)]) (lSa_ok dd18) rfl ?_
        obtain ⟨_, o43, e42, m44, h⟩ := gOb_inv h
        refine Y.callA (yC.Vi (b := x3) (As := [.int (nI 44)]) (st := []) (r := ("java/lang/StringBuilder", T_SB, 4)) hV.1.1 cb_SB_append1 lk_X_225 in_SB_append1 rfl se_SB_append1 (lIa_ok dd19) rfl rfl (Nat.le_of_ble_eq_true rfl) (by decide) e42 m44) (k_SB_append1 hV G x3 (nI 44)) h (fun v46 G45 _ h => ?_)
        refine Y.blk (pc' := 51) (L' := [some (.ref x0), some (.int x1), some (.int x2), some (.ref x3), some (.int x4), none]) (st' := [.ref x0]) (sg := [(.pop, 0), (.aload_n 0, 0)]) (lSa_ok dd20) rfl ?_
        refine Y.getA fl_X_10 (lIa_ok dd5) h (fun v47 h => ?_)
        refine Y.blk (pc' := 57) (L' := [some (.ref x0), some (.int x1), some (.int x2), some (.ref x3), some (.int x4), none]) (st' := [.int x4, .int x1, .ref v47]) (sg := [(.iload_n 1, 0), (.iload 4, 0)]) (lSa_ok dd6) rfl ?_
        obtain ⟨_, o49, e48, m50, h⟩ := gOb_inv h
        refine Y.callI (yC.Vi (b := v47) (As := [.int x1, .int x4]) (st := []) (r := ("Partlister$Lists", T_I, 7)) hV.1.1 cb_I_thingAt lk_X_94 in_I_thingAt rfl se_I_thingAt (lIa_ok dd7) rfl rfl (Nat.le_of_ble_eq_true rfl) (by decide) e48 m50) (k_I_thingAt hV.1 G45 v47 x1 x4) h (fun v52 G51 _ h => ?_)
        refine Y.blk (pc' := 65) (L' := [some (.ref x0), some (.int x1), some (.int x2), some (.ref x3), some (.int x4), some (.int v52)]) (st' := [.int v52, .ref x3]) (sg := [(.istore 5, 0), (.aload_n 3, 0), (.iload 5, 0)]) (lSa_ok dd8) rfl ?_
        refine Y.callI (yC.S (As := [.int v52]) (st := [.ref x3]) hV.1.1 cb_X_keyOf lk_X_97 st_X_keyOf (lIa_ok dd9) rfl rfl (Nat.le_of_ble_eq_true rfl) (by decide)) (k_X_keyOf hV.1 G51 v52) h (fun v55 G54 _ h => ?_)
        obtain ⟨_, o57, e56, m58, h⟩ := gOb_inv h
        refine Y.callA (yC.Vi (b := x3) (As := [.int v55]) (st := []) (r := ("java/lang/StringBuilder", T_SB, 4)) hV.1.1 cb_SB_append2 lk_X_229 in_SB_append2 rfl se_SB_append2 (lIa_ok dd10) rfl rfl (Nat.le_of_ble_eq_true rfl) (by decide) e56 m58) (k_SB_append2 hV G54 x3 v55) h (fun v60 G59 _ h => ?_)
        refine Y.blk (pc' := 75) (L' := [some (.ref x0), some (.int x1), some (.int x2), some (.ref x3), some (.int x4), some (.int v52)]) (st' := [.int (nI 46), .ref x3]) (sg := [(.pop, 0), (.aload_n 3, 0), (.bipush 46, nI 46)]) (lSa_ok dd11) rfl ?_
        obtain ⟨_, o62, e61, m63, h⟩ := gOb_inv h
        refine Y.callA (yC.Vi (b := x3) (As := [.int (nI 46)]) (st := []) (r := ("java/lang/StringBuilder", T_SB, 4)) hV.1.1 cb_SB_append1 lk_X_225 in_SB_append1 rfl se_SB_append1 (lIa_ok dd12) rfl rfl (Nat.le_of_ble_eq_true rfl) (by decide) e61 m63) (k_SB_append1 hV G59 x3 (nI 46)) h (fun v65 G64 _ h => ?_)
        refine Y.blk (pc' := 82) (L' := [some (.ref x0), some (.int x1), some (.int x2), some (.ref x3), some (.int x4), some (.int v52)]) (st' := [.int v52, .ref x3]) (sg := [(.pop, 0), (.aload_n 3, 0), (.iload 5, 0)]) (lSa_ok dd13) rfl ?_
        refine Y.callI (yC.S (As := [.int v52]) (st := [.ref x3]) hV.1.1 cb_X_tagOf lk_X_48 st_X_tagOf (lIa_ok dd14) rfl rfl (Nat.le_of_ble_eq_true rfl) (by decide)) (k_X_tagOf hV.1 G64 v52) h (fun v68 G67 _ h => ?_)
        obtain ⟨_, o70, e69, m71, h⟩ := gOb_inv h
        refine Y.callA (yC.Vi (b := x3) (As := [.int v68]) (st := []) (r := ("java/lang/StringBuilder", T_SB, 4)) hV.1.1 cb_SB_append2 lk_X_229 in_SB_append2 rfl se_SB_append2 (lIa_ok dd15) rfl rfl (Nat.le_of_ble_eq_true rfl) (by decide) e69 m71) (k_SB_append2 hV G67 x3 v68) h (fun v73 G72 _ h => ?_)
        refine Y.blk (pc' := 92) (L' := [some (.ref x0), some (.int x1), some (.int x2), some (.ref x3), some (.int (x4 + (nI 1))), some (.int v52)]) (st' := []) (sg := [(.pop, 0), (.iinc 4 1, nI 1)]) (lSa_ok dd16) rfl ?_
        refine Y.goto (off := -60) (tgt := 32) (lIa_ok dd17) (by decide) ?_
        refine Y.less (L' := [some (.ref x0), some (.int x1), some (.int x2), some (.ref x3), some (.int (x4 + (nI 1))), none]) (zLe_some (zLe_some (zLe_some (zLe_some (zLe_some (zLe_none (zLe_nil))))))) ?_
        exact ih G72 x0 x1 x2 x3 (x4 + (nI 1)) h
theorem k_X_text {l : Launch} {D : va_G} {B : Nat} {O : State → Heap → Prop} {w : Nat → Nat} (hV : zGw l D B O w) (G : gH) (a0 : Nat) (a1 : Int32) : gMet (zVm l D B O) m_X_text 8 [.ref a0, .int a1] G (f_X_text w G a0 a1) := by
  have hdd : lSa m_X_text 0 [(.aload_n 0, 0), (.iload_n 1, 0)] = true ∧ lIa m_X_text 2 (.invokevirtual 23) 3 = true ∧ lSa m_X_text 5 [(.aload_n 0, 0)] = true ∧ lIa m_X_text 6 (.getfield 10) 3 = true ∧ lSa m_X_text 9 [(.iload_n 1, 0)] = true ∧ lIa m_X_text 10 (.invokevirtual 34) 3 = true ∧ lSa m_X_text 13 [(.istore_n 2, 0), (.iload_n 2, 0)] = true ∧ lIa m_X_text 15 (.ifCond .ne 6) 3 = true ∧ lIa m_X_text 18 (.ldc 220) 2 = true ∧ lIa m_X_text 20 (.areturn) 1 = true ∧ lIa m_X_text 21 (.new 222) 3 = true ∧ lSa m_X_text 24 [(.dup, 0)] = true ∧ lIa m_X_text 25 (.invokespecial 224) 3 = true ∧ lSa m_X_text 28 [(.astore_n 3, 0), (.iconst 0, nI 0), (.istore 4, 0)] = true ∧ lSa m_X_text 95 [(.aload_n 3, 0)] = true ∧ lIa m_X_text 96 (.invokevirtual 232) 3 = true ∧ lIa m_X_text 99 (.areturn) 1 = true := by decide +kernel
  refine lA8 hdd (fun dd0 dd1 dd2 dd3 dd4 dd5 dd6 dd7 hdd => ?_)
  refine lA8 hdd (fun dd8 dd9 dd10 dd11 dd12 dd13 dd14 dd15 hdd => ?_)
  have dd16 := hdd
  refine gMet.of (by decide +kernel) (Nat.le_of_ble_eq_true rfl) [some (.ref a0), some (.int a1), none, none, none, none] (fun ls h => zEn_ok (n := 6) h) ?_
  intro o Gf h
  unfold f_X_text at h
  refine Y.blk (pc' := 2) (L' := [some (.ref a0), some (.int a1), none, none, none, none]) (st' := [.int a1, .ref a0]) (sg := [(.aload_n 0, 0), (.iload_n 1, 0)]) (lSa_ok dd0) rfl ?_
  obtain ⟨_, o2, e1, m3, h⟩ := gOb_inv h
  refine Y.callN (yC.Vi (b := a0) (As := [.int a1]) (st := []) (r := ("Partlister", T_X, 5)) hV.1.1 cb_X_needList lk_X_23 in_X_needList rfl se_X_needList (lIa_ok dd1) rfl rfl (Nat.le_of_ble_eq_true rfl) (by decide) e1 m3) (k_X_needList hV.1 G a0 a1) h (fun G4 _ h => ?_)
  refine Y.blk (pc' := 6) (L' := [some (.ref a0), some (.int a1), none, none, none, none]) (st' := [.ref a0]) (sg := [(.aload_n 0, 0)]) (lSa_ok dd2) rfl ?_
  refine Y.getA fl_X_10 (lIa_ok dd3) h (fun v5 h => ?_)
  refine Y.blk (pc' := 10) (L' := [some (.ref a0), some (.int a1), none, none, none, none]) (st' := [.int a1, .ref v5]) (sg := [(.iload_n 1, 0)]) (lSa_ok dd4) rfl ?_
  obtain ⟨_, o7, e6, m8, h⟩ := gOb_inv h
  refine Y.callI (yC.Vi (b := v5) (As := [.int a1]) (st := []) (r := ("Partlister$Lists", T_I, 7)) hV.1.1 cb_I_lengthOf lk_X_34 in_I_lengthOf rfl se_I_lengthOf (lIa_ok dd5) rfl rfl (Nat.le_of_ble_eq_true rfl) (by decide) e6 m8) (k_I_lengthOf hV.1 G4 v5 a1) h (fun v10 G9 _ h => ?_)
  refine Y.blk (pc' := 15) (L' := [some (.ref a0), some (.int a1), some (.int v10), none, none, none]) (st' := [.int v10]) (sg := [(.istore_n 2, 0), (.iload_n 2, 0)]) (lSa_ok dd6) rfl ?_
  refine Y.if_ne (off := 6) (tgt := 21) (lIa_ok dd7) (by decide) h (fun c83 h => ?_) (fun c83 h => ?_)
  · refine Y.ldcS (fun U H h => (hV.2 U H h).2.2.2.2.2.2.2.1) (lIa_ok dd8) ?_
    exact Y.aret rfl (by first | exact Or.inl ⟨_, rfl⟩ | exact Or.inr ⟨_, rfl⟩) (lIa_ok dd9) h
  · refine Y.new nc_X_222 (by decide) bk_SB (lIa_ok dd10) h (fun q11 G12 h => ?_)
    refine Y.blk (pc' := 25) (L' := [some (.ref a0), some (.int a1), some (.int v10), none, none, none]) (st' := [.ref q11, .ref q11]) (sg := [(.dup, 0)]) (lSa_ok dd11) rfl ?_
    refine Y.callN (yC.I (b := q11) (As := []) (st := [.ref q11]) hV.1.1 cb_SB_init lk_X_224 in_SB_init rfl rfl (lIa_ok dd12) rfl rfl (Nat.le_of_ble_eq_true rfl) (by decide)) (k_SB_init hV G12 q11) h (fun G14 _ h => ?_)
    refine Y.blk (pc' := 32) (L' := [some (.ref a0), some (.int a1), some (.int v10), some (.ref q11), some (.int (nI 0)), none]) (st' := []) (sg := [(.astore_n 3, 0), (.iconst 0, nI 0), (.istore 4, 0)]) (lSa_ok dd13) rfl ?_
    refine k_X_text_L32 hV _ ?_  zFu G14 a0 a1 v10 q11 (nI 0) h
    · intro G77 x76 h
      refine Y.blk (pc' := 96) (L' := [none, none, none, some (.ref x76), none, none]) (st' := [.ref x76]) (sg := [(.aload_n 3, 0)]) (lSa_ok dd14) rfl ?_
      obtain ⟨_, o79, e78, m80, h⟩ := gOb_inv h
      refine Y.callA (yC.Vi (b := x76) (As := []) (st := []) (r := ("java/lang/StringBuilder", T_SB, 4)) hV.1.1 cb_SB_toString lk_X_232 in_SB_toString rfl se_SB_toString (lIa_ok dd15) rfl rfl (Nat.le_of_ble_eq_true rfl) (by decide) e78 m80) (k_SB_toString hV G77 x76) h (fun v82 G81 _ h => ?_)
      exact Y.aret rfl (by first | exact Or.inl ⟨_, rfl⟩ | exact Or.inr ⟨_, rfl⟩) (lIa_ok dd16) h
