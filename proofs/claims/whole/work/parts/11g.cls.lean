def f_I_areKeysFound_L8 (K62 : gH → gR) (K88 : gH → gR) (K96 : gH → gR) : Nat → gH → Nat → Int32 → Int32 → Int32 → gR
  | 0, _, _, _, _, _ => none
  | n + 1, G, x0, x1, x2, x3 =>
    if x2 ≤ x3 then K96 G
    else gOb G x0 1 fun o7 => bI (f_I_keyAt G x0 x1 x3) fun v10 G9 => gOb G9 x0 1 fun o12 => bI (f_I_firstOf G9 x0 x1 v10) fun v15 G14 => gOb G14 x0 1 fun o17 => bI (f_I_lastOf G14 x0 x1 v10) fun v20 G19 => if v15 < 0 then K62 G19
      else if x3 < v15 then K62 G19
        else if v20 < x3 then K62 G19
          else if v20 < x2 then (gOb G19 x0 1 fun o22 => bI (f_I_keyAt G19 x0 x1 v15) fun v25 G24 => if v25 = v10 then (gOb G24 x0 1 fun o27 => bI (f_I_keyAt G24 x0 x1 v20) fun v30 G29 => if v30 = v10 then f_I_areKeysFound_L8 K62 K88 K96 n G29 x0 x1 x2 (x3 + (nI 1))
                else K88 G29)
              else K88 G24)
            else K62 G19
def f_I_areKeysFound (G : gH) (a0 : Nat) (a1 : Int32) : gR :=
  gOb G a0 1 fun o2 => bI (f_I_lengthOf G a0 a1) fun v5 G4 => f_I_areKeysFound_L8 (fun G38 => rZ (nI 0) G38) (fun G39 => rZ (nI 0) G39) (fun G40 => rZ (nI 1) G40) zFu G4 a0 a1 v5 (nI 0)
theorem k_I_areKeysFound_L8 {l : Launch} {D : va_G} {B : Nat} {O : State → Heap → Prop} (hV : zG l D B O) {o : gO} {Gf : gH} (K62 : gH → gR) (K88 : gH → gR) (K96 : gH → gR) (hK62 : ∀ (G : gH), K62 G  = some (o, Gf) → Y (zVm l D B O) m_I_areKeysFound 5 o Gf 62 [none, none, none, none, none, none, none] [] G) (hK88 : ∀ (G : gH), K88 G  = some (o, Gf) → Y (zVm l D B O) m_I_areKeysFound 5 o Gf 88 [none, none, none, none, none, none, none] [] G) (hK96 : ∀ (G : gH), K96 G  = some (o, Gf) → Y (zVm l D B O) m_I_areKeysFound 5 o Gf 96 [none, none, none, none, none, none, none] [] G) : ∀ (n : Nat) (G : gH) (x0 : Nat) (x1 : Int32) (x2 : Int32) (x3 : Int32), f_I_areKeysFound_L8 K62 K88 K96 n G x0 x1 x2 x3 = some (o, Gf) → Y (zVm l D B O) m_I_areKeysFound 5 o Gf 8 [some (.ref x0), some (.int x1), some (.int x2), some (.int x3), none, none, none] [] G := by
  have hdd : lSa m_I_areKeysFound 8 [(.iload_n 3, 0), (.iload_n 2, 0)] = true ∧ lIa m_I_areKeysFound 10 (.if_icmp .ge 86) 3 = true ∧ lSa m_I_areKeysFound 13 [(.aload_n 0, 0), (.iload_n 1, 0), (.iload_n 3, 0)] = true ∧ lIa m_I_areKeysFound 16 (.invokevirtual 101) 3 = true ∧ lSa m_I_areKeysFound 19 [(.istore 4, 0), (.aload_n 0, 0), (.iload_n 1, 0), (.iload 4, 0)] = true ∧ lIa m_I_areKeysFound 25 (.invokevirtual 125) 3 = true ∧ lSa m_I_areKeysFound 28 [(.istore 5, 0), (.aload_n 0, 0), (.iload_n 1, 0), (.iload 4, 0)] = true ∧ lIa m_I_areKeysFound 34 (.invokevirtual 128) 3 = true ∧ lSa m_I_areKeysFound 37 [(.istore 6, 0), (.iload 5, 0)] = true ∧ lIa m_I_areKeysFound 41 (.ifCond .lt 21) 3 = true ∧ lSa m_I_areKeysFound 44 [(.iload 5, 0), (.iload_n 3, 0)] = true ∧ lIa m_I_areKeysFound 47 (.if_icmp .gt 15) 3 = true ∧ lSa m_I_areKeysFound 50 [(.iload 6, 0), (.iload_n 3, 0)] = true ∧ lIa m_I_areKeysFound 53 (.if_icmp .lt 9) 3 = true ∧ lSa m_I_areKeysFound 56 [(.iload 6, 0), (.iload_n 2, 0)] = true ∧ lIa m_I_areKeysFound 59 (.if_icmp .lt 5) 3 = true ∧ lSa m_I_areKeysFound 64 [(.aload_n 0, 0), (.iload_n 1, 0), (.iload 5, 0)] = true ∧ lIa m_I_areKeysFound 68 (.invokevirtual 101) 3 = true ∧ lSa m_I_areKeysFound 71 [(.iload 4, 0)] = true ∧ lIa m_I_areKeysFound 73 (.if_icmp .ne 15) 3 = true ∧ lSa m_I_areKeysFound 76 [(.aload_n 0, 0), (.iload_n 1, 0), (.iload 6, 0)] = true ∧ lIa m_I_areKeysFound 80 (.invokevirtual 101) 3 = true ∧ lSa m_I_areKeysFound 83 [(.iload 4, 0)] = true ∧ lIa m_I_areKeysFound 85 (.if_icmp .eq 5) 3 = true ∧ lSa m_I_areKeysFound 90 [(.iinc 3 1, nI 1)] = true ∧ lIa m_I_areKeysFound 93 (.goto (-85)) 3 = true := by decide +kernel
  refine lA8 hdd (fun dd0 dd1 dd2 dd3 dd4 dd5 dd6 dd7 hdd => ?_)
  refine lA8 hdd (fun dd8 dd9 dd10 dd11 dd12 dd13 dd14 dd15 hdd => ?_)
  refine lA8 hdd (fun dd16 dd17 dd18 dd19 dd20 dd21 dd22 dd23 hdd => ?_)
  obtain ⟨dd24, dd25⟩ := hdd
  intro n
  induction n with
  | zero => intro G x0 x1 x2 x3 h; cases h
  | succ n ih =>
    intro G x0 x1 x2 x3 h
    unfold f_I_areKeysFound_L8 at h
    refine Y.blk (pc' := 10) (L' := [some (.ref x0), some (.int x1), some (.int x2), some (.int x3), none, none, none]) (st' := [.int x2, .int x3]) (sg := [(.iload_n 3, 0), (.iload_n 2, 0)]) (lSa_ok dd0) rfl ?_
    refine Y.ic_ge (off := 86) (tgt := 96) (lIa_ok dd1) (by decide) h (fun c37 h => ?_) (fun c37 h => ?_)
    · refine Y.less (L' := [none, none, none, none, none, none, none]) (zLe_none (zLe_none (zLe_none (zLe_none (zLe_some (zLe_some (zLe_some (zLe_nil)))))))) ?_
      exact hK96 G  h
    · refine Y.blk (pc' := 16) (L' := [some (.ref x0), some (.int x1), some (.int x2), some (.int x3), none, none, none]) (st' := [.int x3, .int x1, .ref x0]) (sg := [(.aload_n 0, 0), (.iload_n 1, 0), (.iload_n 3, 0)]) (lSa_ok dd2) rfl ?_
      obtain ⟨_, o7, e6, m8, h⟩ := gOb_inv h
      refine Y.callI (yC.Vi (b := x0) (As := [.int x1, .int x3]) (st := []) (r := ("Partlister$Lists", T_I, 7)) hV.1 cb_I_keyAt lk_I_101 in_I_keyAt rfl se_I_keyAt (lIa_ok dd3) rfl rfl (Nat.le_of_ble_eq_true rfl) (by decide) e6 m8) (k_I_keyAt hV G x0 x1 x3) h (fun v10 G9 _ h => ?_)
      refine Y.blk (pc' := 25) (L' := [some (.ref x0), some (.int x1), some (.int x2), some (.int x3), some (.int v10), none, none]) (st' := [.int v10, .int x1, .ref x0]) (sg := [(.istore 4, 0), (.aload_n 0, 0), (.iload_n 1, 0), (.iload 4, 0)]) (lSa_ok dd4) rfl ?_
      obtain ⟨_, o12, e11, m13, h⟩ := gOb_inv h
      refine Y.callI (yC.Vi (b := x0) (As := [.int x1, .int v10]) (st := []) (r := ("Partlister$Lists", T_I, 7)) hV.1 cb_I_firstOf lk_I_125 in_I_firstOf rfl se_I_firstOf (lIa_ok dd5) rfl rfl (Nat.le_of_ble_eq_true rfl) (by decide) e11 m13) (k_I_firstOf hV G9 x0 x1 v10) h (fun v15 G14 _ h => ?_)
      refine Y.blk (pc' := 34) (L' := [some (.ref x0), some (.int x1), some (.int x2), some (.int x3), some (.int v10), some (.int v15), none]) (st' := [.int v10, .int x1, .ref x0]) (sg := [(.istore 5, 0), (.aload_n 0, 0), (.iload_n 1, 0), (.iload 4, 0)]) (lSa_ok dd6) rfl ?_
      obtain ⟨_, o17, e16, m18, h⟩ := gOb_inv h
      refine Y.callI (yC.Vi (b := x0) (As := [.int x1, .int v10]) (st := []) (r := ("Partlister$Lists", T_I, 7)) hV.1 cb_I_lastOf lk_I_128 in_I_lastOf rfl se_I_lastOf (lIa_ok dd7) rfl rfl (Nat.le_of_ble_eq_true rfl) (by decide) e16 m18) (k_I_lastOf hV G14 x0 x1 v10) h (fun v20 G19 _ h => ?_)
      refine Y.blk (pc' := 41) (L' := [some (.ref x0), some (.int x1), some (.int x2), some (.int x3), some (.int v10), some (.int v15), some (.int v20)]) (st' := [.int v15]) (sg := [(.istore 6, 0), (.iload 5, 0)]) (lSa_ok dd8) rfl ?_
      refine Y.if_lt (off := 21) (tgt := 62) (lIa_ok dd9) (by decide) h (fun c36 h => ?_) (fun c36 h => ?_)
      · refine Y.less (L' := [none, none, none, none, none, none, none]) (zLe_none (zLe_none (zLe_none (zLe_none (zLe_none (zLe_none (zLe_none (zLe_nil)))))))) ?_
        exact hK62 G19  h
      · refine Y.blk (pc' := 47) (L' := [some (.ref x0), some (.int x1), some (.int x2), some (.int x3), some (.int v10), some (.int v15), some (.int v20)]) (st' := [.int x3, .int v15]) (sg := [(.iload 5, 0), (.iload_n 3, 0)]) (lSa_ok dd10) rfl ?_
        refine Y.ic_gt (off := 15) (tgt := 62) (lIa_ok dd11) (by decide) h (fun c35 h => ?_) (fun c35 h => ?_)
        · refine Y.less (L' := [none, none, none, none, none, none, none]) (zLe_none (zLe_none (zLe_none (zLe_none (zLe_none (zLe_none (zLe_none (zLe_nil)))))))) ?_
          exact hK62 G19  h
        · refine Y.blk (pc' := 53) (L' := [some (.ref x0), some (.int x1), some (.int x2), some (.int x3), some (.int v10), some (.int v15), some (.int v20)]) (st' := [.int x3, .int v20]) (sg := [(.iload 6, 0), (.iload_n 3, 0)]) (lSa_ok dd12) rfl ?_
          refine Y.ic_lt (off := 9) (tgt := 62) (lIa_ok dd13) (by decide) h (fun c34 h => ?_) (fun c34 h => ?_)
          · refine Y.less (L' := [none, none, none, none, none, none, none]) (zLe_none (zLe_none (zLe_none (zLe_none (zLe_none (zLe_none (zLe_none (zLe_nil)))))))) ?_
            exact hK62 G19  h
          · refine Y.blk (pc' := 59) (L' := [some (.ref x0), some (.int x1), some (.int x2), some (.int x3), some (.int v10), some (.int v15), some (.int v20)]) (st' := [.int x2, .int v20]) (sg := [(.iload 6, 0), (.iload_n 2, 0)]) (lSa_ok dd14) rfl ?_
            refine Y.ic_lt (off := 5) (tgt := 64) (lIa_ok dd15) (by decide) h (fun c33 h => ?_) (fun c33 h => ?_)
            · refine Y.blk (pc' := 68) (L' := [some (.ref x0), some (.int x1), some (.int x2), some (.int x3), some (.int v10), some (.int v15), some (.int v20)]) (st' := [.int v15, .int x1, .ref x0]) (sg := [(.aload_n 0, 0), (.iload_n 1, 0), (.iload 5, 0)]) (lSa_ok dd16) rfl ?_
              obtain ⟨_, o22, e21, m23, h⟩ := gOb_inv h
              refine Y.callI (yC.Vi (b := x0) (As := [.int x1, .int v15]) (st := []) (r := ("Partlister$Lists", T_I, 7)) hV.1 cb_I_keyAt lk_I_101 in_I_keyAt rfl se_I_keyAt (lIa_ok dd17) rfl rfl (Nat.le_of_ble_eq_true rfl) (by decide) e21 m23) (k_I_keyAt hV G19 x0 x1 v15) h (fun v25 G24 _ h => ?_)
              refine Y.blk (pc' := 73) (L' := [some (.ref x0), some (.int x1), some (.int x2), some (.int x3), some (.int v10), some (.int v15), some (.int v20)]) (st' := [.int v10, .int v25]) (sg := [(.iload 4, 0)]) (lSa_ok dd18) rfl ?_
              refine Y.ic_ne (off := 15) (tgt := 88) (lIa_ok dd19) (by decide) h (fun c32 h => ?_) (fun c32 h => ?_)
              · refine Y.blk (pc' := 80) (L' := [some (.ref x0), some (.int x1), some (.int x2), some (.int x3), some (.int v10), some (.int v15), some (.int v20)]) (st' := [.int v20, .int x1, .ref x0]) (sg := [(.aload_n 0, 0), (.iload_n 1, 0), (.iload 6, 0)]) (lSa_ok dd20) rfl ?_
                obtain ⟨_, o27, e26, m28, h⟩ := gOb_inv h
                refine Y.callI (yC.Vi (b := x0) (As := [.int x1, .int v20]) (st := []) (r := ("Partlister$Lists", T_I, 7)) hV.1 cb_I_keyAt lk_I_101 in_I_keyAt rfl se_I_keyAt (lIa_ok dd21) rfl rfl (Nat.le_of_ble_eq_true rfl) (by decide) e26 m28) (k_I_keyAt hV G24 x0 x1 v20) h (fun v30 G29 _ h => ?_)
                refine Y.blk (pc' := 85) (L' := [some (.ref x0), some (.int x1), some (.int x2), some (.int x3), some (.int v10), some (.int v15), some (.int v20)]) (st' := [.int v10, .int v30]) (sg := [(.iload 4, 0)]) (lSa_ok dd22) rfl ?_
                refine Y.ic_eq (off := 5) (tgt := 90) (lIa_ok dd23) (by decide) h (fun c31 h => ?_) (fun c31 h => ?_)
                · refine Y.blk (pc' := 93) (L' := [some (.ref x0), some (.int x1), some (.int x2), some (.int (x3 + (nI 1))), some (.int v10), some (.int v15), some (.int v20)]) (st' := []) (sg := [(.iinc 3 1, nI 1)]) (lSa_ok dd24) rfl ?_
                  refine Y.goto (off := -85) (tgt := 8) (lIa_ok dd25) (by decide) ?_
                  refine Y.less (L' := [some (.ref x0), some (.int x1), some (.int x2), some (.int (x3 + (nI 1))), none, none, none]) (zLe_some (zLe_some (zLe_some (zLe_some (zLe_none (zLe_none (zLe_none (zLe_nil)))))))) ?_
                  exact ih G29 x0 x1 x2 (x3 + (nI 1)) h
                · refine Y.less (L' := [none, none, none, none, none, none, none]) (zLe_none (zLe_none (zLe_none (zLe_none (zLe_none (zLe_none (zLe_none (zLe_nil)))))))) ?_
                  exact hK88 G29  h
              · refine Y.less (L' := [none, none, none, none, none, none, none]) (zLe_none (zLe_none (zLe_none (zLe_none (zLe_none (zLe_none (zLe_none (zLe_nil)))))))) ?_
                exact hK88 G24  h
            · refine Y.less (L' := [none, none, none, none, none, none, none]) (zLe_none (zLe_none (zLe_none (zLe_none (zLe_none (zLe_none (zLe_none (zLe_nil)))))))) ?_
              exact hK62 G19  h
theorem k_I_areKeysFound {l : Launch} {D : va_G} {B : Nat} {O : State → Heap → Prop} (hV : zG l D B O) (G : gH) (a0 : Nat) (a1 : Int32) : gMet (zVm l D B O) m_I_areKeysFound 5 [.ref a0, .int a1] G (f_I_areKeysFound G a0 a1) := by
  have hdd : lSa m_I_areKeysFound 0 [(.aload_n 0, 0), (.iload_n 1, 0)] = true ∧ lIa m_I_areKeysFound 2 (.invokevirtual 59) 3 = true ∧ lSa m_I_areKeysFound 5 [(.istore_n 2, 0), (.iconst 0, nI 0), (.istore_n 3, 0)] = true ∧ lSa m_I_areKeysFound 62 [(.iconst 0, nI 0)] = true ∧ lIa m_I_areKeysFound 63 (.ireturn) 1 = true ∧ lSa m_I_areKeysFound 88 [(.iconst 0, nI 0)] = true ∧ lIa m_I_areKeysFound 89 (.ireturn) 1 = true ∧ lSa m_I_areKeysFound 96 [(.iconst 1, nI 1)] = true ∧ lIa m_I_areKeysFound 97 (.ireturn) 1 = true := by decide +kernel
  refine lA8 hdd (fun dd0 dd1 dd2 dd3 dd4 dd5 dd6 dd7 hdd => ?_)
  have dd8 := hdd
  refine gMet.of (by decide +kernel) (Nat.le_of_ble_eq_true rfl) [some (.ref a0), some (.int a1), none, none, none, none, none] (fun ls h => zEn_ok (n := 7) h) ?_
  intro o Gf h
  unfold f_I_areKeysFound at h
  refine Y.blk (pc' := 2) (L' := [some (.ref a0), some (.int a1), none, none, none, none, none]) (st' := [.int a1, .ref a0]) (sg := [(.aload_n 0, 0), (.iload_n 1, 0)]) (lSa_ok dd0) rfl ?_
  obtain ⟨_, o2, e1, m3, h⟩ := gOb_inv h
  refine Y.callI (yC.Vi (b := a0) (As := [.int a1]) (st := []) (r := ("Partlister$Lists", T_I, 7)) hV.1 cb_I_lengthOf lk_I_59 in_I_lengthOf rfl se_I_lengthOf (lIa_ok dd1) rfl rfl (Nat.le_of_ble_eq_true rfl) (by decide) e1 m3) (k_I_lengthOf hV G a0 a1) h (fun v5 G4 _ h => ?_)
  refine Y.blk (pc' := 8) (L' := [some (.ref a0), some (.int a1), some (.int v5), some (.int (nI 0)), none, none, none]) (st' := []) (sg := [(.istore_n 2, 0), (.iconst 0, nI 0), (.istore_n 3, 0)]) (lSa_ok dd2) rfl ?_
  refine k_I_areKeysFound_L8 hV _ _ _ ?_ ?_ ?_  zFu G4 a0 a1 v5 (nI 0) h
  · intro G38 h
    refine Y.blk (pc' := 63) (L' := [none, none, none, none, none, none, none]) (st' := [.int (nI 0)]) (sg := [(.iconst 0, nI 0)]) (lSa_ok dd3) rfl ?_
    exact Y.zret rfl (lIa_ok dd4) h
  · intro G39 h
    refine Y.blk (pc' := 89) (L' := [none, none, none, none, none, none, none]) (st' := [.int (nI 0)]) (sg := [(.iconst 0, nI 0)]) (lSa_ok dd5) rfl ?_
    exact Y.zret rfl (lIa_ok dd6) h
  · intro G40 h
    refine Y.blk (pc' := 97) (L' := [none, none, none, none, none, none, none]) (st' := [.int (nI 1)]) (sg := [(.iconst 1, nI 1)]) (lSa_ok dd7) rfl ?_
    exact Y.zret rfl (lIa_ok dd8) h

def f_X_hasToBeAhead (G : gH) (a0 : Int32) (a1 : Int32) (a2 : Int32) : gR :=
  bI (f_X_keyOf G a0) fun v3 G2 => bI (f_X_keyOf G2 a1) fun v6 G5 => if a2.toInt = 0 then (if v6 ≤ v3 then rZ (nI 0) G5
    else rZ (nI 1) G5)
  else if a2.toInt = 1 then (if v3 ≤ v6 then rZ (nI 0) G5
    else rZ (nI 1) G5)
  else if a2.toInt = 2 then (gRem v3 (nI 5) fun v11 => gRem v6 (nI 5) fun v12 => if v12 ≤ v11 then rZ (nI 0) G5
    else rZ (nI 1) G5)
  else if a2.toInt = 3 then (bI (f_X_tagOf G5 a0) fun v17 G16 => bI (f_X_tagOf G16 a1) fun v20 G19 => if v17 ≤ v20 then rZ (nI 0) G19
    else rZ (nI 1) G19)
  else gRem v3 (nI 2) fun v23 => gRem v6 (nI 2) fun v24 => if v23 = v24 then (if v6 ≤ v3 then rZ (nI 0) G5
      else rZ (nI 1) G5)
    else gRem v3 (nI 2) fun v26 => gRem v6 (nI 2) fun v27 => if v26 ≤ v27 then rZ (nI 0) G5
      else rZ (nI 1) G5
theorem k_X_hasToBeAhead {l : Launch} {D : va_G} {B : Nat} {O : State → Heap → Prop} (hV : zG l D B O) (G : gH) (a0 : Int32) (a1 : Int32) (a2 : Int32) : gMet (zVm l D B O) m_X_hasToBeAhead 2 [.int a0, .int a1, .int a2] G (f_X_hasToBeAhead G a0 a1 a2) := by
  have hdd : lSa m_X_hasToBeAhead 0 [(.iload_n 0, 0)] = true ∧ lIa m_X_hasToBeAhead 1 (.invokestatic 97) 3 = true ∧ lSa m_X_hasToBeAhead 4 [(.istore_n 3, 0), (.iload_n 1, 0)] = true ∧ lIa m_X_hasToBeAhead 6 (.invokestatic 97) 3 = true ∧ lSa m_X_hasToBeAhead 9 [(.istore 4, 0), (.iload_n 2, 0)] = true ∧ lSa m_X_hasToBeAhead 44 [(.iload_n 3, 0), (.iload 4, 0)] = true ∧ lIa m_X_hasToBeAhead 47 (.if_icmp .ge 7) 3 = true ∧ lSa m_X_hasToBeAhead 54 [(.iconst 0, nI 0)] = true ∧ lIa m_X_hasToBeAhead 55 (.ireturn) 1 = true ∧ lSa m_X_hasToBeAhead 50 [(.iconst 1, nI 1)] = true ∧ lIa m_X_hasToBeAhead 51 (.goto 4) 3 = true ∧ lSa m_X_hasToBeAhead 56 [(.iload_n 3, 0), (.iload 4, 0)] = true ∧ lIa m_X_hasToBeAhead 59 (.if_icmp .le 7) 3 = true ∧ lSa m_X_hasToBeAhead 66 [(.iconst 0, nI 0)] = true ∧ lIa m_X_hasToBeAhead 67 (.ireturn) 1 = true ∧ lSa m_X_hasToBeAhead 62 [(.iconst 1, nI 1)] = true ∧ lIa m_X_hasToBeAhead 63 (.goto 4) 3 = true ∧ lSa m_X_hasToBeAhead 68 [(.iload_n 3, 0), (.iconst 5, nI 5)] = true ∧ lIa m_X_hasToBeAhead 70 (.irem) 1 = true ∧ lSa m_X_hasToBeAhead 71 [(.iload 4, 0), (.iconst 5, nI 5)] = true ∧ lIa m_X_hasToBeAhead 74 (.irem) 1 = true ∧ lIa m_X_hasToBeAhead 75 (.if_icmp .ge 7) 3 = true ∧ lSa m_X_hasToBeAhead 82 [(.iconst 0, nI 0)] = true ∧ lIa m_X_hasToBeAhead 83 (.ireturn) 1 = true ∧ lSa m_X_hasToBeAhead 78 [(.iconst 1, nI 1)] = true ∧ lIa m_X_hasToBeAhead 79 (.goto 4) 3 = true ∧ lSa m_X_hasToBeAhead 84 [(.iload_n 0, 0)] = true ∧ lIa m_X_hasToBeAhead 85 (.invokestatic 48) 3 = true ∧ lSa m_X_hasToBeAhead 88 [(.iload_n 1, 0)] = true ∧ lIa m_X_hasToBeAhead 89 (.invokestatic 48) 3 = true ∧ lIa m_X_hasToBeAhead 92 (.if_icmp .le 7) 3 = true ∧ lSa m_X_hasToBeAhead 99 [(.iconst 0, nI 0)] = true ∧ lIa m_X_hasToBeAhead 100 (.ireturn) 1 = true ∧ lSa m_X_hasToBeAhead 95 [(.iconst 1, nI 1)] = true ∧ lIa m_X_hasToBeAhead 96 (.goto 4) 3 = true ∧ lSa m_X_hasToBeAhead 101 [(.iload_n 3, 0), (.iconst 2, nI 2)] = true ∧ lIa m_X_hasToBeAhead 103 (.irem) 1 = true ∧ lSa m_X_hasToBeAhead 104 [(.iload 4, 0), (.iconst 2, nI 2)] = true ∧ lIa m_X_hasToBeAhead 107 (.irem) 1 = true ∧ lIa m_X_hasToBeAhead 108 (.if_icmp .eq 21) 3 = true ∧ lSa m_X_hasToBeAhead 129 [(.iload_n 3, 0), (.iload 4, 0)] = true ∧ lIa m_X_hasToBeAhead 132 (.if_icmp .ge 7) 3 = true ∧ lSa m_X_hasToBeAhead 139 [(.iconst 0, nI 0)] = true ∧ lIa m_X_hasToBeAhead 140 (.ireturn) 1 = true ∧ lSa m_X_hasToBeAhead 135 [(.iconst 1, nI 1)] = true ∧ lIa m_X_hasToBeAhead 136 (.goto 4) 3 = true ∧ lSa m_X_hasToBeAhead 111 [(.iload_n 3, 0), (.iconst 2, nI 2)] = true ∧ lIa m_X_hasToBeAhead 113 (.irem) 1 = true ∧ lSa m_X_hasToBeAhead 114 [(.iload 4, 0), (.iconst 2, nI 2)] = true ∧ lIa m_X_hasToBeAhead 117 (.irem) 1 = true ∧ lIa m_X_hasToBeAhead 118 (.if_icmp .le 7) 3 = true ∧ lSa m_X_hasToBeAhead 125 [(.iconst 0, nI 0)] = true ∧ lIa m_X_hasToBeAhead 126 (.goto 14) 3 = true ∧ lSa m_X_hasToBeAhead 121 [(.iconst 1, nI 1)] = true ∧ lIa m_X_hasToBeAhead 122 (.goto 18) 3 = true := by decide +kernel
  refine lA8 hdd (fun dd0 dd1 dd2 dd3 dd4 dd5 dd6 dd7 hdd => ?_)
  refine lA8 hdd (fun dd8 dd9 dd10 dd11 dd12 dd13 dd14 dd15 hdd => ?_)
  refine lA8 hdd (fun dd16 dd17 dd18 dd19 dd20 dd21 dd22 dd23 hdd => ?_)
  refine lA8 hdd (fun dd24 dd25 dd26 dd27 dd28 dd29 dd30 dd31 hdd => ?_)
  refine lA8 hdd (fun dd32 dd33 dd34 dd35 dd36 dd37 dd38 dd39 hdd => ?_)
  refine lA8 hdd (fun dd40 dd41 dd42 dd43 dd44 dd45 dd46 dd47 hdd => ?_)
  obtain ⟨dd48, dd49, dd50, dd51, dd52, dd53, dd54⟩ := hdd
  refine gMet.of (by decide +kernel) (Nat.le_of_ble_eq_true rfl) [some (.int a0), some (.int a1), some (.int a2), none, none] (fun ls h => zEn_ok (n := 5) h) ?_
  intro o Gf h
  unfold f_X_hasToBeAhead at h
  refine Y.blk (pc' := 1) (L' := [some (.int a0), some (.int a1), some (.int a2), none, none]) (st' := [.int a0]) (sg := [(.iload_n 0, 0)]) (lSa_ok dd0) rfl ?_
  refine Y.callI (yC.S (As := [.int a0]) (st := []) hV.1 cb_X_keyOf lk_X_97 st_X_keyOf (lIa_ok dd1) rfl rfl (Nat.le_of_ble_eq_true rfl) (by decide)) (k_X_keyOf hV G a0) h (fun v3 G2 _ h => ?_)
  refine Y.blk (pc' := 6) (L' := [some (.int a0), some (.int a1), some (.int a2), some (.int v3), none]) (st' := [.int a1]) (sg := [(.istore_n 3, 0), (.iload_n 1, 0)]) (lSa_ok dd2) rfl ?_
  refine Y.callI (yC.S (As := [.int a1]) (st := []) hV.1 cb_X_keyOf lk_X_97 st_X_keyOf (lIa_ok dd3) rfl rfl (Nat.le_of_ble_eq_true rfl) (by decide)) (k_X_keyOf hV G2 a1) h (fun v6 G5 _ h => ?_)
  refine Y.blk (pc' := 12) (L' := [some (.int a0), some (.int a1), some (.int a2), some (.int v3), some (.int v6)]) (st' := [.int a2]) (sg := [(.istore 4, 0), (.iload_n 2, 0)]) (lSa_ok dd4) rfl ?_
  refine Y.swC (j := 0) (off := 32) (tgt := 44) (dflt := 89) (lo := 0) (hi := 3) (offs := #[32, 44, 56, 72]) (len := 32) (by decide +kernel) (by decide) (by decide) (by decide) h (fun c8 h => ?_) (fun c8 h => ?_)
  · refine Y.blk (pc' := 47) (L' := [some (.int a0), some (.int a1), some (.int a2), some (.int v3), some (.int v6)]) (st' := [.int v6, .int v3]) (sg := [(.iload_n 3, 0), (.iload 4, 0)]) (lSa_ok dd5) rfl ?_
    refine Y.ic_ge (off := 7) (tgt := 54) (lIa_ok dd6) (by decide) h (fun c7 h => ?_) (fun c7 h => ?_)
    · refine Y.blk (pc' := 55) (L' := [some (.int a0), some (.int a1), some (.int a2), some (.int v3), some (.int v6)]) (st' := [.int (nI 0)]) (sg := [(.iconst 0, nI 0)]) (lSa_ok dd7) rfl ?_
      exact Y.zret rfl (lIa_ok dd8) h
    · refine Y.blk (pc' := 51) (L' := [some (.int a0), some (.int a1), some (.int a2), some (.int v3), some (.int v6)]) (st' := [.int (nI 1)]) (sg := [(.iconst 1, nI 1)]) (lSa_ok dd9) rfl ?_
      refine Y.goto (off := 4) (tgt := 55) (lIa_ok dd10) (by decide) ?_
      exact Y.zret rfl (lIa_ok dd8) h
  refine Y.swC (j := 1) (off := 44) (tgt := 56) (dflt := 89) (lo := 0) (hi := 3) (offs := #[32, 44, 56, 72]) (len := 32) (by decide +kernel) (by decide) (by decide) (by decide) h (fun c10 h => ?_) (fun c10 h => ?_)
  · refine Y.blk (pc' := 59) (L' := [some (.int a0), some (.int a1), some (.int a2), some (.int v3), some (.int v6)]) (st' := [.int v6, .int v3]) (sg := [(.iload_n 3, 0), (.iload 4, 0)]) (lSa_ok dd11) rfl ?_
    refine Y.ic_le (off := 7) (tgt := 66) (lIa_ok dd12) (by decide) h (fun c9 h => ?_) (fun c9 h => ?_)
    · refine Y.blk (pc' := 67) (L' := [some (.int a0), some (.int a1), some (.int a2), some (.int v3), some (.int v6)]) (st' := [.int (nI 0)]) (sg := [(.iconst 0, nI 0)]) (lSa_ok dd13) rfl ?_
      exact Y.zret rfl (lIa_ok dd14) h
    · refine Y.blk (pc' := 63) (L' := [some (.int a0), some (.int a1), some (.int a2), some (.int v3), some (.int v6)]) (st' := [.int (nI 1)]) (sg := [(.iconst 1, nI 1)]) (lSa_ok dd15) rfl ?_
      refine Y.goto (off := 4) (tgt := 67) (lIa_ok dd16) (by decide) ?_
      exact Y.zret rfl (lIa_ok dd14) h
  refine Y.swC (j := 2) (off := 56) (tgt := 68) (dflt := 89) (lo := 0) (hi := 3) (offs := #[32, 44, 56, 72]) (len := 32) (by decide +kernel) (by decide) (by decide) (by decide) h (fun c14 h => ?_) (fun c14 h => ?_)
  · refine Y.blk (pc' := 70) (L' := [some (.int a0), some (.int a1), some (.int a2), some (.int v3), some (.int v6)]) (st' := [.int (nI 5), .int v3]) (sg := [(.iload_n 3, 0), (.iconst 5, nI 5)]) (lSa_ok dd17) rfl ?_
    refine Y.irem (lIa_ok dd18) h (fun v11 h => ?_)
    refine Y.blk (pc' := 74) (L' := [some (.int a0), some (.int a1), some (.int a2), some (.int v3), some (.int v6)]) (st' := [.int (nI 5), .int v6, .int v11]) (sg := [(.iload 4, 0), (.iconst 5, nI 5)]) (lSa_ok dd19) rfl ?_
    refine Y.irem (lIa_ok dd20) h (fun v12 h => ?_)
    refine Y.ic_ge (off := 7) (tgt := 82) (lIa_ok dd21) (by decide) h (fun c13 h => ?_) (fun c13 h => ?_)
    · refine Y.blk (pc' := 83) (L' := [some (.int a0), some (.int a1), some (.int a2), some (.int v3), some (.int v6)]) (st' := [.int (nI 0)]) (sg := [(.iconst 0, nI 0)]) (lSa_ok dd22) rfl ?_
      exact Y.zret rfl (lIa_ok dd23) h
    · refine Y.blk (pc' := 79) (L' := [some (.int a0), some (.int a1), some (.int a2), some (.int v3), some (.int v6)]) (st' := [.int (nI 1)]) (sg := [(.iconst 1, nI 1)]) (lSa_ok dd24) rfl ?_
      refine Y.goto (off := 4) (tgt := 83) (lIa_ok dd25) (by decide) ?_
      exact Y.zret rfl (lIa_ok dd23) h
  refine Y.swC (j := 3) (off := 72) (tgt := 84) (dflt := 89) (lo := 0) (hi := 3) (offs := #[32, 44, 56, 72]) (len := 32) (by decide +kernel) (by decide) (by decide) (by decide) h (fun c22 h => ?_) (fun c22 h => ?_)
  · refine Y.blk (pc' := 85) (L' := [some (.int a0), some (.int a1), some (.int a2), some (.int v3), some (.int v6)]) (st' := [.int a0]) (sg := [(.iload_n 0, 0)]) (lSa_ok dd26) rfl ?_
    refine Y.callI (yC.S (As := [.int a0]) (st := []) hV.1 cb_X_tagOf lk_X_48 st_X_tagOf (lIa_ok dd27) rfl rfl (Nat.le_of_ble_eq_true rfl) (by decide)) (k_X_tagOf hV G5 a0) h (fun v17 G16 _ h => ?_)
    refine Y.blk (pc' := 89) (L' := [some (.int a0), some (.int a1), some (.int a2), some (.int v3), some (.int v6)]) (st' := [.int a1, .int v17]) (sg := [(.iload_n 1, 0)]) (lSa_ok dd28) rfl ?_
    refine Y.callI (yC.S (As := [.int a1]) (st := [.int v17]) hV.1 cb_X_tagOf lk_X_48 st_X_tagOf (lIa_ok dd29) rfl rfl (Nat.le_of_ble_eq_true rfl) (by decide)) (k_X_tagOf hV G16 a1) h (fun v20 G19 _ h => ?_)
    refine Y.ic_le (off := 7) (tgt := 99) (lIa_ok dd30) (by decide) h (fun c21 h => ?_) (fun c21 h => ?_)
    · refine Y.blk (pc' := 100) (L' := [some (.int a0), some (.int a1), some (.int a2), some (.int v3), some (.int v6)]) (st' := [.int (nI 0)]) (sg := [(.iconst 0, nI 0)]) (lSa_ok dd31) rfl ?_
      exact Y.zret rfl (lIa_ok dd32) h
    · refine Y.blk (pc' := 96) (L' := [some (.int a0), some (.int a1), some (.int a2), some (.int v3), some (.int v6)]) (st' := [.int (nI 1)]) (sg := [(.iconst 1, nI 1)]) (lSa_ok dd33) rfl ?_
      refine Y.goto (off := 4) (tgt := 100) (lIa_ok dd34) (by decide) ?_
      exact Y.zret rfl (lIa_ok dd32) h
  refine Y.swOut (dflt := 89) (lo := 0) (hi := 3) (offs := #[32, 44, 56, 72]) (len := 32) (tgt := 101) (by decide +kernel) (by omega) (by decide) ?_
  refine Y.blk (pc' := 103) (L' := [some (.int a0), some (.int a1), some (.int a2), some (.int v3), some (.int v6)]) (st' := [.int (nI 2), .int v3]) (sg := [(.iload_n 3, 0), (.iconst 2, nI 2)]) (lSa_ok dd35) rfl ?_
  refine Y.irem (lIa_ok dd36) h (fun v23 h => ?_)
  refine Y.blk (pc' := 107) (L' := [some (.int a0), some (.int a1), some (.int a2), some (.int v3), some (.int v6)]) (st' := [.int (nI 2), .int v6, .int v23]) (sg := [(.iload 4, 0), (.iconst 2, nI 2)]) (lSa_ok dd37) rfl ?_
  refine Y.irem (lIa_ok dd38) h (fun v24 h => ?_)
  refine Y.ic_eq (off := 21) (tgt := 129) (lIa_ok dd39) (by decide) h (fun c29 h => ?_) (fun c29 h => ?_)
  · refine Y.blk (pc' := 132) (L' := [some (.int a0), some (.int a1), some (.int a2), some (.int v3), some (.int v6)]) (st' := [.int v6, .int v3]) (sg := [(.iload_n 3, 0), (.iload 4, 0)]) (lSa_ok dd40) rfl ?_
    refine Y.ic_ge (off := 7) (tgt := 139) (lIa_ok dd41) (by decide) h (fun c25 h => ?_) (fun c25 h => ?_)
    · refine Y.blk (pc' := 140) (L' := [some (.int a0), some (.int a1), some (.int a2), some (.int v3), some (.int v6)]) (st' := [.int (nI 0)]) (sg := [(.iconst 0, nI 0)]) (lSa_ok dd42) rfl ?_
      exact Y.zret rfl (lIa_ok dd43) h
    · refine Y.blk (pc' := 136) (L' := [some (.int a0), some (.int a1), some (.int a2), some (.int v3), some (.int v6)]) (st' := [.int (nI 1)]) (sg := [(.iconst 1, nI 1)]) (lSa_ok dd44) rfl ?_
      refine Y.goto (off := 4) (tgt := 140) (lIa_ok dd45) (by decide) ?_
      exact Y.zret rfl (lIa_ok dd43) h
  · refine Y.blk (pc' := 113) (L' := [some (.int a0), some (.int a1), some (.int a2), some (.int v3), some (.int v6)]) (st' := [.int (nI 2), .int v3]) (sg := [(.iload_n 3, 0), (.iconst 2, nI 2)]) (lSa_ok dd46) rfl ?_
    refine Y.irem (lIa_ok dd47) h (fun v26 h => ?_)
    refine Y.blk (pc' := 117) (L' := [some (.int a0), some (.int a1), some (.int a2), some (.int v3), some (.int v6)]) (st' := [.int (nI 2), .int v6, .int v26]) (sg := [(.iload 4, 0), (.iconst 2, nI 2)]) (lSa_ok dd48) rfl ?_
    refine Y.irem (lIa_ok dd49) h (fun v27 h => ?_)
    refine Y.ic_le (off := 7) (tgt := 125) (lIa_ok dd50) (by decide) h (fun c28 h => ?_) (fun c28 h => ?_)
    · refine Y.blk (pc' := 126) (L' := [some (.int a0), some (.int a1), some (.int a2), some (.int v3), some (.int v6)]) (st' := [.int (nI 0)]) (sg := [(.iconst 0, nI 0)]) (lSa_ok dd51) rfl ?_
      refine Y.goto (off := 14) (tgt := 140) (lIa_ok dd52) (by decide) ?_
      exact Y.zret rfl (lIa_ok dd43) h
    · refine Y.blk (pc' := 122) (L' := [some (.int a0), some (.int a1), some (.int a2), some (.int v3), some (.int v6)]) (st' := [.int (nI 1)]) (sg := [(.iconst 1, nI 1)]) (lSa_ok dd53) rfl ?_
      refine Y.goto (off := 18) (tgt := 140) (lIa_ok dd54) (by decide) ?_
      exact Y.zret rfl (lIa_ok dd43) h

def f_I_thingInSpare (G : gH) (a0 : Nat) (a1 : Int32) : gR :=
  gFA G a0 1 5 fun v1 => gOb G v1 2 fun o3 => bI (f_N_read G v1 a1) fun v6 G5 => rI (v6 >>> ((nI 5) &&& 31)) G5
theorem k_I_thingInSpare {l : Launch} {D : va_G} {B : Nat} {O : State → Heap → Prop} (hV : zG l D B O) (G : gH) (a0 : Nat) (a1 : Int32) : gMet (zVm l D B O) m_I_thingInSpare 2 [.ref a0, .int a1] G (f_I_thingInSpare G a0 a1) := by
  have hdd : lSa m_I_thingInSpare 0 [(.aload_n 0, 0)] = true ∧ lIa m_I_thingInSpare 1 (.getfield 32) 3 = true ∧ lSa m_I_thingInSpare 4 [(.iload_n 1, 0)] = true ∧ lIa m_I_thingInSpare 5 (.invokevirtual 39) 3 = true ∧ lSa m_I_thingInSpare 8 [(.iconst 5, nI 5), (.ishr, 0)] = true ∧ lIa m_I_thingInSpare 10 (.ireturn) 1 = true := by decide +kernel
  obtain ⟨dd0, dd1, dd2, dd3, dd4, dd5⟩ := hdd
  refine gMet.of (by decide +kernel) (Nat.le_of_ble_eq_true rfl) [some (.ref a0), some (.int a1)] (fun ls h => zEn_ok (n := 2) h) ?_
  intro o Gf h
  unfold f_I_thingInSpare at h
  refine Y.blk (pc' := 1) (L' := [some (.ref a0), some (.int a1)]) (st' := [.ref a0]) (sg := [(.aload_n 0, 0)]) (lSa_ok dd0) rfl ?_
  refine Y.getA fl_I_32 (lIa_ok dd1) h (fun v1 h => ?_)
  refine Y.blk (pc' := 5) (L' := [some (.ref a0), some (.int a1)]) (st' := [.int a1, .ref v1]) (sg := [(.iload_n 1, 0)]) (lSa_ok dd2) rfl ?_
  obtain ⟨_, o3, e2, m4, h⟩ := gOb_inv h
  refine Y.callI (yC.Vi (b := v1) (As := [.int a1]) (st := []) (r := ("Partlister$Numbers", T_N, 1)) hV.1 cb_N_read lk_I_39 in_N_read rfl se_N_read (lIa_ok dd3) rfl rfl (Nat.le_of_ble_eq_true rfl) (by decide) e2 m4) (k_N_read hV G v1 a1) h (fun v6 G5 _ h => ?_)
  refine Y.blk (pc' := 10) (L' := [some (.ref a0), some (.int a1)]) (st' := [.int (v6 >>> ((nI 5) &&& 31))]) (sg := [(.iconst 5, nI 5), (.ishr, 0)]) (lSa_ok dd4) rfl ?_
  exact Y.iret rfl (lIa_ok dd5) h

def f_I_arrangeSpare_L20 (K70 : gH → Nat → Int32 → Int32 → Int32 → Int32 → Int32 → gR) : Nat → gH → Nat → Int32 → Int32 → Int32 → Int32 → Int32 → gR
  | 0, _, _, _, _, _, _, _ => none
  | n + 1, G, x0, x1, x2, x3, x4, x5 =>
    if x5 ≤ 0 then K70 G x0 x1 x2 x3 x4 x5
    else gOb G x0 1 fun o8 => bI (f_I_thingInSpare G x0 (x5 - (nI 1))) fun v11 G10 => bI (f_X_hasToBeAhead G10 (x4 >>> ((nI 5) &&& 31)) v11 x2) fun v14 G13 => if v14 = 0 then K70 G13 x0 x1 x2 x3 x4 x5
      else gFA G13 x0 1 5 fun v15 => gFA G13 x0 1 5 fun v16 => gOb G13 v16 2 fun o18 => bI (f_N_read G13 v16 (x5 - (nI 1))) fun v21 G20 => gOb G20 v15 2 fun o23 => bV (f_N_write G20 v15 x5 v21) fun G25 => f_I_arrangeSpare_L20 K70 n G25 x0 x1 x2 x3 x4 (x5 + (-1))
def f_I_arrangeSpare_L2 (K87 : gH → gR) : Nat → gH → Nat → Int32 → Int32 → Int32 → gR
  | 0, _, _, _, _, _ => none
  | n + 1, G, x0, x1, x2, x3 =>
    if x1 ≤ x3 then K87 G
    else gFA G x0 1 5 fun v1 => gOb G v1 2 fun o3 => bI (f_N_read G v1 x3) fun v6 G5 => f_I_arrangeSpare_L20 (fun G34 x28 x29 x30 x31 x32 x33 => gFA G34 x28 1 5 fun v35 => gOb G34 v35 2 fun o37 => bV (f_N_write G34 v35 x33 x32) fun G39 => f_I_arrangeSpare_L2 K87 n G39 x28 x29 x30 (x31 + (nI 1))) zFu G5 x0 x1 x2 x3 v6 x3
def f_I_arrangeSpare (G : gH) (a0 : Nat) (a1 : Int32) (a2 : Int32) : gR :=
  f_I_arrangeSpare_L2 (fun G41 => rV G41) zFu G a0 a1 a2 (nI 1)
theorem k_I_arrangeSpare_L20 {l : Launch} {D : va_G} {B : Nat} {O : State → Heap → Prop} (hV : zG l D B O) {o : gO} {Gf : gH} (K70 : gH → Nat → Int32 → Int32 → Int32 → Int32 → Int32 → gR) (hK70 : ∀ (G : gH) (x0 : Nat) (x1 : Int32) (x2 : Int32) (x3 : Int32) (x4 : Int32) (x5 : Int32), K70 G x0 x1 x2 x3 x4 x5 = some (o, Gf) → Y (zVm l D B O) m_I_arrangeSpare 3 o Gf 70 [some (.ref x0), some (.int x1), some (.int x2), some (.int x3), some (.int x4), some (.int x5)] [] G) : ∀ (n : Nat) (G : gH) (x0 : Nat) (x1 : Int32) (x2 : Int32) (x3 : Int32) (x4 : Int32) (x5 : Int32), f_I_arrangeSpare_L20 K70 n G x0 x1 x2 x3 x4 x5 = some (o, Gf) → Y (zVm l D B O) m_I_arrangeSpare 3 o Gf 20 [some (.ref x0), some (.int x1), some (.int x2), some (.int x3), some (.int x4), some (.int x5)] [] G := by
  have hdd : lSa m_I_arrangeSpare 20 [(.iload 5, 0)] = true ∧ lIa m_I_arrangeSpare 22 (.ifCond .le 48) 3 = true ∧ lSa m_I_arrangeSpare 25 [(.iload 4, 0), (.iconst 5, nI 5), (.ishr, 0), (.aload_n 0, 0), (.iload 5, 0), (.iconst 1, nI 1), (.isub, 0)] = true ∧ lIa m_I_arrangeSpare 34 (.invokevirtual 73) 3 = true ∧ lSa m_I_arrangeSpare 37 [(.iload_n 2, 0)] = true ∧ lIa m_I_arrangeSpare 38 (.invokestatic 82) 3 = true ∧ lIa m_I_arrangeSpare 41 (.ifCond .eq 29) 3 = true ∧ lSa m_I_arrangeSpare 44 [(.aload_n 0, 0)] = true ∧ lIa m_I_arrangeSpare 45 (.getfield 32) 3 = true ∧ lSa m_I_arrangeSpare 48 [(.iload 5, 0), (.aload_n 0, 0)] = true ∧ lIa m_I_arrangeSpare 51 (.getfield 32) 3 = true ∧ lSa m_I_arrangeSpare 54 [(.iload 5, 0), (.iconst 1, nI 1), (.isub, 0)] = true ∧ lIa m_I_arrangeSpare 58 (.invokevirtual 39) 3 = true ∧ lIa m_I_arrangeSpare 61 (.invokevirtual 35) 3 = true ∧ lSa m_I_arrangeSpare 64 [(.iinc 5 (-1), -1)] = true ∧ lIa m_I_arrangeSpare 67 (.goto (-47)) 3 = true := by decide +kernel
  refine lA8 hdd (fun dd0 dd1 dd2 dd3 dd4 dd5 dd6 dd7 hdd => ?_)
  obtain ⟨dd8, dd9, dd10, dd11, dd12, dd13, dd14, dd15⟩ := hdd
  intro n
  induction n with
  | zero => intro G x0 x1 x2 x3 x4 x5 h; cases h
  | succ n ih =>
    intro G x0 x1 x2 x3 x4 x5 h
    unfold f_I_arrangeSpare_L20 at h
    refine Y.blk (pc' := 22) (L' := [some (.ref x0), some (.int x1), some (.int x2), some (.int x3), some (.int x4), some (.int x5)]) (st' := [.int x5]) (sg := [(.iload 5, 0)]) (lSa_ok dd0) rfl ?_
    refine Y.if_le (off := 48) (tgt := 70) (lIa_ok dd1) (by decide) h (fun c27 h => ?_) (fun c27 h => ?_)
    · exact hK70 G x0 x1 x2 x3 x4 x5 h
    · refine Y.blk (pc' := 34) (L' := [some (.ref x0), some (.int x1), some (.int x2), some (.int x3), some (.int x4), some (.int x5)]) (st' := [.int (x5 - (nI 1)), .ref x0, .int (x4 >>> ((nI 5) &&& 31))]) (sg := [(.iload 4, 0), (.iconst 5, nI 5), (.ishr, 0), (.aload_n 0, 0), (.iload 5, 0), (.iconst 1, nI 1), (.isub, 0)]) (lSa_ok dd2) rfl ?_
      obtain ⟨_, o8, e7, m9, h⟩ := gOb_inv h
      refine Y.callI (yC.Vi (b := x0) (As := [.int (x5 - (nI 1))]) (st := [.int (x4 >>> ((nI 5) &&& 31))]) (r := ("Partlister$Lists", T_I, 7)) hV.1 cb_I_thingInSpare lk_I_73 in_I_thingInSpare rfl se_I_thingInSpare (lIa_ok dd3) rfl rfl (Nat.le_of_ble_eq_true rfl) (by decide) e7 m9) (k_I_thingInSpare hV G x0 (x5 - (nI 1))) h (fun v11 G10 _ h => ?_)
      refine Y.blk (pc' := 38) (L' := [some (.ref x0), some (.int x1), some (.int x2), some (.int x3), some (.int x4), some (.int x5)]) (st' := [.int x2, .int v11, .int (x4 >>> ((nI 5) &&& 31))]) (sg := [(.iload_n 2, 0)]) (lSa_ok dd4) rfl ?_
      refine Y.callI (yC.SN (As := [.int (x4 >>> ((nI 5) &&& 31)), .int v11, .int x2]) (st := []) hV.1 cb_X_hasToBeAhead lk_I_82 st_X_hasToBeAhead (lIa_ok dd5) rfl rfl (Nat.le_of_ble_eq_true rfl) (by decide)) (k_X_hasToBeAhead hV G10 (x4 >>> ((nI 5) &&& 31)) v11 x2) h (fun v14 G13 _ h => ?_)
      refine Y.if_eq (off := 29) (tgt := 70) (lIa_ok dd6) (by decide) h (fun c26 h => ?_) (fun c26 h => ?_)
      · exact hK70 G13 x0 x1 x2 x3 x4 x5 h
      · refine Y.blk (pc' := 45) (L' := [some (.ref x0), some (.int x1), some (.int x2), some (.int x3), some (.int x4), some (.int x5)]) (st' := [.ref x0]) (sg := [(.aload_n 0, 0)]) (lSa_ok dd7) rfl ?_
        refine Y.getA fl_I_32 (lIa_ok dd8) h (fun v15 h => ?_)
        refine Y.blk (pc' := 51) (L' := [some (.ref x0), some (.int x1), some (.int x2), some (.int x3), some (.int x4), some (.int x5)]) (st' := [.ref x0, .int x5, .ref v15]) (sg := [(.iload 5, 0), (.aload_n 0, 0)]) (lSa_ok dd9) rfl ?_
        refine Y.getA fl_I_32 (lIa_ok dd10) h (fun v16 h => ?_)
        refine Y.blk (pc' := 58) (L' := [some (.ref x0), some (.int x1), some (.int x2), some (.int x3), some (.int x4), some (.int x5)]) (st' := [.int (x5 - (nI 1)), .ref v16, .int x5, .ref v15]) (sg := [(.iload 5, 0), (.iconst 1, nI 1), (.isub, 0)]) (lSa_ok dd11) rfl ?_
        obtain ⟨_, o18, e17, m19, h⟩ := gOb_inv h
        refine Y.callI (yC.Vi (b := v16) (As := [.int (x5 - (nI 1))]) (st := [.int x5, .ref v15]) (r := ("Partlister$Numbers", T_N, 1)) hV.1 cb_N_read lk_I_39 in_N_read rfl se_N_read (lIa_ok dd12) rfl rfl (Nat.le_of_ble_eq_true rfl) (by decide) e17 m19) (k_N_read hV G13 v16 (x5 - (nI 1))) h (fun v21 G20 _ h => ?_)
        obtain ⟨_, o23, e22, m24, h⟩ := gOb_inv h
        refine Y.callN (yC.Vi (b := v15) (As := [.int x5, .int v21]) (st := []) (r := ("Partlister$Numbers", T_N, 1)) hV.1 cb_N_write lk_I_35 in_N_write rfl se_N_write (lIa_ok dd13) rfl rfl (Nat.le_of_ble_eq_true rfl) (by decide) e22 m24) (k_N_write hV G20 v15 x5 v21) h (fun G25 _ h => ?_)
        refine Y.blk (pc' := 67) (L' := [some (.ref x0), some (.int x1), some (.int x2), some (.int x3), some (.int x4), some (.int (x5 + (-1)))]) (st' := []) (sg := [(.iinc 5 (-1), -1)]) (lSa_ok dd14) rfl ?_
        refine Y.goto (off := -47) (tgt := 20) (lIa_ok dd15) (by decide) ?_
        exact ih G25 x0 x1 x2 x3 x4 (x5 + (-1)) h
theorem k_I_arrangeSpare_L2 {l : Launch} {D : va_G} {B : Nat} {O : State → Heap → Prop} (hV : zG l D B O) {o : gO} {Gf : gH} (K87 : gH → gR) (hK87 : ∀ (G : gH), K87 G  = some (o, Gf) → Y (zVm l D B O) m_I_arrangeSpare 3 o Gf 87 [none, none, none, none, none, none] [] G) : ∀ (n : Nat) (G : gH) (x0 : Nat) (x1 : Int32) (x2 : Int32) (x3 : Int32), f_I_arrangeSpare_L2 K87 n G x0 x1 x2 x3 = some (o, Gf) → Y (zVm l D B O) m_I_arrangeSpare 3 o Gf 2 [some (.ref x0), some (.int x1), some (.int x2), some (.int x3), none, none] [] G := by
  have hdd : lSa m_I_arrangeSpare 2 [(.iload_n 3, 0), (.iload_n 1, 0)] = true ∧ lIa m_I_arrangeSpare 4 (.if_icmp .ge 83) 3 = true ∧ lSa m_I_arrangeSpare 7 [(.aload_n 0, 0)] = true ∧ lIa m_I_arrangeSpare 8 (.getfield 32) 3 = true ∧ lSa m_I_arrangeSpare 11 [(.iload_n 3, 0)] = true ∧ lIa m_I_arrangeSpare 12 (.invokevirtual 39) 3 = true ∧ lSa m_I_arrangeSpare 15 [(.istore 4, 0), (.iload_n 3, 0), (.istore 5, 0)] = true ∧ lSa m_I_arrangeSpare 70 [(.aload_n 0, 0)] = true ∧ lIa m_I_arrangeSpare 71 (.getfield 32) 3 = true ∧ lSa m_I_arrangeSpare 74 [(.iload 5, 0), (.iload 4, 0)] = true ∧ lIa m_I_arrangeSpare 78 (.invokevirtual 35) 3 = true ∧ lSa m_I_arrangeSpare 81 [(.iinc 3 1, nI 1)] = true ∧ lIa m_I_arrangeSpare 84 (.goto (-82)) 3 = true := by decide +kernel
  refine lA8 hdd (fun dd0 dd1 dd2 dd3 dd4 dd5 dd6 dd7 hdd => ?_)
  obtain ⟨dd8, dd9, dd10, dd11, dd12⟩ := hdd
  intro n
  induction n with
  | zero => intro G x0 x1 x2 x3 h; cases h
  | succ n ih =>
    intro G x0 x1 x2 x3 h
    unfold f_I_arrangeSpare_L2 at h
    refine Y.blk (pc' := 4) (L' := [some (.ref x0), some (.int x1), some (.int x2), some (.int x3), none, none]) (st' := [.int x1, .int x3]) (sg := [(.iload_n 3, 0), (.iload_n 1, 0)]) (lSa_ok dd0) rfl ?_
    refine Y.ic_ge (off := 83) (tgt := 87) (lIa_ok dd1) (by decide) h (fun c40 h => ?_) (fun c40 h => ?_)
    · refine Y.less (L' := [none, none, none, none, none, none]) (zLe_none (zLe_none (zLe_none (zLe_none (zLe_some (zLe_some (zLe_nil))))))) ?_
      exact hK87 G  h
    · refine Y.blk (pc' := 8) (L' := [some (.ref x0), some (.int x1), some (.int x2), some (.int x3), none, none]) (st' := [.ref x0]) (sg := [(.aload_n 0, 0)]) (lSa_ok dd2) rfl ?_
      refine Y.getA fl_I_32 (lIa_ok dd3) h (fun v1 h => ?_)
      refine Y.blk (pc' := 12) (L' := [some (.ref x0), some (.int x1), some (.int x2), some (.int x3), none, none]) (st' := [.int x3, .ref v1]) (sg := [(.iload_n 3, 0)]) (lSa_ok dd4) rfl ?_
      obtain ⟨_, o3, e2, m4, h⟩ := gOb_inv h
      refine Y.callI (yC.Vi (b := v1) (As := [.int x3]) (st := []) (r := ("Partlister$Numbers", T_N, 1)) hV.1 cb_N_read lk_I_39 in_N_read rfl se_N_read (lIa_ok dd5) rfl rfl (Nat.le_of_ble_eq_true rfl) (by decide) e2 m4) (k_N_read hV G v1 x3) h (fun v6 G5 _ h => ?_)
      refine Y.blk (pc' := 20) (L' := [some (.ref x0), some (.int x1), some (.int x2), some (.int x3), some (.int v6), some (.int x3)]) (st' := []) (sg := [(.istore 4, 0), (.iload_n 3, 0), (.istore 5, 0)]) (lSa_ok dd6) rfl ?_
      refine k_I_arrangeSpare_L20 hV _ ?_  zFu G5 x0 x1 x2 x3 v6 x3 h
      · intro G34 x28 x29 x30 x31 x32 x33 h
        refine Y.blk (pc' := 71) (L' := [some (.ref x28), some (.int x29), some (.int x30), some (.int x31), some (.int x32), some (.int x33)]) (st' := [.ref x28]) (sg := [(.aload_n 0, 0)]) (lSa_ok dd7) rfl ?_
        refine Y.getA fl_I_32 (lIa_ok dd8) h (fun v35 h => ?_)
        refine Y.blk (pc' := 78) (L' := [some (.ref x28), some (.int x29), some (.int x30), some (.int x31), some (.int x32), some (.int x33)]) (st' := [.int x32, .int x33, .ref v35]) (sg := [(.iload 5, 0), (.iload 4, 0)]) (lSa_ok dd9) rfl ?_
        obtain ⟨_, o37, e36, m38, h⟩ := gOb_inv h
        refine Y.callN (yC.Vi (b := v35) (As := [.int x33, .int x32]) (st := []) (r := ("Partlister$Numbers", T_N, 1)) hV.1 cb_N_write lk_I_35 in_N_write rfl se_N_write (lIa_ok dd10) rfl rfl (Nat.le_of_ble_eq_true rfl) (by decide) e36 m38) (k_N_write hV G34 v35 x33 x32) h (fun G39 _ h => ?_)
        refine Y.blk (pc' := 84) (L' := [some (.ref x28), some (.int x29), some (.int x30), some (.int (x31 + (nI 1))), some (.int x32), some (.int x33)]) (st' := []) (sg := [(.iinc 3 1, nI 1)]) (lSa_ok dd11) rfl ?_
        refine Y.goto (off := -82) (tgt := 2) (lIa_ok dd12) (by decide) ?_
        refine Y.less (L' := [some (.ref x28), some (.int x29), some (.int x30), some (.int (x31 + (nI 1))), none, none]) (zLe_some (zLe_some (zLe_some (zLe_some (zLe_none (zLe_none (zLe_nil))))))) ?_
        exact ih G39 x28 x29 x30 (x31 + (nI 1)) h
theorem k_I_arrangeSpare {l : Launch} {D : va_G} {B : Nat} {O : State → Heap → Prop} (hV : zG l D B O) (G : gH) (a0 : Nat) (a1 : Int32) (a2 : Int32) : gMet (zVm l D B O) m_I_arrangeSpare 3 [.ref a0, .int a1, .int a2] G (f_I_arrangeSpare G a0 a1 a2) := by
  have hdd : lSa m_I_arrangeSpare 0 [(.iconst 1, nI 1), (.istore_n 3, 0)] = true ∧ lIa m_I_arrangeSpare 87 (.return_) 1 = true := by decide +kernel
  obtain ⟨dd0, dd1⟩ := hdd
  refine gMet.of (by decide +kernel) (Nat.le_of_ble_eq_true rfl) [some (.ref a0), some (.int a1), some (.int a2), none, none, none] (fun ls h => zEn_ok (n := 6) h) ?_
  intro o Gf h
  unfold f_I_arrangeSpare at h
  refine Y.blk (pc' := 2) (L' := [some (.ref a0), some (.int a1), some (.int a2), some (.int (nI 1)), none, none]) (st' := []) (sg := [(.iconst 1, nI 1), (.istore_n 3, 0)]) (lSa_ok dd0) rfl ?_
  refine k_I_arrangeSpare_L2 hV _ ?_  zFu G a0 a1 a2 (nI 1) h
  · intro G41 h
    exact Y.vret rfl (lIa_ok dd1) h

def f_I_copyToSpare_L8 (K37 : gH → gR) : Nat → gH → Nat → Int32 → Int32 → Int32 → gR
  | 0, _, _, _, _, _ => none
  | n + 1, G, x0, x1, x2, x3 =>
    if x2 ≤ x3 then K37 G
    else gFA G x0 1 5 fun v6 => gOb G x0 1 fun o8 => bI (f_I_thingAt G x0 x1 x3) fun v11 G10 => gOb G10 v6 2 fun o13 => bV (f_N_write G10 v6 x3 ((v11 <<< ((nI 5) &&& 31)) ||| x3)) fun G15 => f_I_copyToSpare_L8 K37 n G15 x0 x1 x2 (x3 + (nI 1))
def f_I_copyToSpare (G : gH) (a0 : Nat) (a1 : Int32) : gR :=
  gOb G a0 1 fun o2 => bI (f_I_lengthOf G a0 a1) fun v5 G4 => f_I_copyToSpare_L8 (fun G17 => rV G17) zFu G4 a0 a1 v5 (nI 0)
theorem k_I_copyToSpare_L8 {l : Launch} {D : va_G} {B : Nat} {O : State → Heap → Prop} (hV : zG l D B O) {o : gO} {Gf : gH} (K37 : gH → gR) (hK37 : ∀ (G : gH), K37 G  = some (o, Gf) → Y (zVm l D B O) m_I_copyToSpare 4 o Gf 37 [none, none, none, none] [] G) : ∀ (n : Nat) (G : gH) (x0 : Nat) (x1 : Int32) (x2 : Int32) (x3 : Int32), f_I_copyToSpare_L8 K37 n G x0 x1 x2 x3 = some (o, Gf) → Y (zVm l D B O) m_I_copyToSpare 4 o Gf 8 [some (.ref x0), some (.int x1), some (.int x2), some (.int x3)] [] G := by
  have hdd : lSa m_I_copyToSpare 8 [(.iload_n 3, 0), (.iload_n 2, 0)] = true ∧ lIa m_I_copyToSpare 10 (.if_icmp .ge 27) 3 = true ∧ lSa m_I_copyToSpare 13 [(.aload_n 0, 0)] = true ∧ lIa m_I_copyToSpare 14 (.getfield 32) 3 = true ∧ lSa m_I_copyToSpare 17 [(.iload_n 3, 0), (.aload_n 0, 0), (.iload_n 1, 0), (.iload_n 3, 0)] = true ∧ lIa m_I_copyToSpare 21 (.invokevirtual 50) 3 = true ∧ lSa m_I_copyToSpare 24 [(.iconst 5, nI 5), (.ishl, 0), (.iload_n 3, 0), (.ior, 0)] = true ∧ lIa m_I_copyToSpare 28 (.invokevirtual 35) 3 = true ∧ lSa m_I_copyToSpare 31 [(.iinc 3 1, nI 1)] = true ∧ lIa m_I_copyToSpare 34 (.goto (-26)) 3 = true := by decide +kernel
  refine lA8 hdd (fun dd0 dd1 dd2 dd3 dd4 dd5 dd6 dd7 hdd => ?_)
  obtain ⟨dd8, dd9⟩ := hdd
  intro n
  induction n with
  | zero => intro G x0 x1 x2 x3 h; cases h
  | succ n ih =>
    intro G x0 x1 x2 x3 h
    unfold f_I_copyToSpare_L8 at h
    refine Y.blk (pc' := 10) (L' := [some (.ref x0), some (.int x1), some (.int x2), some (.int x3)]) (st' := [.int x2, .int x3]) (sg := [(.iload_n 3, 0), (.iload_n 2, 0)]) (lSa_ok dd0) rfl ?_
    refine Y.ic_ge (off := 27) (tgt := 37) (lIa_ok dd1) (by decide) h (fun c16 h => ?_) (fun c16 h => ?_)
    · refine Y.less (L' := [none, none, none, none]) (zLe_none (zLe_none (zLe_none (zLe_none (zLe_nil))))) ?_
      exact hK37 G  h
    · refine Y.blk (pc' := 14) (L' := [some (.ref x0), some (.int x1), some (.int x2), some (.int x3)]) (st' := [.ref x0]) (sg := [(.aload_n 0, 0)]) (lSa_ok dd2) rfl ?_
      refine Y.getA fl_I_32 (lIa_ok dd3) h (fun v6 h => ?_)
      refine Y.blk (pc' := 21) (L' := [some (.ref x0), some (.int x1), some (.int x2), some (.int x3)]) (st' := [.int x3, .int x1, .ref x0, .int x3, .ref v6]) (sg := [(.iload_n 3, 0), (.aload_n 0, 0), (.iload_n 1, 0), (.iload_n 3, 0)]) (lSa_ok dd4) rfl ?_
      obtain ⟨_, o8, e7, m9, h⟩ := gOb_inv h
      refine Y.callI (yC.Vi (b := x0) (As := [.int x1, .int x3]) (st := [.int x3, .ref v6]) (r := ("Partlister$Lists", T_I, 7)) hV.1 cb_I_thingAt lk_I_50 in_I_thingAt rfl se_I_thingAt (lIa_ok dd5) rfl rfl (Nat.le_of_ble_eq_true rfl) (by decide) e7 m9) (k_I_thingAt hV G x0 x1 x3) h (fun v11 G10 _ h => ?_)
      refine Y.blk (pc' := 28) (L' := [some (.ref x0), some (.int x1), some (.int x2), some (.int x3)]) (st' := [.int ((v11 <<< ((nI 5) &&& 31)) ||| x3), .int x3, .ref v6]) (sg := [(.iconst 5, nI 5), (.ishl, 0), (.iload_n 3, 0), (.ior, 0)]) (lSa_ok dd6) rfl ?_
      obtain ⟨_, o13, e12, m14, h⟩ := gOb_inv h
      refine Y.callN (yC.Vi (b := v6) (As := [.int x3, .int ((v11 <<< ((nI 5) &&& 31)) ||| x3)]) (st := []) (r := ("Partlister$Numbers", T_N, 1)) hV.1 cb_N_write lk_I_35 in_N_write rfl se_N_write (lIa_ok dd7) rfl rfl (Nat.le_of_ble_eq_true rfl) (by decide) e12 m14) (k_N_write hV G10 v6 x3 ((v11 <<< ((nI 5) &&& 31)) ||| x3)) h (fun G15 _ h => ?_)
      refine Y.blk (pc' := 34) (L' := [some (.ref x0), some (.int x1), some (.int x2), some (.int (x3 + (nI 1)))]) (st' := []) (sg := [(.iinc 3 1, nI 1)]) (lSa_ok dd8) rfl ?_
      refine Y.goto (off := -26) (tgt := 8) (lIa_ok dd9) (by decide) ?_
      exact ih G15 x0 x1 x2 (x3 + (nI 1)) h
theorem k_I_copyToSpare {l : Launch} {D : va_G} {B : Nat} {O : State → Heap → Prop} (hV : zG l D B O) (G : gH) (a0 : Nat) (a1 : Int32) : gMet (zVm l D B O) m_I_copyToSpare 4 [.ref a0, .int a1] G (f_I_copyToSpare G a0 a1) := by
  have hdd : lSa m_I_copyToSpare 0 [(.aload_n 0, 0), (.iload_n 1, 0)] = true ∧ lIa m_I_copyToSpare 2 (.invokevirtual 59) 3 = true ∧ lSa m_I_copyToSpare 5 [(.istore_n 2, 0), (.iconst 0, nI 0), (.istore_n 3, 0)] = true ∧ lIa m_I_copyToSpare 37 (.return_) 1 = true := by decide +kernel
  obtain ⟨dd0, dd1, dd2, dd3⟩ := hdd
  refine gMet.of (by decide +kernel) (Nat.le_of_ble_eq_true rfl) [some (.ref a0), some (.int a1), none, none] (fun ls h => zEn_ok (n := 4) h) ?_
  intro o Gf h
  unfold f_I_copyToSpare at h
  refine Y.blk (pc' := 2) (L' := [some (.ref a0), some (.int a1), none, none]) (st' := [.int a1, .ref a0]) (sg := [(.aload_n 0, 0), (.iload_n 1, 0)]) (lSa_ok dd0) rfl ?_
  obtain ⟨_, o2, e1, m3, h⟩ := gOb_inv h
  refine Y.callI (yC.Vi (b := a0) (As := [.int a1]) (st := []) (r := ("Partlister$Lists", T_I, 7)) hV.1 cb_I_lengthOf lk_I_59 in_I_lengthOf rfl se_I_lengthOf (lIa_ok dd1) rfl rfl (Nat.le_of_ble_eq_true rfl) (by decide) e1 m3) (k_I_lengthOf hV G a0 a1) h (fun v5 G4 _ h => ?_)
  refine Y.blk (pc' := 8) (L' := [some (.ref a0), some (.int a1), some (.int v5), some (.int (nI 0))]) (st' := []) (sg := [(.istore_n 2, 0), (.iconst 0, nI 0), (.istore_n 3, 0)]) (lSa_ok dd2) rfl ?_
  refine k_I_copyToSpare_L8 hV _ ?_  zFu G4 a0 a1 v5 (nI 0) h
  · intro G17 h
    exact Y.vret rfl (lIa_ok dd3) h

def f_I_placeInSpare (G : gH) (a0 : Nat) (a1 : Int32) : gR :=
  gFA G a0 1 5 fun v1 => gOb G v1 2 fun o3 => bI (f_N_read G v1 a1) fun v6 G5 => rI (v6 &&& (nI 31)) G5
theorem k_I_placeInSpare {l : Launch} {D : va_G} {B : Nat} {O : State → Heap → Prop} (hV : zG l D B O) (G : gH) (a0 : Nat) (a1 : Int32) : gMet (zVm l D B O) m_I_placeInSpare 2 [.ref a0, .int a1] G (f_I_placeInSpare G a0 a1) := by
  have hdd : lSa m_I_placeInSpare 0 [(.aload_n 0, 0)] = true ∧ lIa m_I_placeInSpare 1 (.getfield 32) 3 = true ∧ lSa m_I_placeInSpare 4 [(.iload_n 1, 0)] = true ∧ lIa m_I_placeInSpare 5 (.invokevirtual 39) 3 = true ∧ lSa m_I_placeInSpare 8 [(.bipush 31, nI 31), (.iand, 0)] = true ∧ lIa m_I_placeInSpare 11 (.ireturn) 1 = true := by decide +kernel
  obtain ⟨dd0, dd1, dd2, dd3, dd4, dd5⟩ := hdd
  refine gMet.of (by decide +kernel) (Nat.le_of_ble_eq_true rfl) [some (.ref a0), some (.int a1)] (fun ls h => zEn_ok (n := 2) h) ?_
  intro o Gf h
  unfold f_I_placeInSpare at h
  refine Y.blk (pc' := 1) (L' := [some (.ref a0), some (.int a1)]) (st' := [.ref a0]) (sg := [(.aload_n 0, 0)]) (lSa_ok dd0) rfl ?_
  refine Y.getA fl_I_32 (lIa_ok dd1) h (fun v1 h => ?_)
  refine Y.blk (pc' := 5) (L' := [some (.ref a0), some (.int a1)]) (st' := [.int a1, .ref v1]) (sg := [(.iload_n 1, 0)]) (lSa_ok dd2) rfl ?_
  obtain ⟨_, o3, e2, m4, h⟩ := gOb_inv h
  refine Y.callI (yC.Vi (b := v1) (As := [.int a1]) (st := []) (r := ("Partlister$Numbers", T_N, 1)) hV.1 cb_N_read lk_I_39 in_N_read rfl se_N_read (lIa_ok dd3) rfl rfl (Nat.le_of_ble_eq_true rfl) (by decide) e2 m4) (k_N_read hV G v1 a1) h (fun v6 G5 _ h => ?_)
  refine Y.blk (pc' := 11) (L' := [some (.ref a0), some (.int a1)]) (st' := [.int (v6 &&& (nI 31))]) (sg := [(.bipush 31, nI 31), (.iand, 0)]) (lSa_ok dd4) rfl ?_
  exact Y.iret rfl (lIa_ok dd5) h

def f_I_mayFollow (G : gH) (a0 : Nat) (a1 : Int32) (a2 : Int32) : gR :=
  gOb G a0 1 fun o2 => bI (f_I_thingInSpare G a0 a1) fun v5 G4 => gOb G4 a0 1 fun o7 => bI (f_I_thingInSpare G4 a0 (a1 - (nI 1))) fun v10 G9 => bI (f_X_hasToBeAhead G9 v5 v10 a2) fun v13 G12 => if v13 = 0 then (bI (f_X_hasToBeAhead G12 v10 v5 a2) fun v16 G15 => if v16 = 0 then (gOb G15 a0 1 fun o18 => bI (f_I_placeInSpare G15 a0 (a1 - (nI 1))) fun v21 G20 => gOb G20 a0 1 fun o23 => bI (f_I_placeInSpare G20 a0 a1) fun v26 G25 => if v26 ≤ v21 then rZ (nI 0) G25
      else rZ (nI 1) G25)
    else rZ (nI 1) G15)
  else rZ (nI 0) G12
theorem k_I_mayFollow {l : Launch} {D : va_G} {B : Nat} {O : State → Heap → Prop} (hV : zG l D B O) (G : gH) (a0 : Nat) (a1 : Int32) (a2 : Int32) : gMet (zVm l D B O) m_I_mayFollow 3 [.ref a0, .int a1, .int a2] G (f_I_mayFollow G a0 a1 a2) := by
  have hdd : lSa m_I_mayFollow 0 [(.aload_n 0, 0), (.iload_n 1, 0)] = true ∧ lIa m_I_mayFollow 2 (.invokevirtual 73) 3 = true ∧ lSa m_I_mayFollow 5 [(.istore_n 3, 0), (.aload_n 0, 0), (.iload_n 1, 0), (.iconst 1, nI 1), (.isub, 0)] = true ∧ lIa m_I_mayFollow 10 (.invokevirtual 73) 3 = true ∧ lSa m_I_mayFollow 13 [(.istore 4, 0), (.iload_n 3, 0), (.iload 4, 0), (.iload_n 2, 0)] = true ∧ lIa m_I_mayFollow 19 (.invokestatic 82) 3 = true ∧ lIa m_I_mayFollow 22 (.ifCond .eq 5) 3 = true ∧ lSa m_I_mayFollow 27 [(.iload 4, 0), (.iload_n 3, 0), (.iload_n 2, 0)] = true ∧ lIa m_I_mayFollow 31 (.invokestatic 82) 3 = true ∧ lIa m_I_mayFollow 34 (.ifCond .ne 18) 3 = true ∧ lSa m_I_mayFollow 37 [(.aload_n 0, 0), (.iload_n 1, 0), (.iconst 1, nI 1), (.isub, 0)] = true ∧ lIa m_I_mayFollow 41 (.invokevirtual 122) 3 = true ∧ lSa m_I_mayFollow 44 [(.aload_n 0, 0), (.iload_n 1, 0)] = true ∧ lIa m_I_mayFollow 46 (.invokevirtual 122) 3 = true ∧ lIa m_I_mayFollow 49 (.if_icmp .ge 7) 3 = true ∧ lSa m_I_mayFollow 56 [(.iconst 0, nI 0)] = true ∧ lIa m_I_mayFollow 57 (.ireturn) 1 = true ∧ lSa m_I_mayFollow 52 [(.iconst 1, nI 1)] = true ∧ lIa m_I_mayFollow 53 (.goto 4) 3 = true ∧ lSa m_I_mayFollow 25 [(.iconst 0, nI 0)] = true ∧ lIa m_I_mayFollow 26 (.ireturn) 1 = true := by decide +kernel
  refine lA8 hdd (fun dd0 dd1 dd2 dd3 dd4 dd5 dd6 dd7 hdd => ?_)
  refine lA8 hdd (fun dd8 dd9 dd10 dd11 dd12 dd13 dd14 dd15 hdd => ?_)
  obtain ⟨dd16, dd17, dd18, dd19, dd20⟩ := hdd
  refine gMet.of (by decide +kernel) (Nat.le_of_ble_eq_true rfl) [some (.ref a0), some (.int a1), some (.int a2), none, none] (fun ls h => zEn_ok (n := 5) h) ?_
  intro o Gf h
  unfold f_I_mayFollow at h
  refine Y.blk (pc' := 2) (L' := [some (.ref a0), some (.int a1), some (.int a2), none, none]) (st' := [.int a1, .ref a0]) (sg := [(.aload_n 0, 0), (.iload_n 1, 0)]) (lSa_ok dd0) rfl ?_
  obtain ⟨_, o2, e1, m3, h⟩ := gOb_inv h
  refine Y.callI (yC.Vi (b := a0) (As := [.int a1]) (st := []) (r := ("Partlister$Lists", T_I, 7)) hV.1 cb_I_thingInSpare lk_I_73 in_I_thingInSpare rfl se_I_thingInSpare (lIa_ok dd1) rfl rfl (Nat.le_of_ble_eq_true rfl) (by decide) e1 m3) (k_I_thingInSpare hV G a0 a1) h (fun v5 G4 _ h => ?_)
  refine Y.blk (pc' := 10) (L' := [some (.ref a0), some (.int a1), some (.int a2), some (.int v5), none]) (st' := [.int (a1 - (nI 1)), .ref a0]) (sg := [(.istore_n 3, 0), (.aload_n 0, 0), (.iload_n 1, 0), (.iconst 1, nI 1), (.isub, 0)]) (lSa_ok dd2) rfl ?_
  obtain ⟨_, o7, e6, m8, h⟩ := gOb_inv h
  refine Y.callI (yC.Vi (b := a0) (As := [.int (a1 - (nI 1))]) (st := []) (r := ("Partlister$Lists", T_I, 7)) hV.1 cb_I_thingInSpare lk_I_73 in_I_thingInSpare rfl se_I_thingInSpare (lIa_ok dd3) rfl rfl (Nat.le_of_ble_eq_true rfl) (by decide) e6 m8) (k_I_thingInSpare hV G4 a0 (a1 - (nI 1))) h (fun v10 G9 _ h => ?_)
  refine Y.blk (pc' := 19) (L' := [some (.ref a0), some (.int a1), some (.int a2), some (.int v5), some (.int v10)]) (st' := [.int a2, .int v10, .int v5]) (sg := [(.istore 4, 0), (.iload_n 3, 0), (.iload 4, 0), (.iload_n 2, 0)]) (lSa_ok dd4) rfl ?_
  refine Y.callI (yC.SN (As := [.int v5, .int v10, .int a2]) (st := []) hV.1 cb_X_hasToBeAhead lk_I_82 st_X_hasToBeAhead (lIa_ok dd5) rfl rfl (Nat.le_of_ble_eq_true rfl) (by decide)) (k_X_hasToBeAhead hV G9 v5 v10 a2) h (fun v13 G12 _ h => ?_)
  refine Y.if_eq (off := 5) (tgt := 27) (lIa_ok dd6) (by decide) h (fun c29 h => ?_) (fun c29 h => ?_)
  · refine Y.blk (pc' := 31) (L' := [some (.ref a0), some (.int a1), some (.int a2), some (.int v5), some (.int v10)]) (st' := [.int a2, .int v5, .int v10]) (sg := [(.iload 4, 0), (.iload_n 3, 0), (.iload_n 2, 0)]) (lSa_ok dd7) rfl ?_
    refine Y.callI (yC.SN (As := [.int v10, .int v5, .int a2]) (st := []) hV.1 cb_X_hasToBeAhead lk_I_82 st_X_hasToBeAhead (lIa_ok dd8) rfl rfl (Nat.le_of_ble_eq_true rfl) (by decide)) (k_X_hasToBeAhead hV G12 v10 v5 a2) h (fun v16 G15 _ h => ?_)
    refine Y.if_ne (off := 18) (tgt := 52) (lIa_ok dd9) (by decide) h (fun c28 h => ?_) (fun c28 h => ?_)
    · refine Y.blk (pc' := 41) (L' := [some (.ref a0), some (.int a1), some (.int a2), some (.int v5), some (.int v10)]) (st' := [.int (a1 - (nI 1)), .ref a0]) (sg := [(.aload_n 0, 0), (.iload_n 1, 0), (.iconst 1, nI 1), (.isub, 0)]) (lSa_ok dd10) rfl ?_
      obtain ⟨_, o18, e17, m19, h⟩ := gOb_inv h
      refine Y.callI (yC.Vi (b := a0) (As := [.int (a1 - (nI 1))]) (st := []) (r := ("Partlister$Lists", T_I, 7)) hV.1 cb_I_placeInSpare lk_I_122 in_I_placeInSpare rfl se_I_placeInSpare (lIa_ok dd11) rfl rfl (Nat.le_of_ble_eq_true rfl) (by decide) e17 m19) (k_I_placeInSpare hV G15 a0 (a1 - (nI 1))) h (fun v21 G20 _ h => ?_)
      refine Y.blk (pc' := 46) (L' := [some (.ref a0), some (.int a1), some (.int a2), some (.int v5), some (.int v10)]) (st' := [.int a1, .ref a0, .int v21]) (sg := [(.aload_n 0, 0), (.iload_n 1, 0)]) (lSa_ok dd12) rfl ?_
      obtain ⟨_, o23, e22, m24, h⟩ := gOb_inv h
      refine Y.callI (yC.Vi (b := a0) (As := [.int a1]) (st := [.int v21]) (r := ("Partlister$Lists", T_I, 7)) hV.1 cb_I_placeInSpare lk_I_122 in_I_placeInSpare rfl se_I_placeInSpare (lIa_ok dd13) rfl rfl (Nat.le_of_ble_eq_true rfl) (by decide) e22 m24) (k_I_placeInSpare hV G20 a0 a1) h (fun v26 G25 _ h => ?_)
      refine Y.ic_ge (off := 7) (tgt := 56) (lIa_ok dd14) (by decide) h (fun c27 h => ?_) (fun c27 h => ?_)
      · refine Y.blk (pc' := 57) (L' := [some (.ref a0), some (.int a1), some (.int a2), some (.int v5), some (.int v10)]) (st' := [.int (nI 0)]) (sg := [(.iconst 0, nI 0)]) (lSa_ok dd15) rfl ?_
        exact Y.zret rfl (lIa_ok dd16) h
      · refine Y.blk (pc' := 53) (L' := [some (.ref a0), some (.int a1), some (.int a2), some (.int v5), some (.int v10)]) (st' := [.int (nI 1)]) (sg := [(.iconst 1, nI 1)]) (lSa_ok dd17) rfl ?_
        refine Y.goto (off := 4) (tgt := 57) (lIa_ok dd18) (by decide) ?_
        exact Y.zret rfl (lIa_ok dd16) h
    · refine Y.blk (pc' := 53) (L' := [some (.ref a0), some (.int a1), some (.int a2), some (.int v5), some (.int v10)]) (st' := [.int (nI 1)]) (sg := [(.iconst 1, nI 1)]) (lSa_ok dd17) rfl ?_
      refine Y.goto (off := 4) (tgt := 57) (lIa_ok dd18) (by decide) ?_
      exact Y.zret rfl (lIa_ok dd16) h
  · refine Y.blk (pc' := 26) (L' := [some (.ref a0), some (.int a1), some (.int a2), some (.int v5), some (.int v10)]) (st' := [.int (nI 0)]) (sg := [(.iconst 0, nI 0)]) (lSa_ok dd19) rfl ?_
    exact Y.zret rfl (lIa_ok dd20) h

def f_IN_bitCount (G : gH) (a0 : Int32) : gR :=
  rI ((((((((a0 - (((a0.toUInt32 >>> ((nI 1).toUInt32 &&& Int32.toUInt32 31)).toInt32) &&& (nI 1431655765))) &&& (nI 858993459)) + ((((a0 - (((a0.toUInt32 >>> ((nI 1).toUInt32 &&& Int32.toUInt32 31)).toInt32) &&& (nI 1431655765))).toUInt32 >>> ((nI 2).toUInt32 &&& Int32.toUInt32 31)).toInt32) &&& (nI 858993459))) + (((((a0 - (((a0.toUInt32 >>> ((nI 1).toUInt32 &&& Int32.toUInt32 31)).toInt32) &&& (nI 1431655765))) &&& (nI 858993459)) + ((((a0 - (((a0.toUInt32 >>> ((nI 1).toUInt32 &&& Int32.toUInt32 31)).toInt32) &&& (nI 1431655765))).toUInt32 >>> ((nI 2).toUInt32 &&& Int32.toUInt32 31)).toInt32) &&& (nI 858993459))).toUInt32 >>> ((nI 4).toUInt32 &&& Int32.toUInt32 31)).toInt32)) &&& (nI 252645135)) + (((((((a0 - (((a0.toUInt32 >>> ((nI 1).toUInt32 &&& Int32.toUInt32 31)).toInt32) &&& (nI 1431655765))) &&& (nI 858993459)) + ((((a0 - (((a0.toUInt32 >>> ((nI 1).toUInt32 &&& Int32.toUInt32 31)).toInt32) &&& (nI 1431655765))).toUInt32 >>> ((nI 2).toUInt32 &&& Int32.toUInt32 31)).toInt32) &&& (nI 858993459))) + (((((a0 - (((a0.toUInt32 >>> ((nI 1).toUInt32 &&& Int32.toUInt32 31)).toInt32) &&& (nI 1431655765))) &&& (nI 858993459)) + ((((a0 - (((a0.toUInt32 >>> ((nI 1).toUInt32 &&& Int32.toUInt32 31)).toInt32) &&& (nI 1431655765))).toUInt32 >>> ((nI 2).toUInt32 &&& Int32.toUInt32 31)).toInt32) &&& (nI 858993459))).toUInt32 >>> ((nI 4).toUInt32 &&& Int32.toUInt32 31)).toInt32)) &&& (nI 252645135)).toUInt32 >>> ((nI 8).toUInt32 &&& Int32.toUInt32 31)).toInt32)) + ((((((((a0 - (((a0.toUInt32 >>> ((nI 1).toUInt32 &&& Int32.toUInt32 31)).toInt32) &&& (nI 1431655765))) &&& (nI 858993459)) + ((((a0 - (((a0.toUInt32 >>> ((nI 1).toUInt32 &&& Int32.toUInt32 31)).toInt32) &&& (nI 1431655765))).toUInt32 >>> ((nI 2).toUInt32 &&& Int32.toUInt32 31)).toInt32) &&& (nI 858993459))) + (((((a0 - (((a0.toUInt32 >>> ((nI 1).toUInt32 &&& Int32.toUInt32 31)).toInt32) &&& (nI 1431655765))) &&& (nI 858993459)) + ((((a0 - (((a0.toUInt32 >>> ((nI 1).toUInt32 &&& Int32.toUInt32 31)).toInt32) &&& (nI 1431655765))).toUInt32 >>> ((nI 2).toUInt32 &&& Int32.toUInt32 31)).toInt32) &&& (nI 858993459))).toUInt32 >>> ((nI 4).toUInt32 &&& Int32.toUInt32 31)).toInt32)) &&& (nI 252645135)) + (((((((a0 - (((a0.toUInt32 >>> ((nI 1).toUInt32 &&& Int32.toUInt32 31)).toInt32) &&& (nI 1431655765))) &&& (nI 858993459)) + ((((a0 - (((a0.toUInt32 >>> ((nI 1).toUInt32 &&& Int32.toUInt32 31)).toInt32) &&& (nI 1431655765))).toUInt32 >>> ((nI 2).toUInt32 &&& Int32.toUInt32 31)).toInt32) &&& (nI 858993459))) + (((((a0 - (((a0.toUInt32 >>> ((nI 1).toUInt32 &&& Int32.toUInt32 31)).toInt32) &&& (nI 1431655765))) &&& (nI 858993459)) + ((((a0 - (((a0.toUInt32 >>> ((nI 1).toUInt32 &&& Int32.toUInt32 31)).toInt32) &&& (nI 1431655765))).toUInt32 >>> ((nI 2).toUInt32 &&& Int32.toUInt32 31)).toInt32) &&& (nI 858993459))).toUInt32 >>> ((nI 4).toUInt32 &&& Int32.toUInt32 31)).toInt32)) &&& (nI 252645135)).toUInt32 >>> ((nI 8).toUInt32 &&& Int32.toUInt32 31)).toInt32)).toUInt32 >>> ((nI 16).toUInt32 &&& Int32.toUInt32 31)).toInt32)) &&& (nI 63)) G
theorem k_IN_bitCount {l : Launch} {D : va_G} {B : Nat} {O : State → Heap → Prop} (hV : zG l D B O) (G : gH) (a0 : Int32) : gMet (zVm l D B O) m_IN_bitCount 1 [.int a0] G (f_IN_bitCount G a0) := by
  have hdd : lSa m_IN_bitCount 0 [(.iload_n 0, 0), (.iload_n 0, 0), (.iconst 1, nI 1), (.iushr, 0)] = true ∧ lIa m_IN_bitCount 4 (.ldc_w 265) 3 = true ∧ lSa m_IN_bitCount 7 [(.iand, 0), (.isub, 0), (.istore_n 0, 0), (.iload_n 0, 0)] = true ∧ lIa m_IN_bitCount 11 (.ldc_w 266) 3 = true ∧ lSa m_IN_bitCount 14 [(.iand, 0), (.iload_n 0, 0), (.iconst 2, nI 2), (.iushr, 0)] = true ∧ lIa m_IN_bitCount 18 (.ldc_w 266) 3 = true ∧ lSa m_IN_bitCount 21 [(.iand, 0), (.iadd, 0), (.istore_n 0, 0), (.iload_n 0, 0), (.iload_n 0, 0), (.iconst 4, nI 4), (.iushr, 0), (.iadd, 0)] = true ∧ lIa m_IN_bitCount 29 (.ldc_w 267) 3 = true ∧ lSa m_IN_bitCount 32 [(.iand, 0), (.istore_n 0, 0), (.iload_n 0, 0), (.iload_n 0, 0), (.bipush 8, nI 8), (.iushr, 0), (.iadd, 0), (.istore_n 0, 0), (.iload_n 0, 0), (.iload_n 0, 0), (.bipush 16, nI 16), (.iushr, 0), (.iadd, 0), (.istore_n 0, 0), (.iload_n 0, 0), (.bipush 63, nI 63), (.iand, 0)] = true ∧ lIa m_IN_bitCount 52 (.ireturn) 1 = true := by decide +kernel
  refine lA8 hdd (fun dd0 dd1 dd2 dd3 dd4 dd5 dd6 dd7 hdd => ?_)
  obtain ⟨dd8, dd9⟩ := hdd
  refine gMet.of (by decide +kernel) (Nat.le_of_ble_eq_true rfl) [some (.int a0)] (fun ls h => zEn_ok (n := 1) h) ?_
  intro o Gf h
  unfold f_IN_bitCount at h
  refine Y.blk (pc' := 4) (L' := [some (.int a0)]) (st' := [.int ((a0.toUInt32 >>> ((nI 1).toUInt32 &&& Int32.toUInt32 31)).toInt32), .int a0]) (sg := [(.iload_n 0, 0), (.iload_n 0, 0), (.iconst 1, nI 1), (.iushr, 0)]) (lSa_ok dd0) rfl ?_
  refine Y.ldcw (v := nI 1431655765) co_IN_265 (lIa_ok dd1) ?_
  refine Y.blk (pc' := 11) (L' := [some (.int (a0 - (((a0.toUInt32 >>> ((nI 1).toUInt32 &&& Int32.toUInt32 31)).toInt32) &&& (nI 1431655765))))]) (st' := [.int (a0 - (((a0.toUInt32 >>> ((nI 1).toUInt32 &&& Int32.toUInt32 31)).toInt32) &&& (nI 1431655765)))]) (sg := [(.iand, 0), (.isub, 0), (.istore_n 0, 0), (.iload_n 0, 0)]) (lSa_ok dd2) rfl ?_
  refine Y.ldcw (v := nI 858993459) co_IN_266 (lIa_ok dd3) ?_
  refine Y.blk (pc' := 18) (L' := [some (.int (a0 - (((a0.toUInt32 >>> ((nI 1).toUInt32 &&& Int32.toUInt32 31)).toInt32) &&& (nI 1431655765))))]) (st' := [.int (((a0 - (((a0.toUInt32 >>> ((nI 1).toUInt32 &&& Int32.toUInt32 31)).toInt32) &&& (nI 1431655765))).toUInt32 >>> ((nI 2).toUInt32 &&& Int32.toUInt32 31)).toInt32), .int ((a0 - (((a0.toUInt32 >>> ((nI 1).toUInt32 &&& Int32.toUInt32 31)).toInt32) &&& (nI 1431655765))) &&& (nI 858993459))]) (sg := [(.iand, 0), (.iload_n 0, 0), (.iconst 2, nI 2), (.iushr, 0)]) (lSa_ok dd4) rfl ?_
  refine Y.ldcw (v := nI 858993459) co_IN_266 (lIa_ok dd5) ?_
  refine Y.blk (pc' := 29) (L' := [some (.int (((a0 - (((a0.toUInt32 >>> ((nI 1).toUInt32 &&& Int32.toUInt32 31)).toInt32) &&& (nI 1431655765))) &&& (nI 858993459)) + ((((a0 - (((a0.toUInt32 >>> ((nI 1).toUInt32 &&& Int32.toUInt32 31)).toInt32) &&& (nI 1431655765))).toUInt32 >>> ((nI 2).toUInt32 &&& Int32.toUInt32 31)).toInt32) &&& (nI 858993459))))]) (st' := [.int ((((a0 - (((a0.toUInt32 >>> ((nI 1).toUInt32 &&& Int32.toUInt32 31)).toInt32) &&& (nI 1431655765))) &&& (nI 858993459)) + ((((a0 - (((a0.toUInt32 >>> ((nI 1).toUInt32 &&& Int32.toUInt32 31)).toInt32) &&& (nI 1431655765))).toUInt32 >>> ((nI 2).toUInt32 &&& Int32.toUInt32 31)).toInt32) &&& (nI 858993459))) + (((((a0 - (((a0.toUInt32 >>> ((nI 1).toUInt32 &&& Int32.toUInt32 31)).toInt32) &&& (nI 1431655765))) &&& (nI 858993459)) + ((((a0 - (((a0.toUInt32 >>> ((nI 1).toUInt32 &&& Int32.toUInt32 31)).toInt32) &&& (nI 1431655765))).toUInt32 >>> ((nI 2).toUInt32 &&& Int32.toUInt32 31)).toInt32) &&& (nI 858993459))).toUInt32 >>> ((nI 4).toUInt32 &&& Int32.toUInt32 31)).toInt32))]) (sg := [(.iand, 0), (.iadd, 0), (.istore_n 0, 0), (.iload_n 0, 0), (.iload_n 0, 0), (.iconst 4, nI 4), (.iushr, 0), (.iadd, 0)]) (lSa_ok dd6) rfl ?_
  refine Y.ldcw (v := nI 252645135) co_IN_267 (lIa_ok dd7) ?_
  refine Y.blk (pc' := 52) (L' := [some (.int (((((((a0 - (((a0.toUInt32 >>> ((nI 1).toUInt32 &&& Int32.toUInt32 31)).toInt32) &&& (nI 1431655765))) &&& (nI 858993459)) + ((((a0 - (((a0.toUInt32 >>> ((nI 1).toUInt32 &&& Int32.toUInt32 31)).toInt32) &&& (nI 1431655765))).toUInt32 >>> ((nI 2).toUInt32 &&& Int32.toUInt32 31)).toInt32) &&& (nI 858993459))) + (((((a0 - (((a0.toUInt32 >>> ((nI 1).toUInt32 &&& Int32.toUInt32 31)).toInt32) &&& (nI 1431655765))) &&& (nI 858993459)) + ((((a0 - (((a0.toUInt32 >>> ((nI 1).toUInt32 &&& Int32.toUInt32 31)).toInt32) &&& (nI 1431655765))).toUInt32 >>> ((nI 2).toUInt32 &&& Int32.toUInt32 31)).toInt32) &&& (nI 858993459))).toUInt32 >>> ((nI 4).toUInt32 &&& Int32.toUInt32 31)).toInt32)) &&& (nI 252645135)) + (((((((a0 - (((a0.toUInt32 >>> ((nI 1).toUInt32 &&& Int32.toUInt32 31)).toInt32) &&& (nI 1431655765))) &&& (nI 858993459)) + ((((a0 - (((a0.toUInt32 >>> ((nI 1).toUInt32 &&& Int32.toUInt32 31)).toInt32) &&& (nI 1431655765))).toUInt32 >>> ((nI 2).toUInt32 &&& Int32.toUInt32 31)).toInt32) &&& (nI 858993459))) + (((((a0 - (((a0.toUInt32 >>> ((nI 1).toUInt32 &&& Int32.toUInt32 31)).toInt32) &&& (nI 1431655765))) &&& (nI 858993459)) + ((((a0 - (((a0.toUInt32 >>> ((nI 1).toUInt32 &&& Int32.toUInt32 31)).toInt32) &&& (nI 1431655765))).toUInt32 >>> ((nI 2).toUInt32 &&& Int32.toUInt32 31)).toInt32) &&& (nI 858993459))).toUInt32 >>> ((nI 4).toUInt32 &&& Int32.toUInt32 31)).toInt32)) &&& (nI 252645135)).toUInt32 >>> ((nI 8).toUInt32 &&& Int32.toUInt32 31)).toInt32)) + ((((((((a0 - (((a0.toUInt32 >>> ((nI 1).toUInt32 &&& Int32.toUInt32 31)).toInt32) &&& (nI 1431655765))) &&& (nI 858993459)) + ((((a0 - (((a0.toUInt32 >>> ((nI 1).toUInt32 &&& Int32.toUInt32 31)).toInt32) &&& (nI 1431655765))).toUInt32 >>> ((nI 2).toUInt32 &&& Int32.toUInt32 31)).toInt32) &&& (nI 858993459))) + (((((a0 - (((a0.toUInt32 >>> ((nI 1).toUInt32 &&& Int32.toUInt32 31)).toInt32) &&& (nI 1431655765))) &&& (nI 858993459)) + ((((a0 - (((a0.toUInt32 >>> ((nI 1).toUInt32 &&& Int32.toUInt32 31)).toInt32) &&& (nI 1431655765))).toUInt32 >>> ((nI 2).toUInt32 &&& Int32.toUInt32 31)).toInt32) &&& (nI 858993459))).toUInt32 >>> ((nI 4).toUInt32 &&& Int32.toUInt32 31)).toInt32)) &&& (nI 252645135)) + (((((((a0 - (((a0.toUInt32 >>> ((nI 1).toUInt32 &&& Int32.toUInt32 31)).toInt32) &&& (nI 1431655765))) &&& (nI 858993459)) + ((((a0 - (((a0.toUInt32 >>> ((nI 1).toUInt32 &&& Int32.toUInt32 31)).toInt32) &&& (nI 1431655765))).toUInt32 >>> ((nI 2).toUInt32 &&& Int32.toUInt32 31)).toInt32) &&& (nI 858993459))) + (((((a0 - (((a0.toUInt32 >>> ((nI 1).toUInt32 &&& Int32.toUInt32 31)).toInt32) &&& (nI 1431655765))) &&& (nI 858993459)) + ((((a0 - (((a0.toUInt32 >>> ((nI 1).toUInt32 &&& Int32.toUInt32 31)).toInt32) &&& (nI 1431655765))).toUInt32 >>> ((nI 2).toUInt32 &&& Int32.toUInt32 31)).toInt32) &&& (nI 858993459))).toUInt32 >>> ((nI 4).toUInt32 &&& Int32.toUInt32 31)).toInt32)) &&& (nI 252645135)).toUInt32 >>> ((nI 8).toUInt32 &&& Int32.toUInt32 31)).toInt32)).toUInt32 >>> ((nI 16).toUInt32 &&& Int32.toUInt32 31)).toInt32)))]) (st' := [.int ((((((((a0 - (((a0.toUInt32 >>> ((nI 1).toUInt32 &&& Int32.toUInt32 31)).toInt32) &&& (nI 1431655765))) &&& (nI 858993459)) + ((((a0 - (((a0.toUInt32 >>> ((nI 1).toUInt32 &&& Int32.toUInt32 31)).toInt32) &&& (nI 1431655765))).toUInt32 >>> ((nI 2).toUInt32 &&& Int32.toUInt32 31)).toInt32) &&& (nI 858993459))) + (((((a0 - (((a0.toUInt32 >>> ((nI 1).toUInt32 &&& Int32.toUInt32 31)).toInt32) &&& (nI 1431655765))) &&& (nI 858993459)) + ((((a0 - (((a0.toUInt32 >>> ((nI 1).toUInt32 &&& Int32.toUInt32 31)).toInt32) &&& (nI 1431655765))).toUInt32 >>> ((nI 2).toUInt32 &&& Int32.toUInt32 31)).toInt32) &&& (nI 858993459))).toUInt32 >>> ((nI 4).toUInt32 &&& Int32.toUInt32 31)).toInt32)) &&& (nI 252645135)) + (((((((a0 - (((a0.toUInt32 >>> ((nI 1).toUInt32 &&& Int32.toUInt32 31)).toInt32) &&& (nI 1431655765))) &&& (nI 858993459)) + ((((a0 - (((a0.toUInt32 >>> ((nI 1).toUInt32 &&& Int32.toUInt32 31)).toInt32) &&& (nI 1431655765))).toUInt32 >>> ((nI 2).toUInt32 &&& Int32.toUInt32 31)).toInt32) &&& (nI 858993459))) + (((((a0 - (((a0.toUInt32 >>> ((nI 1).toUInt32 &&& Int32.toUInt32 31)).toInt32) &&& (nI 1431655765))) &&& (nI 858993459)) + ((((a0 - (((a0.toUInt32 >>> ((nI 1).toUInt32 &&& Int32.toUInt32 31)).toInt32) &&& (nI 1431655765))).toUInt32 >>> ((nI 2).toUInt32 &&& Int32.toUInt32 31)).toInt32) &&& (nI 858993459))).toUInt32 >>> ((nI 4).toUInt32 &&& Int32.toUInt32 31)).toInt32)) &&& (nI 252645135)).toUInt32 >>> ((nI 8).toUInt32 &&& Int32.toUInt32 31)).toInt32)) + ((((((((a0 - (((a0.toUInt32 >>> ((nI 1).toUInt32 &&& Int32.toUInt32 31)).toInt32) &&& (nI 1431655765))) &&& (nI 858993459)) + ((((a0 - (((a0.toUInt32 >>> ((nI 1).toUInt32 &&& Int32.toUInt32 31)).toInt32) &&& (nI 1431655765))).toUInt32 >>> ((nI 2).toUInt32 &&& Int32.toUInt32 31)).toInt32) &&& (nI 858993459))) + (((((a0 - (((a0.toUInt32 >>> ((nI 1).toUInt32 &&& Int32.toUInt32 31)).toInt32) &&& (nI 1431655765))) &&& (nI 858993459)) + ((((a0 - (((a0.toUInt32 >>> ((nI 1).toUInt32 &&& Int32.toUInt32 31)).toInt32) &&& (nI 1431655765))).toUInt32 >>> ((nI 2).toUInt32 &&& Int32.toUInt32 31)).toInt32) &&& (nI 858993459))).toUInt32 >>> ((nI 4).toUInt32 &&& Int32.toUInt32 31)).toInt32)) &&& (nI 252645135)) + (((((((a0 - (((a0.toUInt32 >>> ((nI 1).toUInt32 &&& Int32.toUInt32 31)).toInt32) &&& (nI 1431655765))) &&& (nI 858993459)) + ((((a0 - (((a0.toUInt32 >>> ((nI 1).toUInt32 &&& Int32.toUInt32 31)).toInt32) &&& (nI 1431655765))).toUInt32 >>> ((nI 2).toUInt32 &&& Int32.toUInt32 31)).toInt32) &&& (nI 858993459))) + (((((a0 - (((a0.toUInt32 >>> ((nI 1).toUInt32 &&& Int32.toUInt32 31)).toInt32) &&& (nI 1431655765))) &&& (nI 858993459)) + ((((a0 - (((a0.toUInt32 >>> ((nI 1).toUInt32 &&& Int32.toUInt32 31)).toInt32) &&& (nI 1431655765))).toUInt32 >>> ((nI 2).toUInt32 &&& Int32.toUInt32 31)).toInt32) &&& (nI 858993459))).toUInt32 >>> ((nI 4).toUInt32 &&& Int32.toUInt32 31)).toInt32)) &&& (nI 252645135)).toUInt32 >>> ((nI 8).toUInt32 &&& Int32.toUInt32 31)).toInt32)).toUInt32 >>> ((nI 16).toUInt32 &&& Int32.toUInt32 31)).toInt32)) &&& (nI 63))]) (sg := [(.iand, 0), (.istore_n 0, 0), (.iload_n 0, 0), (.iload_n 0, 0), (.bipush 8, nI 8), (.iushr, 0), (.iadd, 0), (.istore_n 0, 0), (.iload_n 0, 0), (.iload_n 0, 0), (.bipush 16, nI 16), (.iushr, 0), (.iadd, 0), (.istore_n 0, 0), (.iload_n 0, 0), (.bipush 63, nI 63), (.iand, 0)]) (lSa_ok dd8) rfl ?_
  exact Y.iret rfl (lIa_ok dd9) h
