def f_I_isOrdering_L23 (K62 : gH → gR) (K79 : gH → gR) (K87 : gH → Int32 → Int32 → gR) : Nat → gH → Nat → Int32 → Int32 → Int32 → Int32 → Int32 → gR
  | 0, _, _, _, _, _, _, _ => none
  | n + 1, G, x0, x1, x2, x3, x4, x5 =>
    if x3 ≤ x5 then K87 G x3 x4
    else gOb G x0 1 fun o15 => bI (f_I_placeInSpare G x0 x5) fun v18 G17 => gOb G17 x0 1 fun o20 => bI (f_I_thingInSpare G17 x0 x5) fun v23 G22 => gOb G22 x0 1 fun o25 => bI (f_I_thingAt G22 x0 x1 v18) fun v28 G27 => if v23 = v28 then (if x5 ≤ 0 then f_I_isOrdering_L23 K62 K79 K87 n G27 x0 x1 x2 x3 (x4 ||| ((nI 1) <<< (v18 &&& 31))) (x5 + (nI 1))
        else gOb G27 x0 1 fun o30 => bI (f_I_mayFollow G27 x0 x5 x2) fun v33 G32 => if v33 = 0 then K79 G32
          else f_I_isOrdering_L23 K62 K79 K87 n G32 x0 x1 x2 x3 (x4 ||| ((nI 1) <<< (v18 &&& 31))) (x5 + (nI 1)))
      else K62 G27
def f_I_isOrdering (G : gH) (a0 : Nat) (a1 : Int32) (a2 : Int32) : gR :=
  gOb G a0 1 fun o2 => bI (f_I_lengthOf G a0 a1) fun v5 G4 => gOb G4 a0 1 fun o7 => bV (f_I_copyToSpare G4 a0 a1) fun G9 => gOb G9 a0 1 fun o11 => bV (f_I_arrangeSpare G9 a0 v5 a2) fun G13 => f_I_isOrdering_L23 (fun G38 => rZ (nI 0) G38) (fun G39 => rZ (nI 0) G39) (fun G42 x40 x41 => bI (f_IN_bitCount G42 x41) fun v45 G44 => if v45 = x40 then rZ (nI 1) G44
    else rZ (nI 0) G44) zFu G13 a0 a1 a2 v5 (nI 0) (nI 0)
theorem k_I_isOrdering_L23 {l : Launch} {D : va_G} {B : Nat} {O : State → Heap → Prop} (hV : zG l D B O) {o : gO} {Gf : gH} (K62 : gH → gR) (K79 : gH → gR) (K87 : gH → Int32 → Int32 → gR) (hK62 : ∀ (G : gH), K62 G  = some (o, Gf) → Y (zVm l D B O) m_I_isOrdering 5 o Gf 62 [none, none, none, none, none, none, none] [] G) (hK79 : ∀ (G : gH), K79 G  = some (o, Gf) → Y (zVm l D B O) m_I_isOrdering 5 o Gf 79 [none, none, none, none, none, none, none] [] G) (hK87 : ∀ (G : gH) (x3 : Int32) (x4 : Int32), K87 G x3 x4 = some (o, Gf) → Y (zVm l D B O) m_I_isOrdering 5 o Gf 87 [none, none, none, some (.int x3), some (.int x4), none, none] [] G) : ∀ (n : Nat) (G : gH) (x0 : Nat) (x1 : Int32) (x2 : Int32) (x3 : Int32) (x4 : Int32) (x5 : Int32), f_I_isOrdering_L23 K62 K79 K87 n G x0 x1 x2 x3 x4 x5 = some (o, Gf) → Y (zVm l D B O) m_I_isOrdering 5 o Gf 23 [some (.ref x0), some (.int x1), some (.int x2), some (.int x3), some (.int x4), some (.int x5), none] [] G := by
  have hdd : lSa m_I_isOrdering 23 [(.iload 5, 0), (.iload_n 3, 0)] = true ∧ lIa m_I_isOrdering 26 (.if_icmp .ge 61) 3 = true ∧ lSa m_I_isOrdering 29 [(.aload_n 0, 0), (.iload 5, 0)] = true ∧ lIa m_I_isOrdering 32 (.invokevirtual 122) 3 = true ∧ lSa m_I_isOrdering 35 [(.istore 6, 0), (.iload 4, 0), (.iconst 1, nI 1), (.iload 6, 0), (.ishl, 0), (.ior, 0), (.istore 4, 0), (.aload_n 0, 0), (.iload 5, 0)] = true ∧ lIa m_I_isOrdering 49 (.invokevirtual 73) 3 = true ∧ lSa m_I_isOrdering 52 [(.aload_n 0, 0), (.iload_n 1, 0), (.iload 6, 0)] = true ∧ lIa m_I_isOrdering 56 (.invokevirtual 50) 3 = true ∧ lIa m_I_isOrdering 59 (.if_icmp .eq 5) 3 = true ∧ lSa m_I_isOrdering 64 [(.iload 5, 0)] = true ∧ lIa m_I_isOrdering 66 (.ifCond .le 15) 3 = true ∧ lSa m_I_isOrdering 81 [(.iinc 5 1, nI 1)] = true ∧ lIa m_I_isOrdering 84 (.goto (-61)) 3 = true ∧ lSa m_I_isOrdering 69 [(.aload_n 0, 0), (.iload 5, 0), (.iload_n 2, 0)] = true ∧ lIa m_I_isOrdering 73 (.invokevirtual 131) 3 = true ∧ lIa m_I_isOrdering 76 (.ifCond .ne 5) 3 = true := by decide +kernel
  refine lA8 hdd (fun dd0 dd1 dd2 dd3 dd4 dd5 dd6 dd7 hdd => ?_)
  obtain ⟨dd8, dd9, dd10, dd11, dd12, dd13, dd14, dd15⟩ := hdd
  intro n
  induction n with
  | zero => intro G x0 x1 x2 x3 x4 x5 h; cases h
  | succ n ih =>
    intro G x0 x1 x2 x3 x4 x5 h
    unfold f_I_isOrdering_L23 at h
    refine Y.blk (pc' := 26) (L' := [some (.ref x0), some (.int x1), some (.int x2), some (.int x3), some (.int x4), some (.int x5), none]) (st' := [.int x3, .int x5]) (sg := [(.iload 5, 0), (.iload_n 3, 0)]) (lSa_ok dd0) rfl ?_
    refine Y.ic_ge (off := 61) (tgt := 87) (lIa_ok dd1) (by decide) h (fun c37 h => ?_) (fun c37 h => ?_)
    · refine Y.less (L' := [none, none, none, some (.int x3), some (.int x4), none, none]) (zLe_none (zLe_none (zLe_none (zLe_some (zLe_some (zLe_none (zLe_some (zLe_nil)))))))) ?_
      exact hK87 G x3 x4 h
    · refine Y.blk (pc' := 32) (L' := [some (.ref x0), some (.int x1), some (.int x2), some (.int x3), some (.int x4), some (.int x5), none]) (st' := [.int x5, .ref x0]) (sg := [(.aload_n 0, 0), (.iload 5, 0)]) (lSa_ok dd2) rfl ?_
      obtain ⟨_, o15, e14, m16, h⟩ := gOb_inv h
      refine Y.callI (yC.Vi (b := x0) (As := [.int x5]) (st := []) (r := ("Partlister$Lists", T_I, 7)) hV.1 cb_I_placeInSpare lk_I_122 in_I_placeInSpare rfl se_I_placeInSpare (lIa_ok dd3) rfl rfl (Nat.le_of_ble_eq_true rfl) (by decide) e14 m16) (k_I_placeInSpare hV G x0 x5) h (fun v18 G17 _ h => ?_)
      refine Y.blk (pc' := 49) (L' := [some (.ref x0), some (.int x1), some (.int x2), some (.int x3), some (.int (x4 ||| ((nI 1) <<< (v18 &&& 31)))), some (.int x5), some (.int v18)]) (st' := [.int x5, .ref x0]) (sg := [(.istore 6, 0), (.iload 4, 0), (.iconst 1, nI 1), (.iload 6, 0), (.ishl, 0), (.ior, 0), (.istore 4, 0), (.aload_n 0, 0), (.iload 5, 0)]) (lSa_ok dd4) rfl ?_
      obtain ⟨_, o20, e19, m21, h⟩ := gOb_inv h
      refine Y.callI (yC.Vi (b := x0) (As := [.int x5]) (st := []) (r := ("Partlister$Lists", T_I, 7)) hV.1 cb_I_thingInSpare lk_I_73 in_I_thingInSpare rfl se_I_thingInSpare (lIa_ok dd5) rfl rfl (Nat.le_of_ble_eq_true rfl) (by decide) e19 m21) (k_I_thingInSpare hV G17 x0 x5) h (fun v23 G22 _ h => ?_)
      refine Y.blk (pc' := 56) (L' := [some (.ref x0), some (.int x1), some (.int x2), some (.int x3), some (.int (x4 ||| ((nI 1) <<< (v18 &&& 31)))), some (.int x5), some (.int v18)]) (st' := [.int v18, .int x1, .ref x0, .int v23]) (sg := [(.aload_n 0, 0), (.iload_n 1, 0), (.iload 6, 0)]) (lSa_ok dd6) rfl ?_
      obtain ⟨_, o25, e24, m26, h⟩ := gOb_inv h
      refine Y.callI (yC.Vi (b := x0) (As := [.int x1, .int v18]) (st := [.int v23]) (r := ("Partlister$Lists", T_I, 7)) hV.1 cb_I_thingAt lk_I_50 in_I_thingAt rfl se_I_thingAt (lIa_ok dd7) rfl rfl (Nat.le_of_ble_eq_true rfl) (by decide) e24 m26) (k_I_thingAt hV G22 x0 x1 v18) h (fun v28 G27 _ h => ?_)
      refine Y.ic_eq (off := 5) (tgt := 64) (lIa_ok dd8) (by decide) h (fun c36 h => ?_) (fun c36 h => ?_)
      · refine Y.blk (pc' := 66) (L' := [some (.ref x0), some (.int x1), some (.int x2), some (.int x3), some (.int (x4 ||| ((nI 1) <<< (v18 &&& 31)))), some (.int x5), some (.int v18)]) (st' := [.int x5]) (sg := [(.iload 5, 0)]) (lSa_ok dd9) rfl ?_
        refine Y.if_le (off := 15) (tgt := 81) (lIa_ok dd10) (by decide) h (fun c35 h => ?_) (fun c35 h => ?_)
        · refine Y.blk (pc' := 84) (L' := [some (.ref x0), some (.int x1), some (.int x2), some (.int x3), some (.int (x4 ||| ((nI 1) <<< (v18 &&& 31)))), some (.int (x5 + (nI 1))), some (.int v18)]) (st' := []) (sg := [(.iinc 5 1, nI 1)]) (lSa_ok dd11) rfl ?_
          refine Y.goto (off := -61) (tgt := 23) (lIa_ok dd12) (by decide) ?_
          refine Y.less (L' := [some (.ref x0), some (.int x1), some (.int x2), some (.int x3), some (.int (x4 ||| ((nI 1) <<< (v18 &&& 31)))), some (.int (x5 + (nI 1))), none]) (zLe_some (zLe_some (zLe_some (zLe_some (zLe_some (zLe_some (zLe_none (zLe_nil)))))))) ?_
          exact ih G27 x0 x1 x2 x3 (x4 ||| ((nI 1) <<< (v18 &&& 31))) (x5 + (nI 1)) h
        · refine Y.blk (pc' := 73) (L' := [some (.ref x0), some (.int x1), some (.int x2), some (.int x3), some (.int (x4 ||| ((nI 1) <<< (v18 &&& 31)))), some (.int x5), some (.int v18)]) (st' := [.int x2, .int x5, .ref x0]) (sg := [(.aload_n 0, 0), (.iload 5, 0), (.iload_n 2, 0)]) (lSa_ok dd13) rfl ?_
          obtain ⟨_, o30, e29, m31, h⟩ := gOb_inv h
          refine Y.callI (yC.Vi (b := x0) (As := [.int x5, .int x2]) (st := []) (r := ("Partlister$Lists", T_I, 7)) hV.1 cb_I_mayFollow lk_I_131 in_I_mayFollow rfl se_I_mayFollow (lIa_ok dd14) rfl rfl (Nat.le_of_ble_eq_true rfl) (by decide) e29 m31) (k_I_mayFollow hV G27 x0 x5 x2) h (fun v33 G32 _ h => ?_)
          refine Y.if_ne (off := 5) (tgt := 81) (lIa_ok dd15) (by decide) h (fun c34 h => ?_) (fun c34 h => ?_)
          · refine Y.less (L' := [none, none, none, none, none, none, none]) (zLe_none (zLe_none (zLe_none (zLe_none (zLe_none (zLe_none (zLe_none (zLe_nil)))))))) ?_
            exact hK79 G32  h
          · refine Y.blk (pc' := 84) (L' := [some (.ref x0), some (.int x1), some (.int x2), some (.int x3), some (.int (x4 ||| ((nI 1) <<< (v18 &&& 31)))), some (.int (x5 + (nI 1))), some (.int v18)]) (st' := []) (sg := [(.iinc 5 1, nI 1)]) (lSa_ok dd11) rfl ?_
            refine Y.goto (off := -61) (tgt := 23) (lIa_ok dd12) (by decide) ?_
            refine Y.less (L' := [some (.ref x0), some (.int x1), some (.int x2), some (.int x3), some (.int (x4 ||| ((nI 1) <<< (v18 &&& 31)))), some (.int (x5 + (nI 1))), none]) (zLe_some (zLe_some (zLe_some (zLe_some (zLe_some (zLe_some (zLe_none (zLe_nil)))))))) ?_
            exact ih G32 x0 x1 x2 x3 (x4 ||| ((nI 1) <<< (v18 &&& 31))) (x5 + (nI 1)) h
      · refine Y.less (L' := [none, none, none, none, none, none, none]) (zLe_none (zLe_none (zLe_none (zLe_none (zLe_none (zLe_none (zLe_none (zLe_nil)))))))) ?_
        exact hK62 G27  h
theorem k_I_isOrdering {l : Launch} {D : va_G} {B : Nat} {O : State → Heap → Prop} (hV : zG l D B O) (G : gH) (a0 : Nat) (a1 : Int32) (a2 : Int32) : gMet (zVm l D B O) m_I_isOrdering 5 [.ref a0, .int a1, .int a2] G (f_I_isOrdering G a0 a1 a2) := by
  have hdd : lSa m_I_isOrdering 0 [(.aload_n 0, 0), (.iload_n 1, 0)] = true ∧ lIa m_I_isOrdering 2 (.invokevirtual 59) 3 = true ∧ lSa m_I_isOrdering 5 [(.istore_n 3, 0), (.aload_n 0, 0), (.iload_n 1, 0)] = true ∧ lIa m_I_isOrdering 8 (.invokevirtual 65) 3 = true ∧ lSa m_I_isOrdering 11 [(.aload_n 0, 0), (.iload_n 3, 0), (.iload_n 2, 0)] = true ∧ lIa m_I_isOrdering 14 (.invokevirtual 76) 3 = true ∧ lSa m_I_isOrdering 17 [(.iconst 0, nI 0), (.istore 4, 0), (.iconst 0, nI 0), (.istore 5, 0)] = true ∧ lSa m_I_isOrdering 62 [(.iconst 0, nI 0)] = true ∧ lIa m_I_isOrdering 63 (.ireturn) 1 = true ∧ lSa m_I_isOrdering 79 [(.iconst 0, nI 0)] = true ∧ lIa m_I_isOrdering 80 (.ireturn) 1 = true ∧ lSa m_I_isOrdering 87 [(.iload 4, 0)] = true ∧ lIa m_I_isOrdering 89 (.invokestatic 134) 3 = true ∧ lSa m_I_isOrdering 92 [(.iload_n 3, 0)] = true ∧ lIa m_I_isOrdering 93 (.if_icmp .ne 7) 3 = true ∧ lSa m_I_isOrdering 96 [(.iconst 1, nI 1)] = true ∧ lIa m_I_isOrdering 97 (.goto 4) 3 = true ∧ lIa m_I_isOrdering 101 (.ireturn) 1 = true ∧ lSa m_I_isOrdering 100 [(.iconst 0, nI 0)] = true := by decide +kernel
  refine lA8 hdd (fun dd0 dd1 dd2 dd3 dd4 dd5 dd6 dd7 hdd => ?_)
  refine lA8 hdd (fun dd8 dd9 dd10 dd11 dd12 dd13 dd14 dd15 hdd => ?_)
  obtain ⟨dd16, dd17, dd18⟩ := hdd
  refine gMet.of (by decide +kernel) (Nat.le_of_ble_eq_true rfl) [some (.ref a0), some (.int a1), some (.int a2), none, none, none, none] (fun ls h => zEn_ok (n := 7) h) ?_
  intro o Gf h
  unfold f_I_isOrdering at h
  refine Y.blk (pc' := 2) (L' := [some (.ref a0), some (.int a1), some (.int a2), none, none, none, none]) (st' := [.int a1, .ref a0]) (sg := [(.aload_n 0, 0), (.iload_n 1, 0)]) (lSa_ok dd0) rfl ?_
  obtain ⟨_, o2, e1, m3, h⟩ := gOb_inv h
  refine Y.callI (yC.Vi (b := a0) (As := [.int a1]) (st := []) (r := ("Partlister$Lists", T_I, 7)) hV.1 cb_I_lengthOf lk_I_59 in_I_lengthOf rfl se_I_lengthOf (lIa_ok dd1) rfl rfl (Nat.le_of_ble_eq_true rfl) (by decide) e1 m3) (k_I_lengthOf hV G a0 a1) h (fun v5 G4 _ h => ?_)
  refine Y.blk (pc' := 8) (L' := [some (.ref a0), some (.int a1), some (.int a2), some (.int v5), none, none, none]) (st' := [.int a1, .ref a0]) (sg := [(.istore_n 3, 0), (.aload_n 0, 0), (.iload_n 1, 0)]) (lSa_ok dd2) rfl ?_
  obtain ⟨_, o7, e6, m8, h⟩ := gOb_inv h
  refine Y.callN (yC.Vi (b := a0) (As := [.int a1]) (st := []) (r := ("Partlister$Lists", T_I, 7)) hV.1 cb_I_copyToSpare lk_I_65 in_I_copyToSpare rfl se_I_copyToSpare (lIa_ok dd3) rfl rfl (Nat.le_of_ble_eq_true rfl) (by decide) e6 m8) (k_I_copyToSpare hV G4 a0 a1) h (fun G9 _ h => ?_)
  refine Y.blk (pc' := 14) (L' := [some (.ref a0), some (.int a1), some (.int a2), some (.int v5), none, none, none]) (st' := [.int a2, .int v5, .ref a0]) (sg := [(.aload_n 0, 0), (.iload_n 3, 0), (.iload_n 2, 0)]) (lSa_ok dd4) rfl ?_
  obtain ⟨_, o11, e10, m12, h⟩ := gOb_inv h
  refine Y.callN (yC.Vi (b := a0) (As := [.int v5, .int a2]) (st := []) (r := ("Partlister$Lists", T_I, 7)) hV.1 cb_I_arrangeSpare lk_I_76 in_I_arrangeSpare rfl se_I_arrangeSpare (lIa_ok dd5) rfl rfl (Nat.le_of_ble_eq_true rfl) (by decide) e10 m12) (k_I_arrangeSpare hV G9 a0 v5 a2) h (fun G13 _ h => ?_)
  refine Y.blk (pc' := 23) (L' := [some (.ref a0), some (.int a1), some (.int a2), some (.int v5), some (.int (nI 0)), some (.int (nI 0)), none]) (st' := []) (sg := [(.iconst 0, nI 0), (.istore 4, 0), (.iconst 0, nI 0), (.istore 5, 0)]) (lSa_ok dd6) rfl ?_
  refine k_I_isOrdering_L23 hV _ _ _ ?_ ?_ ?_  zFu G13 a0 a1 a2 v5 (nI 0) (nI 0) h
  · intro G38 h
    refine Y.blk (pc' := 63) (L' := [none, none, none, none, none, none, none]) (st' := [.int (nI 0)]) (sg := [(.iconst 0, nI 0)]) (lSa_ok dd7) rfl ?_
    exact Y.zret rfl (lIa_ok dd8) h
  · intro G39 h
    refine Y.blk (pc' := 80) (L' := [none, none, none, none, none, none, none]) (st' := [.int (nI 0)]) (sg := [(.iconst 0, nI 0)]) (lSa_ok dd9) rfl ?_
    exact Y.zret rfl (lIa_ok dd10) h
  · intro G42 x40 x41 h
    refine Y.blk (pc' := 89) (L' := [none, none, none, some (.int x40), some (.int x41), none, none]) (st' := [.int x41]) (sg := [(.iload 4, 0)]) (lSa_ok dd11) rfl ?_
    refine Y.callI (yC.S (As := [.int x41]) (st := []) hV.1 cb_IN_bitCount lk_I_134 st_IN_bitCount (lIa_ok dd12) rfl rfl (Nat.le_of_ble_eq_true rfl) (by decide)) (k_IN_bitCount hV G42 x41) h (fun v45 G44 _ h => ?_)
    refine Y.blk (pc' := 93) (L' := [none, none, none, some (.int x40), some (.int x41), none, none]) (st' := [.int x40, .int v45]) (sg := [(.iload_n 3, 0)]) (lSa_ok dd13) rfl ?_
    refine Y.ic_ne (off := 7) (tgt := 100) (lIa_ok dd14) (by decide) h (fun c46 h => ?_) (fun c46 h => ?_)
    · refine Y.blk (pc' := 97) (L' := [none, none, none, some (.int x40), some (.int x41), none, none]) (st' := [.int (nI 1)]) (sg := [(.iconst 1, nI 1)]) (lSa_ok dd15) rfl ?_
      refine Y.goto (off := 4) (tgt := 101) (lIa_ok dd16) (by decide) ?_
      exact Y.zret rfl (lIa_ok dd17) h
    · refine Y.blk (pc' := 101) (L' := [none, none, none, some (.int x40), some (.int x41), none, none]) (st' := [.int (nI 0)]) (sg := [(.iconst 0, nI 0)]) (lSa_ok dd18) rfl ?_
      exact Y.zret rfl (lIa_ok dd17) h

def f_I_isSameBackward_L13 (K40 : gH → gR) (K48 : gH → gR) : Nat → gH → Nat → Int32 → Int32 → gR
  | 0, _, _, _, _ => none
  | n + 1, G, x0, x1, x2 =>
    if x2 < 0 then K48 G
    else gOb G x0 1 fun o11 => bI (f_I_thingInSpare G x0 x2) fun v14 G13 => gOb G13 x0 1 fun o16 => bI (f_I_thingAt G13 x0 x1 x2) fun v19 G18 => if v14 = v19 then (gOb G18 x0 1 fun o21 => bI (f_I_placeInSpare G18 x0 x2) fun v24 G23 => if v24 = x2 then f_I_isSameBackward_L13 K40 K48 n G23 x0 x1 (x2 + (-1))
        else K40 G23)
      else K40 G18
def f_I_isSameBackward (G : gH) (a0 : Nat) (a1 : Int32) : gR :=
  gOb G a0 1 fun o2 => bV (f_I_copyToSpare G a0 a1) fun G4 => gOb G4 a0 1 fun o6 => bI (f_I_lengthOf G4 a0 a1) fun v9 G8 => f_I_isSameBackward_L13 (fun G28 => rZ (nI 0) G28) (fun G29 => rZ (nI 1) G29) zFu G8 a0 a1 (v9 - (nI 1))
theorem k_I_isSameBackward_L13 {l : Launch} {D : va_G} {B : Nat} {O : State → Heap → Prop} (hV : zG l D B O) {o : gO} {Gf : gH} (K40 : gH → gR) (K48 : gH → gR) (hK40 : ∀ (G : gH), K40 G  = some (o, Gf) → Y (zVm l D B O) m_I_isSameBackward 5 o Gf 40 [none, none, none] [] G) (hK48 : ∀ (G : gH), K48 G  = some (o, Gf) → Y (zVm l D B O) m_I_isSameBackward 5 o Gf 48 [none, none, none] [] G) : ∀ (n : Nat) (G : gH) (x0 : Nat) (x1 : Int32) (x2 : Int32), f_I_isSameBackward_L13 K40 K48 n G x0 x1 x2 = some (o, Gf) → Y (zVm l D B O) m_I_isSameBackward 5 o Gf 13 [some (.ref x0), some (.int x1), some (.int x2)] [] G := by
  have hdd : lSa m_I_isSameBackward 13 [(.iload_n 2, 0)] = true ∧ lIa m_I_isSameBackward 14 (.ifCond .lt 34) 3 = true ∧ lSa m_I_isSameBackward 17 [(.aload_n 0, 0), (.iload_n 2, 0)] = true ∧ lIa m_I_isSameBackward 19 (.invokevirtual 73) 3 = true ∧ lSa m_I_isSameBackward 22 [(.aload_n 0, 0), (.iload_n 1, 0), (.iload_n 2, 0)] = true ∧ lIa m_I_isSameBackward 25 (.invokevirtual 50) 3 = true ∧ lIa m_I_isSameBackward 28 (.if_icmp .ne 12) 3 = true ∧ lSa m_I_isSameBackward 31 [(.aload_n 0, 0), (.iload_n 2, 0)] = true ∧ lIa m_I_isSameBackward 33 (.invokevirtual 122) 3 = true ∧ lSa m_I_isSameBackward 36 [(.iload_n 2, 0)] = true ∧ lIa m_I_isSameBackward 37 (.if_icmp .eq 5) 3 = true ∧ lSa m_I_isSameBackward 42 [(.iinc 2 (-1), -1)] = true ∧ lIa m_I_isSameBackward 45 (.goto (-32)) 3 = true := by decide +kernel
  refine lA8 hdd (fun dd0 dd1 dd2 dd3 dd4 dd5 dd6 dd7 hdd => ?_)
  obtain ⟨dd8, dd9, dd10, dd11, dd12⟩ := hdd
  intro n
  induction n with
  | zero => intro G x0 x1 x2 h; cases h
  | succ n ih =>
    intro G x0 x1 x2 h
    unfold f_I_isSameBackward_L13 at h
    refine Y.blk (pc' := 14) (L' := [some (.ref x0), some (.int x1), some (.int x2)]) (st' := [.int x2]) (sg := [(.iload_n 2, 0)]) (lSa_ok dd0) rfl ?_
    refine Y.if_lt (off := 34) (tgt := 48) (lIa_ok dd1) (by decide) h (fun c27 h => ?_) (fun c27 h => ?_)
    · refine Y.less (L' := [none, none, none]) (zLe_none (zLe_none (zLe_none (zLe_nil)))) ?_
      exact hK48 G  h
    · refine Y.blk (pc' := 19) (L' := [some (.ref x0), some (.int x1), some (.int x2)]) (st' := [.int x2, .ref x0]) (sg := [(.aload_n 0, 0), (.iload_n 2, 0)]) (lSa_ok dd2) rfl ?_
      obtain ⟨_, o11, e10, m12, h⟩ := gOb_inv h
      refine Y.callI (yC.Vi (b := x0) (As := [.int x2]) (st := []) (r := ("Partlister$Lists", T_I, 7)) hV.1 cb_I_thingInSpare lk_I_73 in_I_thingInSpare rfl se_I_thingInSpare (lIa_ok dd3) rfl rfl (Nat.le_of_ble_eq_true rfl) (by decide) e10 m12) (k_I_thingInSpare hV G x0 x2) h (fun v14 G13 _ h => ?_)
      refine Y.blk (pc' := 25) (L' := [some (.ref x0), some (.int x1), some (.int x2)]) (st' := [.int x2, .int x1, .ref x0, .int v14]) (sg := [(.aload_n 0, 0), (.iload_n 1, 0), (.iload_n 2, 0)]) (lSa_ok dd4) rfl ?_
      obtain ⟨_, o16, e15, m17, h⟩ := gOb_inv h
      refine Y.callI (yC.Vi (b := x0) (As := [.int x1, .int x2]) (st := [.int v14]) (r := ("Partlister$Lists", T_I, 7)) hV.1 cb_I_thingAt lk_I_50 in_I_thingAt rfl se_I_thingAt (lIa_ok dd5) rfl rfl (Nat.le_of_ble_eq_true rfl) (by decide) e15 m17) (k_I_thingAt hV G13 x0 x1 x2) h (fun v19 G18 _ h => ?_)
      refine Y.ic_ne (off := 12) (tgt := 40) (lIa_ok dd6) (by decide) h (fun c26 h => ?_) (fun c26 h => ?_)
      · refine Y.blk (pc' := 33) (L' := [some (.ref x0), some (.int x1), some (.int x2)]) (st' := [.int x2, .ref x0]) (sg := [(.aload_n 0, 0), (.iload_n 2, 0)]) (lSa_ok dd7) rfl ?_
        obtain ⟨_, o21, e20, m22, h⟩ := gOb_inv h
        refine Y.callI (yC.Vi (b := x0) (As := [.int x2]) (st := []) (r := ("Partlister$Lists", T_I, 7)) hV.1 cb_I_placeInSpare lk_I_122 in_I_placeInSpare rfl se_I_placeInSpare (lIa_ok dd8) rfl rfl (Nat.le_of_ble_eq_true rfl) (by decide) e20 m22) (k_I_placeInSpare hV G18 x0 x2) h (fun v24 G23 _ h => ?_)
        refine Y.blk (pc' := 37) (L' := [some (.ref x0), some (.int x1), some (.int x2)]) (st' := [.int x2, .int v24]) (sg := [(.iload_n 2, 0)]) (lSa_ok dd9) rfl ?_
        refine Y.ic_eq (off := 5) (tgt := 42) (lIa_ok dd10) (by decide) h (fun c25 h => ?_) (fun c25 h => ?_)
        · refine Y.blk (pc' := 45) (L' := [some (.ref x0), some (.int x1), some (.int (x2 + (-1)))]) (st' := []) (sg := [(.iinc 2 (-1), -1)]) (lSa_ok dd11) rfl ?_
          refine Y.goto (off := -32) (tgt := 13) (lIa_ok dd12) (by decide) ?_
          exact ih G23 x0 x1 (x2 + (-1)) h
        · refine Y.less (L' := [none, none, none]) (zLe_none (zLe_none (zLe_none (zLe_nil)))) ?_
          exact hK40 G23  h
      · refine Y.less (L' := [none, none, none]) (zLe_none (zLe_none (zLe_none (zLe_nil)))) ?_
        exact hK40 G18  h
theorem k_I_isSameBackward {l : Launch} {D : va_G} {B : Nat} {O : State → Heap → Prop} (hV : zG l D B O) (G : gH) (a0 : Nat) (a1 : Int32) : gMet (zVm l D B O) m_I_isSameBackward 5 [.ref a0, .int a1] G (f_I_isSameBackward G a0 a1) := by
  have hdd : lSa m_I_isSameBackward 0 [(.aload_n 0, 0), (.iload_n 1, 0)] = true ∧ lIa m_I_isSameBackward 2 (.invokevirtual 65) 3 = true ∧ lSa m_I_isSameBackward 5 [(.aload_n 0, 0), (.iload_n 1, 0)] = true ∧ lIa m_I_isSameBackward 7 (.invokevirtual 59) 3 = true ∧ lSa m_I_isSameBackward 10 [(.iconst 1, nI 1), (.isub, 0), (.istore_n 2, 0)] = true ∧ lSa m_I_isSameBackward 40 [(.iconst 0, nI 0)] = true ∧ lIa m_I_isSameBackward 41 (.ireturn) 1 = true ∧ lSa m_I_isSameBackward 48 [(.iconst 1, nI 1)] = true ∧ lIa m_I_isSameBackward 49 (.ireturn) 1 = true := by decide +kernel
  refine lA8 hdd (fun dd0 dd1 dd2 dd3 dd4 dd5 dd6 dd7 hdd => ?_)
  have dd8 := hdd
  refine gMet.of (by decide +kernel) (Nat.le_of_ble_eq_true rfl) [some (.ref a0), some (.int a1), none] (fun ls h => zEn_ok (n := 3) h) ?_
  intro o Gf h
  unfold f_I_isSameBackward at h
  refine Y.blk (pc' := 2) (L' := [some (.ref a0), some (.int a1), none]) (st' := [.int a1, .ref a0]) (sg := [(.aload_n 0, 0), (.iload_n 1, 0)]) (lSa_ok dd0) rfl ?_
  obtain ⟨_, o2, e1, m3, h⟩ := gOb_inv h
  refine Y.callN (yC.Vi (b := a0) (As := [.int a1]) (st := []) (r := ("Partlister$Lists", T_I, 7)) hV.1 cb_I_copyToSpare lk_I_65 in_I_copyToSpare rfl se_I_copyToSpare (lIa_ok dd1) rfl rfl (Nat.le_of_ble_eq_true rfl) (by decide) e1 m3) (k_I_copyToSpare hV G a0 a1) h (fun G4 _ h => ?_)
  refine Y.blk (pc' := 7) (L' := [some (.ref a0), some (.int a1), none]) (st' := [.int a1, .ref a0]) (sg := [(.aload_n 0, 0), (.iload_n 1, 0)]) (lSa_ok dd2) rfl ?_
  obtain ⟨_, o6, e5, m7, h⟩ := gOb_inv h
  refine Y.callI (yC.Vi (b := a0) (As := [.int a1]) (st := []) (r := ("Partlister$Lists", T_I, 7)) hV.1 cb_I_lengthOf lk_I_59 in_I_lengthOf rfl se_I_lengthOf (lIa_ok dd3) rfl rfl (Nat.le_of_ble_eq_true rfl) (by decide) e5 m7) (k_I_lengthOf hV G4 a0 a1) h (fun v9 G8 _ h => ?_)
  refine Y.blk (pc' := 13) (L' := [some (.ref a0), some (.int a1), some (.int (v9 - (nI 1)))]) (st' := []) (sg := [(.iconst 1, nI 1), (.isub, 0), (.istore_n 2, 0)]) (lSa_ok dd4) rfl ?_
  refine k_I_isSameBackward_L13 hV _ _ ?_ ?_  zFu G8 a0 a1 (v9 - (nI 1)) h
  · intro G28 h
    refine Y.blk (pc' := 41) (L' := [none, none, none]) (st' := [.int (nI 0)]) (sg := [(.iconst 0, nI 0)]) (lSa_ok dd5) rfl ?_
    exact Y.zret rfl (lIa_ok dd6) h
  · intro G29 h
    refine Y.blk (pc' := 49) (L' := [none, none, none]) (st' := [.int (nI 1)]) (sg := [(.iconst 1, nI 1)]) (lSa_ok dd7) rfl ?_
    exact Y.zret rfl (lIa_ok dd8) h

def f_I_liesInAbove_L71 (K97 : gH → gR) (K105 : gH → gR) : Nat → gH → Nat → Int32 → Int32 → Int32 → Int32 → Int32 → gR
  | 0, _, _, _, _, _, _, _ => none
  | n + 1, G, x0, x1, x2, x3, x4, x5 =>
    if x4 ≤ x5 then K105 G
    else gOb G x0 1 fun o31 => bI (f_I_thingAt G x0 x1 x5) fun v34 G33 => gOb G33 x0 1 fun o36 => bI (f_I_thingAt G33 x0 x2 (x3 + x5)) fun v39 G38 => if v34 = v39 then f_I_liesInAbove_L71 K97 K105 n G38 x0 x1 x2 x3 x4 (x5 + (nI 1))
      else K97 G38
def f_I_liesInAbove (G : gH) (a0 : Nat) (a1 : Int32) : gR :=
  gFA G a0 1 2 fun v1 => gOb G v1 2 fun o3 => bI (f_N_read G v1 a1) fun v6 G5 => if v6 = (-1) then (if (nI 2) ≤ a1 then rZ (nI 0) G5
    else rZ (nI 1) G5)
  else gFA G5 a0 1 4 fun v8 => gOb G5 v8 2 fun o10 => bI (f_N_read G5 v8 a1) fun v13 G12 => gFA G12 a0 1 4 fun v14 => gOb G12 v14 2 fun o16 => bI (f_N_read G12 v14 v6) fun v19 G18 => gOb G18 a0 1 fun o21 => bI (f_I_lengthOf G18 a0 a1) fun v24 G23 => if (v13 - v19) < 0 then rZ (nI 0) G23
    else gOb G23 a0 1 fun o26 => bI (f_I_lengthOf G23 a0 v6) fun v29 G28 => if ((v13 - v19) + v24) ≤ v29 then f_I_liesInAbove_L71 (fun G42 => rZ (nI 0) G42) (fun G43 => rZ (nI 1) G43) zFu G28 a0 a1 v6 (v13 - v19) v24 (nI 0)
      else rZ (nI 0) G28
theorem k_I_liesInAbove_L71 {l : Launch} {D : va_G} {B : Nat} {O : State → Heap → Prop} (hV : zG l D B O) {o : gO} {Gf : gH} (K97 : gH → gR) (K105 : gH → gR) (hK97 : ∀ (G : gH), K97 G  = some (o, Gf) → Y (zVm l D B O) m_I_liesInAbove 4 o Gf 97 [none, none, none, none, none, none] [] G) (hK105 : ∀ (G : gH), K105 G  = some (o, Gf) → Y (zVm l D B O) m_I_liesInAbove 4 o Gf 105 [none, none, none, none, none, none] [] G) : ∀ (n : Nat) (G : gH) (x0 : Nat) (x1 : Int32) (x2 : Int32) (x3 : Int32) (x4 : Int32) (x5 : Int32), f_I_liesInAbove_L71 K97 K105 n G x0 x1 x2 x3 x4 x5 = some (o, Gf) → Y (zVm l D B O) m_I_liesInAbove 4 o Gf 71 [some (.ref x0), some (.int x1), some (.int x2), some (.int x3), some (.int x4), some (.int x5)] [] G := by
  have hdd : lSa m_I_liesInAbove 71 [(.iload 5, 0), (.iload 4, 0)] = true ∧ lIa m_I_liesInAbove 75 (.if_icmp .ge 30) 3 = true ∧ lSa m_I_liesInAbove 78 [(.aload_n 0, 0), (.iload_n 1, 0), (.iload 5, 0)] = true ∧ lIa m_I_liesInAbove 82 (.invokevirtual 50) 3 = true ∧ lSa m_I_liesInAbove 85 [(.aload_n 0, 0), (.iload_n 2, 0), (.iload_n 3, 0), (.iload 5, 0), (.iadd, 0)] = true ∧ lIa m_I_liesInAbove 91 (.invokevirtual 50) 3 = true ∧ lIa m_I_liesInAbove 94 (.if_icmp .eq 5) 3 = true ∧ lSa m_I_liesInAbove 99 [(.iinc 5 1, nI 1)] = true ∧ lIa m_I_liesInAbove 102 (.goto (-31)) 3 = true := by decide +kernel
  refine lA8 hdd (fun dd0 dd1 dd2 dd3 dd4 dd5 dd6 dd7 hdd => ?_)
  have dd8 := hdd
  intro n
  induction n with
  | zero => intro G x0 x1 x2 x3 x4 x5 h; cases h
  | succ n ih =>
    intro G x0 x1 x2 x3 x4 x5 h
    unfold f_I_liesInAbove_L71 at h
    refine Y.blk (pc' := 75) (L' := [some (.ref x0), some (.int x1), some (.int x2), some (.int x3), some (.int x4), some (.int x5)]) (st' := [.int x4, .int x5]) (sg := [(.iload 5, 0), (.iload 4, 0)]) (lSa_ok dd0) rfl ?_
    refine Y.ic_ge (off := 30) (tgt := 105) (lIa_ok dd1) (by decide) h (fun c41 h => ?_) (fun c41 h => ?_)
    · refine Y.less (L' := [none, none, none, none, none, none]) (zLe_none (zLe_none (zLe_none (zLe_none (zLe_none (zLe_none (zLe_nil))))))) ?_
      exact hK105 G  h
    · refine Y.blk (pc' := 82) (L' := [some (.ref x0), some (.int x1), some (.int x2), some (.int x3), some (.int x4), some (.int x5)]) (st' := [.int x5, .int x1, .ref x0]) (sg := [(.aload_n 0, 0), (.iload_n 1, 0), (.iload 5, 0)]) (lSa_ok dd2) rfl ?_
      obtain ⟨_, o31, e30, m32, h⟩ := gOb_inv h
      refine Y.callI (yC.Vi (b := x0) (As := [.int x1, .int x5]) (st := []) (r := ("Partlister$Lists", T_I, 7)) hV.1 cb_I_thingAt lk_I_50 in_I_thingAt rfl se_I_thingAt (lIa_ok dd3) rfl rfl (Nat.le_of_ble_eq_true rfl) (by decide) e30 m32) (k_I_thingAt hV G x0 x1 x5) h (fun v34 G33 _ h => ?_)
      refine Y.blk (pc' := 91) (L' := [some (.ref x0), some (.int x1), some (.int x2), some (.int x3), some (.int x4), some (.int x5)]) (st' := [.int (x3 + x5), .int x2, .ref x0, .int v34]) (sg := [(.aload_n 0, 0), (.iload_n 2, 0), (.iload_n 3, 0), (.iload 5, 0), (.iadd, 0)]) (lSa_ok dd4) rfl ?_
      obtain ⟨_, o36, e35, m37, h⟩ := gOb_inv h
      refine Y.callI (yC.Vi (b := x0) (As := [.int x2, .int (x3 + x5)]) (st := [.int v34]) (r := ("Partlister$Lists", T_I, 7)) hV.1 cb_I_thingAt lk_I_50 in_I_thingAt rfl se_I_thingAt (lIa_ok dd5) rfl rfl (Nat.le_of_ble_eq_true rfl) (by decide) e35 m37) (k_I_thingAt hV G33 x0 x2 (x3 + x5)) h (fun v39 G38 _ h => ?_)
      refine Y.ic_eq (off := 5) (tgt := 99) (lIa_ok dd6) (by decide) h (fun c40 h => ?_) (fun c40 h => ?_)
      · refine Y.blk (pc' := 102) (L' := [some (.ref x0), some (.int x1), some (.int x2), some (.int x3), some (.int x4), some (.int (x5 + (nI 1)))]) (st' := []) (sg := [(.iinc 5 1, nI 1)]) (lSa_ok dd7) rfl ?_
        refine Y.goto (off := -31) (tgt := 71) (lIa_ok dd8) (by decide) ?_
        exact ih G38 x0 x1 x2 x3 x4 (x5 + (nI 1)) h
      · refine Y.less (L' := [none, none, none, none, none, none]) (zLe_none (zLe_none (zLe_none (zLe_none (zLe_none (zLe_none (zLe_nil))))))) ?_
        exact hK97 G38  h
theorem k_I_liesInAbove {l : Launch} {D : va_G} {B : Nat} {O : State → Heap → Prop} (hV : zG l D B O) (G : gH) (a0 : Nat) (a1 : Int32) : gMet (zVm l D B O) m_I_liesInAbove 4 [.ref a0, .int a1] G (f_I_liesInAbove G a0 a1) := by
  have hdd : lSa m_I_liesInAbove 0 [(.aload_n 0, 0)] = true ∧ lIa m_I_liesInAbove 1 (.getfield 23) 3 = true ∧ lSa m_I_liesInAbove 4 [(.iload_n 1, 0)] = true ∧ lIa m_I_liesInAbove 5 (.invokevirtual 39) 3 = true ∧ lSa m_I_liesInAbove 8 [(.istore_n 2, 0), (.iload_n 2, 0), (.iconst (-1), -1)] = true ∧ lIa m_I_liesInAbove 11 (.if_icmp .ne 14) 3 = true ∧ lSa m_I_liesInAbove 14 [(.iload_n 1, 0), (.iconst 2, nI 2)] = true ∧ lIa m_I_liesInAbove 16 (.if_icmp .ge 7) 3 = true ∧ lSa m_I_liesInAbove 23 [(.iconst 0, nI 0)] = true ∧ lIa m_I_liesInAbove 24 (.ireturn) 1 = true ∧ lSa m_I_liesInAbove 19 [(.iconst 1, nI 1)] = true ∧ lIa m_I_liesInAbove 20 (.goto 4) 3 = true ∧ lSa m_I_liesInAbove 25 [(.aload_n 0, 0)] = true ∧ lIa m_I_liesInAbove 26 (.getfield 29) 3 = true ∧ lSa m_I_liesInAbove 29 [(.iload_n 1, 0)] = true ∧ lIa m_I_liesInAbove 30 (.invokevirtual 39) 3 = true ∧ lSa m_I_liesInAbove 33 [(.aload_n 0, 0)] = true ∧ lIa m_I_liesInAbove 34 (.getfield 29) 3 = true ∧ lSa m_I_liesInAbove 37 [(.iload_n 2, 0)] = true ∧ lIa m_I_liesInAbove 38 (.invokevirtual 39) 3 = true ∧ lSa m_I_liesInAbove 41 [(.isub, 0), (.istore_n 3, 0), (.aload_n 0, 0), (.iload_n 1, 0)] = true ∧ lIa m_I_liesInAbove 45 (.invokevirtual 59) 3 = true ∧ lSa m_I_liesInAbove 48 [(.istore 4, 0), (.iload_n 3, 0)] = true ∧ lIa m_I_liesInAbove 51 (.ifCond .lt 15) 3 = true ∧ lSa m_I_liesInAbove 66 [(.iconst 0, nI 0)] = true ∧ lIa m_I_liesInAbove 67 (.ireturn) 1 = true ∧ lSa m_I_liesInAbove 54 [(.iload_n 3, 0), (.iload 4, 0), (.iadd, 0), (.aload_n 0, 0), (.iload_n 2, 0)] = true ∧ lIa m_I_liesInAbove 60 (.invokevirtual 59) 3 = true ∧ lIa m_I_liesInAbove 63 (.if_icmp .le 5) 3 = true ∧ lSa m_I_liesInAbove 68 [(.iconst 0, nI 0), (.istore 5, 0)] = true ∧ lSa m_I_liesInAbove 97 [(.iconst 0, nI 0)] = true ∧ lIa m_I_liesInAbove 98 (.ireturn) 1 = true ∧ lSa m_I_liesInAbove 105 [(.iconst 1, nI 1)] = true ∧ lIa m_I_liesInAbove 106 (.ireturn) 1 = true := by decide +kernel
  refine lA8 hdd (fun dd0 dd1 dd2 dd3 dd4 dd5 dd6 dd7 hdd => ?_)
  refine lA8 hdd (fun dd8 dd9 dd10 dd11 dd12 dd13 dd14 dd15 hdd => ?_)
  refine lA8 hdd (fun dd16 dd17 dd18 dd19 dd20 dd21 dd22 dd23 hdd => ?_)
  refine lA8 hdd (fun dd24 dd25 dd26 dd27 dd28 dd29 dd30 dd31 hdd => ?_)
  obtain ⟨dd32, dd33⟩ := hdd
  refine gMet.of (by decide +kernel) (Nat.le_of_ble_eq_true rfl) [some (.ref a0), some (.int a1), none, none, none, none] (fun ls h => zEn_ok (n := 6) h) ?_
  intro o Gf h
  unfold f_I_liesInAbove at h
  refine Y.blk (pc' := 1) (L' := [some (.ref a0), some (.int a1), none, none, none, none]) (st' := [.ref a0]) (sg := [(.aload_n 0, 0)]) (lSa_ok dd0) rfl ?_
  refine Y.getA fl_I_23 (lIa_ok dd1) h (fun v1 h => ?_)
  refine Y.blk (pc' := 5) (L' := [some (.ref a0), some (.int a1), none, none, none, none]) (st' := [.int a1, .ref v1]) (sg := [(.iload_n 1, 0)]) (lSa_ok dd2) rfl ?_
  obtain ⟨_, o3, e2, m4, h⟩ := gOb_inv h
  refine Y.callI (yC.Vi (b := v1) (As := [.int a1]) (st := []) (r := ("Partlister$Numbers", T_N, 1)) hV.1 cb_N_read lk_I_39 in_N_read rfl se_N_read (lIa_ok dd3) rfl rfl (Nat.le_of_ble_eq_true rfl) (by decide) e2 m4) (k_N_read hV G v1 a1) h (fun v6 G5 _ h => ?_)
  refine Y.blk (pc' := 11) (L' := [some (.ref a0), some (.int a1), some (.int v6), none, none, none]) (st' := [.int (-1), .int v6]) (sg := [(.istore_n 2, 0), (.iload_n 2, 0), (.iconst (-1), -1)]) (lSa_ok dd4) rfl ?_
  refine Y.ic_ne (off := 14) (tgt := 25) (lIa_ok dd5) (by decide) h (fun c46 h => ?_) (fun c46 h => ?_)
  · refine Y.blk (pc' := 16) (L' := [some (.ref a0), some (.int a1), some (.int v6), none, none, none]) (st' := [.int (nI 2), .int a1]) (sg := [(.iload_n 1, 0), (.iconst 2, nI 2)]) (lSa_ok dd6) rfl ?_
    refine Y.ic_ge (off := 7) (tgt := 23) (lIa_ok dd7) (by decide) h (fun c7 h => ?_) (fun c7 h => ?_)
    · refine Y.blk (pc' := 24) (L' := [some (.ref a0), some (.int a1), some (.int v6), none, none, none]) (st' := [.int (nI 0)]) (sg := [(.iconst 0, nI 0)]) (lSa_ok dd8) rfl ?_
      exact Y.zret rfl (lIa_ok dd9) h
    · refine Y.blk (pc' := 20) (L' := [some (.ref a0), some (.int a1), some (.int v6), none, none, none]) (st' := [.int (nI 1)]) (sg := [(.iconst 1, nI 1)]) (lSa_ok dd10) rfl ?_
      refine Y.goto (off := 4) (tgt := 24) (lIa_ok dd11) (by decide) ?_
      exact Y.zret rfl (lIa_ok dd9) h
  · refine Y.blk (pc' := 26) (L' := [some (.ref a0), some (.int a1), some (.int v6), none, none, none]) (st' := [.ref a0]) (sg := [(.aload_n 0, 0)]) (lSa_ok dd12) rfl ?_
    refine Y.getA fl_I_29 (lIa_ok dd13) h (fun v8 h => ?_)
    refine Y.blk (pc' := 30) (L' := [some (.ref a0), some (.int a1), some (.int v6), none, none, none]) (st' := [.int a1, .ref v8]) (sg := [(.iload_n 1, 0)]) (lSa_ok dd14) rfl ?_
    obtain ⟨_, o10, e9, m11, h⟩ := gOb_inv h
    refine Y.callI (yC.Vi (b := v8) (As := [.int a1]) (st := []) (r := ("Partlister$Numbers", T_N, 1)) hV.1 cb_N_read lk_I_39 in_N_read rfl se_N_read (lIa_ok dd15) rfl rfl (Nat.le_of_ble_eq_true rfl) (by decide) e9 m11) (k_N_read hV G5 v8 a1) h (fun v13 G12 _ h => ?_)
    refine Y.blk (pc' := 34) (L' := [some (.ref a0), some (.int a1), some (.int v6), none, none, none]) (st' := [.ref a0, .int v13]) (sg := [(.aload_n 0, 0)]) (lSa_ok dd16) rfl ?_
    refine Y.getA fl_I_29 (lIa_ok dd17) h (fun v14 h => ?_)
    refine Y.blk (pc' := 38) (L' := [some (.ref a0), some (.int a1), some (.int v6), none, none, none]) (st' := [.int v6, .ref v14, .int v13]) (sg := [(.iload_n 2, 0)]) (lSa_ok dd18) rfl ?_
    obtain ⟨_, o16, e15, m17, h⟩ := gOb_inv h
    refine Y.callI (yC.Vi (b := v14) (As := [.int v6]) (st := [.int v13]) (r := ("Partlister$Numbers", T_N, 1)) hV.1 cb_N_read lk_I_39 in_N_read rfl se_N_read (lIa_ok dd19) rfl rfl (Nat.le_of_ble_eq_true rfl) (by decide) e15 m17) (k_N_read hV G12 v14 v6) h (fun v19 G18 _ h => ?_)
    refine Y.blk (pc' := 45) (L' := [some (.ref a0), some (.int a1), some (.int v6), some (.int (v13 - v19)), none, none]) (st' := [.int a1, .ref a0]) (sg := [(.isub, 0), (.istore_n 3, 0), (.aload_n 0, 0), (.iload_n 1, 0)]) (lSa_ok dd20) rfl ?_
    obtain ⟨_, o21, e20, m22, h⟩ := gOb_inv h
    refine Y.callI (yC.Vi (b := a0) (As := [.int a1]) (st := []) (r := ("Partlister$Lists", T_I, 7)) hV.1 cb_I_lengthOf lk_I_59 in_I_lengthOf rfl se_I_lengthOf (lIa_ok dd21) rfl rfl (Nat.le_of_ble_eq_true rfl) (by decide) e20 m22) (k_I_lengthOf hV G18 a0 a1) h (fun v24 G23 _ h => ?_)
    refine Y.blk (pc' := 51) (L' := [some (.ref a0), some (.int a1), some (.int v6), some (.int (v13 - v19)), some (.int v24), none]) (st' := [.int (v13 - v19)]) (sg := [(.istore 4, 0), (.iload_n 3, 0)]) (lSa_ok dd22) rfl ?_
    refine Y.if_lt (off := 15) (tgt := 66) (lIa_ok dd23) (by decide) h (fun c45 h => ?_) (fun c45 h => ?_)
    · refine Y.blk (pc' := 67) (L' := [some (.ref a0), some (.int a1), some (.int v6), some (.int (v13 - v19)), some (.int v24), none]) (st' := [.int (nI 0)]) (sg := [(.iconst 0, nI 0)]) (lSa_ok dd24) rfl ?_
      exact Y.zret rfl (lIa_ok dd25) h
    · refine Y.blk (pc' := 60) (L' := [some (.ref a0), some (.int a1), some (.int v6), some (.int (v13 - v19)), some (.int v24), none]) (st' := [.int v6, .ref a0, .int ((v13 - v19) + v24)]) (sg := [(.iload_n 3, 0), (.iload 4, 0), (.iadd, 0), (.aload_n 0, 0), (.iload_n 2, 0)]) (lSa_ok dd26) rfl ?_
      obtain ⟨_, o26, e25, m27, h⟩ := gOb_inv h
      refine Y.callI (yC.Vi (b := a0) (As := [.int v6]) (st := [.int ((v13 - v19) + v24)]) (r := ("Partlister$Lists", T_I, 7)) hV.1 cb_I_lengthOf lk_I_59 in_I_lengthOf rfl se_I_lengthOf (lIa_ok dd27) rfl rfl (Nat.le_of_ble_eq_true rfl) (by decide) e25 m27) (k_I_lengthOf hV G23 a0 v6) h (fun v29 G28 _ h => ?_)
      refine Y.ic_le (off := 5) (tgt := 68) (lIa_ok dd28) (by decide) h (fun c44 h => ?_) (fun c44 h => ?_)
      · refine Y.blk (pc' := 71) (L' := [some (.ref a0), some (.int a1), some (.int v6), some (.int (v13 - v19)), some (.int v24), some (.int (nI 0))]) (st' := []) (sg := [(.iconst 0, nI 0), (.istore 5, 0)]) (lSa_ok dd29) rfl ?_
        refine k_I_liesInAbove_L71 hV _ _ ?_ ?_  zFu G28 a0 a1 v6 (v13 - v19) v24 (nI 0) h
        · intro G42 h
          refine Y.blk (pc' := 98) (L' := [none, none, none, none, none, none]) (st' := [.int (nI 0)]) (sg := [(.iconst 0, nI 0)]) (lSa_ok dd30) rfl ?_
          exact Y.zret rfl (lIa_ok dd31) h
        · intro G43 h
          refine Y.blk (pc' := 106) (L' := [none, none, none, none, none, none]) (st' := [.int (nI 1)]) (sg := [(.iconst 1, nI 1)]) (lSa_ok dd32) rfl ?_
          exact Y.zret rfl (lIa_ok dd33) h
      · refine Y.blk (pc' := 67) (L' := [some (.ref a0), some (.int a1), some (.int v6), some (.int (v13 - v19)), some (.int v24), none]) (st' := [.int (nI 0)]) (sg := [(.iconst 0, nI 0)]) (lSa_ok dd24) rfl ?_
        exact Y.zret rfl (lIa_ok dd25) h

def f_I_areSound_L44 (K66 : gH → gR) (K74 : gH → Nat → Int32 → gR) : Nat → gH → Nat → Int32 → Int32 → gR
  | 0, _, _, _, _ => none
  | n + 1, G, x0, x1, x2 =>
    if (nI 5) ≤ x2 then K74 G x0 x1
    else gOb G x0 1 fun o7 => bI (f_I_isThere G x0 x1) fun v10 G9 => if v10 = 0 then f_I_areSound_L44 K66 K74 n G9 x0 x1 (x2 + (nI 1))
      else gOb G9 x0 1 fun o12 => bI (f_I_isOrdering G9 x0 x1 x2) fun v15 G14 => if v15 = 0 then K66 G14
        else f_I_areSound_L44 K66 K74 n G14 x0 x1 (x2 + (nI 1))
def f_I_areSound_L2 (K40 : gH → gR) (K66 : gH → gR) (K80 : gH → gR) : Nat → gH → Nat → Int32 → gR
  | 0, _, _, _ => none
  | n + 1, G, x0, x1 =>
    if (nI 6) ≤ x1 then K80 G
    else gOb G x0 1 fun o2 => bI (f_I_isThere G x0 x1) fun v5 G4 => if v5 = 0 then f_I_areSound_L44 (fun G19 => K66 G19) (fun G22 x20 x21 => f_I_areSound_L2 K40 K66 K80 n G22 x20 (x21 + (nI 1))) zFu G4 x0 x1 (nI 0)
      else gOb G4 x0 1 fun o24 => bI (f_I_liesInAbove G4 x0 x1) fun v27 G26 => if v27 = 0 then K40 G26
        else gOb G26 x0 1 fun o29 => bI (f_I_isSameBackward G26 x0 x1) fun v32 G31 => if v32 = 0 then K40 G31
          else gOb G31 x0 1 fun o34 => bI (f_I_areKeysFound G31 x0 x1) fun v37 G36 => if v37 = 0 then K40 G36
            else f_I_areSound_L44 (fun G38 => K66 G38) (fun G41 x39 x40 => f_I_areSound_L2 K40 K66 K80 n G41 x39 (x40 + (nI 1))) zFu G36 x0 x1 (nI 0)
def f_I_areSound (G : gH) (a0 : Nat) : gR :=
  f_I_areSound_L2 (fun G47 => rZ (nI 0) G47) (fun G48 => rZ (nI 0) G48) (fun G49 => rZ (nI 1) G49) zFu G a0 (nI 0)
theorem k_I_areSound_L44 {l : Launch} {D : va_G} {B : Nat} {O : State → Heap → Prop} (hV : zG l D B O) {o : gO} {Gf : gH} (K66 : gH → gR) (K74 : gH → Nat → Int32 → gR) (hK66 : ∀ (G : gH), K66 G  = some (o, Gf) → Y (zVm l D B O) m_I_areSound 6 o Gf 66 [none, none, none] [] G) (hK74 : ∀ (G : gH) (x0 : Nat) (x1 : Int32), K74 G x0 x1 = some (o, Gf) → Y (zVm l D B O) m_I_areSound 6 o Gf 74 [some (.ref x0), some (.int x1), none] [] G) : ∀ (n : Nat) (G : gH) (x0 : Nat) (x1 : Int32) (x2 : Int32), f_I_areSound_L44 K66 K74 n G x0 x1 x2 = some (o, Gf) → Y (zVm l D B O) m_I_areSound 6 o Gf 44 [some (.ref x0), some (.int x1), some (.int x2)] [] G := by
  have hdd : lSa m_I_areSound 44 [(.iload_n 2, 0), (.iconst 5, nI 5)] = true ∧ lIa m_I_areSound 46 (.if_icmp .ge 28) 3 = true ∧ lSa m_I_areSound 49 [(.aload_n 0, 0), (.iload_n 1, 0)] = true ∧ lIa m_I_areSound 51 (.invokevirtual 86) 3 = true ∧ lIa m_I_areSound 54 (.ifCond .eq 14) 3 = true ∧ lSa m_I_areSound 68 [(.iinc 2 1, nI 1)] = true ∧ lIa m_I_areSound 71 (.goto (-27)) 3 = true ∧ lSa m_I_areSound 57 [(.aload_n 0, 0), (.iload_n 1, 0), (.iload_n 2, 0)] = true ∧ lIa m_I_areSound 60 (.invokevirtual 119) 3 = true ∧ lIa m_I_areSound 63 (.ifCond .ne 5) 3 = true := by decide +kernel
  refine lA8 hdd (fun dd0 dd1 dd2 dd3 dd4 dd5 dd6 dd7 hdd => ?_)
  obtain ⟨dd8, dd9⟩ := hdd
  intro n
  induction n with
  | zero => intro G x0 x1 x2 h; cases h
  | succ n ih =>
    intro G x0 x1 x2 h
    unfold f_I_areSound_L44 at h
    refine Y.blk (pc' := 46) (L' := [some (.ref x0), some (.int x1), some (.int x2)]) (st' := [.int (nI 5), .int x2]) (sg := [(.iload_n 2, 0), (.iconst 5, nI 5)]) (lSa_ok dd0) rfl ?_
    refine Y.ic_ge (off := 28) (tgt := 74) (lIa_ok dd1) (by decide) h (fun c18 h => ?_) (fun c18 h => ?_)
    · refine Y.less (L' := [some (.ref x0), some (.int x1), none]) (zLe_some (zLe_some (zLe_none (zLe_nil)))) ?_
      exact hK74 G x0 x1 h
    · refine Y.blk (pc' := 51) (L' := [some (.ref x0), some (.int x1), some (.int x2)]) (st' := [.int x1, .ref x0]) (sg := [(.aload_n 0, 0), (.iload_n 1, 0)]) (lSa_ok dd2) rfl ?_
      obtain ⟨_, o7, e6, m8, h⟩ := gOb_inv h
      refine Y.callI (yC.Vi (b := x0) (As := [.int x1]) (st := []) (r := ("Partlister$Lists", T_I, 7)) hV.1 cb_I_isThere lk_I_86 in_I_isThere rfl se_I_isThere (lIa_ok dd3) rfl rfl (Nat.le_of_ble_eq_true rfl) (by decide) e6 m8) (k_I_isThere hV G x0 x1) h (fun v10 G9 _ h => ?_)
      refine Y.if_eq (off := 14) (tgt := 68) (lIa_ok dd4) (by decide) h (fun c17 h => ?_) (fun c17 h => ?_)
      · refine Y.blk (pc' := 71) (L' := [some (.ref x0), some (.int x1), some (.int (x2 + (nI 1)))]) (st' := []) (sg := [(.iinc 2 1, nI 1)]) (lSa_ok dd5) rfl ?_
        refine Y.goto (off := -27) (tgt := 44) (lIa_ok dd6) (by decide) ?_
        exact ih G9 x0 x1 (x2 + (nI 1)) h
      · refine Y.blk (pc' := 60) (L' := [some (.ref x0), some (.int x1), some (.int x2)]) (st' := [.int x2, .int x1, .ref x0]) (sg := [(.aload_n 0, 0), (.iload_n 1, 0), (.iload_n 2, 0)]) (lSa_ok dd7) rfl ?_
        obtain ⟨_, o12, e11, m13, h⟩ := gOb_inv h
        refine Y.callI (yC.Vi (b := x0) (As := [.int x1, .int x2]) (st := []) (r := ("Partlister$Lists", T_I, 7)) hV.1 cb_I_isOrdering lk_I_119 in_I_isOrdering rfl se_I_isOrdering (lIa_ok dd8) rfl rfl (Nat.le_of_ble_eq_true rfl) (by decide) e11 m13) (k_I_isOrdering hV G9 x0 x1 x2) h (fun v15 G14 _ h => ?_)
        refine Y.if_ne (off := 5) (tgt := 68) (lIa_ok dd9) (by decide) h (fun c16 h => ?_) (fun c16 h => ?_)
        · refine Y.less (L' := [none, none, none]) (zLe_none (zLe_none (zLe_none (zLe_nil)))) ?_
          exact hK66 G14  h
        · refine Y.blk (pc' := 71) (L' := [some (.ref x0), some (.int x1), some (.int (x2 + (nI 1)))]) (st' := []) (sg := [(.iinc 2 1, nI 1)]) (lSa_ok dd5) rfl ?_
          refine Y.goto (off := -27) (tgt := 44) (lIa_ok dd6) (by decide) ?_
          exact ih G14 x0 x1 (x2 + (nI 1)) h
theorem k_I_areSound_L2 {l : Launch} {D : va_G} {B : Nat} {O : State → Heap → Prop} (hV : zG l D B O) {o : gO} {Gf : gH} (K40 : gH → gR) (K66 : gH → gR) (K80 : gH → gR) (hK40 : ∀ (G : gH), K40 G  = some (o, Gf) → Y (zVm l D B O) m_I_areSound 6 o Gf 40 [none, none, none] [] G) (hK66 : ∀ (G : gH), K66 G  = some (o, Gf) → Y (zVm l D B O) m_I_areSound 6 o Gf 66 [none, none, none] [] G) (hK80 : ∀ (G : gH), K80 G  = some (o, Gf) → Y (zVm l D B O) m_I_areSound 6 o Gf 80 [none, none, none] [] G) : ∀ (n : Nat) (G : gH) (x0 : Nat) (x1 : Int32), f_I_areSound_L2 K40 K66 K80 n G x0 x1 = some (o, Gf) → Y (zVm l D B O) m_I_areSound 6 o Gf 2 [some (.ref x0), some (.int x1), none] [] G := by
  have hdd : lSa m_I_areSound 2 [(.iload_n 1, 0), (.bipush 6, nI 6)] = true ∧ lIa m_I_areSound 5 (.if_icmp .ge 75) 3 = true ∧ lSa m_I_areSound 8 [(.aload_n 0, 0), (.iload_n 1, 0)] = true ∧ lIa m_I_areSound 10 (.invokevirtual 86) 3 = true ∧ lIa m_I_areSound 13 (.ifCond .eq 29) 3 = true ∧ lSa m_I_areSound 42 [(.iconst 0, nI 0), (.istore_n 2, 0)] = true ∧ lSa m_I_areSound 74 [(.iinc 1 1, nI 1)] = true ∧ lIa m_I_areSound 77 (.goto (-75)) 3 = true ∧ lSa m_I_areSound 16 [(.aload_n 0, 0), (.iload_n 1, 0)] = true ∧ lIa m_I_areSound 18 (.invokevirtual 110) 3 = true ∧ lIa m_I_areSound 21 (.ifCond .eq 19) 3 = true ∧ lSa m_I_areSound 24 [(.aload_n 0, 0), (.iload_n 1, 0)] = true ∧ lIa m_I_areSound 26 (.invokevirtual 113) 3 = true ∧ lIa m_I_areSound 29 (.ifCond .eq 11) 3 = true ∧ lSa m_I_areSound 32 [(.aload_n 0, 0), (.iload_n 1, 0)] = true ∧ lIa m_I_areSound 34 (.invokevirtual 116) 3 = true ∧ lIa m_I_areSound 37 (.ifCond .ne 5) 3 = true := by decide +kernel
  refine lA8 hdd (fun dd0 dd1 dd2 dd3 dd4 dd5 dd6 dd7 hdd => ?_)
  refine lA8 hdd (fun dd8 dd9 dd10 dd11 dd12 dd13 dd14 dd15 hdd => ?_)
  have dd16 := hdd
  intro n
  induction n with
  | zero => intro G x0 x1 h; cases h
  | succ n ih =>
    intro G x0 x1 h
    unfold f_I_areSound_L2 at h
    refine Y.blk (pc' := 5) (L' := [some (.ref x0), some (.int x1), none]) (st' := [.int (nI 6), .int x1]) (sg := [(.iload_n 1, 0), (.bipush 6, nI 6)]) (lSa_ok dd0) rfl ?_
    refine Y.ic_ge (off := 75) (tgt := 80) (lIa_ok dd1) (by decide) h (fun c46 h => ?_) (fun c46 h => ?_)
    · refine Y.less (L' := [none, none, none]) (zLe_none (zLe_none (zLe_some (zLe_nil)))) ?_
      exact hK80 G  h
    · refine Y.blk (pc' := 10) (L' := [some (.ref x0), some (.int x1), none]) (st' := [.int x1, .ref x0]) (sg := [(.aload_n 0, 0), (.iload_n 1, 0)]) (lSa_ok dd2) rfl ?_
      obtain ⟨_, o2, e1, m3, h⟩ := gOb_inv h
      refine Y.callI (yC.Vi (b := x0) (As := [.int x1]) (st := []) (r := ("Partlister$Lists", T_I, 7)) hV.1 cb_I_isThere lk_I_86 in_I_isThere rfl se_I_isThere (lIa_ok dd3) rfl rfl (Nat.le_of_ble_eq_true rfl) (by decide) e1 m3) (k_I_isThere hV G x0 x1) h (fun v5 G4 _ h => ?_)
      refine Y.if_eq (off := 29) (tgt := 42) (lIa_ok dd4) (by decide) h (fun c45 h => ?_) (fun c45 h => ?_)
      · refine Y.blk (pc' := 44) (L' := [some (.ref x0), some (.int x1), some (.int (nI 0))]) (st' := []) (sg := [(.iconst 0, nI 0), (.istore_n 2, 0)]) (lSa_ok dd5) rfl ?_
        refine k_I_areSound_L44 hV _ _ ?_ ?_  zFu G4 x0 x1 (nI 0) h
        · intro G19 h
          exact hK66 G19  h
        · intro G22 x20 x21 h
          refine Y.blk (pc' := 77) (L' := [some (.ref x20), some (.int (x21 + (nI 1))), none]) (st' := []) (sg := [(.iinc 1 1, nI 1)]) (lSa_ok dd6) rfl ?_
          refine Y.goto (off := -75) (tgt := 2) (lIa_ok dd7) (by decide) ?_
          exact ih G22 x20 (x21 + (nI 1)) h
      · refine Y.blk (pc' := 18) (L' := [some (.ref x0), some (.int x1), none]) (st' := [.int x1, .ref x0]) (sg := [(.aload_n 0, 0), (.iload_n 1, 0)]) (lSa_ok dd8) rfl ?_
        obtain ⟨_, o24, e23, m25, h⟩ := gOb_inv h
        refine Y.callI (yC.Vi (b := x0) (As := [.int x1]) (st := []) (r := ("Partlister$Lists", T_I, 7)) hV.1 cb_I_liesInAbove lk_I_110 in_I_liesInAbove rfl se_I_liesInAbove (lIa_ok dd9) rfl rfl (Nat.le_of_ble_eq_true rfl) (by decide) e23 m25) (k_I_liesInAbove hV G4 x0 x1) h (fun v27 G26 _ h => ?_)
        refine Y.if_eq (off := 19) (tgt := 40) (lIa_ok dd10) (by decide) h (fun c44 h => ?_) (fun c44 h => ?_)
        · refine Y.less (L' := [none, none, none]) (zLe_none (zLe_none (zLe_some (zLe_nil)))) ?_
          exact hK40 G26  h
        · refine Y.blk (pc' := 26) (L' := [some (.ref x0), some (.int x1), none]) (st' := [.int x1, .ref x0]) (sg := [(.aload_n 0, 0), (.iload_n 1, 0)]) (lSa_ok dd11) rfl ?_
          obtain ⟨_, o29, e28, m30, h⟩ := gOb_inv h
          refine Y.callI (yC.Vi (b := x0) (As := [.int x1]) (st := []) (r := ("Partlister$Lists", T_I, 7)) hV.1 cb_I_isSameBackward lk_I_113 in_I_isSameBackward rfl se_I_isSameBackward (lIa_ok dd12) rfl rfl (Nat.le_of_ble_eq_true rfl) (by decide) e28 m30) (k_I_isSameBackward hV G26 x0 x1) h (fun v32 G31 _ h => ?_)
          refine Y.if_eq (off := 11) (tgt := 40) (lIa_ok dd13) (by decide) h (fun c43 h => ?_) (fun c43 h => ?_)
          · refine Y.less (L' := [none, none, none]) (zLe_none (zLe_none (zLe_some (zLe_nil)))) ?_
            exact hK40 G31  h
          · refine Y.blk (pc' := 34) (L' := [some (.ref x0), some (.int x1), none]) (st' := [.int x1, .ref x0]) (sg := [(.aload_n 0, 0), (.iload_n 1, 0)]) (lSa_ok dd14) rfl ?_
            obtain ⟨_, o34, e33, m35, h⟩ := gOb_inv h
            refine Y.callI (yC.Vi (b := x0) (As := [.int x1]) (st := []) (r := ("Partlister$Lists", T_I, 7)) hV.1 cb_I_areKeysFound lk_I_116 in_I_areKeysFound rfl se_I_areKeysFound (lIa_ok dd15) rfl rfl (Nat.le_of_ble_eq_true rfl) (by decide) e33 m35) (k_I_areKeysFound hV G31 x0 x1) h (fun v37 G36 _ h => ?_)
            refine Y.if_ne (off := 5) (tgt := 42) (lIa_ok dd16) (by decide) h (fun c42 h => ?_) (fun c42 h => ?_)
            · refine Y.less (L' := [none, none, none]) (zLe_none (zLe_none (zLe_some (zLe_nil)))) ?_
              exact hK40 G36  h
            · refine Y.blk (pc' := 44) (L' := [some (.ref x0), some (.int x1), some (.int (nI 0))]) (st' := []) (sg := [(.iconst 0, nI 0), (.istore_n 2, 0)]) (lSa_ok dd5) rfl ?_
              refine k_I_areSound_L44 hV _ _ ?_ ?_  zFu G36 x0 x1 (nI 0) h
              · intro G38 h
                exact hK66 G38  h
              · intro G41 x39 x40 h
                refine Y.blk (pc' := 77) (L' := [some (.ref x39), some (.int (x40 + (nI 1))), none]) (st' := []) (sg := [(.iinc 1 1, nI 1)]) (lSa_ok dd6) rfl ?_
                refine Y.goto (off := -75) (tgt := 2) (lIa_ok dd7) (by decide) ?_
                exact ih G41 x39 (x40 + (nI 1)) h
theorem k_I_areSound {l : Launch} {D : va_G} {B : Nat} {O : State → Heap → Prop} (hV : zG l D B O) (G : gH) (a0 : Nat) : gMet (zVm l D B O) m_I_areSound 6 [.ref a0] G (f_I_areSound G a0) := by
  have hdd : lSa m_I_areSound 0 [(.iconst 0, nI 0), (.istore_n 1, 0)] = true ∧ lSa m_I_areSound 40 [(.iconst 0, nI 0)] = true ∧ lIa m_I_areSound 41 (.ireturn) 1 = true ∧ lSa m_I_areSound 66 [(.iconst 0, nI 0)] = true ∧ lIa m_I_areSound 67 (.ireturn) 1 = true ∧ lSa m_I_areSound 80 [(.iconst 1, nI 1)] = true ∧ lIa m_I_areSound 81 (.ireturn) 1 = true := by decide +kernel
  obtain ⟨dd0, dd1, dd2, dd3, dd4, dd5, dd6⟩ := hdd
  refine gMet.of (by decide +kernel) (Nat.le_of_ble_eq_true rfl) [some (.ref a0), none, none] (fun ls h => zEn_ok (n := 3) h) ?_
  intro o Gf h
  unfold f_I_areSound at h
  refine Y.blk (pc' := 2) (L' := [some (.ref a0), some (.int (nI 0)), none]) (st' := []) (sg := [(.iconst 0, nI 0), (.istore_n 1, 0)]) (lSa_ok dd0) rfl ?_
  refine k_I_areSound_L2 hV _ _ _ ?_ ?_ ?_  zFu G a0 (nI 0) h
  · intro G47 h
    refine Y.blk (pc' := 41) (L' := [none, none, none]) (st' := [.int (nI 0)]) (sg := [(.iconst 0, nI 0)]) (lSa_ok dd1) rfl ?_
    exact Y.zret rfl (lIa_ok dd2) h
  · intro G48 h
    refine Y.blk (pc' := 67) (L' := [none, none, none]) (st' := [.int (nI 0)]) (sg := [(.iconst 0, nI 0)]) (lSa_ok dd3) rfl ?_
    exact Y.zret rfl (lIa_ok dd4) h
  · intro G49 h
    refine Y.blk (pc' := 81) (L' := [none, none, none]) (st' := [.int (nI 1)]) (sg := [(.iconst 1, nI 1)]) (lSa_ok dd5) rfl ?_
    exact Y.zret rfl (lIa_ok dd6) h

def f_X_digest_L6 (K29 : gH → Nat → Int64 → gR) : Nat → gH → Nat → Int64 → Int32 → gR
  | 0, _, _, _, _ => none
  | n + 1, G, x0, x1, x3 =>
    if (nI 8) ≤ x3 then K29 G x0 x1
    else gOb G x0 3 fun o2 => bI (f_X_worthOfHouse G x0 x3) fun v5 G4 => bL (f_X_mix G4 x1 v5.toInt64) fun v8 G7 => f_X_digest_L6 K29 n G7 x0 v8 (x3 + (nI 1))
def f_X_digest_L31 (K75 : gH → Nat → Int64 → gR) : Nat → gH → Nat → Int64 → Int32 → gR
  | 0, _, _, _, _ => none
  | n + 1, G, x0, x1, x3 =>
    if (nI 6) ≤ x3 then K75 G x0 x1
    else gFA G x0 3 0 fun v13 => gOb G v13 1 fun o15 => bI (f_I_lengthOf G v13 x3) fun v18 G17 => bL (f_X_mix G17 x1 v18.toInt64) fun v21 G20 => gFA G20 x0 3 0 fun v22 => gOb G20 v22 1 fun o24 => bI (f_I_isThere G20 v22 x3) fun v27 G26 => if v27 = 0 then f_X_digest_L31 K75 n G26 x0 v21 (x3 + (nI 1))
      else gOb G26 x0 3 fun o29 => bL (f_X_mixList G26 x0 v21 x3) fun v32 G31 => f_X_digest_L31 K75 n G31 x0 v32 (x3 + (nI 1))
def f_X_digest_L86 (K131 : gH → Nat → Int64 → Int32 → gR) : Nat → gH → Nat → Int64 → Int32 → Int32 → gR
  | 0, _, _, _, _, _ => none
  | n + 1, G, x0, x1, x3, x4 =>
    if (nI 6) ≤ x4 then K131 G x0 x1 x3
    else gFA G x0 3 0 fun v38 => gOb G v38 1 fun o40 => bI (f_I_isThere G v38 x3) fun v43 G42 => if v43 = 0 then f_X_digest_L86 K131 n G42 x0 x1 x3 (x4 + (nI 1))
      else gFA G42 x0 3 0 fun v44 => gOb G42 v44 1 fun o46 => bI (f_I_isThere G42 v44 x4) fun v49 G48 => if v49 = 0 then f_X_digest_L86 K131 n G48 x0 x1 x3 (x4 + (nI 1))
        else gOb G48 x0 3 fun o51 => bL (f_X_mixPair G48 x0 x1 x3 x4) fun v54 G53 => f_X_digest_L86 K131 n G53 x0 v54 x3 (x4 + (nI 1))
def f_X_digest_L77 (K137 : gH → Nat → Int64 → gR) : Nat → gH → Nat → Int64 → Int32 → gR
  | 0, _, _, _, _ => none
  | n + 1, G, x0, x1, x3 =>
    if (nI 6) ≤ x3 then K137 G x0 x1
    else f_X_digest_L86 (fun G61 x58 x59 x60 => f_X_digest_L77 K137 n G61 x58 x59 (x60 + (nI 1))) zFu G x0 x1 x3 (nI 0)
def f_X_digest_L147 (K173 : gH → Nat → Int64 → Int32 → gR) : Nat → gH → Nat → Int64 → Int32 → Int32 → gR
  | 0, _, _, _, _, _ => none
  | n + 1, G, x0, x1, x3, x4 =>
    if (nI 7) ≤ x4 then K173 G x0 x1 x3
    else gOb G x0 3 fun o67 => bI (f_X_worthOfCursor G x0 x3 x4) fun v70 G69 => bL (f_X_mix G69 x1 v70.toInt64) fun v73 G72 => f_X_digest_L147 K173 n G72 x0 v73 x3 (x4 + (nI 1))
def f_X_digest_L139 (K179 : gH → Nat → Int64 → gR) : Nat → gH → Nat → Int64 → Int32 → gR
  | 0, _, _, _, _ => none
  | n + 1, G, x0, x1, x3 =>
    if (nI 3) ≤ x3 then K179 G x0 x1
    else f_X_digest_L147 (fun G78 x75 x76 x77 => f_X_digest_L139 K179 n G78 x75 x76 (x77 + (nI 1))) zFu G x0 x1 x3 (nI 0)
def f_X_digest (G : gH) (a0 : Nat) : gR :=
  f_X_digest_L6 (fun G12 x10 x11 => f_X_digest_L31 (fun G37 x35 x36 => f_X_digest_L77 (fun G65 x63 x64 => f_X_digest_L139 (fun G82 x80 x81 => gFA G82 x80 3 0 fun v83 => gOb G82 v83 1 fun o85 => bI (f_I_areSound G82 v83) fun v88 G87 => if v88 = 0 then bL (f_X_mix G87 x81 (lN 0)) fun v91 G90 => rL v91 G90
          else bL (f_X_mix G87 x81 (lN 1)) fun v94 G93 => rL v94 G93) zFu G65 x63 x64 (nI 0)) zFu G37 x35 x36 (nI 0)) zFu G12 x10 x11 (nI 0)) zFu G a0 (lN 2203) (nI 0)
theorem k_X_digest_L6 {l : Launch} {D : va_G} {B : Nat} {O : State → Heap → Prop} (hV : zG l D B O) {o : gO} {Gf : gH} (K29 : gH → Nat → Int64 → gR) (hK29 : ∀ (G : gH) (x0 : Nat) (x1 : Int64), K29 G x0 x1 = some (o, Gf) → Y (zVm l D B O) m_X_digest 7 o Gf 29 [some (.ref x0), some (.long x1), none, none, none] [] G) : ∀ (n : Nat) (G : gH) (x0 : Nat) (x1 : Int64) (x3 : Int32), f_X_digest_L6 K29 n G x0 x1 x3 = some (o, Gf) → Y (zVm l D B O) m_X_digest 7 o Gf 6 [some (.ref x0), some (.long x1), none, some (.int x3), none] [] G := by
  have hdd : lSa m_X_digest 6 [(.iload_n 3, 0), (.bipush 8, nI 8)] = true ∧ lIa m_X_digest 9 (.if_icmp .ge 20) 3 = true ∧ lSa m_X_digest 12 [(.lload_n 1, 0), (.aload_n 0, 0), (.iload_n 3, 0)] = true ∧ lIa m_X_digest 15 (.invokevirtual 250) 3 = true ∧ lSa m_X_digest 18 [(.i2l, 0)] = true ∧ lIa m_X_digest 19 (.invokestatic 263) 3 = true ∧ lSa m_X_digest 22 [(.lstore_n 1, 0), (.iinc 3 1, nI 1)] = true ∧ lIa m_X_digest 26 (.goto (-20)) 3 = true := by decide +kernel
  obtain ⟨dd0, dd1, dd2, dd3, dd4, dd5, dd6, dd7⟩ := hdd
  intro n
  induction n with
  | zero => intro G x0 x1 x3 h; cases h
  | succ n ih =>
    intro G x0 x1 x3 h
    unfold f_X_digest_L6 at h
    refine Y.blk (pc' := 9) (L' := [some (.ref x0), some (.long x1), none, some (.int x3), none]) (st' := [.int (nI 8), .int x3]) (sg := [(.iload_n 3, 0), (.bipush 8, nI 8)]) (lSa_ok dd0) rfl ?_
    refine Y.ic_ge (off := 20) (tgt := 29) (lIa_ok dd1) (by decide) h (fun c9 h => ?_) (fun c9 h => ?_)
    · refine Y.less (L' := [some (.ref x0), some (.long x1), none, none, none]) (zLe_some (zLe_some (zLe_some (zLe_none (zLe_some (zLe_nil)))))) ?_
      exact hK29 G x0 x1 h
    · refine Y.blk (pc' := 15) (L' := [some (.ref x0), some (.long x1), none, some (.int x3), none]) (st' := [.int x3, .ref x0, .long x1]) (sg := [(.lload_n 1, 0), (.aload_n 0, 0), (.iload_n 3, 0)]) (lSa_ok dd2) rfl ?_
      obtain ⟨_, o2, e1, m3, h⟩ := gOb_inv h
      refine Y.callI (yC.Vi (b := x0) (As := [.int x3]) (st := [.long x1]) (r := ("Partlister", T_X, 5)) hV.1 cb_X_worthOfHouse lk_X_250 in_X_worthOfHouse rfl se_X_worthOfHouse (lIa_ok dd3) rfl rfl (Nat.le_of_ble_eq_true rfl) (by decide) e1 m3) (k_X_worthOfHouse hV G x0 x3) h (fun v5 G4 _ h => ?_)
      refine Y.blk (pc' := 19) (L' := [some (.ref x0), some (.long x1), none, some (.int x3), none]) (st' := [.long v5.toInt64, .long x1]) (sg := [(.i2l, 0)]) (lSa_ok dd4) rfl ?_
      refine Y.callL (yC.S (As := [.long x1, .long v5.toInt64]) (st := []) hV.1 cb_X_mix lk_X_263 st_X_mix (lIa_ok dd5) rfl rfl (Nat.le_of_ble_eq_true rfl) (by decide)) (k_X_mix hV G4 x1 v5.toInt64) h (fun v8 G7 _ h => ?_)
      refine Y.blk (pc' := 26) (L' := [some (.ref x0), some (.long v8), none, some (.int (x3 + (nI 1))), none]) (st' := []) (sg := [(.lstore_n 1, 0), (.iinc 3 1, nI 1)]) (lSa_ok dd6) rfl ?_
      refine Y.goto (off := -20) (tgt := 6) (lIa_ok dd7) (by decide) ?_
      exact ih G7 x0 v8 (x3 + (nI 1)) h
theorem k_X_digest_L31 {l : Launch} {D : va_G} {B : Nat} {O : State → Heap → Prop} (hV : zG l D B O) {o : gO} {Gf : gH} (K75 : gH → Nat → Int64 → gR) (hK75 : ∀ (G : gH) (x0 : Nat) (x1 : Int64), K75 G x0 x1 = some (o, Gf) → Y (zVm l D B O) m_X_digest 7 o Gf 75 [some (.ref x0), some (.long x1), none, none, none] [] G) : ∀ (n : Nat) (G : gH) (x0 : Nat) (x1 : Int64) (x3 : Int32), f_X_digest_L31 K75 n G x0 x1 x3 = some (o, Gf) → Y (zVm l D B O) m_X_digest 7 o Gf 31 [some (.ref x0), some (.long x1), none, some (.int x3), none] [] G := by
  have hdd : lSa m_X_digest 31 [(.iload_n 3, 0), (.bipush 6, nI 6)] = true ∧ lIa m_X_digest 34 (.if_icmp .ge 41) 3 = true ∧ lSa m_X_digest 37 [(.lload_n 1, 0), (.aload_n 0, 0)] = true ∧ lIa m_X_digest 39 (.getfield 10) 3 = true ∧ lSa m_X_digest 42 [(.iload_n 3, 0)] = true ∧ lIa m_X_digest 43 (.invokevirtual 34) 3 = true ∧ lSa m_X_digest 46 [(.i2l, 0)] = true ∧ lIa m_X_digest 47 (.invokestatic 263) 3 = true ∧ lSa m_X_digest 50 [(.lstore_n 1, 0), (.aload_n 0, 0)] = true ∧ lIa m_X_digest 52 (.getfield 10) 3 = true ∧ lSa m_X_digest 55 [(.iload_n 3, 0)] = true ∧ lIa m_X_digest 56 (.invokevirtual 155) 3 = true ∧ lIa m_X_digest 59 (.ifCond .eq 10) 3 = true ∧ lSa m_X_digest 69 [(.iinc 3 1, nI 1)] = true ∧ lIa m_X_digest 72 (.goto (-41)) 3 = true ∧ lSa m_X_digest 62 [(.aload_n 0, 0), (.lload_n 1, 0), (.iload_n 3, 0)] = true ∧ lIa m_X_digest 65 (.invokevirtual 267) 3 = true ∧ lSa m_X_digest 68 [(.lstore_n 1, 0), (.iinc 3 1, nI 1)] = true := by decide +kernel
  refine lA8 hdd (fun dd0 dd1 dd2 dd3 dd4 dd5 dd6 dd7 hdd => ?_)
  refine lA8 hdd (fun dd8 dd9 dd10 dd11 dd12 dd13 dd14 dd15 hdd => ?_)
  obtain ⟨dd16, dd17⟩ := hdd
  intro n
  induction n with
  | zero => intro G x0 x1 x3 h; cases h
  | succ n ih =>
    intro G x0 x1 x3 h
    unfold f_X_digest_L31 at h
    refine Y.blk (pc' := 34) (L' := [some (.ref x0), some (.long x1), none, some (.int x3), none]) (st' := [.int (nI 6), .int x3]) (sg := [(.iload_n 3, 0), (.bipush 6, nI 6)]) (lSa_ok dd0) rfl ?_
    refine Y.ic_ge (off := 41) (tgt := 75) (lIa_ok dd1) (by decide) h (fun c34 h => ?_) (fun c34 h => ?_)
    · refine Y.less (L' := [some (.ref x0), some (.long x1), none, none, none]) (zLe_some (zLe_some (zLe_some (zLe_none (zLe_some (zLe_nil)))))) ?_
      exact hK75 G x0 x1 h
    · refine Y.blk (pc' := 39) (L' := [some (.ref x0), some (.long x1), none, some (.int x3), none]) (st' := [.ref x0, .long x1]) (sg := [(.lload_n 1, 0), (.aload_n 0, 0)]) (lSa_ok dd2) rfl ?_
      refine Y.getA fl_X_10 (lIa_ok dd3) h (fun v13 h => ?_)
      refine Y.blk (pc' := 43) (L' := [some (.ref x0), some (.long x1), none, some (.int x3), none]) (st' := [.int x3, .ref v13, .long x1]) (sg := [(.iload_n 3, 0)]) (lSa_ok dd4) rfl ?_
      obtain ⟨_, o15, e14, m16, h⟩ := gOb_inv h
      refine Y.callI (yC.Vi (b := v13) (As := [.int x3]) (st := [.long x1]) (r := ("Partlister$Lists", T_I, 7)) hV.1 cb_I_lengthOf lk_X_34 in_I_lengthOf rfl se_I_lengthOf (lIa_ok dd5) rfl rfl (Nat.le_of_ble_eq_true rfl) (by decide) e14 m16) (k_I_lengthOf hV G v13 x3) h (fun v18 G17 _ h => ?_)
      refine Y.blk (pc' := 47) (L' := [some (.ref x0), some (.long x1), none, some (.int x3), none]) (st' := [.long v18.toInt64, .long x1]) (sg := [(.i2l, 0)]) (lSa_ok dd6) rfl ?_
      refine Y.callL (yC.S (As := [.long x1, .long v18.toInt64]) (st := []) hV.1 cb_X_mix lk_X_263 st_X_mix (lIa_ok dd7) rfl rfl (Nat.le_of_ble_eq_true rfl) (by decide)) (k_X_mix hV G17 x1 v18.toInt64) h (fun v21 G20 _ h => ?_)
      refine Y.blk (pc' := 52) (L' := [some (.ref x0), some (.long v21), none, some (.int x3), none]) (st' := [.ref x0]) (sg := [(.lstore_n 1, 0), (.aload_n 0, 0)]) (lSa_ok dd8) rfl ?_
      refine Y.getA fl_X_10 (lIa_ok dd9) h (fun v22 h => ?_)
      refine Y.blk (pc' := 56) (L' := [some (.ref x0), some (.long v21), none, some (.int x3), none]) (st' := [.int x3, .ref v22]) (sg := [(.iload_n 3, 0)]) (lSa_ok dd10) rfl ?_
      obtain ⟨_, o24, e23, m25, h⟩ := gOb_inv h
      refine Y.callI (yC.Vi (b := v22) (As := [.int x3]) (st := []) (r := ("Partlister$Lists", T_I, 7)) hV.1 cb_I_isThere lk_X_155 in_I_isThere rfl se_I_isThere (lIa_ok dd11) rfl rfl (Nat.le_of_ble_eq_true rfl) (by decide) e23 m25) (k_I_isThere hV G20 v22 x3) h (fun v27 G26 _ h => ?_)
      refine Y.if_eq (off := 10) (tgt := 69) (lIa_ok dd12) (by decide) h (fun c33 h => ?_) (fun c33 h => ?_)
      · refine Y.blk (pc' := 72) (L' := [some (.ref x0), some (.long v21), none, some (.int (x3 + (nI 1))), none]) (st' := []) (sg := [(.iinc 3 1, nI 1)]) (lSa_ok dd13) rfl ?_
        refine Y.goto (off := -41) (tgt := 31) (lIa_ok dd14) (by decide) ?_
        exact ih G26 x0 v21 (x3 + (nI 1)) h
      · refine Y.blk (pc' := 65) (L' := [some (.ref x0), some (.long v21), none, some (.int x3), none]) (st' := [.int x3, .long v21, .ref x0]) (sg := [(.aload_n 0, 0), (.lload_n 1, 0), (.iload_n 3, 0)]) (lSa_ok dd15) rfl ?_
        obtain ⟨_, o29, e28, m30, h⟩ := gOb_inv h
        refine Y.callL (yC.Vi (b := x0) (As := [.long v21, .int x3]) (st := []) (r := ("Partlister", T_X, 5)) hV.1 cb_X_mixList lk_X_267 in_X_mixList rfl se_X_mixList (lIa_ok dd16) rfl rfl (Nat.le_of_ble_eq_true rfl) (by decide) e28 m30) (k_X_mixList hV G26 x0 v21 x3) h (fun v32 G31 _ h => ?_)
        refine Y.blk (pc' := 72) (L' := [some (.ref x0), some (.long v32), none, some (.int (x3 + (nI 1))), none]) (st' := []) (sg := [(.lstore_n 1, 0), (.iinc 3 1, nI 1)]) (lSa_ok dd17) rfl ?_
        refine Y.goto (off := -41) (tgt := 31) (lIa_ok dd14) (by decide) ?_
        exact ih G31 x0 v32 (x3 + (nI 1)) h
theorem k_X_digest_L86 {l : Launch} {D : va_G} {B : Nat} {O : State → Heap → Prop} (hV : zG l D B O) {o : gO} {Gf : gH} (K131 : gH → Nat → Int64 → Int32 → gR) (hK131 : ∀ (G : gH) (x0 : Nat) (x1 : Int64) (x3 : Int32), K131 G x0 x1 x3 = some (o, Gf) → Y (zVm l D B O) m_X_digest 7 o Gf 131 [some (.ref x0), some (.long x1), none, some (.int x3), none] [] G) : ∀ (n : Nat) (G : gH) (x0 : Nat) (x1 : Int64) (x3 : Int32) (x4 : Int32), f_X_digest_L86 K131 n G x0 x1 x3 x4 = some (o, Gf) → Y (zVm l D B O) m_X_digest 7 o Gf 86 [some (.ref x0), some (.long x1), none, some (.int x3), some (.int x4)] [] G := by
  have hdd : lSa m_X_digest 86 [(.iload 4, 0), (.bipush 6, nI 6)] = true ∧ lIa m_X_digest 90 (.if_icmp .ge 41) 3 = true ∧ lSa m_X_digest 93 [(.aload_n 0, 0)] = true ∧ lIa m_X_digest 94 (.getfield 10) 3 = true ∧ lSa m_X_digest 97 [(.iload_n 3, 0)] = true ∧ lIa m_X_digest 98 (.invokevirtual 155) 3 = true ∧ lIa m_X_digest 101 (.ifCond .eq 24) 3 = true ∧ lSa m_X_digest 125 [(.iinc 4 1, nI 1)] = true ∧ lIa m_X_digest 128 (.goto (-42)) 3 = true ∧ lSa m_X_digest 104 [(.aload_n 0, 0)] = true ∧ lIa m_X_digest 105 (.getfield 10) 3 = true ∧ lSa m_X_digest 108 [(.iload 4, 0)] = true ∧ lIa m_X_digest 110 (.invokevirtual 155) 3 = true ∧ lIa m_X_digest 113 (.ifCond .eq 12) 3 = true ∧ lSa m_X_digest 116 [(.aload_n 0, 0), (.lload_n 1, 0), (.iload_n 3, 0), (.iload 4, 0)] = true ∧ lIa m_X_digest 121 (.invokevirtual 271) 3 = true ∧ lSa m_X_digest 124 [(.lstore_n 1, 0), (.iinc 4 1, nI 1)] = true := by decide +kernel
  refine lA8 hdd (fun dd0 dd1 dd2 dd3 dd4 dd5 dd6 dd7 hdd => ?_)
  refine lA8 hdd (fun dd8 dd9 dd10 dd11 dd12 dd13 dd14 dd15 hdd => ?_)
  have dd16 := hdd
  intro n
  induction n with
  | zero => intro G x0 x1 x3 x4 h; cases h
  | succ n ih =>
    intro G x0 x1 x3 x4 h
    unfold f_X_digest_L86 at h
    refine Y.blk (pc' := 90) (L' := [some (.ref x0), some (.long x1), none, some (.int x3), some (.int x4)]) (st' := [.int (nI 6), .int x4]) (sg := [(.iload 4, 0), (.bipush 6, nI 6)]) (lSa_ok dd0) rfl ?_
    refine Y.ic_ge (off := 41) (tgt := 131) (lIa_ok dd1) (by decide) h (fun c57 h => ?_) (fun c57 h => ?_)
    · refine Y.less (L' := [some (.ref x0), some (.long x1), none, some (.int x3), none]) (zLe_some (zLe_some (zLe_some (zLe_some (zLe_none (zLe_nil)))))) ?_
      exact hK131 G x0 x1 x3 h
    · refine Y.blk (pc' := 94) (L' := [some (.ref x0), some (.long x1), none, some (.int x3), some (.int x4)]) (st' := [.ref x0]) (sg := [(.aload_n 0, 0)]) (lSa_ok dd2) rfl ?_
      refine Y.getA fl_X_10 (lIa_ok dd3) h (fun v38 h => ?_)
      refine Y.blk (pc' := 98) (L' := [some (.ref x0), some (.long x1), none, some (.int x3), some (.int x4)]) (st' := [.int x3, .ref v38]) (sg := [(.iload_n 3, 0)]) (lSa_ok dd4) rfl ?_
      obtain ⟨_, o40, e39, m41, h⟩ := gOb_inv h
      refine Y.callI (yC.Vi (b := v38) (As := [.int x3]) (st := []) (r := ("Partlister$Lists", T_I, 7)) hV.1 cb_I_isThere lk_X_155 in_I_isThere rfl se_I_isThere (lIa_ok dd5) rfl rfl (Nat.le_of_ble_eq_true rfl) (by decide) e39 m41) (k_I_isThere hV G v38 x3) h (fun v43 G42 _ h => ?_)
      refine Y.if_eq (off := 24) (tgt := 125) (lIa_ok dd6) (by decide) h (fun c56 h => ?_) (fun c56 h => ?_)
      · refine Y.blk (pc' := 128) (L' := [some (.ref x0), some (.long x1), none, some (.int x3), some (.int (x4 + (nI 1)))]) (st' := []) (sg := [(.iinc 4 1, nI 1)]) (lSa_ok dd7) rfl ?_
        refine Y.goto (off := -42) (tgt := 86) (lIa_ok dd8) (by decide) ?_
        exact ih G42 x0 x1 x3 (x4 + (nI 1)) h
      · refine Y.blk (pc' := 105) (L' := [some (.ref x0), some (.long x1), none, some (.int x3), some (.int x4)]) (st' := [.ref x0]) (sg := [(.aload_n 0, 0)]) (lSa_ok dd9) rfl ?_
        refine Y.getA fl_X_10 (lIa_ok dd10) h (fun v44 h => ?_)
        refine Y.blk (pc' := 110) (L' := [some (.ref x0), some (.long x1), none, some (.int x3), some (.int x4)]) (st' := [.int x4, .ref v44]) (sg := [(.iload 4, 0)]) (lSa_ok dd11) rfl ?_
        obtain ⟨_, o46, e45, m47, h⟩ := gOb_inv h
        refine Y.callI (yC.Vi (b := v44) (As := [.int x4]) (st := []) (r := ("Partlister$Lists", T_I, 7)) hV.1 cb_I_isThere lk_X_155 in_I_isThere rfl se_I_isThere (lIa_ok dd12) rfl rfl (Nat.le_of_ble_eq_true rfl) (by decide) e45 m47) (k_I_isThere hV G42 v44 x4) h (fun v49 G48 _ h => ?_)
        refine Y.if_eq (off := 12) (tgt := 125) (lIa_ok dd13) (by decide) h (fun c55 h => ?_) (fun c55 h => ?_)
        · refine Y.blk (pc' := 128) (L' := [some (.ref x0), some (.long x1), none, some (.int x3), some (.int (x4 + (nI 1)))]) (st' := []) (sg := [(.iinc 4 1, nI 1)]) (lSa_ok dd7) rfl ?_
          refine Y.goto (off := -42) (tgt := 86) (lIa_ok dd8) (by decide) ?_
          exact ih G48 x0 x1 x3 (x4 + (nI 1)) h
        · refine Y.blk (pc' := 121) (L' := [some (.ref x0), some (.long x1), none, some (.int x3), some (.int x4)]) (st' := [.int x4, .int x3, .long x1, .ref x0]) (sg := [(.aload_n 0, 0), (.lload_n 1, 0), (.iload_n 3, 0), (.iload 4, 0)]) (lSa_ok dd14) rfl ?_
          obtain ⟨_, o51, e50, m52, h⟩ := gOb_inv h
          refine Y.callL (yC.Vi (b := x0) (As := [.long x1, .int x3, .int x4]) (st := []) (r := ("Partlister", T_X, 5)) hV.1 cb_X_mixPair lk_X_271 in_X_mixPair rfl se_X_mixPair (lIa_ok dd15) rfl rfl (Nat.le_of_ble_eq_true rfl) (by decide) e50 m52) (k_X_mixPair hV G48 x0 x1 x3 x4) h (fun v54 G53 _ h => ?_)
          refine Y.blk (pc' := 128) (L' := [some (.ref x0), some (.long v54), none, some (.int x3), some (.int (x4 + (nI 1)))]) (st' := []) (sg := [(.lstore_n 1, 0), (.iinc 4 1, nI 1)]) (lSa_ok dd16) rfl ?_
          refine Y.goto (off := -42) (tgt := 86) (lIa_ok dd8) (by decide) ?_
          exact ih G53 x0 v54 x3 (x4 + (nI 1)) h
theorem k_X_digest_L77 {l : Launch} {D : va_G} {B : Nat} {O : State → Heap → Prop} (hV : zG l D B O) {o : gO} {Gf : gH} (K137 : gH → Nat → Int64 → gR) (hK137 : ∀ (G : gH) (x0 : Nat) (x1 : Int64), K137 G x0 x1 = some (o, Gf) → Y (zVm l D B O) m_X_digest 7 o Gf 137 [some (.ref x0), some (.long x1), none, none, none] [] G) : ∀ (n : Nat) (G : gH) (x0 : Nat) (x1 : Int64) (x3 : Int32), f_X_digest_L77 K137 n G x0 x1 x3 = some (o, Gf) → Y (zVm l D B O) m_X_digest 7 o Gf 77 [some (.ref x0), some (.long x1), none, some (.int x3), none] [] G := by
  have hdd : lSa m_X_digest 77 [(.iload_n 3, 0), (.bipush 6, nI 6)] = true ∧ lIa m_X_digest 80 (.if_icmp .ge 57) 3 = true ∧ lSa m_X_digest 83 [(.iconst 0, nI 0), (.istore 4, 0)] = true ∧ lSa m_X_digest 131 [(.iinc 3 1, nI 1)] = true ∧ lIa m_X_digest 134 (.goto (-57)) 3 = true := by decide +kernel
  obtain ⟨dd0, dd1, dd2, dd3, dd4⟩ := hdd
  intro n
  induction n with
  | zero => intro G x0 x1 x3 h; cases h
  | succ n ih =>
    intro G x0 x1 x3 h
    unfold f_X_digest_L77 at h
    refine Y.blk (pc' := 80) (L' := [some (.ref x0), some (.long x1), none, some (.int x3), none]) (st' := [.int (nI 6), .int x3]) (sg := [(.iload_n 3, 0), (.bipush 6, nI 6)]) (lSa_ok dd0) rfl ?_
    refine Y.ic_ge (off := 57) (tgt := 137) (lIa_ok dd1) (by decide) h (fun c62 h => ?_) (fun c62 h => ?_)
    · refine Y.less (L' := [some (.ref x0), some (.long x1), none, none, none]) (zLe_some (zLe_some (zLe_some (zLe_none (zLe_some (zLe_nil)))))) ?_
      exact hK137 G x0 x1 h
    · refine Y.blk (pc' := 86) (L' := [some (.ref x0), some (.long x1), none, some (.int x3), some (.int (nI 0))]) (st' := []) (sg := [(.iconst 0, nI 0), (.istore 4, 0)]) (lSa_ok dd2) rfl ?_
      refine k_X_digest_L86 hV _ ?_  zFu G x0 x1 x3 (nI 0) h
      · intro G61 x58 x59 x60 h
        refine Y.blk (pc' := 134) (L' := [some (.ref x58), some (.long x59), none, some (.int (x60 + (nI 1))), none]) (st' := []) (sg := [(.iinc 3 1, nI 1)]) (lSa_ok dd3) rfl ?_
        refine Y.goto (off := -57) (tgt := 77) (lIa_ok dd4) (by decide) ?_
        exact ih G61 x58 x59 (x60 + (nI 1)) h
theorem k_X_digest_L147 {l : Launch} {D : va_G} {B : Nat} {O : State → Heap → Prop} (hV : zG l D B O) {o : gO} {Gf : gH} (K173 : gH → Nat → Int64 → Int32 → gR) (hK173 : ∀ (G : gH) (x0 : Nat) (x1 : Int64) (x3 : Int32), K173 G x0 x1 x3 = some (o, Gf) → Y (zVm l D B O) m_X_digest 7 o Gf 173 [some (.ref x0), some (.long x1), none, some (.int x3), none] [] G) : ∀ (n : Nat) (G : gH) (x0 : Nat) (x1 : Int64) (x3 : Int32) (x4 : Int32), f_X_digest_L147 K173 n G x0 x1 x3 x4 = some (o, Gf) → Y (zVm l D B O) m_X_digest 7 o Gf 147 [some (.ref x0), some (.long x1), none, some (.int x3), some (.int x4)] [] G := by
  have hdd : lSa m_X_digest 147 [(.iload 4, 0), (.bipush 7, nI 7)] = true ∧ lIa m_X_digest 151 (.if_icmp .ge 22) 3 = true ∧ lSa m_X_digest 154 [(.lload_n 1, 0), (.aload_n 0, 0), (.iload_n 3, 0), (.iload 4, 0)] = true ∧ lIa m_X_digest 159 (.invokevirtual 245) 3 = true ∧ lSa m_X_digest 162 [(.i2l, 0)] = true ∧ lIa m_X_digest 163 (.invokestatic 263) 3 = true ∧ lSa m_X_digest 166 [(.lstore_n 1, 0), (.iinc 4 1, nI 1)] = true ∧ lIa m_X_digest 170 (.goto (-23)) 3 = true := by decide +kernel
  obtain ⟨dd0, dd1, dd2, dd3, dd4, dd5, dd6, dd7⟩ := hdd
  intro n
  induction n with
  | zero => intro G x0 x1 x3 x4 h; cases h
  | succ n ih =>
    intro G x0 x1 x3 x4 h
    unfold f_X_digest_L147 at h
    refine Y.blk (pc' := 151) (L' := [some (.ref x0), some (.long x1), none, some (.int x3), some (.int x4)]) (st' := [.int (nI 7), .int x4]) (sg := [(.iload 4, 0), (.bipush 7, nI 7)]) (lSa_ok dd0) rfl ?_
    refine Y.ic_ge (off := 22) (tgt := 173) (lIa_ok dd1) (by decide) h (fun c74 h => ?_) (fun c74 h => ?_)
    · refine Y.less (L' := [some (.ref x0), some (.long x1), none, some (.int x3), none]) (zLe_some (zLe_some (zLe_some (zLe_some (zLe_none (zLe_nil)))))) ?_
      exact hK173 G x0 x1 x3 h
    · refine Y.blk (pc' := 159) (L' := [some (.ref x0), some (.long x1), none, some (.int x3), some (.int x4)]) (st' := [.int x4, .int x3, .ref x0, .long x1]) (sg := [(.lload_n 1, 0), (.aload_n 0, 0), (.iload_n 3, 0), (.iload 4, 0)]) (lSa_ok dd2) rfl ?_
      obtain ⟨_, o67, e66, m68, h⟩ := gOb_inv h
      refine Y.callI (yC.Vi (b := x0) (As := [.int x3, .int x4]) (st := [.long x1]) (r := ("Partlister", T_X, 5)) hV.1 cb_X_worthOfCursor lk_X_245 in_X_worthOfCursor rfl se_X_worthOfCursor (lIa_ok dd3) rfl rfl (Nat.le_of_ble_eq_true rfl) (by decide) e66 m68) (k_X_worthOfCursor hV G x0 x3 x4) h (fun v70 G69 _ h => ?_)
      refine Y.blk (pc' := 163) (L' := [some (.ref x0), some (.long x1), none, some (.int x3), some (.int x4)]) (st' := [.long v70.toInt64, .long x1]) (sg := [(.i2l, 0)]) (lSa_ok dd4) rfl ?_
      refine Y.callL (yC.S (As := [.long x1, .long v70.toInt64]) (st := []) hV.1 cb_X_mix lk_X_263 st_X_mix (lIa_ok dd5) rfl rfl (Nat.le_of_ble_eq_true rfl) (by decide)) (k_X_mix hV G69 x1 v70.toInt64) h (fun v73 G72 _ h => ?_)
      refine Y.blk (pc' := 170) (L' := [some (.ref x0), some (.long v73), none, some (.int x3), some (.int (x4 + (nI 1)))]) (st' := []) (sg := [(.lstore_n 1, 0), (.iinc 4 1, nI 1)]) (lSa_ok dd6) rfl ?_
      refine Y.goto (off := -23) (tgt := 147) (lIa_ok dd7) (by decide) ?_
      exact ih G72 x0 v73 x3 (x4 + (nI 1)) h
theorem k_X_digest_L139 {l : Launch} {D : va_G} {B : Nat} {O : State → Heap → Prop} (hV : zG l D B O) {o : gO} {Gf : gH} (K179 : gH → Nat → Int64 → gR) (hK179 : ∀ (G : gH) (x0 : Nat) (x1 : Int64), K179 G x0 x1 = some (o, Gf) → Y (zVm l D B O) m_X_digest 7 o Gf 179 [some (.ref x0), some (.long x1), none, none, none] [] G) : ∀ (n : Nat) (G : gH) (x0 : Nat) (x1 : Int64) (x3 : Int32), f_X_digest_L139 K179 n G x0 x1 x3 = some (o, Gf) → Y (zVm l D B O) m_X_digest 7 o Gf 139 [some (.ref x0), some (.long x1), none, some (.int x3), none] [] G := by
  have hdd : lSa m_X_digest 139 [(.iload_n 3, 0), (.iconst 3, nI 3)] = true ∧ lIa m_X_digest 141 (.if_icmp .ge 38) 3 = true ∧ lSa m_X_digest 144 [(.iconst 0, nI 0), (.istore 4, 0)] = true ∧ lSa m_X_digest 173 [(.iinc 3 1, nI 1)] = true ∧ lIa m_X_digest 176 (.goto (-37)) 3 = true := by decide +kernel
  obtain ⟨dd0, dd1, dd2, dd3, dd4⟩ := hdd
  intro n
  induction n with
  | zero => intro G x0 x1 x3 h; cases h
  | succ n ih =>
    intro G x0 x1 x3 h
    unfold f_X_digest_L139 at h
    refine Y.blk (pc' := 141) (L' := [some (.ref x0), some (.long x1), none, some (.int x3), none]) (st' := [.int (nI 3), .int x3]) (sg := [(.iload_n 3, 0), (.iconst 3, nI 3)]) (lSa_ok dd0) rfl ?_
    refine Y.ic_ge (off := 38) (tgt := 179) (lIa_ok dd1) (by decide) h (fun c79 h => ?_) (fun c79 h => ?_)
    · refine Y.less (L' := [some (.ref x0), some (.long x1), none, none, none]) (zLe_some (zLe_some (zLe_some (zLe_none (zLe_some (zLe_nil)))))) ?_
      exact hK179 G x0 x1 h
    · refine Y.blk (pc' := 147) (L' := [some (.ref x0), some (.long x1), none, some (.int x3), some (.int (nI 0))]) (st' := []) (sg := [(.iconst 0, nI 0), (.istore 4, 0)]) (lSa_ok dd2) rfl ?_
      refine k_X_digest_L147 hV _ ?_  zFu G x0 x1 x3 (nI 0) h
      · intro G78 x75 x76 x77 h
        refine Y.blk (pc' := 176) (L' := [some (.ref x75), some (.long x76), none, some (.int (x77 + (nI 1))), none]) (st' := []) (sg := [(.iinc 3 1, nI 1)]) (lSa_ok dd3) rfl ?_
        refine Y.goto (off := -37) (tgt := 139) (lIa_ok dd4) (by decide) ?_
        exact ih G78 x75 x76 (x77 + (nI 1)) h
theorem k_X_digest {l : Launch} {D : va_G} {B : Nat} {O : State → Heap → Prop} (hV : zG l D B O) (G : gH) (a0 : Nat) : gMet (zVm l D B O) m_X_digest 7 [.ref a0] G (f_X_digest G a0) := by
  have hdd : lIa m_X_digest 0 (.ldc2_w 261) 3 = true ∧ lSa m_X_digest 3 [(.lstore_n 1, 0), (.iconst 0, nI 0), (.istore_n 3, 0)] = true ∧ lSa m_X_digest 29 [(.iconst 0, nI 0), (.istore_n 3, 0)] = true ∧ lSa m_X_digest 75 [(.iconst 0, nI 0), (.istore_n 3, 0)] = true ∧ lSa m_X_digest 137 [(.iconst 0, nI 0), (.istore_n 3, 0)] = true ∧ lSa m_X_digest 179 [(.lload_n 1, 0), (.aload_n 0, 0)] = true ∧ lIa m_X_digest 181 (.getfield 10) 3 = true ∧ lIa m_X_digest 184 (.invokevirtual 253) 3 = true ∧ lIa m_X_digest 187 (.ifCond .eq 7) 3 = true ∧ lSa m_X_digest 194 [(.lconst 0, 0)] = true ∧ lIa m_X_digest 195 (.invokestatic 263) 3 = true ∧ lIa m_X_digest 198 (.lreturn) 1 = true ∧ lSa m_X_digest 190 [(.lconst 1, 0)] = true ∧ lIa m_X_digest 191 (.goto 4) 3 = true := by decide +kernel
  refine lA8 hdd (fun dd0 dd1 dd2 dd3 dd4 dd5 dd6 dd7 hdd => ?_)
  obtain ⟨dd8, dd9, dd10, dd11, dd12, dd13⟩ := hdd
  refine gMet.of (by decide +kernel) (Nat.le_of_ble_eq_true rfl) [some (.ref a0), none, none, none, none] (fun ls h => zEn_ok (n := 5) h) ?_
  intro o Gf h
  unfold f_X_digest at h
  refine Y.ldc2 (v := lN 2203) co_X_261 (lIa_ok dd0) ?_
  refine Y.blk (pc' := 6) (L' := [some (.ref a0), some (.long (lN 2203)), none, some (.int (nI 0)), none]) (st' := []) (sg := [(.lstore_n 1, 0), (.iconst 0, nI 0), (.istore_n 3, 0)]) (lSa_ok dd1) rfl ?_
  refine k_X_digest_L6 hV _ ?_  zFu G a0 (lN 2203) (nI 0) h
  · intro G12 x10 x11 h
    refine Y.blk (pc' := 31) (L' := [some (.ref x10), some (.long x11), none, some (.int (nI 0)), none]) (st' := []) (sg := [(.iconst 0, nI 0), (.istore_n 3, 0)]) (lSa_ok dd2) rfl ?_
    refine k_X_digest_L31 hV _ ?_  zFu G12 x10 x11 (nI 0) h
    · intro G37 x35 x36 h
      refine Y.blk (pc' := 77) (L' := [some (.ref x35), some (.long x36), none, some (.int (nI 0)), none]) (st' := []) (sg := [(.iconst 0, nI 0), (.istore_n 3, 0)]) (lSa_ok dd3) rfl ?_
      refine k_X_digest_L77 hV _ ?_  zFu G37 x35 x36 (nI 0) h
      · intro G65 x63 x64 h
        refine Y.blk (pc' := 139) (L' := [some (.ref x63), some (.long x64), none, some (.int (nI 0)), none]) (st' := []) (sg := [(.iconst 0, nI 0), (.istore_n 3, 0)]) (lSa_ok dd4) rfl ?_
        refine k_X_digest_L139 hV _ ?_  zFu G65 x63 x64 (nI 0) h
        · intro G82 x80 x81 h
          refine Y.blk (pc' := 181) (L' := [some (.ref x80), some (.long x81), none, none, none]) (st' := [.ref x80, .long x81]) (sg := [(.lload_n 1, 0), (.aload_n 0, 0)]) (lSa_ok dd5) rfl ?_
          refine Y.getA fl_X_10 (lIa_ok dd6) h (fun v83 h => ?_)
          obtain ⟨_, o85, e84, m86, h⟩ := gOb_inv h
          refine Y.callI (yC.Vi (b := v83) (As := []) (st := [.long x81]) (r := ("Partlister$Lists", T_I, 7)) hV.1 cb_I_areSound lk_X_253 in_I_areSound rfl se_I_areSound (lIa_ok dd7) rfl rfl (Nat.le_of_ble_eq_true rfl) (by decide) e84 m86) (k_I_areSound hV G82 v83) h (fun v88 G87 _ h => ?_)
          refine Y.if_eq (off := 7) (tgt := 194) (lIa_ok dd8) (by decide) h (fun c95 h => ?_) (fun c95 h => ?_)
          · refine Y.blk (pc' := 195) (L' := [some (.ref x80), some (.long x81), none, none, none]) (st' := [.long (lN 0), .long x81]) (sg := [(.lconst 0, 0)]) (lSa_ok dd9) rfl ?_
            refine Y.callL (yC.S (As := [.long x81, .long (lN 0)]) (st := []) hV.1 cb_X_mix lk_X_263 st_X_mix (lIa_ok dd10) rfl rfl (Nat.le_of_ble_eq_true rfl) (by decide)) (k_X_mix hV G87 x81 (lN 0)) h (fun v91 G90 _ h => ?_)
            exact Y.lret rfl (lIa_ok dd11) h
          · refine Y.blk (pc' := 191) (L' := [some (.ref x80), some (.long x81), none, none, none]) (st' := [.long (lN 1), .long x81]) (sg := [(.lconst 1, 0)]) (lSa_ok dd12) rfl ?_
            refine Y.goto (off := 4) (tgt := 195) (lIa_ok dd13) (by decide) ?_
            refine Y.callL (yC.S (As := [.long x81, .long (lN 1)]) (st := []) hV.1 cb_X_mix lk_X_263 st_X_mix (lIa_ok dd10) rfl rfl (Nat.le_of_ble_eq_true rfl) (by decide)) (k_X_mix hV G87 x81 (lN 1)) h (fun v94 G93 _ h => ?_)
            exact Y.lret rfl (lIa_ok dd11) h
