def f_I_firstOf_L9 (K26 : gH → Int32 → gR) (K35 : gH → gR) : Nat → gH → Nat → Int32 → Int32 → Int32 → Int32 → gR
  | 0, _, _, _, _, _, _ => none
  | n + 1, G, x0, x1, x2, x3, x4 =>
    if x3 ≤ x4 then K35 G
    else gOb G x0 1 fun o7 => bI (f_I_keyAt G x0 x1 x4) fun v10 G9 => if v10 = x2 then K26 G9 x4
      else f_I_firstOf_L9 K26 K35 n G9 x0 x1 x2 x3 (x4 + (nI 1))
def f_I_firstOf (G : gH) (a0 : Nat) (a1 : Int32) (a2 : Int32) : gR :=
  gOb G a0 1 fun o2 => bI (f_I_lengthOf G a0 a1) fun v5 G4 => f_I_firstOf_L9 (fun G14 x13 => rI x13 G14) (fun G15 => rI (-1) G15) zFu G4 a0 a1 a2 v5 (nI 0)
theorem k_I_firstOf_L9 {l : Launch} {D : va_G} {B : Nat} {O : State → Heap → Prop} (hV : zG l D B O) {o : gO} {Gf : gH} (K26 : gH → Int32 → gR) (K35 : gH → gR) (hK26 : ∀ (G : gH) (x4 : Int32), K26 G x4 = some (o, Gf) → Y (zVm l D B O) m_I_firstOf 4 o Gf 26 [none, none, none, none, some (.int x4)] [] G) (hK35 : ∀ (G : gH), K35 G  = some (o, Gf) → Y (zVm l D B O) m_I_firstOf 4 o Gf 35 [none, none, none, none, none] [] G) : ∀ (n : Nat) (G : gH) (x0 : Nat) (x1 : Int32) (x2 : Int32) (x3 : Int32) (x4 : Int32), f_I_firstOf_L9 K26 K35 n G x0 x1 x2 x3 x4 = some (o, Gf) → Y (zVm l D B O) m_I_firstOf 4 o Gf 9 [some (.ref x0), some (.int x1), some (.int x2), some (.int x3), some (.int x4)] [] G := by
  have hdd : lSa m_I_firstOf 9 [(.iload 4, 0), (.iload_n 3, 0)] = true ∧ lIa m_I_firstOf 12 (.if_icmp .ge 23) 3 = true ∧ lSa m_I_firstOf 15 [(.aload_n 0, 0), (.iload_n 1, 0), (.iload 4, 0)] = true ∧ lIa m_I_firstOf 19 (.invokevirtual 101) 3 = true ∧ lSa m_I_firstOf 22 [(.iload_n 2, 0)] = true ∧ lIa m_I_firstOf 23 (.if_icmp .ne 6) 3 = true ∧ lSa m_I_firstOf 29 [(.iinc 4 1, nI 1)] = true ∧ lIa m_I_firstOf 32 (.goto (-23)) 3 = true := by decide +kernel
  obtain ⟨dd0, dd1, dd2, dd3, dd4, dd5, dd6, dd7⟩ := hdd
  intro n
  induction n with
  | zero => intro G x0 x1 x2 x3 x4 h; cases h
  | succ n ih =>
    intro G x0 x1 x2 x3 x4 h
    unfold f_I_firstOf_L9 at h
    refine Y.blk (pc' := 12) (L' := [some (.ref x0), some (.int x1), some (.int x2), some (.int x3), some (.int x4)]) (st' := [.int x3, .int x4]) (sg := [(.iload 4, 0), (.iload_n 3, 0)]) (lSa_ok dd0) rfl ?_
    refine Y.ic_ge (off := 23) (tgt := 35) (lIa_ok dd1) (by decide) h (fun c12 h => ?_) (fun c12 h => ?_)
    · refine Y.less (L' := [none, none, none, none, none]) (zLe_none (zLe_none (zLe_none (zLe_none (zLe_none (zLe_nil)))))) ?_
      exact hK35 G  h
    · refine Y.blk (pc' := 19) (L' := [some (.ref x0), some (.int x1), some (.int x2), some (.int x3), some (.int x4)]) (st' := [.int x4, .int x1, .ref x0]) (sg := [(.aload_n 0, 0), (.iload_n 1, 0), (.iload 4, 0)]) (lSa_ok dd2) rfl ?_
      obtain ⟨_, o7, e6, m8, h⟩ := gOb_inv h
      refine Y.callI (yC.Vi (b := x0) (As := [.int x1, .int x4]) (st := []) (r := ("Partlister$Lists", T_I, 7)) hV.1 cb_I_keyAt lk_I_101 in_I_keyAt rfl se_I_keyAt (lIa_ok dd3) rfl rfl (Nat.le_of_ble_eq_true rfl) (by decide) e6 m8) (k_I_keyAt hV G x0 x1 x4) h (fun v10 G9 _ h => ?_)
      refine Y.blk (pc' := 23) (L' := [some (.ref x0), some (.int x1), some (.int x2), some (.int x3), some (.int x4)]) (st' := [.int x2, .int v10]) (sg := [(.iload_n 2, 0)]) (lSa_ok dd4) rfl ?_
      refine Y.ic_ne (off := 6) (tgt := 29) (lIa_ok dd5) (by decide) h (fun c11 h => ?_) (fun c11 h => ?_)
      · refine Y.less (L' := [none, none, none, none, some (.int x4)]) (zLe_none (zLe_none (zLe_none (zLe_none (zLe_some (zLe_nil)))))) ?_
        exact hK26 G9 x4 h
      · refine Y.blk (pc' := 32) (L' := [some (.ref x0), some (.int x1), some (.int x2), some (.int x3), some (.int (x4 + (nI 1)))]) (st' := []) (sg := [(.iinc 4 1, nI 1)]) (lSa_ok dd6) rfl ?_
        refine Y.goto (off := -23) (tgt := 9) (lIa_ok dd7) (by decide) ?_
        exact ih G9 x0 x1 x2 x3 (x4 + (nI 1)) h
theorem k_I_firstOf {l : Launch} {D : va_G} {B : Nat} {O : State → Heap → Prop} (hV : zG l D B O) (G : gH) (a0 : Nat) (a1 : Int32) (a2 : Int32) : gMet (zVm l D B O) m_I_firstOf 4 [.ref a0, .int a1, .int a2] G (f_I_firstOf G a0 a1 a2) := by
  have hdd : lSa m_I_firstOf 0 [(.aload_n 0, 0), (.iload_n 1, 0)] = true ∧ lIa m_I_firstOf 2 (.invokevirtual 59) 3 = true ∧ lSa m_I_firstOf 5 [(.istore_n 3, 0), (.iconst 0, nI 0), (.istore 4, 0)] = true ∧ lSa m_I_firstOf 26 [(.iload 4, 0)] = true ∧ lIa m_I_firstOf 28 (.ireturn) 1 = true ∧ lSa m_I_firstOf 35 [(.iconst (-1), -1)] = true ∧ lIa m_I_firstOf 36 (.ireturn) 1 = true := by decide +kernel
  obtain ⟨dd0, dd1, dd2, dd3, dd4, dd5, dd6⟩ := hdd
  refine gMet.of (by decide +kernel) (Nat.le_of_ble_eq_true rfl) [some (.ref a0), some (.int a1), some (.int a2), none, none] (fun ls h => zEn_ok (n := 5) h) ?_
  intro o Gf h
  unfold f_I_firstOf at h
  refine Y.blk (pc' := 2) (L' := [some (.ref a0), some (.int a1), some (.int a2), none, none]) (st' := [.int a1, .ref a0]) (sg := [(.aload_n 0, 0), (.iload_n 1, 0)]) (lSa_ok dd0) rfl ?_
  obtain ⟨_, o2, e1, m3, h⟩ := gOb_inv h
  refine Y.callI (yC.Vi (b := a0) (As := [.int a1]) (st := []) (r := ("Partlister$Lists", T_I, 7)) hV.1 cb_I_lengthOf lk_I_59 in_I_lengthOf rfl se_I_lengthOf (lIa_ok dd1) rfl rfl (Nat.le_of_ble_eq_true rfl) (by decide) e1 m3) (k_I_lengthOf hV G a0 a1) h (fun v5 G4 _ h => ?_)
  refine Y.blk (pc' := 9) (L' := [some (.ref a0), some (.int a1), some (.int a2), some (.int v5), some (.int (nI 0))]) (st' := []) (sg := [(.istore_n 3, 0), (.iconst 0, nI 0), (.istore 4, 0)]) (lSa_ok dd2) rfl ?_
  refine k_I_firstOf_L9 hV _ _ ?_ ?_  zFu G4 a0 a1 a2 v5 (nI 0) h
  · intro G14 x13 h
    refine Y.blk (pc' := 28) (L' := [none, none, none, none, some (.int x13)]) (st' := [.int x13]) (sg := [(.iload 4, 0)]) (lSa_ok dd3) rfl ?_
    exact Y.iret rfl (lIa_ok dd4) h
  · intro G15 h
    refine Y.blk (pc' := 36) (L' := [none, none, none, none, none]) (st' := [.int (-1)]) (sg := [(.iconst (-1), -1)]) (lSa_ok dd5) rfl ?_
    exact Y.iret rfl (lIa_ok dd6) h

def f_I_hashOf_L11 (K36 : gH → Int32 → gR) : Nat → gH → Nat → Int32 → Int32 → Int32 → Int32 → gR
  | 0, _, _, _, _, _, _ => none
  | n + 1, G, x0, x1, x2, x3, x4 =>
    if x2 ≤ x4 then K36 G x3
    else gOb G x0 1 fun o7 => bI (f_I_keyAt G x0 x1 x4) fun v10 G9 => f_I_hashOf_L11 K36 n G9 x0 x1 x2 ((x3 * (nI 31)) + v10) (x4 + (nI 1))
def f_I_hashOf (G : gH) (a0 : Nat) (a1 : Int32) : gR :=
  gOb G a0 1 fun o2 => bI (f_I_lengthOf G a0 a1) fun v5 G4 => f_I_hashOf_L11 (fun G13 x12 => rI x12 G13) zFu G4 a0 a1 v5 (nI 1) (nI 0)
theorem k_I_hashOf_L11 {l : Launch} {D : va_G} {B : Nat} {O : State → Heap → Prop} (hV : zG l D B O) {o : gO} {Gf : gH} (K36 : gH → Int32 → gR) (hK36 : ∀ (G : gH) (x3 : Int32), K36 G x3 = some (o, Gf) → Y (zVm l D B O) m_I_hashOf 4 o Gf 36 [none, none, none, some (.int x3), none] [] G) : ∀ (n : Nat) (G : gH) (x0 : Nat) (x1 : Int32) (x2 : Int32) (x3 : Int32) (x4 : Int32), f_I_hashOf_L11 K36 n G x0 x1 x2 x3 x4 = some (o, Gf) → Y (zVm l D B O) m_I_hashOf 4 o Gf 11 [some (.ref x0), some (.int x1), some (.int x2), some (.int x3), some (.int x4)] [] G := by
  have hdd : lSa m_I_hashOf 11 [(.iload 4, 0), (.iload_n 2, 0)] = true ∧ lIa m_I_hashOf 14 (.if_icmp .ge 22) 3 = true ∧ lSa m_I_hashOf 17 [(.iload_n 3, 0), (.bipush 31, nI 31), (.imul, 0), (.aload_n 0, 0), (.iload_n 1, 0), (.iload 4, 0)] = true ∧ lIa m_I_hashOf 25 (.invokevirtual 101) 3 = true ∧ lSa m_I_hashOf 28 [(.iadd, 0), (.istore_n 3, 0), (.iinc 4 1, nI 1)] = true ∧ lIa m_I_hashOf 33 (.goto (-22)) 3 = true := by decide +kernel
  obtain ⟨dd0, dd1, dd2, dd3, dd4, dd5⟩ := hdd
  intro n
  induction n with
  | zero => intro G x0 x1 x2 x3 x4 h; cases h
  | succ n ih =>
    intro G x0 x1 x2 x3 x4 h
    unfold f_I_hashOf_L11 at h
    refine Y.blk (pc' := 14) (L' := [some (.ref x0), some (.int x1), some (.int x2), some (.int x3), some (.int x4)]) (st' := [.int x2, .int x4]) (sg := [(.iload 4, 0), (.iload_n 2, 0)]) (lSa_ok dd0) rfl ?_
    refine Y.ic_ge (off := 22) (tgt := 36) (lIa_ok dd1) (by decide) h (fun c11 h => ?_) (fun c11 h => ?_)
    · refine Y.less (L' := [none, none, none, some (.int x3), none]) (zLe_none (zLe_none (zLe_none (zLe_some (zLe_none (zLe_nil)))))) ?_
      exact hK36 G x3 h
    · refine Y.blk (pc' := 25) (L' := [some (.ref x0), some (.int x1), some (.int x2), some (.int x3), some (.int x4)]) (st' := [.int x4, .int x1, .ref x0, .int (x3 * (nI 31))]) (sg := [(.iload_n 3, 0), (.bipush 31, nI 31), (.imul, 0), (.aload_n 0, 0), (.iload_n 1, 0), (.iload 4, 0)]) (lSa_ok dd2) rfl ?_
      obtain ⟨_, o7, e6, m8, h⟩ := gOb_inv h
      refine Y.callI (yC.Vi (b := x0) (As := [.int x1, .int x4]) (st := [.int (x3 * (nI 31))]) (r := ("Partlister$Lists", T_I, 7)) hV.1 cb_I_keyAt lk_I_101 in_I_keyAt rfl se_I_keyAt (lIa_ok dd3) rfl rfl (Nat.le_of_ble_eq_true rfl) (by decide) e6 m8) (k_I_keyAt hV G x0 x1 x4) h (fun v10 G9 _ h => ?_)
      refine Y.blk (pc' := 33) (L' := [some (.ref x0), some (.int x1), some (.int x2), some (.int ((x3 * (nI 31)) + v10)), some (.int (x4 + (nI 1)))]) (st' := []) (sg := [(.iadd, 0), (.istore_n 3, 0), (.iinc 4 1, nI 1)]) (lSa_ok dd4) rfl ?_
      refine Y.goto (off := -22) (tgt := 11) (lIa_ok dd5) (by decide) ?_
      exact ih G9 x0 x1 x2 ((x3 * (nI 31)) + v10) (x4 + (nI 1)) h
theorem k_I_hashOf {l : Launch} {D : va_G} {B : Nat} {O : State → Heap → Prop} (hV : zG l D B O) (G : gH) (a0 : Nat) (a1 : Int32) : gMet (zVm l D B O) m_I_hashOf 4 [.ref a0, .int a1] G (f_I_hashOf G a0 a1) := by
  have hdd : lSa m_I_hashOf 0 [(.aload_n 0, 0), (.iload_n 1, 0)] = true ∧ lIa m_I_hashOf 2 (.invokevirtual 59) 3 = true ∧ lSa m_I_hashOf 5 [(.istore_n 2, 0), (.iconst 1, nI 1), (.istore_n 3, 0), (.iconst 0, nI 0), (.istore 4, 0)] = true ∧ lSa m_I_hashOf 36 [(.iload_n 3, 0)] = true ∧ lIa m_I_hashOf 37 (.ireturn) 1 = true := by decide +kernel
  obtain ⟨dd0, dd1, dd2, dd3, dd4⟩ := hdd
  refine gMet.of (by decide +kernel) (Nat.le_of_ble_eq_true rfl) [some (.ref a0), some (.int a1), none, none, none] (fun ls h => zEn_ok (n := 5) h) ?_
  intro o Gf h
  unfold f_I_hashOf at h
  refine Y.blk (pc' := 2) (L' := [some (.ref a0), some (.int a1), none, none, none]) (st' := [.int a1, .ref a0]) (sg := [(.aload_n 0, 0), (.iload_n 1, 0)]) (lSa_ok dd0) rfl ?_
  obtain ⟨_, o2, e1, m3, h⟩ := gOb_inv h
  refine Y.callI (yC.Vi (b := a0) (As := [.int a1]) (st := []) (r := ("Partlister$Lists", T_I, 7)) hV.1 cb_I_lengthOf lk_I_59 in_I_lengthOf rfl se_I_lengthOf (lIa_ok dd1) rfl rfl (Nat.le_of_ble_eq_true rfl) (by decide) e1 m3) (k_I_lengthOf hV G a0 a1) h (fun v5 G4 _ h => ?_)
  refine Y.blk (pc' := 11) (L' := [some (.ref a0), some (.int a1), some (.int v5), some (.int (nI 1)), some (.int (nI 0))]) (st' := []) (sg := [(.istore_n 2, 0), (.iconst 1, nI 1), (.istore_n 3, 0), (.iconst 0, nI 0), (.istore 4, 0)]) (lSa_ok dd2) rfl ?_
  refine k_I_hashOf_L11 hV _ ?_  zFu G4 a0 a1 v5 (nI 1) (nI 0) h
  · intro G13 x12 h
    refine Y.blk (pc' := 37) (L' := [none, none, none, some (.int x12), none]) (st' := [.int x12]) (sg := [(.iload_n 3, 0)]) (lSa_ok dd3) rfl ?_
    exact Y.iret rfl (lIa_ok dd4) h

def f_I_lastOf_L8 (K22 : gH → Int32 → gR) (K30 : gH → gR) : Nat → gH → Nat → Int32 → Int32 → Int32 → gR
  | 0, _, _, _, _, _ => none
  | n + 1, G, x0, x1, x2, x3 =>
    if x3 < 0 then K30 G
    else gOb G x0 1 fun o7 => bI (f_I_keyAt G x0 x1 x3) fun v10 G9 => if v10 = x2 then K22 G9 x3
      else f_I_lastOf_L8 K22 K30 n G9 x0 x1 x2 (x3 + (-1))
def f_I_lastOf (G : gH) (a0 : Nat) (a1 : Int32) (a2 : Int32) : gR :=
  gOb G a0 1 fun o2 => bI (f_I_lengthOf G a0 a1) fun v5 G4 => f_I_lastOf_L8 (fun G14 x13 => rI x13 G14) (fun G15 => rI (-1) G15) zFu G4 a0 a1 a2 (v5 - (nI 1))
theorem k_I_lastOf_L8 {l : Launch} {D : va_G} {B : Nat} {O : State → Heap → Prop} (hV : zG l D B O) {o : gO} {Gf : gH} (K22 : gH → Int32 → gR) (K30 : gH → gR) (hK22 : ∀ (G : gH) (x3 : Int32), K22 G x3 = some (o, Gf) → Y (zVm l D B O) m_I_lastOf 4 o Gf 22 [none, none, none, some (.int x3)] [] G) (hK30 : ∀ (G : gH), K30 G  = some (o, Gf) → Y (zVm l D B O) m_I_lastOf 4 o Gf 30 [none, none, none, none] [] G) : ∀ (n : Nat) (G : gH) (x0 : Nat) (x1 : Int32) (x2 : Int32) (x3 : Int32), f_I_lastOf_L8 K22 K30 n G x0 x1 x2 x3 = some (o, Gf) → Y (zVm l D B O) m_I_lastOf 4 o Gf 8 [some (.ref x0), some (.int x1), some (.int x2), some (.int x3)] [] G := by
  have hdd : lSa m_I_lastOf 8 [(.iload_n 3, 0)] = true ∧ lIa m_I_lastOf 9 (.ifCond .lt 21) 3 = true ∧ lSa m_I_lastOf 12 [(.aload_n 0, 0), (.iload_n 1, 0), (.iload_n 3, 0)] = true ∧ lIa m_I_lastOf 15 (.invokevirtual 101) 3 = true ∧ lSa m_I_lastOf 18 [(.iload_n 2, 0)] = true ∧ lIa m_I_lastOf 19 (.if_icmp .ne 5) 3 = true ∧ lSa m_I_lastOf 24 [(.iinc 3 (-1), -1)] = true ∧ lIa m_I_lastOf 27 (.goto (-19)) 3 = true := by decide +kernel
  obtain ⟨dd0, dd1, dd2, dd3, dd4, dd5, dd6, dd7⟩ := hdd
  intro n
  induction n with
  | zero => intro G x0 x1 x2 x3 h; cases h
  | succ n ih =>
    intro G x0 x1 x2 x3 h
    unfold f_I_lastOf_L8 at h
    refine Y.blk (pc' := 9) (L' := [some (.ref x0), some (.int x1), some (.int x2), some (.int x3)]) (st' := [.int x3]) (sg := [(.iload_n 3, 0)]) (lSa_ok dd0) rfl ?_
    refine Y.if_lt (off := 21) (tgt := 30) (lIa_ok dd1) (by decide) h (fun c12 h => ?_) (fun c12 h => ?_)
    · refine Y.less (L' := [none, none, none, none]) (zLe_none (zLe_none (zLe_none (zLe_none (zLe_nil))))) ?_
      exact hK30 G  h
    · refine Y.blk (pc' := 15) (L' := [some (.ref x0), some (.int x1), some (.int x2), some (.int x3)]) (st' := [.int x3, .int x1, .ref x0]) (sg := [(.aload_n 0, 0), (.iload_n 1, 0), (.iload_n 3, 0)]) (lSa_ok dd2) rfl ?_
      obtain ⟨_, o7, e6, m8, h⟩ := gOb_inv h
      refine Y.callI (yC.Vi (b := x0) (As := [.int x1, .int x3]) (st := []) (r := ("Partlister$Lists", T_I, 7)) hV.1 cb_I_keyAt lk_I_101 in_I_keyAt rfl se_I_keyAt (lIa_ok dd3) rfl rfl (Nat.le_of_ble_eq_true rfl) (by decide) e6 m8) (k_I_keyAt hV G x0 x1 x3) h (fun v10 G9 _ h => ?_)
      refine Y.blk (pc' := 19) (L' := [some (.ref x0), some (.int x1), some (.int x2), some (.int x3)]) (st' := [.int x2, .int v10]) (sg := [(.iload_n 2, 0)]) (lSa_ok dd4) rfl ?_
      refine Y.ic_ne (off := 5) (tgt := 24) (lIa_ok dd5) (by decide) h (fun c11 h => ?_) (fun c11 h => ?_)
      · refine Y.less (L' := [none, none, none, some (.int x3)]) (zLe_none (zLe_none (zLe_none (zLe_some (zLe_nil))))) ?_
        exact hK22 G9 x3 h
      · refine Y.blk (pc' := 27) (L' := [some (.ref x0), some (.int x1), some (.int x2), some (.int (x3 + (-1)))]) (st' := []) (sg := [(.iinc 3 (-1), -1)]) (lSa_ok dd6) rfl ?_
        refine Y.goto (off := -19) (tgt := 8) (lIa_ok dd7) (by decide) ?_
        exact ih G9 x0 x1 x2 (x3 + (-1)) h
theorem k_I_lastOf {l : Launch} {D : va_G} {B : Nat} {O : State → Heap → Prop} (hV : zG l D B O) (G : gH) (a0 : Nat) (a1 : Int32) (a2 : Int32) : gMet (zVm l D B O) m_I_lastOf 4 [.ref a0, .int a1, .int a2] G (f_I_lastOf G a0 a1 a2) := by
  have hdd : lSa m_I_lastOf 0 [(.aload_n 0, 0), (.iload_n 1, 0)] = true ∧ lIa m_I_lastOf 2 (.invokevirtual 59) 3 = true ∧ lSa m_I_lastOf 5 [(.iconst 1, nI 1), (.isub, 0), (.istore_n 3, 0)] = true ∧ lSa m_I_lastOf 22 [(.iload_n 3, 0)] = true ∧ lIa m_I_lastOf 23 (.ireturn) 1 = true ∧ lSa m_I_lastOf 30 [(.iconst (-1), -1)] = true ∧ lIa m_I_lastOf 31 (.ireturn) 1 = true := by decide +kernel
  obtain ⟨dd0, dd1, dd2, dd3, dd4, dd5, dd6⟩ := hdd
  refine gMet.of (by decide +kernel) (Nat.le_of_ble_eq_true rfl) [some (.ref a0), some (.int a1), some (.int a2), none] (fun ls h => zEn_ok (n := 4) h) ?_
  intro o Gf h
  unfold f_I_lastOf at h
  refine Y.blk (pc' := 2) (L' := [some (.ref a0), some (.int a1), some (.int a2), none]) (st' := [.int a1, .ref a0]) (sg := [(.aload_n 0, 0), (.iload_n 1, 0)]) (lSa_ok dd0) rfl ?_
  obtain ⟨_, o2, e1, m3, h⟩ := gOb_inv h
  refine Y.callI (yC.Vi (b := a0) (As := [.int a1]) (st := []) (r := ("Partlister$Lists", T_I, 7)) hV.1 cb_I_lengthOf lk_I_59 in_I_lengthOf rfl se_I_lengthOf (lIa_ok dd1) rfl rfl (Nat.le_of_ble_eq_true rfl) (by decide) e1 m3) (k_I_lengthOf hV G a0 a1) h (fun v5 G4 _ h => ?_)
  refine Y.blk (pc' := 8) (L' := [some (.ref a0), some (.int a1), some (.int a2), some (.int (v5 - (nI 1)))]) (st' := []) (sg := [(.iconst 1, nI 1), (.isub, 0), (.istore_n 3, 0)]) (lSa_ok dd2) rfl ?_
  refine k_I_lastOf_L8 hV _ _ ?_ ?_  zFu G4 a0 a1 a2 (v5 - (nI 1)) h
  · intro G14 x13 h
    refine Y.blk (pc' := 23) (L' := [none, none, none, some (.int x13)]) (st' := [.int x13]) (sg := [(.iload_n 3, 0)]) (lSa_ok dd3) rfl ?_
    exact Y.iret rfl (lIa_ok dd4) h
  · intro G15 h
    refine Y.blk (pc' := 31) (L' := [none, none, none, none]) (st' := [.int (-1)]) (sg := [(.iconst (-1), -1)]) (lSa_ok dd5) rfl ?_
    exact Y.iret rfl (lIa_ok dd6) h

def f_I_worthOf (G : gH) (a0 : Nat) (a1 : Int32) (a2 : Int32) : gR :=
  gFA G a0 1 2 fun v1 => gOb G v1 2 fun o3 => bI (f_N_read G v1 a1) fun v6 G5 => if a2.toInt = 0 then (rI v6 G5)
  else if a2.toInt = 1 then (gFA G5 a0 1 4 fun v8 => gOb G5 v8 2 fun o10 => bI (f_N_read G5 v8 a1) fun v13 G12 => gFA G12 a0 1 4 fun v14 => gOb G12 v14 2 fun o16 => bI (f_N_read G12 v14 v6) fun v19 G18 => rI (v13 - v19) G18)
  else if a2.toInt = 2 then (gOb G5 a0 1 fun o22 => bI (f_I_rowOf G5 a0 a1) fun v25 G24 => rI v25 G24)
  else gFA G5 a0 1 4 fun v27 => gOb G5 v27 2 fun o29 => bI (f_N_read G5 v27 a1) fun v32 G31 => rI v32 G31
theorem k_I_worthOf {l : Launch} {D : va_G} {B : Nat} {O : State → Heap → Prop} (hV : zG l D B O) (G : gH) (a0 : Nat) (a1 : Int32) (a2 : Int32) : gMet (zVm l D B O) m_I_worthOf 3 [.ref a0, .int a1, .int a2] G (f_I_worthOf G a0 a1 a2) := by
  have hdd : lSa m_I_worthOf 0 [(.aload_n 0, 0)] = true ∧ lIa m_I_worthOf 1 (.getfield 23) 3 = true ∧ lSa m_I_worthOf 4 [(.iload_n 1, 0)] = true ∧ lIa m_I_worthOf 5 (.invokevirtual 39) 3 = true ∧ lSa m_I_worthOf 8 [(.istore_n 3, 0), (.iload_n 2, 0)] = true ∧ lSa m_I_worthOf 36 [(.iload_n 3, 0)] = true ∧ lIa m_I_worthOf 37 (.ireturn) 1 = true ∧ lSa m_I_worthOf 38 [(.aload_n 0, 0)] = true ∧ lIa m_I_worthOf 39 (.getfield 29) 3 = true ∧ lSa m_I_worthOf 42 [(.iload_n 1, 0)] = true ∧ lIa m_I_worthOf 43 (.invokevirtual 39) 3 = true ∧ lSa m_I_worthOf 46 [(.aload_n 0, 0)] = true ∧ lIa m_I_worthOf 47 (.getfield 29) 3 = true ∧ lSa m_I_worthOf 50 [(.iload_n 3, 0)] = true ∧ lIa m_I_worthOf 51 (.invokevirtual 39) 3 = true ∧ lSa m_I_worthOf 54 [(.isub, 0)] = true ∧ lIa m_I_worthOf 55 (.ireturn) 1 = true ∧ lSa m_I_worthOf 56 [(.aload_n 0, 0), (.iload_n 1, 0)] = true ∧ lIa m_I_worthOf 58 (.invokevirtual 56) 3 = true ∧ lIa m_I_worthOf 61 (.ireturn) 1 = true ∧ lSa m_I_worthOf 62 [(.aload_n 0, 0)] = true ∧ lIa m_I_worthOf 63 (.getfield 29) 3 = true ∧ lSa m_I_worthOf 66 [(.iload_n 1, 0)] = true ∧ lIa m_I_worthOf 67 (.invokevirtual 39) 3 = true ∧ lIa m_I_worthOf 70 (.ireturn) 1 = true := by decide +kernel
  refine lA8 hdd (fun dd0 dd1 dd2 dd3 dd4 dd5 dd6 dd7 hdd => ?_)
  refine lA8 hdd (fun dd8 dd9 dd10 dd11 dd12 dd13 dd14 dd15 hdd => ?_)
  refine lA8 hdd (fun dd16 dd17 dd18 dd19 dd20 dd21 dd22 dd23 hdd => ?_)
  have dd24 := hdd
  refine gMet.of (by decide +kernel) (Nat.le_of_ble_eq_true rfl) [some (.ref a0), some (.int a1), some (.int a2), none] (fun ls h => zEn_ok (n := 4) h) ?_
  intro o Gf h
  unfold f_I_worthOf at h
  refine Y.blk (pc' := 1) (L' := [some (.ref a0), some (.int a1), some (.int a2), none]) (st' := [.ref a0]) (sg := [(.aload_n 0, 0)]) (lSa_ok dd0) rfl ?_
  refine Y.getA fl_I_23 (lIa_ok dd1) h (fun v1 h => ?_)
  refine Y.blk (pc' := 5) (L' := [some (.ref a0), some (.int a1), some (.int a2), none]) (st' := [.int a1, .ref v1]) (sg := [(.iload_n 1, 0)]) (lSa_ok dd2) rfl ?_
  obtain ⟨_, o3, e2, m4, h⟩ := gOb_inv h
  refine Y.callI (yC.Vi (b := v1) (As := [.int a1]) (st := []) (r := ("Partlister$Numbers", T_N, 1)) hV.1 cb_N_read lk_I_39 in_N_read rfl se_N_read (lIa_ok dd3) rfl rfl (Nat.le_of_ble_eq_true rfl) (by decide) e2 m4) (k_N_read hV G v1 a1) h (fun v6 G5 _ h => ?_)
  refine Y.blk (pc' := 10) (L' := [some (.ref a0), some (.int a1), some (.int a2), some (.int v6)]) (st' := [.int a2]) (sg := [(.istore_n 3, 0), (.iload_n 2, 0)]) (lSa_ok dd4) rfl ?_
  refine Y.swC (j := 0) (off := 26) (tgt := 36) (dflt := 52) (lo := 0) (hi := 2) (offs := #[26, 28, 46]) (len := 26) (by decide +kernel) (by decide) (by decide) (by decide) h (fun c7 h => ?_) (fun c7 h => ?_)
  · refine Y.blk (pc' := 37) (L' := [some (.ref a0), some (.int a1), some (.int a2), some (.int v6)]) (st' := [.int v6]) (sg := [(.iload_n 3, 0)]) (lSa_ok dd5) rfl ?_
    exact Y.iret rfl (lIa_ok dd6) h
  refine Y.swC (j := 1) (off := 28) (tgt := 38) (dflt := 52) (lo := 0) (hi := 2) (offs := #[26, 28, 46]) (len := 26) (by decide +kernel) (by decide) (by decide) (by decide) h (fun c20 h => ?_) (fun c20 h => ?_)
  · refine Y.blk (pc' := 39) (L' := [some (.ref a0), some (.int a1), some (.int a2), some (.int v6)]) (st' := [.ref a0]) (sg := [(.aload_n 0, 0)]) (lSa_ok dd7) rfl ?_
    refine Y.getA fl_I_29 (lIa_ok dd8) h (fun v8 h => ?_)
    refine Y.blk (pc' := 43) (L' := [some (.ref a0), some (.int a1), some (.int a2), some (.int v6)]) (st' := [.int a1, .ref v8]) (sg := [(.iload_n 1, 0)]) (lSa_ok dd9) rfl ?_
    obtain ⟨_, o10, e9, m11, h⟩ := gOb_inv h
    refine Y.callI (yC.Vi (b := v8) (As := [.int a1]) (st := []) (r := ("Partlister$Numbers", T_N, 1)) hV.1 cb_N_read lk_I_39 in_N_read rfl se_N_read (lIa_ok dd10) rfl rfl (Nat.le_of_ble_eq_true rfl) (by decide) e9 m11) (k_N_read hV G5 v8 a1) h (fun v13 G12 _ h => ?_)
    refine Y.blk (pc' := 47) (L' := [some (.ref a0), some (.int a1), some (.int a2), some (.int v6)]) (st' := [.ref a0, .int v13]) (sg := [(.aload_n 0, 0)]) (lSa_ok dd11) rfl ?_
    refine Y.getA fl_I_29 (lIa_ok dd12) h (fun v14 h => ?_)
    refine Y.blk (pc' := 51) (L' := [some (.ref a0), some (.int a1), some (.int a2), some (.int v6)]) (st' := [.int v6, .ref v14, .int v13]) (sg := [(.iload_n 3, 0)]) (lSa_ok dd13) rfl ?_
    obtain ⟨_, o16, e15, m17, h⟩ := gOb_inv h
    refine Y.callI (yC.Vi (b := v14) (As := [.int v6]) (st := [.int v13]) (r := ("Partlister$Numbers", T_N, 1)) hV.1 cb_N_read lk_I_39 in_N_read rfl se_N_read (lIa_ok dd14) rfl rfl (Nat.le_of_ble_eq_true rfl) (by decide) e15 m17) (k_N_read hV G12 v14 v6) h (fun v19 G18 _ h => ?_)
    refine Y.blk (pc' := 55) (L' := [some (.ref a0), some (.int a1), some (.int a2), some (.int v6)]) (st' := [.int (v13 - v19)]) (sg := [(.isub, 0)]) (lSa_ok dd15) rfl ?_
    exact Y.iret rfl (lIa_ok dd16) h
  refine Y.swC (j := 2) (off := 46) (tgt := 56) (dflt := 52) (lo := 0) (hi := 2) (offs := #[26, 28, 46]) (len := 26) (by decide +kernel) (by decide) (by decide) (by decide) h (fun c26 h => ?_) (fun c26 h => ?_)
  · refine Y.blk (pc' := 58) (L' := [some (.ref a0), some (.int a1), some (.int a2), some (.int v6)]) (st' := [.int a1, .ref a0]) (sg := [(.aload_n 0, 0), (.iload_n 1, 0)]) (lSa_ok dd17) rfl ?_
    obtain ⟨_, o22, e21, m23, h⟩ := gOb_inv h
    refine Y.callI (yC.Vi (b := a0) (As := [.int a1]) (st := []) (r := ("Partlister$Lists", T_I, 7)) hV.1 cb_I_rowOf lk_I_56 in_I_rowOf rfl se_I_rowOf (lIa_ok dd18) rfl rfl (Nat.le_of_ble_eq_true rfl) (by decide) e21 m23) (k_I_rowOf hV G5 a0 a1) h (fun v25 G24 _ h => ?_)
    exact Y.iret rfl (lIa_ok dd19) h
  refine Y.swOut (dflt := 52) (lo := 0) (hi := 2) (offs := #[26, 28, 46]) (len := 26) (tgt := 62) (by decide +kernel) (by omega) (by decide) ?_
  refine Y.blk (pc' := 63) (L' := [some (.ref a0), some (.int a1), some (.int a2), some (.int v6)]) (st' := [.ref a0]) (sg := [(.aload_n 0, 0)]) (lSa_ok dd20) rfl ?_
  refine Y.getA fl_I_29 (lIa_ok dd21) h (fun v27 h => ?_)
  refine Y.blk (pc' := 67) (L' := [some (.ref a0), some (.int a1), some (.int a2), some (.int v6)]) (st' := [.int a1, .ref v27]) (sg := [(.iload_n 1, 0)]) (lSa_ok dd22) rfl ?_
  obtain ⟨_, o29, e28, m30, h⟩ := gOb_inv h
  refine Y.callI (yC.Vi (b := v27) (As := [.int a1]) (st := []) (r := ("Partlister$Numbers", T_N, 1)) hV.1 cb_N_read lk_I_39 in_N_read rfl se_N_read (lIa_ok dd23) rfl rfl (Nat.le_of_ble_eq_true rfl) (by decide) e28 m30) (k_N_read hV G5 v27 a1) h (fun v32 G31 _ h => ?_)
  exact Y.iret rfl (lIa_ok dd24) h

def f_X_mixList_L16 (K63 : gH → Nat → Int32 → Int64 → gR) : Nat → gH → Nat → Int32 → Int64 → Int32 → Int32 → gR
  | 0, _, _, _, _, _, _ => none
  | n + 1, G, x0, x3, x4, x6, x7 =>
    if x6 ≤ x7 then K63 G x0 x3 x4
    else gFA G x0 3 0 fun v7 => gOb G v7 1 fun o9 => bI (f_I_thingAt G v7 x3 x7) fun v12 G11 => bI (f_X_keyOf G11 v12) fun v15 G14 => bL (f_X_mix G14 x4 v15.toInt64) fun v18 G17 => bI (f_X_tagOf G17 v12) fun v21 G20 => bL (f_X_mix G20 v18 v21.toInt64) fun v24 G23 => f_X_mixList_L16 K63 n G23 x0 x3 v24 x6 (x7 + (nI 1))
def f_X_mixList_L188 (K218 : gH → Int64 → gR) : Nat → gH → Nat → Int32 → Int64 → Int32 → gR
  | 0, _, _, _, _, _ => none
  | n + 1, G, x0, x3, x4, x7 =>
    if (nI 4) ≤ x7 then K218 G x4
    else gFA G x0 3 0 fun v92 => gOb G v92 1 fun o94 => bI (f_I_worthOf G v92 x3 x7) fun v97 G96 => bL (f_X_mix G96 x4 v97.toInt64) fun v100 G99 => f_X_mixList_L188 K218 n G99 x0 x3 v100 (x7 + (nI 1))
def f_X_mixList (G : gH) (a0 : Nat) (a1 : Int64) (a3 : Int32) : gR :=
  gFA G a0 3 0 fun v1 => gOb G v1 1 fun o3 => bI (f_I_lengthOf G v1 a3) fun v6 G5 => f_X_mixList_L16 (fun G29 x26 x27 x28 => gFA G29 x26 3 0 fun v30 => gOb G29 v30 1 fun o32 => bI (f_I_hashOf G29 v30 x27) fun v35 G34 => bL (f_X_mix G34 x28 v35.toInt64) fun v38 G37 => gFA G37 x26 3 0 fun v39 => gOb G37 v39 1 fun o41 => bI (f_I_extremeKey G37 v39 x27 (nI 1)) fun v44 G43 => bL (f_X_mix G43 v38 v44.toInt64) fun v47 G46 => gFA G46 x26 3 0 fun v48 => gOb G46 v48 1 fun o50 => bI (f_I_extremeKey G46 v48 x27 (nI 0)) fun v53 G52 => bL (f_X_mix G52 v47 v53.toInt64) fun v56 G55 => gFA G55 x26 3 0 fun v57 => gOb G55 v57 1 fun o59 => bI (f_I_firstOf G55 v57 x27 (nI 7)) fun v62 G61 => bL (f_X_mix G61 v56 v62.toInt64) fun v65 G64 => gFA G64 x26 3 0 fun v66 => gOb G64 v66 1 fun o68 => bI (f_I_lastOf G64 v66 x27 (nI 7)) fun v71 G70 => bL (f_X_mix G70 v65 v71.toInt64) fun v74 G73 => gFA G73 x26 3 0 fun v75 => gOb G73 v75 1 fun o77 => bI (f_I_countOf G73 v75 x27 (nI 7)) fun v80 G79 => bL (f_X_mix G79 v74 v80.toInt64) fun v83 G82 => gOb G82 x26 3 fun o85 => bI (f_X_countSigns G82 x26 x27) fun v88 G87 => bL (f_X_mix G87 v83 v88.toInt64) fun v91 G90 => if x27 < (nI 2) then rL v91 G90
    else f_X_mixList_L188 (fun G103 x102 => rL x102 G103) zFu G90 x26 x27 v91 (nI 0)) zFu G5 a0 a3 a1 v6 (nI 0)
theorem k_X_mixList_L16 {l : Launch} {D : va_G} {B : Nat} {O : State → Heap → Prop} (hV : zG l D B O) {o : gO} {Gf : gH} (K63 : gH → Nat → Int32 → Int64 → gR) (hK63 : ∀ (G : gH) (x0 : Nat) (x3 : Int32) (x4 : Int64), K63 G x0 x3 x4 = some (o, Gf) → Y (zVm l D B O) m_X_mixList 5 o Gf 63 [some (.ref x0), none, none, some (.int x3), some (.long x4), none, none, none, none] [] G) : ∀ (n : Nat) (G : gH) (x0 : Nat) (x3 : Int32) (x4 : Int64) (x6 : Int32) (x7 : Int32), f_X_mixList_L16 K63 n G x0 x3 x4 x6 x7 = some (o, Gf) → Y (zVm l D B O) m_X_mixList 5 o Gf 16 [some (.ref x0), none, none, some (.int x3), some (.long x4), none, some (.int x6), some (.int x7), none] [] G := by
  have hdd : lSa m_X_mixList 16 [(.iload 7, 0), (.iload 6, 0)] = true ∧ lIa m_X_mixList 20 (.if_icmp .ge 43) 3 = true ∧ lSa m_X_mixList 23 [(.aload_n 0, 0)] = true ∧ lIa m_X_mixList 24 (.getfield 10) 3 = true ∧ lSa m_X_mixList 27 [(.iload_n 3, 0), (.iload 7, 0)] = true ∧ lIa m_X_mixList 30 (.invokevirtual 94) 3 = true ∧ lSa m_X_mixList 33 [(.istore 8, 0), (.lload 4, 0), (.iload 8, 0)] = true ∧ lIa m_X_mixList 39 (.invokestatic 97) 3 = true ∧ lSa m_X_mixList 42 [(.i2l, 0)] = true ∧ lIa m_X_mixList 43 (.invokestatic 263) 3 = true ∧ lSa m_X_mixList 46 [(.iload 8, 0)] = true ∧ lIa m_X_mixList 48 (.invokestatic 48) 3 = true ∧ lSa m_X_mixList 51 [(.i2l, 0)] = true ∧ lIa m_X_mixList 52 (.invokestatic 263) 3 = true ∧ lSa m_X_mixList 55 [(.lstore 4, 0), (.iinc 7 1, nI 1)] = true ∧ lIa m_X_mixList 60 (.goto (-44)) 3 = true := by decide +kernel
  refine lA8 hdd (fun dd0 dd1 dd2 dd3 dd4 dd5 dd6 dd7 hdd => ?_)
  obtain ⟨dd8, dd9, dd10, dd11, dd12, dd13, dd14, dd15⟩ := hdd
  intro n
  induction n with
  | zero => intro G x0 x3 x4 x6 x7 h; cases h
  | succ n ih =>
    intro G x0 x3 x4 x6 x7 h
    unfold f_X_mixList_L16 at h
    refine Y.blk (pc' := 20) (L' := [some (.ref x0), none, none, some (.int x3), some (.long x4), none, some (.int x6), some (.int x7), none]) (st' := [.int x6, .int x7]) (sg := [(.iload 7, 0), (.iload 6, 0)]) (lSa_ok dd0) rfl ?_
    refine Y.ic_ge (off := 43) (tgt := 63) (lIa_ok dd1) (by decide) h (fun c25 h => ?_) (fun c25 h => ?_)
    · refine Y.less (L' := [some (.ref x0), none, none, some (.int x3), some (.long x4), none, none, none, none]) (zLe_some (zLe_some (zLe_some (zLe_some (zLe_some (zLe_some (zLe_none (zLe_none (zLe_some (zLe_nil)))))))))) ?_
      exact hK63 G x0 x3 x4 h
    · refine Y.blk (pc' := 24) (L' := [some (.ref x0), none, none, some (.int x3), some (.long x4), none, some (.int x6), some (.int x7), none]) (st' := [.ref x0]) (sg := [(.aload_n 0, 0)]) (lSa_ok dd2) rfl ?_
      refine Y.getA fl_X_10 (lIa_ok dd3) h (fun v7 h => ?_)
      refine Y.blk (pc' := 30) (L' := [some (.ref x0), none, none, some (.int x3), some (.long x4), none, some (.int x6), some (.int x7), none]) (st' := [.int x7, .int x3, .ref v7]) (sg := [(.iload_n 3, 0), (.iload 7, 0)]) (lSa_ok dd4) rfl ?_
      obtain ⟨_, o9, e8, m10, h⟩ := gOb_inv h
      refine Y.callI (yC.Vi (b := v7) (As := [.int x3, .int x7]) (st := []) (r := ("Partlister$Lists", T_I, 7)) hV.1 cb_I_thingAt lk_X_94 in_I_thingAt rfl se_I_thingAt (lIa_ok dd5) rfl rfl (Nat.le_of_ble_eq_true rfl) (by decide) e8 m10) (k_I_thingAt hV G v7 x3 x7) h (fun v12 G11 _ h => ?_)
      refine Y.blk (pc' := 39) (L' := [some (.ref x0), none, none, some (.int x3), some (.long x4), none, some (.int x6), some (.int x7), some (.int v12)]) (st' := [.int v12, .long x4]) (sg := [(.istore 8, 0), (.lload 4, 0), (.iload 8, 0)]) (lSa_ok dd6) rfl ?_
      refine Y.callI (yC.S (As := [.int v12]) (st := [.long x4]) hV.1 cb_X_keyOf lk_X_97 st_X_keyOf (lIa_ok dd7) rfl rfl (Nat.le_of_ble_eq_true rfl) (by decide)) (k_X_keyOf hV G11 v12) h (fun v15 G14 _ h => ?_)
      refine Y.blk (pc' := 43) (L' := [some (.ref x0), none, none, some (.int x3), some (.long x4), none, some (.int x6), some (.int x7), some (.int v12)]) (st' := [.long v15.toInt64, .long x4]) (sg := [(.i2l, 0)]) (lSa_ok dd8) rfl ?_
      refine Y.callL (yC.S (As := [.long x4, .long v15.toInt64]) (st := []) hV.1 cb_X_mix lk_X_263 st_X_mix (lIa_ok dd9) rfl rfl (Nat.le_of_ble_eq_true rfl) (by decide)) (k_X_mix hV G14 x4 v15.toInt64) h (fun v18 G17 _ h => ?_)
      refine Y.blk (pc' := 48) (L' := [some (.ref x0), none, none, some (.int x3), some (.long x4), none, some (.int x6), some (.int x7), some (.int v12)]) (st' := [.int v12, .long v18]) (sg := [(.iload 8, 0)]) (lSa_ok dd10) rfl ?_
      refine Y.callI (yC.S (As := [.int v12]) (st := [.long v18]) hV.1 cb_X_tagOf lk_X_48 st_X_tagOf (lIa_ok dd11) rfl rfl (Nat.le_of_ble_eq_true rfl) (by decide)) (k_X_tagOf hV G17 v12) h (fun v21 G20 _ h => ?_)
      refine Y.blk (pc' := 52) (L' := [some (.ref x0), none, none, some (.int x3), some (.long x4), none, some (.int x6), some (.int x7), some (.int v12)]) (st' := [.long v21.toInt64, .long v18]) (sg := [(.i2l, 0)]) (lSa_ok dd12) rfl ?_
      refine Y.callL (yC.S (As := [.long v18, .long v21.toInt64]) (st := []) hV.1 cb_X_mix lk_X_263 st_X_mix (lIa_ok dd13) rfl rfl (Nat.le_of_ble_eq_true rfl) (by decide)) (k_X_mix hV G20 v18 v21.toInt64) h (fun v24 G23 _ h => ?_)
      refine Y.blk (pc' := 60) (L' := [some (.ref x0), none, none, some (.int x3), some (.long v24), none, some (.int x6), some (.int (x7 + (nI 1))), some (.int v12)]) (st' := []) (sg := [(.lstore 4, 0), (.iinc 7 1, nI 1)]) (lSa_ok dd14) rfl ?_
      refine Y.goto (off := -44) (tgt := 16) (lIa_ok dd15) (by decide) ?_
      refine Y.less (L' := [some (.ref x0), none, none, some (.int x3), some (.long v24), none, some (.int x6), some (.int (x7 + (nI 1))), none]) (zLe_some (zLe_some (zLe_some (zLe_some (zLe_some (zLe_some (zLe_some (zLe_some (zLe_none (zLe_nil)))))))))) ?_
      exact ih G23 x0 x3 v24 x6 (x7 + (nI 1)) h
theorem k_X_mixList_L188 {l : Launch} {D : va_G} {B : Nat} {O : State → Heap → Prop} (hV : zG l D B O) {o : gO} {Gf : gH} (K218 : gH → Int64 → gR) (hK218 : ∀ (G : gH) (x4 : Int64), K218 G x4 = some (o, Gf) → Y (zVm l D B O) m_X_mixList 5 o Gf 218 [none, none, none, none, some (.long x4), none, none, none, none] [] G) : ∀ (n : Nat) (G : gH) (x0 : Nat) (x3 : Int32) (x4 : Int64) (x7 : Int32), f_X_mixList_L188 K218 n G x0 x3 x4 x7 = some (o, Gf) → Y (zVm l D B O) m_X_mixList 5 o Gf 188 [some (.ref x0), none, none, some (.int x3), some (.long x4), none, none, some (.int x7), none] [] G := by
  have hdd : lSa m_X_mixList 188 [(.iload 7, 0), (.iconst 4, nI 4)] = true ∧ lIa m_X_mixList 191 (.if_icmp .ge 27) 3 = true ∧ lSa m_X_mixList 194 [(.lload 4, 0), (.aload_n 0, 0)] = true ∧ lIa m_X_mixList 197 (.getfield 10) 3 = true ∧ lSa m_X_mixList 200 [(.iload_n 3, 0), (.iload 7, 0)] = true ∧ lIa m_X_mixList 203 (.invokevirtual 238) 3 = true ∧ lSa m_X_mixList 206 [(.i2l, 0)] = true ∧ lIa m_X_mixList 207 (.invokestatic 263) 3 = true ∧ lSa m_X_mixList 210 [(.lstore 4, 0), (.iinc 7 1, nI 1)] = true ∧ lIa m_X_mixList 215 (.goto (-27)) 3 = true := by decide +kernel
  refine lA8 hdd (fun dd0 dd1 dd2 dd3 dd4 dd5 dd6 dd7 hdd => ?_)
  obtain ⟨dd8, dd9⟩ := hdd
  intro n
  induction n with
  | zero => intro G x0 x3 x4 x7 h; cases h
  | succ n ih =>
    intro G x0 x3 x4 x7 h
    unfold f_X_mixList_L188 at h
    refine Y.blk (pc' := 191) (L' := [some (.ref x0), none, none, some (.int x3), some (.long x4), none, none, some (.int x7), none]) (st' := [.int (nI 4), .int x7]) (sg := [(.iload 7, 0), (.iconst 4, nI 4)]) (lSa_ok dd0) rfl ?_
    refine Y.ic_ge (off := 27) (tgt := 218) (lIa_ok dd1) (by decide) h (fun c101 h => ?_) (fun c101 h => ?_)
    · refine Y.less (L' := [none, none, none, none, some (.long x4), none, none, none, none]) (zLe_none (zLe_some (zLe_some (zLe_none (zLe_some (zLe_some (zLe_some (zLe_none (zLe_some (zLe_nil)))))))))) ?_
      exact hK218 G x4 h
    · refine Y.blk (pc' := 197) (L' := [some (.ref x0), none, none, some (.int x3), some (.long x4), none, none, some (.int x7), none]) (st' := [.ref x0, .long x4]) (sg := [(.lload 4, 0), (.aload_n 0, 0)]) (lSa_ok dd2) rfl ?_
      refine Y.getA fl_X_10 (lIa_ok dd3) h (fun v92 h => ?_)
      refine Y.blk (pc' := 203) (L' := [some (.ref x0), none, none, some (.int x3), some (.long x4), none, none, some (.int x7), none]) (st' := [.int x7, .int x3, .ref v92, .long x4]) (sg := [(.iload_n 3, 0), (.iload 7, 0)]) (lSa_ok dd4) rfl ?_
      obtain ⟨_, o94, e93, m95, h⟩ := gOb_inv h
      refine Y.callI (yC.Vi (b := v92) (As := [.int x3, .int x7]) (st := [.long x4]) (r := ("Partlister$Lists", T_I, 7)) hV.1 cb_I_worthOf lk_X_238 in_I_worthOf rfl se_I_worthOf (lIa_ok dd5) rfl rfl (Nat.le_of_ble_eq_true rfl) (by decide) e93 m95) (k_I_worthOf hV G v92 x3 x7) h (fun v97 G96 _ h => ?_)
      refine Y.blk (pc' := 207) (L' := [some (.ref x0), none, none, some (.int x3), some (.long x4), none, none, some (.int x7), none]) (st' := [.long v97.toInt64, .long x4]) (sg := [(.i2l, 0)]) (lSa_ok dd6) rfl ?_
      refine Y.callL (yC.S (As := [.long x4, .long v97.toInt64]) (st := []) hV.1 cb_X_mix lk_X_263 st_X_mix (lIa_ok dd7) rfl rfl (Nat.le_of_ble_eq_true rfl) (by decide)) (k_X_mix hV G96 x4 v97.toInt64) h (fun v100 G99 _ h => ?_)
      refine Y.blk (pc' := 215) (L' := [some (.ref x0), none, none, some (.int x3), some (.long v100), none, none, some (.int (x7 + (nI 1))), none]) (st' := []) (sg := [(.lstore 4, 0), (.iinc 7 1, nI 1)]) (lSa_ok dd8) rfl ?_
      refine Y.goto (off := -27) (tgt := 188) (lIa_ok dd9) (by decide) ?_
      exact ih G99 x0 x3 v100 (x7 + (nI 1)) h
theorem k_X_mixList {l : Launch} {D : va_G} {B : Nat} {O : State → Heap → Prop} (hV : zG l D B O) (G : gH) (a0 : Nat) (a1 : Int64) (a3 : Int32) : gMet (zVm l D B O) m_X_mixList 5 [.ref a0, .long a1, .int a3] G (f_X_mixList G a0 a1 a3) := by
  have hdd : lSa m_X_mixList 0 [(.lload_n 1, 0), (.lstore 4, 0), (.aload_n 0, 0)] = true ∧ lIa m_X_mixList 4 (.getfield 10) 3 = true ∧ lSa m_X_mixList 7 [(.iload_n 3, 0)] = true ∧ lIa m_X_mixList 8 (.invokevirtual 34) 3 = true ∧ lSa m_X_mixList 11 [(.istore 6, 0), (.iconst 0, nI 0), (.istore 7, 0)] = true ∧ lSa m_X_mixList 63 [(.lload 4, 0), (.aload_n 0, 0)] = true ∧ lIa m_X_mixList 66 (.getfield 10) 3 = true ∧ lSa m_X_mixList 69 [(.iload_n 3, 0)] = true ∧ lIa m_X_mixList 70 (.invokevirtual 217) 3 = true ∧ lSa m_X_mixList 73 [(.i2l, 0)] = true ∧ lIa m_X_mixList 74 (.invokestatic 263) 3 = true ∧ lSa m_X_mixList 77 [(.lstore 4, 0), (.lload 4, 0), (.aload_n 0, 0)] = true ∧ lIa m_X_mixList 82 (.getfield 10) 3 = true ∧ lSa m_X_mixList 85 [(.iload_n 3, 0), (.iconst 1, nI 1)] = true ∧ lIa m_X_mixList 87 (.invokevirtual 213) 3 = true ∧ lSa m_X_mixList 90 [(.i2l, 0)] = true ∧ lIa m_X_mixList 91 (.invokestatic 263) 3 = true ∧ lSa m_X_mixList 94 [(.lstore 4, 0), (.lload 4, 0), (.aload_n 0, 0)] = true ∧ lIa m_X_mixList 99 (.getfield 10) 3 = true ∧ lSa m_X_mixList 102 [(.iload_n 3, 0), (.iconst 0, nI 0)] = true ∧ lIa m_X_mixList 104 (.invokevirtual 213) 3 = true ∧ lSa m_X_mixList 107 [(.i2l, 0)] = true ∧ lIa m_X_mixList 108 (.invokestatic 263) 3 = true ∧ lSa m_X_mixList 111 [(.lstore 4, 0), (.lload 4, 0), (.aload_n 0, 0)] = true ∧ lIa m_X_mixList 116 (.getfield 10) 3 = true ∧ lSa m_X_mixList 119 [(.iload_n 3, 0), (.bipush 7, nI 7)] = true ∧ lIa m_X_mixList 122 (.invokevirtual 72) 3 = true ∧ lSa m_X_mixList 125 [(.i2l, 0)] = true ∧ lIa m_X_mixList 126 (.invokestatic 263) 3 = true ∧ lSa m_X_mixList 129 [(.lstore 4, 0), (.lload 4, 0), (.aload_n 0, 0)] = true ∧ lIa m_X_mixList 134 (.getfield 10) 3 = true ∧ lSa m_X_mixList 137 [(.iload_n 3, 0), (.bipush 7, nI 7)] = true ∧ lIa m_X_mixList 140 (.invokevirtual 187) 3 = true ∧ lSa m_X_mixList 143 [(.i2l, 0)] = true ∧ lIa m_X_mixList 144 (.invokestatic 263) 3 = true ∧ lSa m_X_mixList 147 [(.lstore 4, 0), (.lload 4, 0), (.aload_n 0, 0)] = true ∧ lIa m_X_mixList 152 (.getfield 10) 3 = true ∧ lSa m_X_mixList 155 [(.iload_n 3, 0), (.bipush 7, nI 7)] = true ∧ lIa m_X_mixList 158 (.invokevirtual 189) 3 = true ∧ lSa m_X_mixList 161 [(.i2l, 0)] = true ∧ lIa m_X_mixList 162 (.invokestatic 263) 3 = true ∧ lSa m_X_mixList 165 [(.lstore 4, 0), (.lload 4, 0), (.aload_n 0, 0), (.iload_n 3, 0)] = true ∧ lIa m_X_mixList 171 (.invokevirtual 323) 3 = true ∧ lSa m_X_mixList 174 [(.i2l, 0)] = true ∧ lIa m_X_mixList 175 (.invokestatic 263) 3 = true ∧ lSa m_X_mixList 178 [(.lstore 4, 0), (.iload_n 3, 0), (.iconst 2, nI 2)] = true ∧ lIa m_X_mixList 182 (.if_icmp .lt 36) 3 = true ∧ lSa m_X_mixList 218 [(.lload 4, 0)] = true ∧ lIa m_X_mixList 220 (.lreturn) 1 = true ∧ lSa m_X_mixList 185 [(.iconst 0, nI 0), (.istore 7, 0)] = true := by decide +kernel
  refine lA8 hdd (fun dd0 dd1 dd2 dd3 dd4 dd5 dd6 dd7 hdd => ?_)
  refine lA8 hdd (fun dd8 dd9 dd10 dd11 dd12 dd13 dd14 dd15 hdd => ?_)
  refine lA8 hdd (fun dd16 dd17 dd18 dd19 dd20 dd21 dd22 dd23 hdd => ?_)
  refine lA8 hdd (fun dd24 dd25 dd26 dd27 dd28 dd29 dd30 dd31 hdd => ?_)
  refine lA8 hdd (fun dd32 dd33 dd34 dd35 dd36 dd37 dd38 dd39 hdd => ?_)
  refine lA8 hdd (fun dd40 dd41 dd42 dd43 dd44 dd45 dd46 dd47 hdd => ?_)
  obtain ⟨dd48, dd49⟩ := hdd
  refine gMet.of (by decide +kernel) (Nat.le_of_ble_eq_true rfl) [some (.ref a0), some (.long a1), none, some (.int a3), none, none, none, none, none] (fun ls h => zEn_ok (n := 9) h) ?_
  intro o Gf h
  unfold f_X_mixList at h
  refine Y.blk (pc' := 4) (L' := [some (.ref a0), some (.long a1), none, some (.int a3), some (.long a1), none, none, none, none]) (st' := [.ref a0]) (sg := [(.lload_n 1, 0), (.lstore 4, 0), (.aload_n 0, 0)]) (lSa_ok dd0) rfl ?_
  refine Y.getA fl_X_10 (lIa_ok dd1) h (fun v1 h => ?_)
  refine Y.blk (pc' := 8) (L' := [some (.ref a0), some (.long a1), none, some (.int a3), some (.long a1), none, none, none, none]) (st' := [.int a3, .ref v1]) (sg := [(.iload_n 3, 0)]) (lSa_ok dd2) rfl ?_
  obtain ⟨_, o3, e2, m4, h⟩ := gOb_inv h
  refine Y.callI (yC.Vi (b := v1) (As := [.int a3]) (st := []) (r := ("Partlister$Lists", T_I, 7)) hV.1 cb_I_lengthOf lk_X_34 in_I_lengthOf rfl se_I_lengthOf (lIa_ok dd3) rfl rfl (Nat.le_of_ble_eq_true rfl) (by decide) e2 m4) (k_I_lengthOf hV G v1 a3) h (fun v6 G5 _ h => ?_)
  refine Y.blk (pc' := 16) (L' := [some (.ref a0), some (.long a1), none, some (.int a3), some (.long a1), none, some (.int v6), some (.int (nI 0)), none]) (st' := []) (sg := [(.istore 6, 0), (.iconst 0, nI 0), (.istore 7, 0)]) (lSa_ok dd4) rfl ?_
  refine Y.less (L' := [some (.ref a0), none, none, some (.int a3), some (.long a1), none, some (.int v6), some (.int (nI 0)), none]) (zLe_some (zLe_none (zLe_some (zLe_some (zLe_some (zLe_some (zLe_some (zLe_some (zLe_some (zLe_nil)))))))))) ?_
  refine k_X_mixList_L16 hV _ ?_  zFu G5 a0 a3 a1 v6 (nI 0) h
  · intro G29 x26 x27 x28 h
    refine Y.blk (pc' := 66) (L' := [some (.ref x26), none, none, some (.int x27), some (.long x28), none, none, none, none]) (st' := [.ref x26, .long x28]) (sg := [(.lload 4, 0), (.aload_n 0, 0)]) (lSa_ok dd5) rfl ?_
    refine Y.getA fl_X_10 (lIa_ok dd6) h (fun v30 h => ?_)
    refine Y.blk (pc' := 70) (L' := [some (.ref x26), none, none, some (.int x27), some (.long x28), none, none, none, none]) (st' := [.int x27, .ref v30, .long x28]) (sg := [(.iload_n 3, 0)]) (lSa_ok dd7) rfl ?_
    obtain ⟨_, o32, e31, m33, h⟩ := gOb_inv h
    refine Y.callI (yC.Vi (b := v30) (As := [.int x27]) (st := [.long x28]) (r := ("Partlister$Lists", T_I, 7)) hV.1 cb_I_hashOf lk_X_217 in_I_hashOf rfl se_I_hashOf (lIa_ok dd8) rfl rfl (Nat.le_of_ble_eq_true rfl) (by decide) e31 m33) (k_I_hashOf hV G29 v30 x27) h (fun v35 G34 _ h => ?_)
    refine Y.blk (pc' := 74) (L' := [some (.ref x26), none, none, some (.int x27), some (.long x28), none, none, none, none]) (st' := [.long v35.toInt64, .long x28]) (sg := [(.i2l, 0)]) (lSa_ok dd9) rfl ?_
    refine Y.callL (yC.S (As := [.long x28, .long v35.toInt64]) (st := []) hV.1 cb_X_mix lk_X_263 st_X_mix (lIa_ok dd10) rfl rfl (Nat.le_of_ble_eq_true rfl) (by decide)) (k_X_mix hV G34 x28 v35.toInt64) h (fun v38 G37 _ h => ?_)
    refine Y.blk (pc' := 82) (L' := [some (.ref x26), none, none, some (.int x27), some (.long v38), none, none, none, none]) (st' := [.ref x26, .long v38]) (sg := [(.lstore 4, 0), (.lload 4, 0), (.aload_n 0, 0)]) (lSa_ok dd11) rfl ?_
    refine Y.getA fl_X_10 (lIa_ok dd12) h (fun v39 h => ?_)
    refine Y.blk (pc' := 87) (L' := [some (.ref x26), none, none, some (.int x27), some (.long v38), none, none, none, none]) (st' := [.int (nI 1), .int x27, .ref v39, .long v38]) (sg := [(.iload_n 3, 0), (.iconst 1, nI 1)]) (lSa_ok dd13) rfl ?_
    obtain ⟨_, o41, e40, m42, h⟩ := gOb_inv h
    refine Y.callI (yC.Vi (b := v39) (As := [.int x27, .int (nI 1)]) (st := [.long v38]) (r := ("Partlister$Lists", T_I, 7)) hV.1 cb_I_extremeKey lk_X_213 in_I_extremeKey rfl se_I_extremeKey (lIa_ok dd14) rfl rfl (Nat.le_of_ble_eq_true rfl) (by decide) e40 m42) (k_I_extremeKey hV G37 v39 x27 (nI 1)) h (fun v44 G43 _ h => ?_)
    refine Y.blk (pc' := 91) (L' := [some (.ref x26), none, none, some (.int x27), some (.long v38), none, none, none, none]) (st' := [.long v44.toInt64, .long v38]) (sg := [(.i2l, 0)]) (lSa_ok dd15) rfl ?_
    refine Y.callL (yC.S (As := [.long v38, .long v44.toInt64]) (st := []) hV.1 cb_X_mix lk_X_263 st_X_mix (lIa_ok dd16) rfl rfl (Nat.le_of_ble_eq_true rfl) (by decide)) (k_X_mix hV G43 v38 v44.toInt64) h (fun v47 G46 _ h => ?_)
    refine Y.blk (pc' := 99) (L' := [some (.ref x26), none, none, some (.int x27), some (.long v47), none, none, none, none]) (st' := [.ref x26, .long v47]) (sg := [(.lstore 4, 0), (.lload 4, 0), (.aload_n 0, 0)]) (lSa_ok dd17) rfl ?_
    refine Y.getA fl_X_10 (lIa_ok dd18) h (fun v48 h => ?_)
    refine Y.blk (pc' := 104) (L' := [some (.ref x26), none, none, some (.int x27), some (.long v47), none, none, none, none]) (st' := [.int (nI 0), .int x27, .ref v48, .long v47]) (sg := [(.iload_n 3, 0), (.iconst 0, nI 0)]) (lSa_ok dd19) rfl ?_
    obtain ⟨_, o50, e49, m51, h⟩ := gOb_inv h
    refine Y.callI (yC.Vi (b := v48) (As := [.int x27, .int (nI 0)]) (st := [.long v47]) (r := ("Partlister$Lists", T_I, 7)) hV.1 cb_I_extremeKey lk_X_213 in_I_extremeKey rfl se_I_extremeKey (lIa_ok dd20) rfl rfl (Nat.le_of_ble_eq_true rfl) (by decide) e49 m51) (k_I_extremeKey hV G46 v48 x27 (nI 0)) h (fun v53 G52 _ h => ?_)
    refine Y.blk (pc' := 108) (L' := [some (.ref x26), none, none, some (.int x27), some (.long v47), none, none, none, none]) (st' := [.long v53.toInt64, .long v47]) (sg := [(.i2l, 0)]) (lSa_ok dd21) rfl ?_
    refine Y.callL (yC.S (As := [.long v47, .long v53.toInt64]) (st := []) hV.1 cb_X_mix lk_X_263 st_X_mix (lIa_ok dd22) rfl rfl (Nat.le_of_ble_eq_true rfl) (by decide)) (k_X_mix hV G52 v47 v53.toInt64) h (fun v56 G55 _ h => ?_)
    refine Y.blk (pc' := 116) (L' := [some (.ref x26), none, none, some (.int x27), some (.long v56), none, none, none, none]) (st' := [.ref x26, .long v56]) (sg := [(.lstore 4, 0), (.lload 4, 0), (.aload_n 0, 0)]) (lSa_ok dd23) rfl ?_
    refine Y.getA fl_X_10 (lIa_ok dd24) h (fun v57 h => ?_)
    refine Y.blk (pc' := 122) (L' := [some (.ref x26), none, none, some (.int x27), some (.long v56), none, none, none, none]) (st' := [.int (nI 7), .int x27, .ref v57, .long v56]) (sg := [(.iload_n 3, 0), (.bipush 7, nI 7)]) (lSa_ok dd25) rfl ?_
    obtain ⟨_, o59, e58, m60, h⟩ := gOb_inv h
    refine Y.callI (yC.Vi (b := v57) (As := [.int x27, .int (nI 7)]) (st := [.long v56]) (r := ("Partlister$Lists", T_I, 7)) hV.1 cb_I_firstOf lk_X_72 in_I_firstOf rfl se_I_firstOf (lIa_ok dd26) rfl rfl (Nat.le_of_ble_eq_true rfl) (by decide) e58 m60) (k_I_firstOf hV G55 v57 x27 (nI 7)) h (fun v62 G61 _ h => ?_)
    refine Y.blk (pc' := 126) (L' := [some (.ref x26), none, none, some (.int x27), some (.long v56), none, none, none, none]) (st' := [.long v62.toInt64, .long v56]) (sg := [(.i2l, 0)]) (lSa_ok dd27) rfl ?_
    refine Y.callL (yC.S (As := [.long v56, .long v62.toInt64]) (st := []) hV.1 cb_X_mix lk_X_263 st_X_mix (lIa_ok dd28) rfl rfl (Nat.le_of_ble_eq_true rfl) (by decide)) (k_X_mix hV G61 v56 v62.toInt64) h (fun v65 G64 _ h => ?_)
    refine Y.blk (pc' := 134) (L' := [some (.ref x26), none, none, some (.int x27), some (.long v65), none, none, none, none]) (st' := [.ref x26, .long v65]) (sg := [(.lstore 4, 0), (.lload 4, 0), (.aload_n 0, 0)]) (lSa_ok dd29) rfl ?_
    refine Y.getA fl_X_10 (lIa_ok dd30) h (fun v66 h => ?_)
    refine Y.blk (pc' := 140) (L' := [some (.ref x26), none, none, some (.int x27), some (.long v65), none, none, none, none]) (st' := [.int (nI 7), .int x27, .ref v66, .long v65]) (sg := [(.iload_n 3, 0), (.bipush 7, nI 7)]) (lSa_ok dd31) rfl ?_
    obtain ⟨_, o68, e67, m69, h⟩ := gOb_inv h
    refine Y.callI (yC.Vi (b := v66) (As := [.int x27, .int (nI 7)]) (st := [.long v65]) (r := ("Partlister$Lists", T_I, 7)) hV.1 cb_I_lastOf lk_X_187 in_I_lastOf rfl se_I_lastOf (lIa_ok dd32) rfl rfl (Nat.le_of_ble_eq_true rfl) (by decide) e67 m69) (k_I_lastOf hV G64 v66 x27 (nI 7)) h (fun v71 G70 _ h => ?_)
    refine Y.blk (pc' := 144) (L' := [some (.ref x26), none, none, some (.int x27), some (.long v65), none, none, none, none]) (st' := [.long v71.toInt64, .long v65]) (sg := [(.i2l, 0)]) (lSa_ok dd33) rfl ?_
    refine Y.callL (yC.S (As := [.long v65, .long v71.toInt64]) (st := []) hV.1 cb_X_mix lk_X_263 st_X_mix (lIa_ok dd34) rfl rfl (Nat.le_of_ble_eq_true rfl) (by decide)) (k_X_mix hV G70 v65 v71.toInt64) h (fun v74 G73 _ h => ?_)
    refine Y.blk (pc' := 152) (L' := [some (.ref x26), none, none, some (.int x27), some (.long v74), none, none, none, none]) (st' := [.ref x26, .long v74]) (sg := [(.lstore 4, 0), (.lload 4, 0), (.aload_n 0, 0)]) (lSa_ok dd35) rfl ?_
    refine Y.getA fl_X_10 (lIa_ok dd36) h (fun v75 h => ?_)
    refine Y.blk (pc' := 158) (L' := [some (.ref x26), none, none, some (.int x27), some (.long v74), none, none, none, none]) (st' := [.int (nI 7), .int x27, .ref v75, .long v74]) (sg := [(.iload_n 3, 0), (.bipush 7, nI 7)]) (lSa_ok dd37) rfl ?_
    obtain ⟨_, o77, e76, m78, h⟩ := gOb_inv h
    refine Y.callI (yC.Vi (b := v75) (As := [.int x27, .int (nI 7)]) (st := [.long v74]) (r := ("Partlister$Lists", T_I, 7)) hV.1 cb_I_countOf lk_X_189 in_I_countOf rfl se_I_countOf (lIa_ok dd38) rfl rfl (Nat.le_of_ble_eq_true rfl) (by decide) e76 m78) (k_I_countOf hV G73 v75 x27 (nI 7)) h (fun v80 G79 _ h => ?_)
    refine Y.blk (pc' := 162) (L' := [some (.ref x26), none, none, some (.int x27), some (.long v74), none, none, none, none]) (st' := [.long v80.toInt64, .long v74]) (sg := [(.i2l, 0)]) (lSa_ok dd39) rfl ?_
    refine Y.callL (yC.S (As := [.long v74, .long v80.toInt64]) (st := []) hV.1 cb_X_mix lk_X_263 st_X_mix (lIa_ok dd40) rfl rfl (Nat.le_of_ble_eq_true rfl) (by decide)) (k_X_mix hV G79 v74 v80.toInt64) h (fun v83 G82 _ h => ?_)
    refine Y.blk (pc' := 171) (L' := [some (.ref x26), none, none, some (.int x27), some (.long v83), none, none, none, none]) (st' := [.int x27, .ref x26, .long v83]) (sg := [(.lstore 4, 0), (.lload 4, 0), (.aload_n 0, 0), (.iload_n 3, 0)]) (lSa_ok dd41) rfl ?_
    obtain ⟨_, o85, e84, m86, h⟩ := gOb_inv h
    refine Y.callI (yC.Vi (b := x26) (As := [.int x27]) (st := [.long v83]) (r := ("Partlister", T_X, 5)) hV.1 cb_X_countSigns lk_X_323 in_X_countSigns rfl se_X_countSigns (lIa_ok dd42) rfl rfl (Nat.le_of_ble_eq_true rfl) (by decide) e84 m86) (k_X_countSigns hV G82 x26 x27) h (fun v88 G87 _ h => ?_)
    refine Y.blk (pc' := 175) (L' := [some (.ref x26), none, none, some (.int x27), some (.long v83), none, none, none, none]) (st' := [.long v88.toInt64, .long v83]) (sg := [(.i2l, 0)]) (lSa_ok dd43) rfl ?_
    refine Y.callL (yC.S (As := [.long v83, .long v88.toInt64]) (st := []) hV.1 cb_X_mix lk_X_263 st_X_mix (lIa_ok dd44) rfl rfl (Nat.le_of_ble_eq_true rfl) (by decide)) (k_X_mix hV G87 v83 v88.toInt64) h (fun v91 G90 _ h => ?_)
    refine Y.blk (pc' := 182) (L' := [some (.ref x26), none, none, some (.int x27), some (.long v91), none, none, none, none]) (st' := [.int (nI 2), .int x27]) (sg := [(.lstore 4, 0), (.iload_n 3, 0), (.iconst 2, nI 2)]) (lSa_ok dd45) rfl ?_
    refine Y.ic_lt (off := 36) (tgt := 218) (lIa_ok dd46) (by decide) h (fun c104 h => ?_) (fun c104 h => ?_)
    · refine Y.blk (pc' := 220) (L' := [some (.ref x26), none, none, some (.int x27), some (.long v91), none, none, none, none]) (st' := [.long v91]) (sg := [(.lload 4, 0)]) (lSa_ok dd47) rfl ?_
      exact Y.lret rfl (lIa_ok dd48) h
    · refine Y.blk (pc' := 188) (L' := [some (.ref x26), none, none, some (.int x27), some (.long v91), none, none, some (.int (nI 0)), none]) (st' := []) (sg := [(.iconst 0, nI 0), (.istore 7, 0)]) (lSa_ok dd49) rfl ?_
      refine k_X_mixList_L188 hV _ ?_  zFu G90 x26 x27 v91 (nI 0) h
      · intro G103 x102 h
        refine Y.blk (pc' := 220) (L' := [none, none, none, none, some (.long x102), none, none, none, none]) (st' := [.long x102]) (sg := [(.lload 4, 0)]) (lSa_ok dd47) rfl ?_
        exact Y.lret rfl (lIa_ok dd48) h

def f_I_holdsKeys (G : gH) (a0 : Nat) (a1 : Int32) (a2 : Int32) : gR :=
  gOb G a0 1 fun o2 => bI (f_I_keysOf G a0 a2) fun v5 G4 => gOb G4 a0 1 fun o7 => bI (f_I_keysOf G4 a0 a1) fun v10 G9 => if (v5 &&& (v10 ^^^ (-1))) = 0 then rZ (nI 1) G9
  else rZ (nI 0) G9
theorem k_I_holdsKeys {l : Launch} {D : va_G} {B : Nat} {O : State → Heap → Prop} (hV : zG l D B O) (G : gH) (a0 : Nat) (a1 : Int32) (a2 : Int32) : gMet (zVm l D B O) m_I_holdsKeys 5 [.ref a0, .int a1, .int a2] G (f_I_holdsKeys G a0 a1 a2) := by
  have hdd : lSa m_I_holdsKeys 0 [(.aload_n 0, 0), (.iload_n 2, 0)] = true ∧ lIa m_I_holdsKeys 2 (.invokevirtual 104) 3 = true ∧ lSa m_I_holdsKeys 5 [(.aload_n 0, 0), (.iload_n 1, 0)] = true ∧ lIa m_I_holdsKeys 7 (.invokevirtual 104) 3 = true ∧ lSa m_I_holdsKeys 10 [(.iconst (-1), -1), (.ixor, 0), (.iand, 0)] = true ∧ lIa m_I_holdsKeys 13 (.ifCond .ne 7) 3 = true ∧ lSa m_I_holdsKeys 16 [(.iconst 1, nI 1)] = true ∧ lIa m_I_holdsKeys 17 (.goto 4) 3 = true ∧ lIa m_I_holdsKeys 21 (.ireturn) 1 = true ∧ lSa m_I_holdsKeys 20 [(.iconst 0, nI 0)] = true := by decide +kernel
  refine lA8 hdd (fun dd0 dd1 dd2 dd3 dd4 dd5 dd6 dd7 hdd => ?_)
  obtain ⟨dd8, dd9⟩ := hdd
  refine gMet.of (by decide +kernel) (Nat.le_of_ble_eq_true rfl) [some (.ref a0), some (.int a1), some (.int a2)] (fun ls h => zEn_ok (n := 3) h) ?_
  intro o Gf h
  unfold f_I_holdsKeys at h
  refine Y.blk (pc' := 2) (L' := [some (.ref a0), some (.int a1), some (.int a2)]) (st' := [.int a2, .ref a0]) (sg := [(.aload_n 0, 0), (.iload_n 2, 0)]) (lSa_ok dd0) rfl ?_
  obtain ⟨_, o2, e1, m3, h⟩ := gOb_inv h
  refine Y.callI (yC.Vi (b := a0) (As := [.int a2]) (st := []) (r := ("Partlister$Lists", T_I, 7)) hV.1 cb_I_keysOf lk_I_104 in_I_keysOf rfl se_I_keysOf (lIa_ok dd1) rfl rfl (Nat.le_of_ble_eq_true rfl) (by decide) e1 m3) (k_I_keysOf hV G a0 a2) h (fun v5 G4 _ h => ?_)
  refine Y.blk (pc' := 7) (L' := [some (.ref a0), some (.int a1), some (.int a2)]) (st' := [.int a1, .ref a0, .int v5]) (sg := [(.aload_n 0, 0), (.iload_n 1, 0)]) (lSa_ok dd2) rfl ?_
  obtain ⟨_, o7, e6, m8, h⟩ := gOb_inv h
  refine Y.callI (yC.Vi (b := a0) (As := [.int a1]) (st := [.int v5]) (r := ("Partlister$Lists", T_I, 7)) hV.1 cb_I_keysOf lk_I_104 in_I_keysOf rfl se_I_keysOf (lIa_ok dd3) rfl rfl (Nat.le_of_ble_eq_true rfl) (by decide) e6 m8) (k_I_keysOf hV G4 a0 a1) h (fun v10 G9 _ h => ?_)
  refine Y.blk (pc' := 13) (L' := [some (.ref a0), some (.int a1), some (.int a2)]) (st' := [.int (v5 &&& (v10 ^^^ (-1)))]) (sg := [(.iconst (-1), -1), (.ixor, 0), (.iand, 0)]) (lSa_ok dd4) rfl ?_
  refine Y.if_ne (off := 7) (tgt := 20) (lIa_ok dd5) (by decide) h (fun c11 h => ?_) (fun c11 h => ?_)
  · refine Y.blk (pc' := 17) (L' := [some (.ref a0), some (.int a1), some (.int a2)]) (st' := [.int (nI 1)]) (sg := [(.iconst 1, nI 1)]) (lSa_ok dd6) rfl ?_
    refine Y.goto (off := 4) (tgt := 21) (lIa_ok dd7) (by decide) ?_
    exact Y.zret rfl (lIa_ok dd8) h
  · refine Y.blk (pc' := 21) (L' := [some (.ref a0), some (.int a1), some (.int a2)]) (st' := [.int (nI 0)]) (sg := [(.iconst 0, nI 0)]) (lSa_ok dd9) rfl ?_
    exact Y.zret rfl (lIa_ok dd8) h

def f_I_matchFrom_L10 (K36 : gH → gR) (K44 : gH → gR) : Nat → gH → Nat → Int32 → Int32 → Int32 → Int32 → Int32 → gR
  | 0, _, _, _, _, _, _, _ => none
  | n + 1, G, x0, x1, x2, x3, x4, x5 =>
    if x4 ≤ x5 then K44 G
    else gOb G x0 1 fun o7 => bI (f_I_keyAt G x0 x1 (x2 + x5)) fun v10 G9 => gOb G9 x0 1 fun o12 => bI (f_I_keyAt G9 x0 x3 x5) fun v15 G14 => if v10 = v15 then f_I_matchFrom_L10 K36 K44 n G14 x0 x1 x2 x3 x4 (x5 + (nI 1))
      else K36 G14
def f_I_matchFrom (G : gH) (a0 : Nat) (a1 : Int32) (a2 : Int32) (a3 : Int32) : gR :=
  gOb G a0 1 fun o2 => bI (f_I_lengthOf G a0 a3) fun v5 G4 => f_I_matchFrom_L10 (fun G18 => rZ (nI 0) G18) (fun G19 => rZ (nI 1) G19) zFu G4 a0 a1 a2 a3 v5 (nI 0)
theorem k_I_matchFrom_L10 {l : Launch} {D : va_G} {B : Nat} {O : State → Heap → Prop} (hV : zG l D B O) {o : gO} {Gf : gH} (K36 : gH → gR) (K44 : gH → gR) (hK36 : ∀ (G : gH), K36 G  = some (o, Gf) → Y (zVm l D B O) m_I_matchFrom 4 o Gf 36 [none, none, none, none, none, none] [] G) (hK44 : ∀ (G : gH), K44 G  = some (o, Gf) → Y (zVm l D B O) m_I_matchFrom 4 o Gf 44 [none, none, none, none, none, none] [] G) : ∀ (n : Nat) (G : gH) (x0 : Nat) (x1 : Int32) (x2 : Int32) (x3 : Int32) (x4 : Int32) (x5 : Int32), f_I_matchFrom_L10 K36 K44 n G x0 x1 x2 x3 x4 x5 = some (o, Gf) → Y (zVm l D B O) m_I_matchFrom 4 o Gf 10 [some (.ref x0), some (.int x1), some (.int x2), some (.int x3), some (.int x4), some (.int x5)] [] G := by
  have hdd : lSa m_I_matchFrom 10 [(.iload 5, 0), (.iload 4, 0)] = true ∧ lIa m_I_matchFrom 14 (.if_icmp .ge 30) 3 = true ∧ lSa m_I_matchFrom 17 [(.aload_n 0, 0), (.iload_n 1, 0), (.iload_n 2, 0), (.iload 5, 0), (.iadd, 0)] = true ∧ lIa m_I_matchFrom 23 (.invokevirtual 101) 3 = true ∧ lSa m_I_matchFrom 26 [(.aload_n 0, 0), (.iload_n 3, 0), (.iload 5, 0)] = true ∧ lIa m_I_matchFrom 30 (.invokevirtual 101) 3 = true ∧ lIa m_I_matchFrom 33 (.if_icmp .eq 5) 3 = true ∧ lSa m_I_matchFrom 38 [(.iinc 5 1, nI 1)] = true ∧ lIa m_I_matchFrom 41 (.goto (-31)) 3 = true := by decide +kernel
  refine lA8 hdd (fun dd0 dd1 dd2 dd3 dd4 dd5 dd6 dd7 hdd => ?_)
  have dd8 := hdd
  intro n
  induction n with
  | zero => intro G x0 x1 x2 x3 x4 x5 h; cases h
  | succ n ih =>
    intro G x0 x1 x2 x3 x4 x5 h
    unfold f_I_matchFrom_L10 at h
    refine Y.blk (pc' := 14) (L' := [some (.ref x0), some (.int x1), some (.int x2), some (.int x3), some (.int x4), some (.int x5)]) (st' := [.int x4, .int x5]) (sg := [(.iload 5, 0), (.iload 4, 0)]) (lSa_ok dd0) rfl ?_
    refine Y.ic_ge (off := 30) (tgt := 44) (lIa_ok dd1) (by decide) h (fun c17 h => ?_) (fun c17 h => ?_)
    · refine Y.less (L' := [none, none, none, none, none, none]) (zLe_none (zLe_none (zLe_none (zLe_none (zLe_none (zLe_none (zLe_nil))))))) ?_
      exact hK44 G  h
    · refine Y.blk (pc' := 23) (L' := [some (.ref x0), some (.int x1), some (.int x2), some (.int x3), some (.int x4), some (.int x5)]) (st' := [.int (x2 + x5), .int x1, .ref x0]) (sg := [(.aload_n 0, 0), (.iload_n 1, 0), (.iload_n 2, 0), (.iload 5, 0), (.iadd, 0)]) (lSa_ok dd2) rfl ?_
      obtain ⟨_, o7, e6, m8, h⟩ := gOb_inv h
      refine Y.callI (yC.Vi (b := x0) (As := [.int x1, .int (x2 + x5)]) (st := []) (r := ("Partlister$Lists", T_I, 7)) hV.1 cb_I_keyAt lk_I_101 in_I_keyAt rfl se_I_keyAt (lIa_ok dd3) rfl rfl (Nat.le_of_ble_eq_true rfl) (by decide) e6 m8) (k_I_keyAt hV G x0 x1 (x2 + x5)) h (fun v10 G9 _ h => ?_)
      refine Y.blk (pc' := 30) (L' := [some (.ref x0), some (.int x1), some (.int x2), some (.int x3), some (.int x4), some (.int x5)]) (st' := [.int x5, .int x3, .ref x0, .int v10]) (sg := [(.aload_n 0, 0), (.iload_n 3, 0), (.iload 5, 0)]) (lSa_ok dd4) rfl ?_
      obtain ⟨_, o12, e11, m13, h⟩ := gOb_inv h
      refine Y.callI (yC.Vi (b := x0) (As := [.int x3, .int x5]) (st := [.int v10]) (r := ("Partlister$Lists", T_I, 7)) hV.1 cb_I_keyAt lk_I_101 in_I_keyAt rfl se_I_keyAt (lIa_ok dd5) rfl rfl (Nat.le_of_ble_eq_true rfl) (by decide) e11 m13) (k_I_keyAt hV G9 x0 x3 x5) h (fun v15 G14 _ h => ?_)
      refine Y.ic_eq (off := 5) (tgt := 38) (lIa_ok dd6) (by decide) h (fun c16 h => ?_) (fun c16 h => ?_)
      · refine Y.blk (pc' := 41) (L' := [some (.ref x0), some (.int x1), some (.int x2), some (.int x3), some (.int x4), some (.int (x5 + (nI 1)))]) (st' := []) (sg := [(.iinc 5 1, nI 1)]) (lSa_ok dd7) rfl ?_
        refine Y.goto (off := -31) (tgt := 10) (lIa_ok dd8) (by decide) ?_
        exact ih G14 x0 x1 x2 x3 x4 (x5 + (nI 1)) h
      · refine Y.less (L' := [none, none, none, none, none, none]) (zLe_none (zLe_none (zLe_none (zLe_none (zLe_none (zLe_none (zLe_nil))))))) ?_
        exact hK36 G14  h
theorem k_I_matchFrom {l : Launch} {D : va_G} {B : Nat} {O : State → Heap → Prop} (hV : zG l D B O) (G : gH) (a0 : Nat) (a1 : Int32) (a2 : Int32) (a3 : Int32) : gMet (zVm l D B O) m_I_matchFrom 4 [.ref a0, .int a1, .int a2, .int a3] G (f_I_matchFrom G a0 a1 a2 a3) := by
  have hdd : lSa m_I_matchFrom 0 [(.aload_n 0, 0), (.iload_n 3, 0)] = true ∧ lIa m_I_matchFrom 2 (.invokevirtual 59) 3 = true ∧ lSa m_I_matchFrom 5 [(.istore 4, 0), (.iconst 0, nI 0), (.istore 5, 0)] = true ∧ lSa m_I_matchFrom 36 [(.iconst 0, nI 0)] = true ∧ lIa m_I_matchFrom 37 (.ireturn) 1 = true ∧ lSa m_I_matchFrom 44 [(.iconst 1, nI 1)] = true ∧ lIa m_I_matchFrom 45 (.ireturn) 1 = true := by decide +kernel
  obtain ⟨dd0, dd1, dd2, dd3, dd4, dd5, dd6⟩ := hdd
  refine gMet.of (by decide +kernel) (Nat.le_of_ble_eq_true rfl) [some (.ref a0), some (.int a1), some (.int a2), some (.int a3), none, none] (fun ls h => zEn_ok (n := 6) h) ?_
  intro o Gf h
  unfold f_I_matchFrom at h
  refine Y.blk (pc' := 2) (L' := [some (.ref a0), some (.int a1), some (.int a2), some (.int a3), none, none]) (st' := [.int a3, .ref a0]) (sg := [(.aload_n 0, 0), (.iload_n 3, 0)]) (lSa_ok dd0) rfl ?_
  obtain ⟨_, o2, e1, m3, h⟩ := gOb_inv h
  refine Y.callI (yC.Vi (b := a0) (As := [.int a3]) (st := []) (r := ("Partlister$Lists", T_I, 7)) hV.1 cb_I_lengthOf lk_I_59 in_I_lengthOf rfl se_I_lengthOf (lIa_ok dd1) rfl rfl (Nat.le_of_ble_eq_true rfl) (by decide) e1 m3) (k_I_lengthOf hV G a0 a3) h (fun v5 G4 _ h => ?_)
  refine Y.blk (pc' := 10) (L' := [some (.ref a0), some (.int a1), some (.int a2), some (.int a3), some (.int v5), some (.int (nI 0))]) (st' := []) (sg := [(.istore 4, 0), (.iconst 0, nI 0), (.istore 5, 0)]) (lSa_ok dd2) rfl ?_
  refine k_I_matchFrom_L10 hV _ _ ?_ ?_  zFu G4 a0 a1 a2 a3 v5 (nI 0) h
  · intro G18 h
    refine Y.blk (pc' := 37) (L' := [none, none, none, none, none, none]) (st' := [.int (nI 0)]) (sg := [(.iconst 0, nI 0)]) (lSa_ok dd3) rfl ?_
    exact Y.zret rfl (lIa_ok dd4) h
  · intro G19 h
    refine Y.blk (pc' := 45) (L' := [none, none, none, none, none, none]) (st' := [.int (nI 1)]) (sg := [(.iconst 1, nI 1)]) (lSa_ok dd5) rfl ?_
    exact Y.zret rfl (lIa_ok dd6) h

def f_I_matchWholly (G : gH) (a0 : Nat) (a1 : Int32) (a2 : Int32) : gR :=
  gOb G a0 1 fun o2 => bI (f_I_lengthOf G a0 a1) fun v5 G4 => gOb G4 a0 1 fun o7 => bI (f_I_lengthOf G4 a0 a2) fun v10 G9 => if v5 = v10 then (gOb G9 a0 1 fun o12 => bI (f_I_matchFrom G9 a0 a1 (nI 0) a2) fun v15 G14 => if v15 = 0 then rZ (nI 0) G14
    else rZ (nI 1) G14)
  else rZ (nI 0) G9
theorem k_I_matchWholly {l : Launch} {D : va_G} {B : Nat} {O : State → Heap → Prop} (hV : zG l D B O) (G : gH) (a0 : Nat) (a1 : Int32) (a2 : Int32) : gMet (zVm l D B O) m_I_matchWholly 5 [.ref a0, .int a1, .int a2] G (f_I_matchWholly G a0 a1 a2) := by
  have hdd : lSa m_I_matchWholly 0 [(.aload_n 0, 0), (.iload_n 1, 0)] = true ∧ lIa m_I_matchWholly 2 (.invokevirtual 59) 3 = true ∧ lSa m_I_matchWholly 5 [(.aload_n 0, 0), (.iload_n 2, 0)] = true ∧ lIa m_I_matchWholly 7 (.invokevirtual 59) 3 = true ∧ lIa m_I_matchWholly 10 (.if_icmp .ne 17) 3 = true ∧ lSa m_I_matchWholly 13 [(.aload_n 0, 0), (.iload_n 1, 0), (.iconst 0, nI 0), (.iload_n 2, 0)] = true ∧ lIa m_I_matchWholly 17 (.invokevirtual 107) 3 = true ∧ lIa m_I_matchWholly 20 (.ifCond .eq 7) 3 = true ∧ lSa m_I_matchWholly 27 [(.iconst 0, nI 0)] = true ∧ lIa m_I_matchWholly 28 (.ireturn) 1 = true ∧ lSa m_I_matchWholly 23 [(.iconst 1, nI 1)] = true ∧ lIa m_I_matchWholly 24 (.goto 4) 3 = true := by decide +kernel
  refine lA8 hdd (fun dd0 dd1 dd2 dd3 dd4 dd5 dd6 dd7 hdd => ?_)
  obtain ⟨dd8, dd9, dd10, dd11⟩ := hdd
  refine gMet.of (by decide +kernel) (Nat.le_of_ble_eq_true rfl) [some (.ref a0), some (.int a1), some (.int a2)] (fun ls h => zEn_ok (n := 3) h) ?_
  intro o Gf h
  unfold f_I_matchWholly at h
  refine Y.blk (pc' := 2) (L' := [some (.ref a0), some (.int a1), some (.int a2)]) (st' := [.int a1, .ref a0]) (sg := [(.aload_n 0, 0), (.iload_n 1, 0)]) (lSa_ok dd0) rfl ?_
  obtain ⟨_, o2, e1, m3, h⟩ := gOb_inv h
  refine Y.callI (yC.Vi (b := a0) (As := [.int a1]) (st := []) (r := ("Partlister$Lists", T_I, 7)) hV.1 cb_I_lengthOf lk_I_59 in_I_lengthOf rfl se_I_lengthOf (lIa_ok dd1) rfl rfl (Nat.le_of_ble_eq_true rfl) (by decide) e1 m3) (k_I_lengthOf hV G a0 a1) h (fun v5 G4 _ h => ?_)
  refine Y.blk (pc' := 7) (L' := [some (.ref a0), some (.int a1), some (.int a2)]) (st' := [.int a2, .ref a0, .int v5]) (sg := [(.aload_n 0, 0), (.iload_n 2, 0)]) (lSa_ok dd2) rfl ?_
  obtain ⟨_, o7, e6, m8, h⟩ := gOb_inv h
  refine Y.callI (yC.Vi (b := a0) (As := [.int a2]) (st := [.int v5]) (r := ("Partlister$Lists", T_I, 7)) hV.1 cb_I_lengthOf lk_I_59 in_I_lengthOf rfl se_I_lengthOf (lIa_ok dd3) rfl rfl (Nat.le_of_ble_eq_true rfl) (by decide) e6 m8) (k_I_lengthOf hV G4 a0 a2) h (fun v10 G9 _ h => ?_)
  refine Y.ic_ne (off := 17) (tgt := 27) (lIa_ok dd4) (by decide) h (fun c17 h => ?_) (fun c17 h => ?_)
  · refine Y.blk (pc' := 17) (L' := [some (.ref a0), some (.int a1), some (.int a2)]) (st' := [.int a2, .int (nI 0), .int a1, .ref a0]) (sg := [(.aload_n 0, 0), (.iload_n 1, 0), (.iconst 0, nI 0), (.iload_n 2, 0)]) (lSa_ok dd5) rfl ?_
    obtain ⟨_, o12, e11, m13, h⟩ := gOb_inv h
    refine Y.callI (yC.Vi (b := a0) (As := [.int a1, .int (nI 0), .int a2]) (st := []) (r := ("Partlister$Lists", T_I, 7)) hV.1 cb_I_matchFrom lk_I_107 in_I_matchFrom rfl se_I_matchFrom (lIa_ok dd6) rfl rfl (Nat.le_of_ble_eq_true rfl) (by decide) e11 m13) (k_I_matchFrom hV G9 a0 a1 (nI 0) a2) h (fun v15 G14 _ h => ?_)
    refine Y.if_eq (off := 7) (tgt := 27) (lIa_ok dd7) (by decide) h (fun c16 h => ?_) (fun c16 h => ?_)
    · refine Y.blk (pc' := 28) (L' := [some (.ref a0), some (.int a1), some (.int a2)]) (st' := [.int (nI 0)]) (sg := [(.iconst 0, nI 0)]) (lSa_ok dd8) rfl ?_
      exact Y.zret rfl (lIa_ok dd9) h
    · refine Y.blk (pc' := 24) (L' := [some (.ref a0), some (.int a1), some (.int a2)]) (st' := [.int (nI 1)]) (sg := [(.iconst 1, nI 1)]) (lSa_ok dd10) rfl ?_
      refine Y.goto (off := 4) (tgt := 28) (lIa_ok dd11) (by decide) ?_
      exact Y.zret rfl (lIa_ok dd9) h
  · refine Y.blk (pc' := 28) (L' := [some (.ref a0), some (.int a1), some (.int a2)]) (st' := [.int (nI 0)]) (sg := [(.iconst 0, nI 0)]) (lSa_ok dd8) rfl ?_
    exact Y.zret rfl (lIa_ok dd9) h

def f_I_placeOf_L15 (K32 : gH → Int32 → gR) (K41 : gH → gR) : Nat → gH → Nat → Int32 → Int32 → Int32 → Int32 → gR
  | 0, _, _, _, _, _, _ => none
  | n + 1, G, x0, x1, x2, x3, x4 =>
    if x3 < x4 then K41 G
    else gOb G x0 1 fun o12 => bI (f_I_matchFrom G x0 x1 x4 x2) fun v15 G14 => if v15 = 0 then f_I_placeOf_L15 K32 K41 n G14 x0 x1 x2 x3 (x4 + (nI 1))
      else K32 G14 x4
def f_I_placeOf (G : gH) (a0 : Nat) (a1 : Int32) (a2 : Int32) : gR :=
  gOb G a0 1 fun o2 => bI (f_I_lengthOf G a0 a1) fun v5 G4 => gOb G4 a0 1 fun o7 => bI (f_I_lengthOf G4 a0 a2) fun v10 G9 => f_I_placeOf_L15 (fun G19 x18 => rI x18 G19) (fun G20 => rI (-1) G20) zFu G9 a0 a1 a2 (v5 - v10) (nI 0)
theorem k_I_placeOf_L15 {l : Launch} {D : va_G} {B : Nat} {O : State → Heap → Prop} (hV : zG l D B O) {o : gO} {Gf : gH} (K32 : gH → Int32 → gR) (K41 : gH → gR) (hK32 : ∀ (G : gH) (x4 : Int32), K32 G x4 = some (o, Gf) → Y (zVm l D B O) m_I_placeOf 5 o Gf 32 [none, none, none, none, some (.int x4)] [] G) (hK41 : ∀ (G : gH), K41 G  = some (o, Gf) → Y (zVm l D B O) m_I_placeOf 5 o Gf 41 [none, none, none, none, none] [] G) : ∀ (n : Nat) (G : gH) (x0 : Nat) (x1 : Int32) (x2 : Int32) (x3 : Int32) (x4 : Int32), f_I_placeOf_L15 K32 K41 n G x0 x1 x2 x3 x4 = some (o, Gf) → Y (zVm l D B O) m_I_placeOf 5 o Gf 15 [some (.ref x0), some (.int x1), some (.int x2), some (.int x3), some (.int x4)] [] G := by
  have hdd : lSa m_I_placeOf 15 [(.iload 4, 0), (.iload_n 3, 0)] = true ∧ lIa m_I_placeOf 18 (.if_icmp .gt 23) 3 = true ∧ lSa m_I_placeOf 21 [(.aload_n 0, 0), (.iload_n 1, 0), (.iload 4, 0), (.iload_n 2, 0)] = true ∧ lIa m_I_placeOf 26 (.invokevirtual 107) 3 = true ∧ lIa m_I_placeOf 29 (.ifCond .eq 6) 3 = true ∧ lSa m_I_placeOf 35 [(.iinc 4 1, nI 1)] = true ∧ lIa m_I_placeOf 38 (.goto (-23)) 3 = true := by decide +kernel
  obtain ⟨dd0, dd1, dd2, dd3, dd4, dd5, dd6⟩ := hdd
  intro n
  induction n with
  | zero => intro G x0 x1 x2 x3 x4 h; cases h
  | succ n ih =>
    intro G x0 x1 x2 x3 x4 h
    unfold f_I_placeOf_L15 at h
    refine Y.blk (pc' := 18) (L' := [some (.ref x0), some (.int x1), some (.int x2), some (.int x3), some (.int x4)]) (st' := [.int x3, .int x4]) (sg := [(.iload 4, 0), (.iload_n 3, 0)]) (lSa_ok dd0) rfl ?_
    refine Y.ic_gt (off := 23) (tgt := 41) (lIa_ok dd1) (by decide) h (fun c17 h => ?_) (fun c17 h => ?_)
    · refine Y.less (L' := [none, none, none, none, none]) (zLe_none (zLe_none (zLe_none (zLe_none (zLe_none (zLe_nil)))))) ?_
      exact hK41 G  h
    · refine Y.blk (pc' := 26) (L' := [some (.ref x0), some (.int x1), some (.int x2), some (.int x3), some (.int x4)]) (st' := [.int x2, .int x4, .int x1, .ref x0]) (sg := [(.aload_n 0, 0), (.iload_n 1, 0), (.iload 4, 0), (.iload_n 2, 0)]) (lSa_ok dd2) rfl ?_
      obtain ⟨_, o12, e11, m13, h⟩ := gOb_inv h
      refine Y.callI (yC.Vi (b := x0) (As := [.int x1, .int x4, .int x2]) (st := []) (r := ("Partlister$Lists", T_I, 7)) hV.1 cb_I_matchFrom lk_I_107 in_I_matchFrom rfl se_I_matchFrom (lIa_ok dd3) rfl rfl (Nat.le_of_ble_eq_true rfl) (by decide) e11 m13) (k_I_matchFrom hV G x0 x1 x4 x2) h (fun v15 G14 _ h => ?_)
      refine Y.if_eq (off := 6) (tgt := 35) (lIa_ok dd4) (by decide) h (fun c16 h => ?_) (fun c16 h => ?_)
      · refine Y.blk (pc' := 38) (L' := [some (.ref x0), some (.int x1), some (.int x2), some (.int x3), some (.int (x4 + (nI 1)))]) (st' := []) (sg := [(.iinc 4 1, nI 1)]) (lSa_ok dd5) rfl ?_
        refine Y.goto (off := -23) (tgt := 15) (lIa_ok dd6) (by decide) ?_
        exact ih G14 x0 x1 x2 x3 (x4 + (nI 1)) h
      · refine Y.less (L' := [none, none, none, none, some (.int x4)]) (zLe_none (zLe_none (zLe_none (zLe_none (zLe_some (zLe_nil)))))) ?_
        exact hK32 G14 x4 h
theorem k_I_placeOf {l : Launch} {D : va_G} {B : Nat} {O : State → Heap → Prop} (hV : zG l D B O) (G : gH) (a0 : Nat) (a1 : Int32) (a2 : Int32) : gMet (zVm l D B O) m_I_placeOf 5 [.ref a0, .int a1, .int a2] G (f_I_placeOf G a0 a1 a2) := by
  have hdd : lSa m_I_placeOf 0 [(.aload_n 0, 0), (.iload_n 1, 0)] = true ∧ lIa m_I_placeOf 2 (.invokevirtual 59) 3 = true ∧ lSa m_I_placeOf 5 [(.aload_n 0, 0), (.iload_n 2, 0)] = true ∧ lIa m_I_placeOf 7 (.invokevirtual 59) 3 = true ∧ lSa m_I_placeOf 10 [(.isub, 0), (.istore_n 3, 0), (.iconst 0, nI 0), (.istore 4, 0)] = true ∧ lSa m_I_placeOf 32 [(.iload 4, 0)] = true ∧ lIa m_I_placeOf 34 (.ireturn) 1 = true ∧ lSa m_I_placeOf 41 [(.iconst (-1), -1)] = true ∧ lIa m_I_placeOf 42 (.ireturn) 1 = true := by decide +kernel
  refine lA8 hdd (fun dd0 dd1 dd2 dd3 dd4 dd5 dd6 dd7 hdd => ?_)
  have dd8 := hdd
  refine gMet.of (by decide +kernel) (Nat.le_of_ble_eq_true rfl) [some (.ref a0), some (.int a1), some (.int a2), none, none] (fun ls h => zEn_ok (n := 5) h) ?_
  intro o Gf h
  unfold f_I_placeOf at h
  refine Y.blk (pc' := 2) (L' := [some (.ref a0), some (.int a1), some (.int a2), none, none]) (st' := [.int a1, .ref a0]) (sg := [(.aload_n 0, 0), (.iload_n 1, 0)]) (lSa_ok dd0) rfl ?_
  obtain ⟨_, o2, e1, m3, h⟩ := gOb_inv h
  refine Y.callI (yC.Vi (b := a0) (As := [.int a1]) (st := []) (r := ("Partlister$Lists", T_I, 7)) hV.1 cb_I_lengthOf lk_I_59 in_I_lengthOf rfl se_I_lengthOf (lIa_ok dd1) rfl rfl (Nat.le_of_ble_eq_true rfl) (by decide) e1 m3) (k_I_lengthOf hV G a0 a1) h (fun v5 G4 _ h => ?_)
  refine Y.blk (pc' := 7) (L' := [some (.ref a0), some (.int a1), some (.int a2), none, none]) (st' := [.int a2, .ref a0, .int v5]) (sg := [(.aload_n 0, 0), (.iload_n 2, 0)]) (lSa_ok dd2) rfl ?_
  obtain ⟨_, o7, e6, m8, h⟩ := gOb_inv h
  refine Y.callI (yC.Vi (b := a0) (As := [.int a2]) (st := [.int v5]) (r := ("Partlister$Lists", T_I, 7)) hV.1 cb_I_lengthOf lk_I_59 in_I_lengthOf rfl se_I_lengthOf (lIa_ok dd3) rfl rfl (Nat.le_of_ble_eq_true rfl) (by decide) e6 m8) (k_I_lengthOf hV G4 a0 a2) h (fun v10 G9 _ h => ?_)
  refine Y.blk (pc' := 15) (L' := [some (.ref a0), some (.int a1), some (.int a2), some (.int (v5 - v10)), some (.int (nI 0))]) (st' := []) (sg := [(.isub, 0), (.istore_n 3, 0), (.iconst 0, nI 0), (.istore 4, 0)]) (lSa_ok dd4) rfl ?_
  refine k_I_placeOf_L15 hV _ _ ?_ ?_  zFu G9 a0 a1 a2 (v5 - v10) (nI 0) h
  · intro G19 x18 h
    refine Y.blk (pc' := 34) (L' := [none, none, none, none, some (.int x18)]) (st' := [.int x18]) (sg := [(.iload 4, 0)]) (lSa_ok dd5) rfl ?_
    exact Y.iret rfl (lIa_ok dd6) h
  · intro G20 h
    refine Y.blk (pc' := 42) (L' := [none, none, none, none, none]) (st' := [.int (-1)]) (sg := [(.iconst (-1), -1)]) (lSa_ok dd7) rfl ?_
    exact Y.iret rfl (lIa_ok dd8) h
