def f_AL_fastRemove (G : gH) (a0 : Nat) (a1 : Nat) (a2 : Int32) : gR :=
  gFI G a0 9 2 fun v1 => gPut G a0 9 2 (.int (v1 + (nI 1))) fun G2 => gFI G2 a0 9 1 fun v3 => if (v3 - (nI 1)) ≤ a2 then gPut G2 a0 9 1 (.int (v3 - (nI 1))) fun G4 => gStN G4 a1 103 (v3 - (nI 1)) fun G5 => rV G5
  else gCpQ G2 a1 (a2 + (nI 1)) a1 a2 ((v3 - (nI 1)) - a2) fun G6 => gPut G6 a0 9 1 (.int (v3 - (nI 1))) fun G7 => gStN G7 a1 103 (v3 - (nI 1)) fun G8 => rV G8
theorem k_AL_fastRemove {l : Launch} {D : va_G} {B : Nat} {O : State → Heap → Prop} (hV : zG l D B O) (G : gH) (a0 : Nat) (a1 : Nat) (a2 : Int32) : gMet (zVm l D B O) m_AL_fastRemove 2 [.ref a0, .ref a1, .int a2] G (f_AL_fastRemove G a0 a1 a2) := by
  have hdd : lSa m_AL_fastRemove 0 [(.aload_n 0, 0), (.dup, 0)] = true ∧ lIa m_AL_fastRemove 2 (.getfield 63) 3 = true ∧ lSa m_AL_fastRemove 5 [(.iconst 1, nI 1), (.iadd, 0)] = true ∧ lIa m_AL_fastRemove 7 (.putfield 63) 3 = true ∧ lSa m_AL_fastRemove 10 [(.aload_n 0, 0)] = true ∧ lIa m_AL_fastRemove 11 (.getfield 48) 3 = true ∧ lSa m_AL_fastRemove 14 [(.iconst 1, nI 1), (.isub, 0), (.dup, 0), (.istore_n 3, 0), (.iload_n 2, 0)] = true ∧ lIa m_AL_fastRemove 19 (.if_icmp .le 15) 3 = true ∧ lSa m_AL_fastRemove 34 [(.aload_n 1, 0), (.aload_n 0, 0), (.iload_n 3, 0), (.dup_x1, 0)] = true ∧ lIa m_AL_fastRemove 38 (.putfield 48) 3 = true ∧ lSa m_AL_fastRemove 41 [(.aconst_null, 0)] = true ∧ lIa m_AL_fastRemove 42 (.aastore) 1 = true ∧ lIa m_AL_fastRemove 43 (.return_) 1 = true ∧ lSa m_AL_fastRemove 22 [(.aload_n 1, 0), (.iload_n 2, 0), (.iconst 1, nI 1), (.iadd, 0), (.aload_n 1, 0), (.iload_n 2, 0), (.iload_n 3, 0), (.iload_n 2, 0), (.isub, 0)] = true ∧ lIa m_AL_fastRemove 31 (.invokestatic 112) 3 = true := by decide +kernel
  refine lA8 hdd (fun dd0 dd1 dd2 dd3 dd4 dd5 dd6 dd7 hdd => ?_)
  obtain ⟨dd8, dd9, dd10, dd11, dd12, dd13, dd14⟩ := hdd
  refine gMet.of (by decide +kernel) (Nat.le_of_ble_eq_true rfl) [some (.ref a0), some (.ref a1), some (.int a2), none] (fun ls h => zEn_ok (n := 4) h) ?_
  intro o Gf h
  unfold f_AL_fastRemove at h
  refine Y.blk (pc' := 2) (L' := [some (.ref a0), some (.ref a1), some (.int a2), none]) (st' := [.ref a0, .ref a0]) (sg := [(.aload_n 0, 0), (.dup, 0)]) (lSa_ok dd0) rfl ?_
  refine Y.getI fl_AL_63 (lIa_ok dd1) h (fun v1 h => ?_)
  refine Y.blk (pc' := 7) (L' := [some (.ref a0), some (.ref a1), some (.int a2), none]) (st' := [.int (v1 + (nI 1)), .ref a0]) (sg := [(.iconst 1, nI 1), (.iadd, 0)]) (lSa_ok dd2) rfl ?_
  refine Y.putf fl_AL_63 (by decide) rfl rfl (lIa_ok dd3) h (fun G2 _ _ h => ?_)
  refine Y.blk (pc' := 11) (L' := [some (.ref a0), some (.ref a1), some (.int a2), none]) (st' := [.ref a0]) (sg := [(.aload_n 0, 0)]) (lSa_ok dd4) rfl ?_
  refine Y.getI fl_AL_48 (lIa_ok dd5) h (fun v3 h => ?_)
  refine Y.blk (pc' := 19) (L' := [some (.ref a0), some (.ref a1), some (.int a2), some (.int (v3 - (nI 1)))]) (st' := [.int a2, .int (v3 - (nI 1))]) (sg := [(.iconst 1, nI 1), (.isub, 0), (.dup, 0), (.istore_n 3, 0), (.iload_n 2, 0)]) (lSa_ok dd6) rfl ?_
  refine Y.ic_le (off := 15) (tgt := 34) (lIa_ok dd7) (by decide) h (fun c9 h => ?_) (fun c9 h => ?_)
  · refine Y.blk (pc' := 38) (L' := [some (.ref a0), some (.ref a1), some (.int a2), some (.int (v3 - (nI 1)))]) (st' := [.int (v3 - (nI 1)), .ref a0, .int (v3 - (nI 1)), .ref a1]) (sg := [(.aload_n 1, 0), (.aload_n 0, 0), (.iload_n 3, 0), (.dup_x1, 0)]) (lSa_ok dd8) rfl ?_
    refine Y.putf fl_AL_48 (by decide) rfl rfl (lIa_ok dd9) h (fun G4 _ _ h => ?_)
    refine Y.blk (pc' := 42) (L' := [some (.ref a0), some (.ref a1), some (.int a2), some (.int (v3 - (nI 1)))]) (st' := [.null, .int (v3 - (nI 1)), .ref a1]) (sg := [(.aconst_null, 0)]) (lSa_ok dd10) rfl ?_
    refine Y.aastN (t0 := 3) (lIa_ok dd11) rfl (by decide) h (fun G5 _ _ h => ?_)
    exact Y.vret rfl (lIa_ok dd12) h
  · refine Y.blk (pc' := 31) (L' := [some (.ref a0), some (.ref a1), some (.int a2), some (.int (v3 - (nI 1)))]) (st' := [.int ((v3 - (nI 1)) - a2), .int a2, .ref a1, .int (a2 + (nI 1)), .ref a1]) (sg := [(.aload_n 1, 0), (.iload_n 2, 0), (.iconst 1, nI 1), (.iadd, 0), (.aload_n 1, 0), (.iload_n 2, 0), (.iload_n 3, 0), (.iload_n 2, 0), (.isub, 0)]) (lSa_ok dd13) rfl ?_
    refine Y.copyQ (t0 := 3) lk_AL_112 nat_copy st_copy ini_SY (by decide) rfl (Nat.le_of_ble_eq_true rfl) (lIa_ok dd14) rfl ⟨_, rfl, ca_AL⟩ rfl h (fun G6 _ _ h => ?_)
    refine Y.blk (pc' := 38) (L' := [some (.ref a0), some (.ref a1), some (.int a2), some (.int (v3 - (nI 1)))]) (st' := [.int (v3 - (nI 1)), .ref a0, .int (v3 - (nI 1)), .ref a1]) (sg := [(.aload_n 1, 0), (.aload_n 0, 0), (.iload_n 3, 0), (.dup_x1, 0)]) (lSa_ok dd8) rfl ?_
    refine Y.putf fl_AL_48 (by decide) rfl rfl (lIa_ok dd9) h (fun G7 _ _ h => ?_)
    refine Y.blk (pc' := 42) (L' := [some (.ref a0), some (.ref a1), some (.int a2), some (.int (v3 - (nI 1)))]) (st' := [.null, .int (v3 - (nI 1)), .ref a1]) (sg := [(.aconst_null, 0)]) (lSa_ok dd10) rfl ?_
    refine Y.aastN (t0 := 3) (lIa_ok dd11) rfl (by decide) h (fun G8 _ _ h => ?_)
    exact Y.vret rfl (lIa_ok dd12) h

def f_AL_remove (G : gH) (a0 : Nat) (a1 : Int32) : gR :=
  gFI G a0 9 1 fun v1 => bI (f_OB_checkIndex G a1 v1) fun v4 G3 => gFA G3 a0 9 0 fun v5 => gLdq G3 v5 103 a1 (gOb G3 a0 9 fun o8 => bV (f_AL_fastRemove G3 a0 v5 a1) fun G10 => none) fun v6 => gOb G3 a0 9 fun o12 => bV (f_AL_fastRemove G3 a0 v5 a1) fun G14 => rA v6 G14
theorem k_AL_remove {l : Launch} {D : va_G} {B : Nat} {O : State → Heap → Prop} (hV : zG l D B O) (G : gH) (a0 : Nat) (a1 : Int32) : gMet (zVm l D B O) m_AL_remove 4 [.ref a0, .int a1] G (f_AL_remove G a0 a1) := by
  have hdd : lSa m_AL_remove 0 [(.iload_n 1, 0), (.aload_n 0, 0)] = true ∧ lIa m_AL_remove 2 (.getfield 48) 3 = true ∧ lIa m_AL_remove 5 (.invokestatic 118) 3 = true ∧ lSa m_AL_remove 8 [(.pop, 0), (.aload_n 0, 0)] = true ∧ lIa m_AL_remove 10 (.getfield 9) 3 = true ∧ lSa m_AL_remove 13 [(.astore_n 2, 0), (.aload_n 2, 0), (.iload_n 1, 0)] = true ∧ lIa m_AL_remove 16 (.aaload) 1 = true ∧ lSa m_AL_remove 17 [(.astore_n 3, 0), (.aload_n 0, 0), (.aload_n 2, 0), (.iload_n 1, 0)] = true ∧ lIa m_AL_remove 21 (.invokevirtual 144) 3 = true ∧ lSa m_AL_remove 24 [(.aload_n 3, 0)] = true ∧ lIa m_AL_remove 25 (.areturn) 1 = true := by decide +kernel
  refine lA8 hdd (fun dd0 dd1 dd2 dd3 dd4 dd5 dd6 dd7 hdd => ?_)
  obtain ⟨dd8, dd9, dd10⟩ := hdd
  refine gMet.of (by decide +kernel) (Nat.le_of_ble_eq_true rfl) [some (.ref a0), some (.int a1), none, none] (fun ls h => zEn_ok (n := 4) h) ?_
  intro o Gf h
  unfold f_AL_remove at h
  refine Y.blk (pc' := 2) (L' := [some (.ref a0), some (.int a1), none, none]) (st' := [.ref a0, .int a1]) (sg := [(.iload_n 1, 0), (.aload_n 0, 0)]) (lSa_ok dd0) rfl ?_
  refine Y.getI fl_AL_48 (lIa_ok dd1) h (fun v1 h => ?_)
  refine Y.callI (yC.S (As := [.int a1, .int v1]) (st := []) hV.1 cb_OB_checkIndex lk_AL_118 st_OB_checkIndex (lIa_ok dd2) rfl rfl (Nat.le_of_ble_eq_true rfl) (by decide)) (k_OB_checkIndex hV G a1 v1) h (fun v4 G3 _ h => ?_)
  refine Y.blk (pc' := 10) (L' := [some (.ref a0), some (.int a1), none, none]) (st' := [.ref a0]) (sg := [(.pop, 0), (.aload_n 0, 0)]) (lSa_ok dd3) rfl ?_
  refine Y.getA fl_AL_9 (lIa_ok dd4) h (fun v5 h => ?_)
  refine Y.blk (pc' := 16) (L' := [some (.ref a0), some (.int a1), some (.ref v5), none]) (st' := [.int a1, .ref v5]) (sg := [(.astore_n 2, 0), (.aload_n 2, 0), (.iload_n 1, 0)]) (lSa_ok dd5) rfl ?_
  refine Y.aald (t0 := 3) (lIa_ok dd6) rfl h (fun h => ?_) (fun v6 h => ?_)
  · refine Y.blk (pc' := 21) (L' := [some (.ref a0), some (.int a1), some (.ref v5), some (.null)]) (st' := [.int a1, .ref v5, .ref a0]) (sg := [(.astore_n 3, 0), (.aload_n 0, 0), (.aload_n 2, 0), (.iload_n 1, 0)]) (lSa_ok dd7) rfl ?_
    obtain ⟨_, o8, e7, m9, h⟩ := gOb_inv h
    refine Y.callN (yC.Vi (b := a0) (As := [.ref v5, .int a1]) (st := []) (r := ("java/util/ArrayList", T_AL, 3)) hV.1 cb_AL_fastRemove lk_AL_144 in_AL_fastRemove rfl se_AL_fastRemove (lIa_ok dd8) rfl rfl (Nat.le_of_ble_eq_true rfl) (by decide) e7 m9) (k_AL_fastRemove hV G3 a0 v5 a1) h (fun G10 _ h => ?_)
    refine Y.blk (pc' := 25) (L' := [some (.ref a0), some (.int a1), some (.ref v5), some (.null)]) (st' := [.null]) (sg := [(.aload_n 3, 0)]) (lSa_ok dd9) rfl ?_
    cases h
  · refine Y.blk (pc' := 21) (L' := [some (.ref a0), some (.int a1), some (.ref v5), some (.ref v6)]) (st' := [.int a1, .ref v5, .ref a0]) (sg := [(.astore_n 3, 0), (.aload_n 0, 0), (.aload_n 2, 0), (.iload_n 1, 0)]) (lSa_ok dd7) rfl ?_
    obtain ⟨_, o12, e11, m13, h⟩ := gOb_inv h
    refine Y.callN (yC.Vi (b := a0) (As := [.ref v5, .int a1]) (st := []) (r := ("java/util/ArrayList", T_AL, 3)) hV.1 cb_AL_fastRemove lk_AL_144 in_AL_fastRemove rfl se_AL_fastRemove (lIa_ok dd8) rfl rfl (Nat.le_of_ble_eq_true rfl) (by decide) e11 m13) (k_AL_fastRemove hV G3 a0 v5 a1) h (fun G14 _ h => ?_)
    refine Y.blk (pc' := 25) (L' := [some (.ref a0), some (.int a1), some (.ref v5), some (.ref v6)]) (st' := [.ref v6]) (sg := [(.aload_n 3, 0)]) (lSa_ok dd9) rfl ?_
    exact Y.aret rfl (by first | exact Or.inl ⟨_, rfl⟩ | exact Or.inr ⟨_, rfl⟩) (lIa_ok dd10) h

def f_M_take (G : gH) (a0 : Nat) (a1 : Int32) (a2 : Int32) : gR :=
  gOb G a0 6 fun o2 => bA (f_M_row G a0 a1) fun v5 G4 => gOb G4 a0 6 fun o7 => bI (f_M_base zDp G4 a0 a1) fun v10 G9 => gOb G9 v5 9 fun o12 => bA (f_AL_remove G9 v5 (v10 + a2)) fun v15 G14 => gCaA G14 v15 100 (rA v15 G14)
theorem k_M_take {l : Launch} {D : va_G} {B : Nat} {O : State → Heap → Prop} (hV : zG l D B O) (G : gH) (a0 : Nat) (a1 : Int32) (a2 : Int32) : gMet (zVm l D B O) m_M_take 12 [.ref a0, .int a1, .int a2] G (f_M_take G a0 a1 a2) := by
  have hdd : lSa m_M_take 0 [(.aload_n 0, 0), (.iload_n 1, 0)] = true ∧ lIa m_M_take 2 (.invokevirtual 68) 3 = true ∧ lSa m_M_take 5 [(.aload_n 0, 0), (.iload_n 1, 0)] = true ∧ lIa m_M_take 7 (.invokevirtual 54) 3 = true ∧ lSa m_M_take 10 [(.iload_n 2, 0), (.iadd, 0)] = true ∧ lIa m_M_take 12 (.invokevirtual 154) 3 = true ∧ lIa m_M_take 15 (.checkcast 72) 3 = true ∧ lIa m_M_take 18 (.areturn) 1 = true := by decide +kernel
  obtain ⟨dd0, dd1, dd2, dd3, dd4, dd5, dd6, dd7⟩ := hdd
  refine gMet.of (by decide +kernel) (Nat.le_of_ble_eq_true rfl) [some (.ref a0), some (.int a1), some (.int a2)] (fun ls h => zEn_ok (n := 3) h) ?_
  intro o Gf h
  unfold f_M_take at h
  refine Y.blk (pc' := 2) (L' := [some (.ref a0), some (.int a1), some (.int a2)]) (st' := [.int a1, .ref a0]) (sg := [(.aload_n 0, 0), (.iload_n 1, 0)]) (lSa_ok dd0) rfl ?_
  obtain ⟨_, o2, e1, m3, h⟩ := gOb_inv h
  refine Y.callA (yC.Vi (b := a0) (As := [.int a1]) (st := []) (r := ("PartlisterModel", T_M, 9)) hV.1 cb_M_row lk_M_68 in_M_row rfl se_M_row (lIa_ok dd1) rfl rfl (Nat.le_of_ble_eq_true rfl) (by decide) e1 m3) (k_M_row hV G a0 a1) h (fun v5 G4 _ h => ?_)
  refine Y.blk (pc' := 7) (L' := [some (.ref a0), some (.int a1), some (.int a2)]) (st' := [.int a1, .ref a0, .ref v5]) (sg := [(.aload_n 0, 0), (.iload_n 1, 0)]) (lSa_ok dd2) rfl ?_
  obtain ⟨_, o7, e6, m8, h⟩ := gOb_inv h
  refine Y.callI (yC.Vi (b := a0) (As := [.int a1]) (st := [.ref v5]) (r := ("PartlisterModel", T_M, 9)) hV.1 cb_M_base lk_M_54 in_M_base rfl se_M_base (lIa_ok dd3) rfl rfl (Nat.le_of_ble_eq_true rfl) (by decide) e6 m8) (k_M_base zDp hV G4 a0 a1) h (fun v10 G9 _ h => ?_)
  refine Y.blk (pc' := 12) (L' := [some (.ref a0), some (.int a1), some (.int a2)]) (st' := [.int (v10 + a2), .ref v5]) (sg := [(.iload_n 2, 0), (.iadd, 0)]) (lSa_ok dd4) rfl ?_
  obtain ⟨_, o12, e11, m13, h⟩ := gOb_inv h
  refine Y.callA (yC.Vi (b := v5) (As := [.int (v10 + a2)]) (st := []) (r := ("java/util/ArrayList", T_AL, 3)) hV.1 cb_AL_remove lk_M_154 in_AL_remove rfl se_AL_remove (lIa_ok dd5) rfl rfl (Nat.le_of_ble_eq_true rfl) (by decide) e11 m13) (k_AL_remove hV G9 v5 (v10 + a2)) h (fun v15 G14 _ h => ?_)
  refine Y.castA (t0 := 0) (nm := "[I") (lIa_ok dd6) rfl (by decide) ck_M_72 h (fun h => ?_)
  exact Y.aret rfl (by first | exact Or.inl ⟨_, rfl⟩ | exact Or.inr ⟨_, rfl⟩) (lIa_ok dd7) h

def f_M_clear_L25 (K42 : gH → Nat → Int32 → Int32 → gR) : Nat → gH → Nat → Int32 → Int32 → Int32 → gR
  | 0, _, _, _, _, _ => none
  | n + 1, G, x0, x1, x2, x3 =>
    if x3 < 0 then K42 G x0 x1 x2
    else gOb G x0 6 fun o17 => bA (f_M_take G x0 x1 x3) fun v20 G19 => f_M_clear_L25 K42 n G19 x0 x1 x2 (x3 + (-1))
def f_M_clear (G : gH) (a0 : Nat) (a1 : Int32) : gR :=
  gOb G a0 6 fun o2 => bI (f_M_isNoList G a0 a1) fun v5 G4 => gOb G4 a0 6 fun o7 => bI (f_M_start G4 a0 v5 (nI 1)) fun v10 G9 => if v10 = 0 then gOb G9 a0 6 fun o12 => bI (f_M_length G9 a0 a1) fun v15 G14 => f_M_clear_L25 (fun G25 x22 x23 x24 => gOb G25 x22 6 fun o27 => bV (f_M_change G25 x22 x23 (-x24) (-1)) fun G29 => rI x24 G29) zFu G14 a0 a1 v15 (v15 - (nI 1))
  else rI (nI 0) G9
theorem k_M_clear_L25 {l : Launch} {D : va_G} {B : Nat} {O : State → Heap → Prop} (hV : zG l D B O) {o : gO} {Gf : gH} (K42 : gH → Nat → Int32 → Int32 → gR) (hK42 : ∀ (G : gH) (x0 : Nat) (x1 : Int32) (x2 : Int32), K42 G x0 x1 x2 = some (o, Gf) → Y (zVm l D B O) m_M_clear 14 o Gf 42 [some (.ref x0), some (.int x1), some (.int x2), none] [] G) : ∀ (n : Nat) (G : gH) (x0 : Nat) (x1 : Int32) (x2 : Int32) (x3 : Int32), f_M_clear_L25 K42 n G x0 x1 x2 x3 = some (o, Gf) → Y (zVm l D B O) m_M_clear 14 o Gf 25 [some (.ref x0), some (.int x1), some (.int x2), some (.int x3)] [] G := by
  have hdd : lSa m_M_clear 25 [(.iload_n 3, 0)] = true ∧ lIa m_M_clear 26 (.ifCond .lt 16) 3 = true ∧ lSa m_M_clear 29 [(.aload_n 0, 0), (.iload_n 1, 0), (.iload_n 3, 0)] = true ∧ lIa m_M_clear 32 (.invokevirtual 157) 3 = true ∧ lSa m_M_clear 35 [(.pop, 0), (.iinc 3 (-1), -1)] = true ∧ lIa m_M_clear 39 (.goto (-14)) 3 = true := by decide +kernel
  obtain ⟨dd0, dd1, dd2, dd3, dd4, dd5⟩ := hdd
  intro n
  induction n with
  | zero => intro G x0 x1 x2 x3 h; cases h
  | succ n ih =>
    intro G x0 x1 x2 x3 h
    unfold f_M_clear_L25 at h
    refine Y.blk (pc' := 26) (L' := [some (.ref x0), some (.int x1), some (.int x2), some (.int x3)]) (st' := [.int x3]) (sg := [(.iload_n 3, 0)]) (lSa_ok dd0) rfl ?_
    refine Y.if_lt (off := 16) (tgt := 42) (lIa_ok dd1) (by decide) h (fun c21 h => ?_) (fun c21 h => ?_)
    · refine Y.less (L' := [some (.ref x0), some (.int x1), some (.int x2), none]) (zLe_some (zLe_some (zLe_some (zLe_none (zLe_nil))))) ?_
      exact hK42 G x0 x1 x2 h
    · refine Y.blk (pc' := 32) (L' := [some (.ref x0), some (.int x1), some (.int x2), some (.int x3)]) (st' := [.int x3, .int x1, .ref x0]) (sg := [(.aload_n 0, 0), (.iload_n 1, 0), (.iload_n 3, 0)]) (lSa_ok dd2) rfl ?_
      obtain ⟨_, o17, e16, m18, h⟩ := gOb_inv h
      refine Y.callA (yC.Vi (b := x0) (As := [.int x1, .int x3]) (st := []) (r := ("PartlisterModel", T_M, 9)) hV.1 cb_M_take lk_M_157 in_M_take rfl se_M_take (lIa_ok dd3) rfl rfl (Nat.le_of_ble_eq_true rfl) (by decide) e16 m18) (k_M_take hV G x0 x1 x3) h (fun v20 G19 _ h => ?_)
      refine Y.blk (pc' := 39) (L' := [some (.ref x0), some (.int x1), some (.int x2), some (.int (x3 + (-1)))]) (st' := []) (sg := [(.pop, 0), (.iinc 3 (-1), -1)]) (lSa_ok dd4) rfl ?_
      refine Y.goto (off := -14) (tgt := 25) (lIa_ok dd5) (by decide) ?_
      exact ih G19 x0 x1 x2 (x3 + (-1)) h
theorem k_M_clear {l : Launch} {D : va_G} {B : Nat} {O : State → Heap → Prop} (hV : zG l D B O) (G : gH) (a0 : Nat) (a1 : Int32) : gMet (zVm l D B O) m_M_clear 14 [.ref a0, .int a1] G (f_M_clear G a0 a1) := by
  have hdd : lSa m_M_clear 0 [(.aload_n 0, 0), (.aload_n 0, 0), (.iload_n 1, 0)] = true ∧ lIa m_M_clear 3 (.invokevirtual 110) 3 = true ∧ lSa m_M_clear 6 [(.iconst 1, nI 1)] = true ∧ lIa m_M_clear 7 (.invokevirtual 114) 3 = true ∧ lIa m_M_clear 10 (.ifCond .eq 5) 3 = true ∧ lSa m_M_clear 15 [(.aload_n 0, 0), (.iload_n 1, 0)] = true ∧ lIa m_M_clear 17 (.invokevirtual 74) 3 = true ∧ lSa m_M_clear 20 [(.istore_n 2, 0), (.iload_n 2, 0), (.iconst 1, nI 1), (.isub, 0), (.istore_n 3, 0)] = true ∧ lSa m_M_clear 42 [(.aload_n 0, 0), (.iload_n 1, 0), (.iload_n 2, 0), (.ineg, 0), (.iconst (-1), -1)] = true ∧ lIa m_M_clear 47 (.invokevirtual 128) 3 = true ∧ lSa m_M_clear 50 [(.iload_n 2, 0)] = true ∧ lIa m_M_clear 51 (.ireturn) 1 = true ∧ lSa m_M_clear 13 [(.iconst 0, nI 0)] = true ∧ lIa m_M_clear 14 (.ireturn) 1 = true := by decide +kernel
  refine lA8 hdd (fun dd0 dd1 dd2 dd3 dd4 dd5 dd6 dd7 hdd => ?_)
  obtain ⟨dd8, dd9, dd10, dd11, dd12, dd13⟩ := hdd
  refine gMet.of (by decide +kernel) (Nat.le_of_ble_eq_true rfl) [some (.ref a0), some (.int a1), none, none] (fun ls h => zEn_ok (n := 4) h) ?_
  intro o Gf h
  unfold f_M_clear at h
  refine Y.blk (pc' := 3) (L' := [some (.ref a0), some (.int a1), none, none]) (st' := [.int a1, .ref a0, .ref a0]) (sg := [(.aload_n 0, 0), (.aload_n 0, 0), (.iload_n 1, 0)]) (lSa_ok dd0) rfl ?_
  obtain ⟨_, o2, e1, m3, h⟩ := gOb_inv h
  refine Y.callI (yC.Vi (b := a0) (As := [.int a1]) (st := [.ref a0]) (r := ("PartlisterModel", T_M, 9)) hV.1 cb_M_isNoList lk_M_110 in_M_isNoList rfl se_M_isNoList (lIa_ok dd1) rfl rfl (Nat.le_of_ble_eq_true rfl) (by decide) e1 m3) (k_M_isNoList hV G a0 a1) h (fun v5 G4 _ h => ?_)
  refine Y.blk (pc' := 7) (L' := [some (.ref a0), some (.int a1), none, none]) (st' := [.int (nI 1), .int v5, .ref a0]) (sg := [(.iconst 1, nI 1)]) (lSa_ok dd2) rfl ?_
  obtain ⟨_, o7, e6, m8, h⟩ := gOb_inv h
  refine Y.callI (yC.Vi (b := a0) (As := [.int v5, .int (nI 1)]) (st := []) (r := ("PartlisterModel", T_M, 9)) hV.1 cb_M_start lk_M_114 in_M_start rfl se_M_start (lIa_ok dd3) rfl rfl (Nat.le_of_ble_eq_true rfl) (by decide) e6 m8) (k_M_start hV G4 a0 v5 (nI 1)) h (fun v10 G9 _ h => ?_)
  refine Y.if_eq (off := 5) (tgt := 15) (lIa_ok dd4) (by decide) h (fun c30 h => ?_) (fun c30 h => ?_)
  · refine Y.blk (pc' := 17) (L' := [some (.ref a0), some (.int a1), none, none]) (st' := [.int a1, .ref a0]) (sg := [(.aload_n 0, 0), (.iload_n 1, 0)]) (lSa_ok dd5) rfl ?_
    obtain ⟨_, o12, e11, m13, h⟩ := gOb_inv h
    refine Y.callI (yC.Vi (b := a0) (As := [.int a1]) (st := []) (r := ("PartlisterModel", T_M, 9)) hV.1 cb_M_length lk_M_74 in_M_length rfl se_M_length (lIa_ok dd6) rfl rfl (Nat.le_of_ble_eq_true rfl) (by decide) e11 m13) (k_M_length hV G9 a0 a1) h (fun v15 G14 _ h => ?_)
    refine Y.blk (pc' := 25) (L' := [some (.ref a0), some (.int a1), some (.int v15), some (.int (v15 - (nI 1)))]) (st' := []) (sg := [(.istore_n 2, 0), (.iload_n 2, 0), (.iconst 1, nI 1), (.isub, 0), (.istore_n 3, 0)]) (lSa_ok dd7) rfl ?_
    refine k_M_clear_L25 hV _ ?_  zFu G14 a0 a1 v15 (v15 - (nI 1)) h
    · intro G25 x22 x23 x24 h
      refine Y.blk (pc' := 47) (L' := [some (.ref x22), some (.int x23), some (.int x24), none]) (st' := [.int (-1), .int (-x24), .int x23, .ref x22]) (sg := [(.aload_n 0, 0), (.iload_n 1, 0), (.iload_n 2, 0), (.ineg, 0), (.iconst (-1), -1)]) (lSa_ok dd8) rfl ?_
      obtain ⟨_, o27, e26, m28, h⟩ := gOb_inv h
      refine Y.callN (yC.Vi (b := x22) (As := [.int x23, .int (-x24), .int (-1)]) (st := []) (r := ("PartlisterModel", T_M, 9)) hV.1 cb_M_change lk_M_128 in_M_change rfl se_M_change (lIa_ok dd9) rfl rfl (Nat.le_of_ble_eq_true rfl) (by decide) e26 m28) (k_M_change hV G25 x22 x23 (-x24) (-1)) h (fun G29 _ h => ?_)
      refine Y.blk (pc' := 51) (L' := [some (.ref x22), some (.int x23), some (.int x24), none]) (st' := [.int x24]) (sg := [(.iload_n 2, 0)]) (lSa_ok dd10) rfl ?_
      exact Y.iret rfl (lIa_ok dd11) h
  · refine Y.blk (pc' := 14) (L' := [some (.ref a0), some (.int a1), none, none]) (st' := [.int (nI 0)]) (sg := [(.iconst 0, nI 0)]) (lSa_ok dd12) rfl ?_
    exact Y.iret rfl (lIa_ok dd13) h

def f_M_isNoPart (G : gH) (a0 : Nat) (a1 : Int32) : gR :=
  bI (f_M_isIn G a1 (nI 2) (nI 5)) fun v3 G2 => if v3 = 0 then rZ (nI 1) G2
  else gFA G2 a0 6 2 fun v4 => gLdq G2 v4 104 a1 (rZ (nI 1) G2) fun v5 => rZ (nI 0) G2
theorem k_M_isNoPart {l : Launch} {D : va_G} {B : Nat} {O : State → Heap → Prop} (hV : zG l D B O) (G : gH) (a0 : Nat) (a1 : Int32) : gMet (zVm l D B O) m_M_isNoPart 3 [.ref a0, .int a1] G (f_M_isNoPart G a0 a1) := by
  have hdd : lSa m_M_isNoPart 0 [(.iload_n 1, 0), (.iconst 2, nI 2), (.iconst 5, nI 5)] = true ∧ lIa m_M_isNoPart 3 (.invokestatic 40) 3 = true ∧ lIa m_M_isNoPart 6 (.ifCond .eq 12) 3 = true ∧ lSa m_M_isNoPart 18 [(.iconst 1, nI 1)] = true ∧ lIa m_M_isNoPart 19 (.goto 4) 3 = true ∧ lIa m_M_isNoPart 23 (.ireturn) 1 = true ∧ lSa m_M_isNoPart 9 [(.aload_n 0, 0)] = true ∧ lIa m_M_isNoPart 10 (.getfield 18) 3 = true ∧ lSa m_M_isNoPart 13 [(.iload_n 1, 0)] = true ∧ lIa m_M_isNoPart 14 (.aaload) 1 = true ∧ lIa m_M_isNoPart 15 (.ifnonnull 7) 3 = true ∧ lSa m_M_isNoPart 22 [(.iconst 0, nI 0)] = true := by decide +kernel
  refine lA8 hdd (fun dd0 dd1 dd2 dd3 dd4 dd5 dd6 dd7 hdd => ?_)
  obtain ⟨dd8, dd9, dd10, dd11⟩ := hdd
  refine gMet.of (by decide +kernel) (Nat.le_of_ble_eq_true rfl) [some (.ref a0), some (.int a1)] (fun ls h => zEn_ok (n := 2) h) ?_
  intro o Gf h
  unfold f_M_isNoPart at h
  refine Y.blk (pc' := 3) (L' := [some (.ref a0), some (.int a1)]) (st' := [.int (nI 5), .int (nI 2), .int a1]) (sg := [(.iload_n 1, 0), (.iconst 2, nI 2), (.iconst 5, nI 5)]) (lSa_ok dd0) rfl ?_
  refine Y.callI (yC.S (As := [.int a1, .int (nI 2), .int (nI 5)]) (st := []) hV.1 cb_M_isIn lk_M_40 st_M_isIn (lIa_ok dd1) rfl rfl (Nat.le_of_ble_eq_true rfl) (by decide)) (k_M_isIn hV G a1 (nI 2) (nI 5)) h (fun v3 G2 _ h => ?_)
  refine Y.if_eq (off := 12) (tgt := 18) (lIa_ok dd2) (by decide) h (fun c6 h => ?_) (fun c6 h => ?_)
  · refine Y.blk (pc' := 19) (L' := [some (.ref a0), some (.int a1)]) (st' := [.int (nI 1)]) (sg := [(.iconst 1, nI 1)]) (lSa_ok dd3) rfl ?_
    refine Y.goto (off := 4) (tgt := 23) (lIa_ok dd4) (by decide) ?_
    exact Y.zret rfl (lIa_ok dd5) h
  · refine Y.blk (pc' := 10) (L' := [some (.ref a0), some (.int a1)]) (st' := [.ref a0]) (sg := [(.aload_n 0, 0)]) (lSa_ok dd6) rfl ?_
    refine Y.getA fl_M_18 (lIa_ok dd7) h (fun v4 h => ?_)
    refine Y.blk (pc' := 14) (L' := [some (.ref a0), some (.int a1)]) (st' := [.int a1, .ref v4]) (sg := [(.iload_n 1, 0)]) (lSa_ok dd8) rfl ?_
    refine Y.aald (t0 := 4) (lIa_ok dd9) rfl h (fun h => ?_) (fun v5 h => ?_)
    · refine Y.ifnonnull_n (off := 7) (lIa_ok dd10) ?_
      refine Y.blk (pc' := 19) (L' := [some (.ref a0), some (.int a1)]) (st' := [.int (nI 1)]) (sg := [(.iconst 1, nI 1)]) (lSa_ok dd3) rfl ?_
      refine Y.goto (off := 4) (tgt := 23) (lIa_ok dd4) (by decide) ?_
      exact Y.zret rfl (lIa_ok dd5) h
    · refine Y.ifnonnull_r (off := 7) (tgt := 22) (lIa_ok dd10) (by decide) ?_
      refine Y.blk (pc' := 23) (L' := [some (.ref a0), some (.int a1)]) (st' := [.int (nI 0)]) (sg := [(.iconst 0, nI 0)]) (lSa_ok dd11) rfl ?_
      exact Y.zret rfl (lIa_ok dd5) h

def f_M_close (G : gH) (a0 : Nat) (a1 : Int32) : gR :=
  gOb G a0 6 fun o2 => bI (f_M_isNoPart G a0 a1) fun v5 G4 => gOb G4 a0 6 fun o7 => bI (f_M_start G4 a0 v5 (nI 1)) fun v10 G9 => if v10 = 0 then gOb G9 a0 6 fun o12 => bI (f_M_endPart zDp G9 a0 a1) fun v15 G14 => rI v15 G14
  else rI (nI 0) G9
theorem k_M_close {l : Launch} {D : va_G} {B : Nat} {O : State → Heap → Prop} (hV : zG l D B O) (G : gH) (a0 : Nat) (a1 : Int32) : gMet (zVm l D B O) m_M_close 12 [.ref a0, .int a1] G (f_M_close G a0 a1) := by
  have hdd : lSa m_M_close 0 [(.aload_n 0, 0), (.aload_n 0, 0), (.iload_n 1, 0)] = true ∧ lIa m_M_close 3 (.invokevirtual 201) 3 = true ∧ lSa m_M_close 6 [(.iconst 1, nI 1)] = true ∧ lIa m_M_close 7 (.invokevirtual 114) 3 = true ∧ lIa m_M_close 10 (.ifCond .eq 7) 3 = true ∧ lSa m_M_close 17 [(.aload_n 0, 0), (.iload_n 1, 0)] = true ∧ lIa m_M_close 19 (.invokevirtual 86) 3 = true ∧ lIa m_M_close 22 (.ireturn) 1 = true ∧ lSa m_M_close 13 [(.iconst 0, nI 0)] = true ∧ lIa m_M_close 14 (.goto 8) 3 = true := by decide +kernel
  refine lA8 hdd (fun dd0 dd1 dd2 dd3 dd4 dd5 dd6 dd7 hdd => ?_)
  obtain ⟨dd8, dd9⟩ := hdd
  refine gMet.of (by decide +kernel) (Nat.le_of_ble_eq_true rfl) [some (.ref a0), some (.int a1)] (fun ls h => zEn_ok (n := 2) h) ?_
  intro o Gf h
  unfold f_M_close at h
  refine Y.blk (pc' := 3) (L' := [some (.ref a0), some (.int a1)]) (st' := [.int a1, .ref a0, .ref a0]) (sg := [(.aload_n 0, 0), (.aload_n 0, 0), (.iload_n 1, 0)]) (lSa_ok dd0) rfl ?_
  obtain ⟨_, o2, e1, m3, h⟩ := gOb_inv h
  refine Y.callI (yC.Vi (b := a0) (As := [.int a1]) (st := [.ref a0]) (r := ("PartlisterModel", T_M, 9)) hV.1 cb_M_isNoPart lk_M_201 in_M_isNoPart rfl se_M_isNoPart (lIa_ok dd1) rfl rfl (Nat.le_of_ble_eq_true rfl) (by decide) e1 m3) (k_M_isNoPart hV G a0 a1) h (fun v5 G4 _ h => ?_)
  refine Y.blk (pc' := 7) (L' := [some (.ref a0), some (.int a1)]) (st' := [.int (nI 1), .int v5, .ref a0]) (sg := [(.iconst 1, nI 1)]) (lSa_ok dd2) rfl ?_
  obtain ⟨_, o7, e6, m8, h⟩ := gOb_inv h
  refine Y.callI (yC.Vi (b := a0) (As := [.int v5, .int (nI 1)]) (st := []) (r := ("PartlisterModel", T_M, 9)) hV.1 cb_M_start lk_M_114 in_M_start rfl se_M_start (lIa_ok dd3) rfl rfl (Nat.le_of_ble_eq_true rfl) (by decide) e6 m8) (k_M_start hV G4 a0 v5 (nI 1)) h (fun v10 G9 _ h => ?_)
  refine Y.if_eq (off := 7) (tgt := 17) (lIa_ok dd4) (by decide) h (fun c16 h => ?_) (fun c16 h => ?_)
  · refine Y.blk (pc' := 19) (L' := [some (.ref a0), some (.int a1)]) (st' := [.int a1, .ref a0]) (sg := [(.aload_n 0, 0), (.iload_n 1, 0)]) (lSa_ok dd5) rfl ?_
    obtain ⟨_, o12, e11, m13, h⟩ := gOb_inv h
    refine Y.callI (yC.Vi (b := a0) (As := [.int a1]) (st := []) (r := ("PartlisterModel", T_M, 9)) hV.1 cb_M_endPart lk_M_86 in_M_endPart rfl se_M_endPart (lIa_ok dd6) rfl rfl (Nat.le_of_ble_eq_true rfl) (by decide) e11 m13) (k_M_endPart zDp hV G9 a0 a1) h (fun v15 G14 _ h => ?_)
    exact Y.iret rfl (lIa_ok dd7) h
  · refine Y.blk (pc' := 14) (L' := [some (.ref a0), some (.int a1)]) (st' := [.int (nI 0)]) (sg := [(.iconst 0, nI 0)]) (lSa_ok dd8) rfl ?_
    refine Y.goto (off := 8) (tgt := 22) (lIa_ok dd9) (by decide) ?_
    exact Y.iret rfl (lIa_ok dd7) h

def f_M_freeCursor_L2 (K16 : gH → Int32 → gR) (K24 : gH → gR) : Nat → gH → Nat → Int32 → gR
  | 0, _, _, _ => none
  | n + 1, G, x0, x1 =>
    if (nI 3) ≤ x1 then K24 G
    else gFA G x0 6 3 fun v1 => gLdq G v1 105 x1 (K16 G x1) fun v2 => f_M_freeCursor_L2 K16 K24 n G x0 (x1 + (nI 1))
def f_M_freeCursor (G : gH) (a0 : Nat) : gR :=
  f_M_freeCursor_L2 (fun G5 x4 => rI x4 G5) (fun G6 => rI (-1) G6) zFu G a0 (nI 0)
theorem k_M_freeCursor_L2 {l : Launch} {D : va_G} {B : Nat} {O : State → Heap → Prop} (hV : zG l D B O) {o : gO} {Gf : gH} (K16 : gH → Int32 → gR) (K24 : gH → gR) (hK16 : ∀ (G : gH) (x1 : Int32), K16 G x1 = some (o, Gf) → Y (zVm l D B O) m_M_freeCursor 2 o Gf 16 [none, some (.int x1)] [] G) (hK24 : ∀ (G : gH), K24 G  = some (o, Gf) → Y (zVm l D B O) m_M_freeCursor 2 o Gf 24 [none, none] [] G) : ∀ (n : Nat) (G : gH) (x0 : Nat) (x1 : Int32), f_M_freeCursor_L2 K16 K24 n G x0 x1 = some (o, Gf) → Y (zVm l D B O) m_M_freeCursor 2 o Gf 2 [some (.ref x0), some (.int x1)] [] G := by
  have hdd : lSa m_M_freeCursor 2 [(.iload_n 1, 0), (.iconst 3, nI 3)] = true ∧ lIa m_M_freeCursor 4 (.if_icmp .ge 20) 3 = true ∧ lSa m_M_freeCursor 7 [(.aload_n 0, 0)] = true ∧ lIa m_M_freeCursor 8 (.getfield 24) 3 = true ∧ lSa m_M_freeCursor 11 [(.iload_n 1, 0)] = true ∧ lIa m_M_freeCursor 12 (.aaload) 1 = true ∧ lIa m_M_freeCursor 13 (.ifnonnull 5) 3 = true ∧ lSa m_M_freeCursor 18 [(.iinc 1 1, nI 1)] = true ∧ lIa m_M_freeCursor 21 (.goto (-19)) 3 = true := by decide +kernel
  refine lA8 hdd (fun dd0 dd1 dd2 dd3 dd4 dd5 dd6 dd7 hdd => ?_)
  have dd8 := hdd
  intro n
  induction n with
  | zero => intro G x0 x1 h; cases h
  | succ n ih =>
    intro G x0 x1 h
    unfold f_M_freeCursor_L2 at h
    refine Y.blk (pc' := 4) (L' := [some (.ref x0), some (.int x1)]) (st' := [.int (nI 3), .int x1]) (sg := [(.iload_n 1, 0), (.iconst 3, nI 3)]) (lSa_ok dd0) rfl ?_
    refine Y.ic_ge (off := 20) (tgt := 24) (lIa_ok dd1) (by decide) h (fun c3 h => ?_) (fun c3 h => ?_)
    · refine Y.less (L' := [none, none]) (zLe_none (zLe_none (zLe_nil))) ?_
      exact hK24 G  h
    · refine Y.blk (pc' := 8) (L' := [some (.ref x0), some (.int x1)]) (st' := [.ref x0]) (sg := [(.aload_n 0, 0)]) (lSa_ok dd2) rfl ?_
      refine Y.getA fl_M_24 (lIa_ok dd3) h (fun v1 h => ?_)
      refine Y.blk (pc' := 12) (L' := [some (.ref x0), some (.int x1)]) (st' := [.int x1, .ref v1]) (sg := [(.iload_n 1, 0)]) (lSa_ok dd4) rfl ?_
      refine Y.aald (t0 := 5) (lIa_ok dd5) rfl h (fun h => ?_) (fun v2 h => ?_)
      · refine Y.ifnonnull_n (off := 5) (lIa_ok dd6) ?_
        refine Y.less (L' := [none, some (.int x1)]) (zLe_none (zLe_some (zLe_nil))) ?_
        exact hK16 G x1 h
      · refine Y.ifnonnull_r (off := 5) (tgt := 18) (lIa_ok dd6) (by decide) ?_
        refine Y.blk (pc' := 21) (L' := [some (.ref x0), some (.int (x1 + (nI 1)))]) (st' := []) (sg := [(.iinc 1 1, nI 1)]) (lSa_ok dd7) rfl ?_
        refine Y.goto (off := -19) (tgt := 2) (lIa_ok dd8) (by decide) ?_
        exact ih G x0 (x1 + (nI 1)) h
theorem k_M_freeCursor {l : Launch} {D : va_G} {B : Nat} {O : State → Heap → Prop} (hV : zG l D B O) (G : gH) (a0 : Nat) : gMet (zVm l D B O) m_M_freeCursor 2 [.ref a0] G (f_M_freeCursor G a0) := by
  have hdd : lSa m_M_freeCursor 0 [(.iconst 0, nI 0), (.istore_n 1, 0)] = true ∧ lSa m_M_freeCursor 16 [(.iload_n 1, 0)] = true ∧ lIa m_M_freeCursor 17 (.ireturn) 1 = true ∧ lSa m_M_freeCursor 24 [(.iconst (-1), -1)] = true ∧ lIa m_M_freeCursor 25 (.ireturn) 1 = true := by decide +kernel
  obtain ⟨dd0, dd1, dd2, dd3, dd4⟩ := hdd
  refine gMet.of (by decide +kernel) (Nat.le_of_ble_eq_true rfl) [some (.ref a0), none] (fun ls h => zEn_ok (n := 2) h) ?_
  intro o Gf h
  unfold f_M_freeCursor at h
  refine Y.blk (pc' := 2) (L' := [some (.ref a0), some (.int (nI 0))]) (st' := []) (sg := [(.iconst 0, nI 0), (.istore_n 1, 0)]) (lSa_ok dd0) rfl ?_
  refine k_M_freeCursor_L2 hV _ _ ?_ ?_  zFu G a0 (nI 0) h
  · intro G5 x4 h
    refine Y.blk (pc' := 17) (L' := [none, some (.int x4)]) (st' := [.int x4]) (sg := [(.iload_n 1, 0)]) (lSa_ok dd1) rfl ?_
    exact Y.iret rfl (lIa_ok dd2) h
  · intro G6 h
    refine Y.blk (pc' := 25) (L' := [none, none]) (st' := [.int (-1)]) (sg := [(.iconst (-1), -1)]) (lSa_ok dd3) rfl ?_
    exact Y.iret rfl (lIa_ok dd4) h

def f_MC_init (G : gH) (a0 : Nat) : gR :=
  gPut G a0 4 2 (.int (-1)) fun G1 => rV G1
theorem k_MC_init {l : Launch} {D : va_G} {B : Nat} {O : State → Heap → Prop} (hV : zG l D B O) (G : gH) (a0 : Nat) : gMet (zVm l D B O) m_MC_init 2 [.ref a0] G (f_MC_init G a0) := by
  have hdd : lSa m_MC_init 0 [(.aload_n 0, 0)] = true ∧ lIa m_MC_init 1 (.invokespecial 3) 3 = true ∧ lSa m_MC_init 4 [(.aload_n 0, 0), (.iconst (-1), -1)] = true ∧ lIa m_MC_init 6 (.putfield 9) 3 = true ∧ lIa m_MC_init 9 (.return_) 1 = true := by decide +kernel
  obtain ⟨dd0, dd1, dd2, dd3, dd4⟩ := hdd
  refine gMet.of (by decide +kernel) (Nat.le_of_ble_eq_true rfl) [some (.ref a0)] (fun ls h => zEn_ok (n := 1) h) ?_
  intro o Gf h
  unfold f_MC_init at h
  refine Y.blk (pc' := 1) (L' := [some (.ref a0)]) (st' := [.ref a0]) (sg := [(.aload_n 0, 0)]) (lSa_ok dd0) rfl ?_
  refine Y.objInit lk_MC_3 in_OJ_init cw_OJ_init (by decide) rfl (Nat.le_of_ble_eq_true rfl) (lIa_ok dd1) ?_
  refine Y.blk (pc' := 6) (L' := [some (.ref a0)]) (st' := [.int (-1), .ref a0]) (sg := [(.aload_n 0, 0), (.iconst (-1), -1)]) (lSa_ok dd2) rfl ?_
  refine Y.putf fl_MC_9 (by decide) rfl rfl (lIa_ok dd3) h (fun G1 _ _ h => ?_)
  exact Y.vret rfl (lIa_ok dd4) h

def f_M_cursor (G : gH) (a0 : Nat) (a1 : Int32) (a2 : Int32) : gR :=
  gOb G a0 6 fun o2 => bI (f_M_isNoList G a0 a1) fun v5 G4 => gOb G4 a0 6 fun o7 => bI (f_M_start G4 a0 v5 (nI 1)) fun v10 G9 => if v10 = 0 then (gOb G9 a0 6 fun o12 => bI (f_M_length G9 a0 a1) fun v15 G14 => bI (f_M_isIn G14 a2 (nI 0) v15) fun v18 G17 => if v18 = 0 then (gOb G17 a0 6 fun o20 => bI (f_M_refuse G17 a0 (nI 1) (nI 1)) fun v23 G22 => if v23 = 0 then (gOb G22 a0 6 fun o25 => bI (f_M_freeCursor G22 a0) fun v28 G27 => if v28 = (-1) then (gOb G27 a0 6 fun o30 => bI (f_M_refuse G27 a0 (nI 1) (nI 2)) fun v33 G32 => if v33 = 0 then gOb G32 a0 6 fun o35 => bI (f_M_freeCursor G32 a0) fun v38 G37 => gFA G37 a0 6 3 fun v39 => gNewO G37 4 4 [.int 0, .int 0, .int 0, .int 0] fun q40 G41 => bV (f_MC_init G41 q40) fun G43 => gStq G43 v39 105 4 v38 q40 fun G44 => gFA G44 a0 6 3 fun v45 => gLdq G44 v45 105 v38 (none) fun v46 => gPut G44 v46 4 0 (.int a1) fun G47 => gFA G47 a0 6 3 fun v48 => gLdq G47 v48 105 v38 (none) fun v49 => gPut G47 v49 4 1 (.int a2) fun G50 => rI v38 G50
          else rI (nI 0) G32)
        else gOb G27 a0 6 fun o53 => bI (f_M_refuse G27 a0 (nI 0) (nI 2)) fun v56 G55 => if v56 = 0 then gOb G55 a0 6 fun o58 => bI (f_M_freeCursor G55 a0) fun v61 G60 => gFA G60 a0 6 3 fun v62 => gNewO G60 4 4 [.int 0, .int 0, .int 0, .int 0] fun q63 G64 => bV (f_MC_init G64 q63) fun G66 => gStq G66 v62 105 4 v61 q63 fun G67 => gFA G67 a0 6 3 fun v68 => gLdq G67 v68 105 v61 (none) fun v69 => gPut G67 v69 4 0 (.int a1) fun G70 => gFA G70 a0 6 3 fun v71 => gLdq G70 v71 105 v61 (none) fun v72 => gPut G70 v72 4 1 (.int a2) fun G73 => rI v61 G73
          else rI (nI 0) G55)
      else rI (nI 0) G22)
    else gOb G17 a0 6 fun o78 => bI (f_M_refuse G17 a0 (nI 0) (nI 1)) fun v81 G80 => if v81 = 0 then (gOb G80 a0 6 fun o83 => bI (f_M_freeCursor G80 a0) fun v86 G85 => if v86 = (-1) then (gOb G85 a0 6 fun o88 => bI (f_M_refuse G85 a0 (nI 1) (nI 2)) fun v91 G90 => if v91 = 0 then gOb G90 a0 6 fun o93 => bI (f_M_freeCursor G90 a0) fun v96 G95 => gFA G95 a0 6 3 fun v97 => gNewO G95 4 4 [.int 0, .int 0, .int 0, .int 0] fun q98 G99 => bV (f_MC_init G99 q98) fun G101 => gStq G101 v97 105 4 v96 q98 fun G102 => gFA G102 a0 6 3 fun v103 => gLdq G102 v103 105 v96 (none) fun v104 => gPut G102 v104 4 0 (.int a1) fun G105 => gFA G105 a0 6 3 fun v106 => gLdq G105 v106 105 v96 (none) fun v107 => gPut G105 v107 4 1 (.int a2) fun G108 => rI v96 G108
          else rI (nI 0) G90)
        else gOb G85 a0 6 fun o111 => bI (f_M_refuse G85 a0 (nI 0) (nI 2)) fun v114 G113 => if v114 = 0 then gOb G113 a0 6 fun o116 => bI (f_M_freeCursor G113 a0) fun v119 G118 => gFA G118 a0 6 3 fun v120 => gNewO G118 4 4 [.int 0, .int 0, .int 0, .int 0] fun q121 G122 => bV (f_MC_init G122 q121) fun G124 => gStq G124 v120 105 4 v119 q121 fun G125 => gFA G125 a0 6 3 fun v126 => gLdq G125 v126 105 v119 (none) fun v127 => gPut G125 v127 4 0 (.int a1) fun G128 => gFA G128 a0 6 3 fun v129 => gLdq G128 v129 105 v119 (none) fun v130 => gPut G128 v130 4 1 (.int a2) fun G131 => rI v119 G131
          else rI (nI 0) G113)
      else rI (nI 0) G80)
  else rI (nI 0) G9
theorem k_M_cursor {l : Launch} {D : va_G} {B : Nat} {O : State → Heap → Prop} (hV : zG l D B O) (G : gH) (a0 : Nat) (a1 : Int32) (a2 : Int32) : gMet (zVm l D B O) m_M_cursor 6 [.ref a0, .int a1, .int a2] G (f_M_cursor G a0 a1 a2) := by
  have hdd : lSa m_M_cursor 0 [(.aload_n 0, 0), (.aload_n 0, 0), (.iload_n 1, 0)] = true ∧ lIa m_M_cursor 3 (.invokevirtual 110) 3 = true ∧ lSa m_M_cursor 6 [(.iconst 1, nI 1)] = true ∧ lIa m_M_cursor 7 (.invokevirtual 114) 3 = true ∧ lIa m_M_cursor 10 (.ifCond .ne 50) 3 = true ∧ lSa m_M_cursor 13 [(.aload_n 0, 0), (.iload_n 2, 0), (.iconst 0, nI 0), (.aload_n 0, 0), (.iload_n 1, 0)] = true ∧ lIa m_M_cursor 18 (.invokevirtual 74) 3 = true ∧ lIa m_M_cursor 21 (.invokestatic 40) 3 = true ∧ lIa m_M_cursor 24 (.ifCond .ne 7) 3 = true ∧ lSa m_M_cursor 27 [(.iconst 1, nI 1)] = true ∧ lIa m_M_cursor 28 (.goto 4) 3 = true ∧ lSa m_M_cursor 32 [(.iconst 1, nI 1)] = true ∧ lIa m_M_cursor 33 (.invokevirtual 36) 3 = true ∧ lIa m_M_cursor 36 (.ifCond .ne 24) 3 = true ∧ lSa m_M_cursor 39 [(.aload_n 0, 0), (.aload_n 0, 0)] = true ∧ lIa m_M_cursor 41 (.invokevirtual 204) 3 = true ∧ lSa m_M_cursor 44 [(.iconst (-1), -1)] = true ∧ lIa m_M_cursor 45 (.if_icmp .ne 7) 3 = true ∧ lSa m_M_cursor 48 [(.iconst 1, nI 1)] = true ∧ lIa m_M_cursor 49 (.goto 4) 3 = true ∧ lSa m_M_cursor 53 [(.iconst 2, nI 2)] = true ∧ lIa m_M_cursor 54 (.invokevirtual 36) 3 = true ∧ lIa m_M_cursor 57 (.ifCond .eq 5) 3 = true ∧ lSa m_M_cursor 62 [(.aload_n 0, 0)] = true ∧ lIa m_M_cursor 63 (.invokevirtual 204) 3 = true ∧ lSa m_M_cursor 66 [(.istore_n 3, 0), (.aload_n 0, 0)] = true ∧ lIa m_M_cursor 68 (.getfield 24) 3 = true ∧ lSa m_M_cursor 71 [(.iload_n 3, 0)] = true ∧ lIa m_M_cursor 72 (.new 22) 3 = true ∧ lSa m_M_cursor 75 [(.dup, 0)] = true ∧ lIa m_M_cursor 76 (.invokespecial 207) 3 = true ∧ lIa m_M_cursor 79 (.aastore) 1 = true ∧ lSa m_M_cursor 80 [(.aload_n 0, 0)] = true ∧ lIa m_M_cursor 81 (.getfield 24) 3 = true ∧ lSa m_M_cursor 84 [(.iload_n 3, 0)] = true ∧ lIa m_M_cursor 85 (.aaload) 1 = true ∧ lSa m_M_cursor 86 [(.iload_n 1, 0)] = true ∧ lIa m_M_cursor 87 (.putfield 89) 3 = true ∧ lSa m_M_cursor 90 [(.aload_n 0, 0)] = true ∧ lIa m_M_cursor 91 (.getfield 24) 3 = true ∧ lSa m_M_cursor 94 [(.iload_n 3, 0)] = true ∧ lIa m_M_cursor 95 (.aaload) 1 = true ∧ lSa m_M_cursor 96 [(.iload_n 2, 0)] = true ∧ lIa m_M_cursor 97 (.putfield 208) 3 = true ∧ lSa m_M_cursor 100 [(.iload_n 3, 0)] = true ∧ lIa m_M_cursor 101 (.ireturn) 1 = true ∧ lSa m_M_cursor 60 [(.iconst 0, nI 0)] = true ∧ lIa m_M_cursor 61 (.ireturn) 1 = true ∧ lSa m_M_cursor 52 [(.iconst 0, nI 0), (.iconst 2, nI 2)] = true ∧ lSa m_M_cursor 31 [(.iconst 0, nI 0), (.iconst 1, nI 1)] = true := by decide +kernel
  refine lA8 hdd (fun dd0 dd1 dd2 dd3 dd4 dd5 dd6 dd7 hdd => ?_)
  refine lA8 hdd (fun dd8 dd9 dd10 dd11 dd12 dd13 dd14 dd15 hdd => ?_)
  refine lA8 hdd (fun dd16 dd17 dd18 dd19 dd20 dd21 dd22 dd23 hdd => ?_)
  refine lA8 hdd (fun dd24 dd25 dd26 dd27 dd28 dd29 dd30 dd31 hdd => ?_)
  refine lA8 hdd (fun dd32 dd33 dd34 dd35 dd36 dd37 dd38 dd39 hdd => ?_)
  refine lA8 hdd (fun dd40 dd41 dd42 dd43 dd44 dd45 dd46 dd47 hdd => ?_)
  obtain ⟨dd48, dd49⟩ := hdd
  refine gMet.of (by decide +kernel) (Nat.le_of_ble_eq_true rfl) [some (.ref a0), some (.int a1), some (.int a2), none] (fun ls h => zEn_ok (n := 4) h) ?_
  intro o Gf h
  unfold f_M_cursor at h
  refine Y.blk (pc' := 3) (L' := [some (.ref a0), some (.int a1), some (.int a2), none]) (st' := [.int a1, .ref a0, .ref a0]) (sg := [(.aload_n 0, 0), (.aload_n 0, 0), (.iload_n 1, 0)]) (lSa_ok dd0) rfl ?_
  obtain ⟨_, o2, e1, m3, h⟩ := gOb_inv h
  refine Y.callI (yC.Vi (b := a0) (As := [.int a1]) (st := [.ref a0]) (r := ("PartlisterModel", T_M, 9)) hV.1 cb_M_isNoList lk_M_110 in_M_isNoList rfl se_M_isNoList (lIa_ok dd1) rfl rfl (Nat.le_of_ble_eq_true rfl) (by decide) e1 m3) (k_M_isNoList hV G a0 a1) h (fun v5 G4 _ h => ?_)
  refine Y.blk (pc' := 7) (L' := [some (.ref a0), some (.int a1), some (.int a2), none]) (st' := [.int (nI 1), .int v5, .ref a0]) (sg := [(.iconst 1, nI 1)]) (lSa_ok dd2) rfl ?_
  obtain ⟨_, o7, e6, m8, h⟩ := gOb_inv h
  refine Y.callI (yC.Vi (b := a0) (As := [.int v5, .int (nI 1)]) (st := []) (r := ("PartlisterModel", T_M, 9)) hV.1 cb_M_start lk_M_114 in_M_start rfl se_M_start (lIa_ok dd3) rfl rfl (Nat.le_of_ble_eq_true rfl) (by decide) e6 m8) (k_M_start hV G4 a0 v5 (nI 1)) h (fun v10 G9 _ h => ?_)
  refine Y.if_ne (off := 50) (tgt := 60) (lIa_ok dd4) (by decide) h (fun c136 h => ?_) (fun c136 h => ?_)
  · refine Y.blk (pc' := 18) (L' := [some (.ref a0), some (.int a1), some (.int a2), none]) (st' := [.int a1, .ref a0, .int (nI 0), .int a2, .ref a0]) (sg := [(.aload_n 0, 0), (.iload_n 2, 0), (.iconst 0, nI 0), (.aload_n 0, 0), (.iload_n 1, 0)]) (lSa_ok dd5) rfl ?_
    obtain ⟨_, o12, e11, m13, h⟩ := gOb_inv h
    refine Y.callI (yC.Vi (b := a0) (As := [.int a1]) (st := [.int (nI 0), .int a2, .ref a0]) (r := ("PartlisterModel", T_M, 9)) hV.1 cb_M_length lk_M_74 in_M_length rfl se_M_length (lIa_ok dd6) rfl rfl (Nat.le_of_ble_eq_true rfl) (by decide) e11 m13) (k_M_length hV G9 a0 a1) h (fun v15 G14 _ h => ?_)
    refine Y.callI (yC.S (As := [.int a2, .int (nI 0), .int v15]) (st := [.ref a0]) hV.1 cb_M_isIn lk_M_40 st_M_isIn (lIa_ok dd7) rfl rfl (Nat.le_of_ble_eq_true rfl) (by decide)) (k_M_isIn hV G14 a2 (nI 0) v15) h (fun v18 G17 _ h => ?_)
    refine Y.if_ne (off := 7) (tgt := 31) (lIa_ok dd8) (by decide) h (fun c135 h => ?_) (fun c135 h => ?_)
    · refine Y.blk (pc' := 28) (L' := [some (.ref a0), some (.int a1), some (.int a2), none]) (st' := [.int (nI 1), .ref a0]) (sg := [(.iconst 1, nI 1)]) (lSa_ok dd9) rfl ?_
      refine Y.goto (off := 4) (tgt := 32) (lIa_ok dd10) (by decide) ?_
      refine Y.blk (pc' := 33) (L' := [some (.ref a0), some (.int a1), some (.int a2), none]) (st' := [.int (nI 1), .int (nI 1), .ref a0]) (sg := [(.iconst 1, nI 1)]) (lSa_ok dd11) rfl ?_
      obtain ⟨_, o20, e19, m21, h⟩ := gOb_inv h
      refine Y.callI (yC.Vi (b := a0) (As := [.int (nI 1), .int (nI 1)]) (st := []) (r := ("PartlisterModel", T_M, 9)) hV.1 cb_M_refuse lk_M_36 in_M_refuse rfl se_M_refuse (lIa_ok dd12) rfl rfl (Nat.le_of_ble_eq_true rfl) (by decide) e19 m21) (k_M_refuse hV G17 a0 (nI 1) (nI 1)) h (fun v23 G22 _ h => ?_)
      refine Y.if_ne (off := 24) (tgt := 60) (lIa_ok dd13) (by decide) h (fun c76 h => ?_) (fun c76 h => ?_)
      · refine Y.blk (pc' := 41) (L' := [some (.ref a0), some (.int a1), some (.int a2), none]) (st' := [.ref a0, .ref a0]) (sg := [(.aload_n 0, 0), (.aload_n 0, 0)]) (lSa_ok dd14) rfl ?_
        obtain ⟨_, o25, e24, m26, h⟩ := gOb_inv h
        refine Y.callI (yC.Vi (b := a0) (As := []) (st := [.ref a0]) (r := ("PartlisterModel", T_M, 9)) hV.1 cb_M_freeCursor lk_M_204 in_M_freeCursor rfl se_M_freeCursor (lIa_ok dd15) rfl rfl (Nat.le_of_ble_eq_true rfl) (by decide) e24 m26) (k_M_freeCursor hV G22 a0) h (fun v28 G27 _ h => ?_)
        refine Y.blk (pc' := 45) (L' := [some (.ref a0), some (.int a1), some (.int a2), none]) (st' := [.int (-1), .int v28, .ref a0]) (sg := [(.iconst (-1), -1)]) (lSa_ok dd16) rfl ?_
        refine Y.ic_ne (off := 7) (tgt := 52) (lIa_ok dd17) (by decide) h (fun c75 h => ?_) (fun c75 h => ?_)
        · refine Y.blk (pc' := 49) (L' := [some (.ref a0), some (.int a1), some (.int a2), none]) (st' := [.int (nI 1), .ref a0]) (sg := [(.iconst 1, nI 1)]) (lSa_ok dd18) rfl ?_
          refine Y.goto (off := 4) (tgt := 53) (lIa_ok dd19) (by decide) ?_
          refine Y.blk (pc' := 54) (L' := [some (.ref a0), some (.int a1), some (.int a2), none]) (st' := [.int (nI 2), .int (nI 1), .ref a0]) (sg := [(.iconst 2, nI 2)]) (lSa_ok dd20) rfl ?_
          obtain ⟨_, o30, e29, m31, h⟩ := gOb_inv h
          refine Y.callI (yC.Vi (b := a0) (As := [.int (nI 1), .int (nI 2)]) (st := []) (r := ("PartlisterModel", T_M, 9)) hV.1 cb_M_refuse lk_M_36 in_M_refuse rfl se_M_refuse (lIa_ok dd21) rfl rfl (Nat.le_of_ble_eq_true rfl) (by decide) e29 m31) (k_M_refuse hV G27 a0 (nI 1) (nI 2)) h (fun v33 G32 _ h => ?_)
          refine Y.if_eq (off := 5) (tgt := 62) (lIa_ok dd22) (by decide) h (fun c51 h => ?_) (fun c51 h => ?_)
          · refine Y.blk (pc' := 63) (L' := [some (.ref a0), some (.int a1), some (.int a2), none]) (st' := [.ref a0]) (sg := [(.aload_n 0, 0)]) (lSa_ok dd23) rfl ?_
            obtain ⟨_, o35, e34, m36, h⟩ := gOb_inv h
            refine Y.callI (yC.Vi (b := a0) (As := []) (st := []) (r := ("PartlisterModel", T_M, 9)) hV.1 cb_M_freeCursor lk_M_204 in_M_freeCursor rfl se_M_freeCursor (lIa_ok dd24) rfl rfl (Nat.le_of_ble_eq_true rfl) (by decide) e34 m36) (k_M_freeCursor hV G32 a0) h (fun v38 G37 _ h => ?_)
            refine Y.blk (pc' := 68) (L' := [some (.ref a0), some (.int a1), some (.int a2), some (.int v38)]) (st' := [.ref a0]) (sg := [(.istore_n 3, 0), (.aload_n 0, 0)]) (lSa_ok dd25) rfl ?_
            refine Y.getA fl_M_24 (lIa_ok dd26) h (fun v39 h => ?_)
            refine Y.blk (pc' := 72) (L' := [some (.ref a0), some (.int a1), some (.int a2), some (.int v38)]) (st' := [.int v38, .ref v39]) (sg := [(.iload_n 3, 0)]) (lSa_ok dd27) rfl ?_
            refine Y.new nc_M_22 (by decide) bk_MC (lIa_ok dd28) h (fun q40 G41 h => ?_)
            refine Y.blk (pc' := 76) (L' := [some (.ref a0), some (.int a1), some (.int a2), some (.int v38)]) (st' := [.ref q40, .ref q40, .int v38, .ref v39]) (sg := [(.dup, 0)]) (lSa_ok dd29) rfl ?_
            refine Y.callN (yC.IN (b := q40) (As := []) (st := [.ref q40, .int v38, .ref v39]) hV.1 cb_MC_init lk_M_207 in_MC_init rfl rfl (lIa_ok dd30) rfl rfl (Nat.le_of_ble_eq_true rfl) (by decide)) (k_MC_init hV G41 q40) h (fun G43 _ h => ?_)
            refine Y.aast (t0 := 5) (r := ("PartlisterModel$Cursor", T_MC, 4)) (lIa_ok dd31) rfl rfl (by decide) h (fun G44 _ _ h => ?_)
            refine Y.blk (pc' := 81) (L' := [some (.ref a0), some (.int a1), some (.int a2), some (.int v38)]) (st' := [.ref a0]) (sg := [(.aload_n 0, 0)]) (lSa_ok dd32) rfl ?_
            refine Y.getA fl_M_24 (lIa_ok dd33) h (fun v45 h => ?_)
            refine Y.blk (pc' := 85) (L' := [some (.ref a0), some (.int a1), some (.int a2), some (.int v38)]) (st' := [.int v38, .ref v45]) (sg := [(.iload_n 3, 0)]) (lSa_ok dd34) rfl ?_
            refine Y.aald (t0 := 5) (lIa_ok dd35) rfl h (fun h => ?_) (fun v46 h => ?_)
            · refine Y.blk (pc' := 87) (L' := [some (.ref a0), some (.int a1), some (.int a2), some (.int v38)]) (st' := [.int a1, .null]) (sg := [(.iload_n 1, 0)]) (lSa_ok dd36) rfl ?_
              cases h
            · refine Y.blk (pc' := 87) (L' := [some (.ref a0), some (.int a1), some (.int a2), some (.int v38)]) (st' := [.int a1, .ref v46]) (sg := [(.iload_n 1, 0)]) (lSa_ok dd36) rfl ?_
              refine Y.putf fl_M_89 (by decide) rfl rfl (lIa_ok dd37) h (fun G47 _ _ h => ?_)
              refine Y.blk (pc' := 91) (L' := [some (.ref a0), some (.int a1), some (.int a2), some (.int v38)]) (st' := [.ref a0]) (sg := [(.aload_n 0, 0)]) (lSa_ok dd38) rfl ?_
              refine Y.getA fl_M_24 (lIa_ok dd39) h (fun v48 h => ?_)
              refine Y.blk (pc' := 95) (L' := [some (.ref a0), some (.int a1), some (.int a2), some (.int v38)]) (st' := [.int v38, .ref v48]) (sg := [(.iload_n 3, 0)]) (lSa_ok dd40) rfl ?_
              refine Y.aald (t0 := 5) (lIa_ok dd41) rfl h (fun h => ?_) (fun v49 h => ?_)
              · refine Y.blk (pc' := 97) (L' := [some (.ref a0), some (.int a1), some (.int a2), some (.int v38)]) (st' := [.int a2, .null]) (sg := [(.iload_n 2, 0)]) (lSa_ok dd42) rfl ?_
                cases h
              · refine Y.blk (pc' := 97) (L' := [some (.ref a0), some (.int a1), some (.int a2), some (.int v38)]) (st' := [.int a2, .ref v49]) (sg := [(.iload_n 2, 0)]) (lSa_ok dd42) rfl ?_
                refine Y.putf fl_M_208 (by decide) rfl rfl (lIa_ok dd43) h (fun G50 _ _ h => ?_)
                refine Y.blk (pc' := 101) (L' := [some (.ref a0), some (.int a1), some (.int a2), some (.int v38)]) (st' := [.int v38]) (sg := [(.iload_n 3, 0)]) (lSa_ok dd44) rfl ?_
                exact Y.iret rfl (lIa_ok dd45) h
          · refine Y.blk (pc' := 61) (L' := [some (.ref a0), some (.int a1), some (.int a2), none]) (st' := [.int (nI 0)]) (sg := [(.iconst 0, nI 0)]) (lSa_ok dd46) rfl ?_
            exact Y.iret rfl (lIa_ok dd47) h
        · refine Y.blk (pc' := 54) (L' := [some (.ref a0), some (.int a1), some (.int a2), none]) (st' := [.int (nI 2), .int (nI 0), .ref a0]) (sg := [(.iconst 0, nI 0), (.iconst 2, nI 2)]) (lSa_ok dd48) rfl ?_
          obtain ⟨_, o53, e52, m54, h⟩ := gOb_inv h
          refine Y.callI (yC.Vi (b := a0) (As := [.int (nI 0), .int (nI 2)]) (st := []) (r := ("PartlisterModel", T_M, 9)) hV.1 cb_M_refuse lk_M_36 in_M_refuse rfl se_M_refuse (lIa_ok dd21) rfl rfl (Nat.le_of_ble_eq_true rfl) (by decide) e52 m54) (k_M_refuse hV G27 a0 (nI 0) (nI 2)) h (fun v56 G55 _ h => ?_)
          refine Y.if_eq (off := 5) (tgt := 62) (lIa_ok dd22) (by decide) h (fun c74 h => ?_) (fun c74 h => ?_)
          · refine Y.blk (pc' := 63) (L' := [some (.ref a0), some (.int a1), some (.int a2), none]) (st' := [.ref a0]) (sg := [(.aload_n 0, 0)]) (lSa_ok dd23) rfl ?_
            obtain ⟨_, o58, e57, m59, h⟩ := gOb_inv h
            refine Y.callI (yC.Vi (b := a0) (As := []) (st := []) (r := ("PartlisterModel", T_M, 9)) hV.1 cb_M_freeCursor lk_M_204 in_M_freeCursor rfl se_M_freeCursor (lIa_ok dd24) rfl rfl (Nat.le_of_ble_eq_true rfl) (by decide) e57 m59) (k_M_freeCursor hV G55 a0) h (fun v61 G60 _ h => ?_)
            refine Y.blk (pc' := 68) (L' := [some (.ref a0), some (.int a1), some (.int a2), some (.int v61)]) (st' := [.ref a0]) (sg := [(.istore_n 3, 0), (.aload_n 0, 0)]) (lSa_ok dd25) rfl ?_
            refine Y.getA fl_M_24 (lIa_ok dd26) h (fun v62 h => ?_)
            refine Y.blk (pc' := 72) (L' := [some (.ref a0), some (.int a1), some (.int a2), some (.int v61)]) (st' := [.int v61, .ref v62]) (sg := [(.iload_n 3, 0)]) (lSa_ok dd27) rfl ?_
            refine Y.new nc_M_22 (by decide) bk_MC (lIa_ok dd28) h (fun q63 G64 h => ?_)
            refine Y.blk (pc' := 76) (L' := [some (.ref a0), some (.int a1), some (.int a2), some (.int v61)]) (st' := [.ref q63, .ref q63, .int v61, .ref v62]) (sg := [(.dup, 0)]) (lSa_ok dd29) rfl ?_
            refine Y.callN (yC.IN (b := q63) (As := []) (st := [.ref q63, .int v61, .ref v62]) hV.1 cb_MC_init lk_M_207 in_MC_init rfl rfl (lIa_ok dd30) rfl rfl (Nat.le_of_ble_eq_true rfl) (by decide)) (k_MC_init hV G64 q63) h (fun G66 _ h => ?_)
            refine Y.aast (t0 := 5) (r := ("PartlisterModel$Cursor", T_MC, 4)) (lIa_ok dd31) rfl rfl (by decide) h (fun G67 _ _ h => ?_)
            refine Y.blk (pc' := 81) (L' := [some (.ref a0), some (.int a1), some (.int a2), some (.int v61)]) (st' := [.ref a0]) (sg := [(.aload_n 0, 0)]) (lSa_ok dd32) rfl ?_
            refine Y.getA fl_M_24 (lIa_ok dd33) h (fun v68 h => ?_)
            refine Y.blk (pc' := 85) (L' := [some (.ref a0), some (.int a1), some (.int a2), some (.int v61)]) (st' := [.int v61, .ref v68]) (sg := [(.iload_n 3, 0)]) (lSa_ok dd34) rfl ?_
            refine Y.aald (t0 := 5) (lIa_ok dd35) rfl h (fun h => ?_) (fun v69 h => ?_)
            · refine Y.blk (pc' := 87) (L' := [some (.ref a0), some (.int a1), some (.int a2), some (.int v61)]) (st' := [.int a1, .null]) (sg := [(.iload_n 1, 0)]) (lSa_ok dd36) rfl ?_
              cases h
            · refine Y.blk (pc' := 87) (L' := [some (.ref a0), some (.int a1), some (.int a2), some (.int v61)]) (st' := [.int a1, .ref v69]) (sg := [(.iload_n 1, 0)]) (lSa_ok dd36) rfl ?_
              refine Y.putf fl_M_89 (by decide) rfl rfl (lIa_ok dd37) h (fun G70 _ _ h => ?_)
              refine Y.blk (pc' := 91) (L' := [some (.ref a0), some (.int a1), some (.int a2), some (.int v61)]) (st' := [.ref a0]) (sg := [(.aload_n 0, 0)]) (lSa_ok dd38) rfl ?_
              refine Y.getA fl_M_24 (lIa_ok dd39) h (fun v71 h => ?_)
              refine Y.blk (pc' := 95) (L' := [some (.ref a0), some (.int a1), some (.int a2), some (.int v61)]) (st' := [.int v61, .ref v71]) (sg := [(.iload_n 3, 0)]) (lSa_ok dd40) rfl ?_
              refine Y.aald (t0 := 5) (lIa_ok dd41) rfl h (fun h => ?_) (fun v72 h => ?_)
              · refine Y.blk (pc' := 97) (L' := [some (.ref a0), some (.int a1), some (.int a2), some (.int v61)]) (st' := [.int a2, .null]) (sg := [(.iload_n 2, 0)]) (lSa_ok dd42) rfl ?_
                cases h
              · refine Y.blk (pc' := 97) (L' := [some (.ref a0), some (.int a1), some (.int a2), some (.int v61)]) (st' := [.int a2, .ref v72]) (sg := [(.iload_n 2, 0)]) (lSa_ok dd42) rfl ?_
                refine Y.putf fl_M_208 (by decide) rfl rfl (lIa_ok dd43) h (fun G73 _ _ h => ?_)
                refine Y.blk (pc' := 101) (L' := [some (.ref a0), some (.int a1), some (.int a2), some (.int v61)]) (st' := [.int v61]) (sg := [(.iload_n 3, 0)]) (lSa_ok dd44) rfl ?_
                exact Y.iret rfl (lIa_ok dd45) h
          · refine Y.blk (pc' := 61) (L' := [some (.ref a0), some (.int a1), some (.int a2), none]) (st' := [.int (nI 0)]) (sg := [(.iconst 0, nI 0)]) (lSa_ok dd46) rfl ?_
            exact Y.iret rfl (lIa_ok dd47) h
      · refine Y.blk (pc' := 61) (L' := [some (.ref a0), some (.int a1), some (.int a2), none]) (st' := [.int (nI 0)]) (sg := [(.iconst 0, nI 0)]) (lSa_ok dd46) rfl ?_
        exact Y.iret rfl (lIa_ok dd47) h
    · refine Y.blk (pc' := 33) (L' := [some (.ref a0), some (.int a1), some (.int a2), none]) (st' := [.int (nI 1), .int (nI 0), .ref a0]) (sg := [(.iconst 0, nI 0), (.iconst 1, nI 1)]) (lSa_ok dd49) rfl ?_
      obtain ⟨_, o78, e77, m79, h⟩ := gOb_inv h
      refine Y.callI (yC.Vi (b := a0) (As := [.int (nI 0), .int (nI 1)]) (st := []) (r := ("PartlisterModel", T_M, 9)) hV.1 cb_M_refuse lk_M_36 in_M_refuse rfl se_M_refuse (lIa_ok dd12) rfl rfl (Nat.le_of_ble_eq_true rfl) (by decide) e77 m79) (k_M_refuse hV G17 a0 (nI 0) (nI 1)) h (fun v81 G80 _ h => ?_)
      refine Y.if_ne (off := 24) (tgt := 60) (lIa_ok dd13) (by decide) h (fun c134 h => ?_) (fun c134 h => ?_)
      · refine Y.blk (pc' := 41) (L' := [some (.ref a0), some (.int a1), some (.int a2), none]) (st' := [.ref a0, .ref a0]) (sg := [(.aload_n 0, 0), (.aload_n 0, 0)]) (lSa_ok dd14) rfl ?_
        obtain ⟨_, o83, e82, m84, h⟩ := gOb_inv h
        refine Y.callI (yC.Vi (b := a0) (As := []) (st := [.ref a0]) (r := ("PartlisterModel", T_M, 9)) hV.1 cb_M_freeCursor lk_M_204 in_M_freeCursor rfl se_M_freeCursor (lIa_ok dd15) rfl rfl (Nat.le_of_ble_eq_true rfl) (by decide) e82 m84) (k_M_freeCursor hV G80 a0) h (fun v86 G85 _ h => ?_)
        refine Y.blk (pc' := 45) (L' := [some (.ref a0), some (.int a1), some (.int a2), none]) (st' := [.int (-1), .int v86, .ref a0]) (sg := [(.iconst (-1), -1)]) (lSa_ok dd16) rfl ?_
        refine Y.ic_ne (off := 7) (tgt := 52) (lIa_ok dd17) (by decide) h (fun c133 h => ?_) (fun c133 h => ?_)
        · refine Y.blk (pc' := 49) (L' := [some (.ref a0), some (.int a1), some (.int a2), none]) (st' := [.int (nI 1), .ref a0]) (sg := [(.iconst 1, nI 1)]) (lSa_ok dd18) rfl ?_
          refine Y.goto (off := 4) (tgt := 53) (lIa_ok dd19) (by decide) ?_
          refine Y.blk (pc' := 54) (L' := [some (.ref a0), some (.int a1), some (.int a2), none]) (st' := [.int (nI 2), .int (nI 1), .ref a0]) (sg := [(.iconst 2, nI 2)]) (lSa_ok dd20) rfl ?_
          obtain ⟨_, o88, e87, m89, h⟩ := gOb_inv h
          refine Y.callI (yC.Vi (b := a0) (As := [.int (nI 1), .int (nI 2)]) (st := []) (r := ("PartlisterModel", T_M, 9)) hV.1 cb_M_refuse lk_M_36 in_M_refuse rfl se_M_refuse (lIa_ok dd21) rfl rfl (Nat.le_of_ble_eq_true rfl) (by decide) e87 m89) (k_M_refuse hV G85 a0 (nI 1) (nI 2)) h (fun v91 G90 _ h => ?_)
          refine Y.if_eq (off := 5) (tgt := 62) (lIa_ok dd22) (by decide) h (fun c109 h => ?_) (fun c109 h => ?_)
          · refine Y.blk (pc' := 63) (L' := [some (.ref a0), some (.int a1), some (.int a2), none]) (st' := [.ref a0]) (sg := [(.aload_n 0, 0)]) (lSa_ok dd23) rfl ?_
            obtain ⟨_, o93, e92, m94, h⟩ := gOb_inv h
            refine Y.callI (yC.Vi (b := a0) (As := []) (st := []) (r := ("PartlisterModel", T_M, 9)) hV.1 cb_M_freeCursor lk_M_204 in_M_freeCursor rfl se_M_freeCursor (lIa_ok dd24) rfl rfl (Nat.le_of_ble_eq_true rfl) (by decide) e92 m94) (k_M_freeCursor hV G90 a0) h (fun v96 G95 _ h => ?_)
            refine Y.blk (pc' := 68) (L' := [some (.ref a0), some (.int a1), some (.int a2), some (.int v96)]) (st' := [.ref a0]) (sg := [(.istore_n 3, 0), (.aload_n 0, 0)]) (lSa_ok dd25) rfl ?_
            refine Y.getA fl_M_24 (lIa_ok dd26) h (fun v97 h => ?_)
            refine Y.blk (pc' := 72) (L' := [some (.ref a0), some (.int a1), some (.int a2), some (.int v96)]) (st' := [.int v96, .ref v97]) (sg := [(.iload_n 3, 0)]) (lSa_ok dd27) rfl ?_
            refine Y.new nc_M_22 (by decide) bk_MC (lIa_ok dd28) h (fun q98 G99 h => ?_)
            refine Y.blk (pc' := 76) (L' := [some (.ref a0), some (.int a1), some (.int a2), some (.int v96)]) (st' := [.ref q98, .ref q98, .int v96, .ref v97]) (sg := [(.dup, 0)]) (lSa_ok dd29) rfl ?_
            refine Y.callN (yC.IN (b := q98) (As := []) (st := [.ref q98, .int v96, .ref v97]) hV.1 cb_MC_init lk_M_207 in_MC_init rfl rfl (lIa_ok dd30) rfl rfl (Nat.le_of_ble_eq_true rfl) (by decide)) (k_MC_init hV G99 q98) h (fun G101 _ h => ?_)
            refine Y.aast (t0 := 5) (r := ("PartlisterModel$Cursor", T_MC, 4)) (lIa_ok dd31) rfl rfl (by decide) h (fun G102 _ _ h => ?_)
            refine Y.blk (pc' := 81) (L' := [some (.ref a0), some (.int a1), some (.int a2), some (.int v96)]) (st' := [.ref a0]) (sg := [(.aload_n 0, 0)]) (lSa_ok dd32) rfl ?_
            refine Y.getA fl_M_24 (lIa_ok dd33) h (fun v103 h => ?_)
            refine Y.blk (pc' := 85) (L' := [some (.ref a0), some (.int a1), some (.int a2), some (.int v96)]) (st' := [.int v96, .ref v103]) (sg := [(.iload_n 3, 0)]) (lSa_ok dd34) rfl ?_
            refine Y.aald (t0 := 5) (lIa_ok dd35) rfl h (fun h => ?_) (fun v104 h => ?_)
            · refine Y.blk (pc' := 87) (L' := [some (.ref a0), some (.int a1), some (.int a2), some (.int v96)]) (st' := [.int a1, .null]) (sg := [(.iload_n 1, 0)]) (lSa_ok dd36) rfl ?_
              cases h
            · refine Y.blk (pc' := 87) (L' := [some (.ref a0), some (.int a1), some (.int a2), some (.int v96)]) (st' := [.int a1, .ref v104]) (sg := [(.iload_n 1, 0)]) (lSa_ok dd36) rfl ?_
              refine Y.putf fl_M_89 (by decide) rfl rfl (lIa_ok dd37) h (fun G105 _ _ h => ?_)
              refine Y.blk (pc' := 91) (L' := [some (.ref a0), some (.int a1), some (.int a2), some (.int v96)]) (st' := [.ref a0]) (sg := [(.aload_n 0, 0)]) (lSa_ok dd38) rfl ?_
              refine Y.getA fl_M_24 (lIa_ok dd39) h (fun v106 h => ?_)
              refine Y.blk (pc' := 95) (L' := [some (.ref a0), some (.int a1), some (.int a2), some (.int v96)]) (st' := [.int v96, .ref v106]) (sg := [(.iload_n 3, 0)]) (lSa_ok dd40) rfl ?_
              refine Y.aald (t0 := 5) (lIa_ok dd41) rfl h (fun h => ?_) (fun v107 h => ?_)
              · refine Y.blk (pc' := 97) (L' := [some (.ref a0), some (.int a1), some (.int a2), some (.int v96)]) (st' := [.int a2, .null]) (sg := [(.iload_n 2, 0)]) (lSa_ok dd42) rfl ?_
                cases h
              · refine Y.blk (pc' := 97) (L' := [some (.ref a0), some (.int a1), some (.int a2), some (.int v96)]) (st' := [.int a2, .ref v107]) (sg := [(.iload_n 2, 0)]) (lSa_ok dd42) rfl ?_
                refine Y.putf fl_M_208 (by decide) rfl rfl (lIa_ok dd43) h (fun G108 _ _ h => ?_)
                refine Y.blk (pc' := 101) (L' := [some (.ref a0), some (.int a1), some (.int a2), some (.int v96)]) (st' := [.int v96]) (sg := [(.iload_n 3, 0)]) (lSa_ok dd44) rfl ?_
                exact Y.iret rfl (lIa_ok dd45) h
          · refine Y.blk (pc' := 61) (L' := [some (.ref a0), some (.int a1), some (.int a2), none]) (st' := [.int (nI 0)]) (sg := [(.iconst 0, nI 0)]) (lSa_ok dd46) rfl ?_
            exact Y.iret rfl (lIa_ok dd47) h
        · refine Y.blk (pc' := 54) (L' := [some (.ref a0), some (.int a1), some (.int a2), none]) (st' := [.int (nI 2), .int (nI 0), .ref a0]) (sg := [(.iconst 0, nI 0), (.iconst 2, nI 2)]) (lSa_ok dd48) rfl ?_
          obtain ⟨_, o111, e110, m112, h⟩ := gOb_inv h
          refine Y.callI (yC.Vi (b := a0) (As := [.int (nI 0), .int (nI 2)]) (st := []) (r := ("PartlisterModel", T_M, 9)) hV.1 cb_M_refuse lk_M_36 in_M_refuse rfl se_M_refuse (lIa_ok dd21) rfl rfl (Nat.le_of_ble_eq_true rfl) (by decide) e110 m112) (k_M_refuse hV G85 a0 (nI 0) (nI 2)) h (fun v114 G113 _ h => ?_)
          refine Y.if_eq (off := 5) (tgt := 62) (lIa_ok dd22) (by decide) h (fun c132 h => ?_) (fun c132 h => ?_)
          · refine Y.blk (pc' := 63) (L' := [some (.ref a0), some (.int a1), some (.int a2), none]) (st' := [.ref a0]) (sg := [(.aload_n 0, 0)]) (lSa_ok dd23) rfl ?_
            obtain ⟨_, o116, e115, m117, h⟩ := gOb_inv h
            refine Y.callI (yC.Vi (b := a0) (As := []) (st := []) (r := ("PartlisterModel", T_M, 9)) hV.1 cb_M_freeCursor lk_M_204 in_M_freeCursor rfl se_M_freeCursor (lIa_ok dd24) rfl rfl (Nat.le_of_ble_eq_true rfl) (by decide) e115 m117) (k_M_freeCursor hV G113 a0) h (fun v119 G118 _ h => ?_)
            refine Y.blk (pc' := 68) (L' := [some (.ref a0), some (.int a1), some (.int a2), some (.int v119)]) (st' := [.ref a0]) (sg := [(.istore_n 3, 0), (.aload_n 0, 0)]) (lSa_ok dd25) rfl ?_
            refine Y.getA fl_M_24 (lIa_ok dd26) h (fun v120 h => ?_)
            refine Y.blk (pc' := 72) (L' := [some (.ref a0), some (.int a1), some (.int a2), some (.int v119)]) (st' := [.int v119, .ref v120]) (sg := [(.iload_n 3, 0)]) (lSa_ok dd27) rfl ?_
            refine Y.new nc_M_22 (by decide) bk_MC (lIa_ok dd28) h (fun q121 G122 h => ?_)
            refine Y.blk (pc' := 76) (L' := [some (.ref a0), some (.int a1), some (.int a2), some (.int v119)]) (st' := [.ref q121, .ref q121, .int v119, .ref v120]) (sg := [(.dup, 0)]) (lSa_ok dd29) rfl ?_
            refine Y.callN (yC.IN (b := q121) (As := []) (st := [.ref q121, .int v119, .ref v120]) hV.1 cb_MC_init lk_M_207 in_MC_init rfl rfl (lIa_ok dd30) rfl rfl (Nat.le_of_ble_eq_true rfl) (by decide)) (k_MC_init hV G122 q121) h (fun G124 _ h => ?_)
            refine Y.aast (t0 := 5) (r := ("PartlisterModel$Cursor", T_MC, 4)) (lIa_ok dd31) rfl rfl (by decide) h (fun G125 _ _ h => ?_)
            refine Y.blk (pc' := 81) (L' := [some (.ref a0), some (.int a1), some (.int a2), some (.int v119)]) (st' := [.ref a0]) (sg := [(.aload_n 0, 0)]) (lSa_ok dd32) rfl ?_
            refine Y.getA fl_M_24 (lIa_ok dd33) h (fun v126 h => ?_)
            refine Y.blk (pc' := 85) (L' := [some (.ref a0), some (.int a1), some (.int a2), some (.int v119)]) (st' := [.int v119, .ref v126]) (sg := [(.iload_n 3, 0)]) (lSa_ok dd34) rfl ?_
            refine Y.aald (t0 := 5) (lIa_ok dd35) rfl h (fun h => ?_) (fun v127 h => ?_)
            · refine Y.blk (pc' := 87) (L' := [some (.ref a0), some (.int a1), some (.int a2), some (.int v119)]) (st' := [.int a1, .null]) (sg := [(.iload_n 1, 0)]) (lSa_ok dd36) rfl ?_
              cases h
            · refine Y.blk (pc' := 87) (L' := [some (.ref a0), some (.int a1), some (.int a2), some (.int v119)]) (st' := [.int a1, .ref v127]) (sg := [(.iload_n 1, 0)]) (lSa_ok dd36) rfl ?_
              refine Y.putf fl_M_89 (by decide) rfl rfl (lIa_ok dd37) h (fun G128 _ _ h => ?_)
              refine Y.blk (pc' := 91) (L' := [some (.ref a0), some (.int a1), some (.int a2), some (.int v119)]) (st' := [.ref a0]) (sg := [(.aload_n 0, 0)]) (lSa_ok dd38) rfl ?_
              refine Y.getA fl_M_24 (lIa_ok dd39) h (fun v129 h => ?_)
              refine Y.blk (pc' := 95) (L' := [some (.ref a0), some (.int a1), some (.int a2), some (.int v119)]) (st' := [.int v119, .ref v129]) (sg := [(.iload_n 3, 0)]) (lSa_ok dd40) rfl ?_
              refine Y.aald (t0 := 5) (lIa_ok dd41) rfl h (fun h => ?_) (fun v130 h => ?_)
              · refine Y.blk (pc' := 97) (L' := [some (.ref a0), some (.int a1), some (.int a2), some (.int v119)]) (st' := [.int a2, .null]) (sg := [(.iload_n 2, 0)]) (lSa_ok dd42) rfl ?_
                cases h
              · refine Y.blk (pc' := 97) (L' := [some (.ref a0), some (.int a1), some (.int a2), some (.int v119)]) (st' := [.int a2, .ref v130]) (sg := [(.iload_n 2, 0)]) (lSa_ok dd42) rfl ?_
                refine Y.putf fl_M_208 (by decide) rfl rfl (lIa_ok dd43) h (fun G131 _ _ h => ?_)
                refine Y.blk (pc' := 101) (L' := [some (.ref a0), some (.int a1), some (.int a2), some (.int v119)]) (st' := [.int v119]) (sg := [(.iload_n 3, 0)]) (lSa_ok dd44) rfl ?_
                exact Y.iret rfl (lIa_ok dd45) h
          · refine Y.blk (pc' := 61) (L' := [some (.ref a0), some (.int a1), some (.int a2), none]) (st' := [.int (nI 0)]) (sg := [(.iconst 0, nI 0)]) (lSa_ok dd46) rfl ?_
            exact Y.iret rfl (lIa_ok dd47) h
      · refine Y.blk (pc' := 61) (L' := [some (.ref a0), some (.int a1), some (.int a2), none]) (st' := [.int (nI 0)]) (sg := [(.iconst 0, nI 0)]) (lSa_ok dd46) rfl ?_
        exact Y.iret rfl (lIa_ok dd47) h
  · refine Y.blk (pc' := 61) (L' := [some (.ref a0), some (.int a1), some (.int a2), none]) (st' := [.int (nI 0)]) (sg := [(.iconst 0, nI 0)]) (lSa_ok dd46) rfl ?_
    exact Y.iret rfl (lIa_ok dd47) h

def f_M_one (G : gH) (a0 : Int32) : gR :=
  if a0 = 0 then rI (nI 0) G
  else rI (nI 1) G
theorem k_M_one {l : Launch} {D : va_G} {B : Nat} {O : State → Heap → Prop} (hV : zG l D B O) (G : gH) (a0 : Int32) : gMet (zVm l D B O) m_M_one 2 [.int a0] G (f_M_one G a0) := by
  have hdd : lSa m_M_one 0 [(.iload_n 0, 0)] = true ∧ lIa m_M_one 1 (.ifCond .eq 7) 3 = true ∧ lSa m_M_one 8 [(.iconst 0, nI 0)] = true ∧ lIa m_M_one 9 (.ireturn) 1 = true ∧ lSa m_M_one 4 [(.iconst 1, nI 1)] = true ∧ lIa m_M_one 5 (.goto 4) 3 = true := by decide +kernel
  obtain ⟨dd0, dd1, dd2, dd3, dd4, dd5⟩ := hdd
  refine gMet.of (by decide +kernel) (Nat.le_of_ble_eq_true rfl) [some (.int a0)] (fun ls h => zEn_ok (n := 1) h) ?_
  intro o Gf h
  unfold f_M_one at h
  refine Y.blk (pc' := 1) (L' := [some (.int a0)]) (st' := [.int a0]) (sg := [(.iload_n 0, 0)]) (lSa_ok dd0) rfl ?_
  refine Y.if_eq (off := 7) (tgt := 8) (lIa_ok dd1) (by decide) h (fun c1 h => ?_) (fun c1 h => ?_)
  · refine Y.blk (pc' := 9) (L' := [some (.int a0)]) (st' := [.int (nI 0)]) (sg := [(.iconst 0, nI 0)]) (lSa_ok dd2) rfl ?_
    exact Y.iret rfl (lIa_ok dd3) h
  · refine Y.blk (pc' := 5) (L' := [some (.int a0)]) (st' := [.int (nI 1)]) (sg := [(.iconst 1, nI 1)]) (lSa_ok dd4) rfl ?_
    refine Y.goto (off := 4) (tgt := 9) (lIa_ok dd5) (by decide) ?_
    exact Y.iret rfl (lIa_ok dd3) h

def f_M_cursorTold (G : gH) (a0 : Nat) (a1 : Int32) (a2 : Int32) : gR :=
  gFA G a0 6 3 fun v1 => gLdq G v1 105 a1 (if a2 = 0 then rI (nI 0) G
    else rI (-1) G) fun v2 => if a2 = 0 then (gFI G v2 4 3 fun v4 => if v4 = 0 then rI (nI 1) G
      else rI (nI 2) G)
    else if a2 = (nI 1) then gFI G v2 4 0 fun v6 => rI v6 G
      else gFI G v2 4 3 fun v7 => if v7 = 0 then (gNewA G 100 (nI 5) fun q8 G9 => gFI G9 v2 4 1 fun v10 => gSt G9 q8 100 (nI 0) v10 fun G11 => gFI G11 v2 4 1 fun v12 => gSt G11 q8 100 (nI 1) (v12 - (nI 1)) fun G13 => gFI G13 v2 4 1 fun v14 => gFI G13 v2 4 0 fun v15 => gOb G13 a0 6 fun o17 => bI (f_M_length G13 a0 v15) fun v20 G19 => if v20 ≤ v14 then (bI (f_M_one G19 (nI 0)) fun v23 G22 => gSt G22 q8 100 (nI 2) v23 fun G24 => gFI G24 v2 4 1 fun v25 => if v25 ≤ 0 then bI (f_M_one G24 (nI 0)) fun v28 G27 => gSt G27 q8 100 (nI 3) v28 fun G29 => gFI G29 v2 4 2 fun v30 => gSt G29 q8 100 (nI 4) v30 fun G31 => gLd G31 q8 100 (a2 - (nI 2)) fun v32 => rI v32 G31
            else bI (f_M_one G24 (nI 1)) fun v35 G34 => gSt G34 q8 100 (nI 3) v35 fun G36 => gFI G36 v2 4 2 fun v37 => gSt G36 q8 100 (nI 4) v37 fun G38 => gLd G38 q8 100 (a2 - (nI 2)) fun v39 => rI v39 G38)
          else bI (f_M_one G19 (nI 1)) fun v43 G42 => gSt G42 q8 100 (nI 2) v43 fun G44 => gFI G44 v2 4 1 fun v45 => if v45 ≤ 0 then bI (f_M_one G44 (nI 0)) fun v48 G47 => gSt G47 q8 100 (nI 3) v48 fun G49 => gFI G49 v2 4 2 fun v50 => gSt G49 q8 100 (nI 4) v50 fun G51 => gLd G51 q8 100 (a2 - (nI 2)) fun v52 => rI v52 G51
            else bI (f_M_one G44 (nI 1)) fun v55 G54 => gSt G54 q8 100 (nI 3) v55 fun G56 => gFI G56 v2 4 2 fun v57 => gSt G56 q8 100 (nI 4) v57 fun G58 => gLd G58 q8 100 (a2 - (nI 2)) fun v59 => rI v59 G58)
        else rI (-1) G
theorem k_M_cursorTold {l : Launch} {D : va_G} {B : Nat} {O : State → Heap → Prop} (hV : zG l D B O) (G : gH) (a0 : Nat) (a1 : Int32) (a2 : Int32) : gMet (zVm l D B O) m_M_cursorTold 6 [.ref a0, .int a1, .int a2] G (f_M_cursorTold G a0 a1 a2) := by
  have hdd : lSa m_M_cursorTold 0 [(.aload_n 0, 0)] = true ∧ lIa m_M_cursorTold 1 (.getfield 24) 3 = true ∧ lSa m_M_cursorTold 4 [(.iload_n 1, 0)] = true ∧ lIa m_M_cursorTold 5 (.aaload) 1 = true ∧ lSa m_M_cursorTold 6 [(.astore_n 3, 0), (.iload_n 2, 0)] = true ∧ lIa m_M_cursorTold 8 (.ifCond .ne 24) 3 = true ∧ lSa m_M_cursorTold 11 [(.aload_n 3, 0)] = true ∧ lIa m_M_cursorTold 12 (.ifnonnull 7) 3 = true ∧ lSa m_M_cursorTold 15 [(.iconst 0, nI 0)] = true ∧ lIa m_M_cursorTold 16 (.goto 15) 3 = true ∧ lIa m_M_cursorTold 31 (.ireturn) 1 = true ∧ lSa m_M_cursorTold 32 [(.aload_n 3, 0)] = true ∧ lIa m_M_cursorTold 33 (.ifnonnull 5) 3 = true ∧ lSa m_M_cursorTold 36 [(.iconst (-1), -1)] = true ∧ lIa m_M_cursorTold 37 (.ireturn) 1 = true ∧ lSa m_M_cursorTold 19 [(.aload_n 3, 0)] = true ∧ lIa m_M_cursorTold 20 (.getfield 99) 3 = true ∧ lIa m_M_cursorTold 23 (.ifCond .eq 7) 3 = true ∧ lSa m_M_cursorTold 30 [(.iconst 1, nI 1)] = true ∧ lSa m_M_cursorTold 26 [(.iconst 2, nI 2)] = true ∧ lIa m_M_cursorTold 27 (.goto 4) 3 = true ∧ lSa m_M_cursorTold 38 [(.iload_n 2, 0), (.iconst 1, nI 1)] = true ∧ lIa m_M_cursorTold 40 (.if_icmp .ne 8) 3 = true ∧ lSa m_M_cursorTold 43 [(.aload_n 3, 0)] = true ∧ lIa m_M_cursorTold 44 (.getfield 89) 3 = true ∧ lIa m_M_cursorTold 47 (.ireturn) 1 = true ∧ lSa m_M_cursorTold 48 [(.aload_n 3, 0)] = true ∧ lIa m_M_cursorTold 49 (.getfield 99) 3 = true ∧ lIa m_M_cursorTold 52 (.ifCond .eq 5) 3 = true ∧ lSa m_M_cursorTold 57 [(.iconst 5, nI 5)] = true ∧ lSa m_M_cursorTold 60 [(.dup, 0), (.iconst 0, nI 0), (.aload_n 3, 0)] = true ∧ lIa m_M_cursorTold 63 (.getfield 208) 3 = true ∧ lIa m_M_cursorTold 66 (.iastore) 1 = true ∧ lSa m_M_cursorTold 67 [(.dup, 0), (.iconst 1, nI 1), (.aload_n 3, 0)] = true ∧ lIa m_M_cursorTold 70 (.getfield 208) 3 = true ∧ lSa m_M_cursorTold 73 [(.iconst 1, nI 1), (.isub, 0)] = true ∧ lIa m_M_cursorTold 75 (.iastore) 1 = true ∧ lSa m_M_cursorTold 76 [(.dup, 0), (.iconst 2, nI 2), (.aload_n 3, 0)] = true ∧ lIa m_M_cursorTold 79 (.getfield 208) 3 = true ∧ lSa m_M_cursorTold 82 [(.aload_n 0, 0), (.aload_n 3, 0)] = true ∧ lIa m_M_cursorTold 84 (.getfield 89) 3 = true ∧ lIa m_M_cursorTold 87 (.invokevirtual 74) 3 = true ∧ lIa m_M_cursorTold 90 (.if_icmp .ge 7) 3 = true ∧ lSa m_M_cursorTold 97 [(.iconst 0, nI 0)] = true ∧ lIa m_M_cursorTold 98 (.invokestatic 188) 3 = true ∧ lIa m_M_cursorTold 101 (.iastore) 1 = true ∧ lSa m_M_cursorTold 102 [(.dup, 0), (.iconst 3, nI 3), (.aload_n 3, 0)] = true ∧ lIa m_M_cursorTold 105 (.getfield 208) 3 = true ∧ lIa m_M_cursorTold 108 (.ifCond .le 7) 3 = true ∧ lSa m_M_cursorTold 115 [(.iconst 0, nI 0)] = true ∧ lIa m_M_cursorTold 116 (.invokestatic 188) 3 = true ∧ lIa m_M_cursorTold 119 (.iastore) 1 = true ∧ lSa m_M_cursorTold 120 [(.dup, 0), (.iconst 4, nI 4), (.aload_n 3, 0)] = true ∧ lIa m_M_cursorTold 123 (.getfield 220) 3 = true ∧ lIa m_M_cursorTold 126 (.iastore) 1 = true ∧ lSa m_M_cursorTold 127 [(.astore 4, 0), (.aload 4, 0), (.iload_n 2, 0), (.iconst 2, nI 2), (.isub, 0)] = true ∧ lIa m_M_cursorTold 134 (.iaload) 1 = true ∧ lIa m_M_cursorTold 135 (.ireturn) 1 = true ∧ lSa m_M_cursorTold 111 [(.iconst 1, nI 1)] = true ∧ lIa m_M_cursorTold 112 (.goto 4) 3 = true ∧ lSa m_M_cursorTold 93 [(.iconst 1, nI 1)] = true ∧ lIa m_M_cursorTold 94 (.goto 4) 3 = true ∧ lSa m_M_cursorTold 55 [(.iconst (-1), -1)] = true ∧ lIa m_M_cursorTold 56 (.ireturn) 1 = true := by decide +kernel
  refine lA8 hdd (fun dd0 dd1 dd2 dd3 dd4 dd5 dd6 dd7 hdd => ?_)
  refine lA8 hdd (fun dd8 dd9 dd10 dd11 dd12 dd13 dd14 dd15 hdd => ?_)
  refine lA8 hdd (fun dd16 dd17 dd18 dd19 dd20 dd21 dd22 dd23 hdd => ?_)
  refine lA8 hdd (fun dd24 dd25 dd26 dd27 dd28 dd29 dd30 dd31 hdd => ?_)
  refine lA8 hdd (fun dd32 dd33 dd34 dd35 dd36 dd37 dd38 dd39 hdd => ?_)
  refine lA8 hdd (fun dd40 dd41 dd42 dd43 dd44 dd45 dd46 dd47 hdd => ?_)
  refine lA8 hdd (fun dd48 dd49 dd50 dd51 dd52 dd53 dd54 dd55 hdd => ?_)
  obtain ⟨dd56, dd57, dd58, dd59, dd60, dd61, dd62, dd63⟩ := hdd
  refine gMet.of (by decide +kernel) (Nat.le_of_ble_eq_true rfl) [some (.ref a0), some (.int a1), some (.int a2), none, none] (fun ls h => zEn_ok (n := 5) h) ?_
  intro o Gf h
  unfold f_M_cursorTold at h
  refine Y.blk (pc' := 1) (L' := [some (.ref a0), some (.int a1), some (.int a2), none, none]) (st' := [.ref a0]) (sg := [(.aload_n 0, 0)]) (lSa_ok dd0) rfl ?_
  refine Y.getA fl_M_24 (lIa_ok dd1) h (fun v1 h => ?_)
  refine Y.blk (pc' := 5) (L' := [some (.ref a0), some (.int a1), some (.int a2), none, none]) (st' := [.int a1, .ref v1]) (sg := [(.iload_n 1, 0)]) (lSa_ok dd2) rfl ?_
  refine Y.aald (t0 := 5) (lIa_ok dd3) rfl h (fun h => ?_) (fun v2 h => ?_)
  · refine Y.blk (pc' := 8) (L' := [some (.ref a0), some (.int a1), some (.int a2), some (.null), none]) (st' := [.int a2]) (sg := [(.astore_n 3, 0), (.iload_n 2, 0)]) (lSa_ok dd4) rfl ?_
    refine Y.if_ne (off := 24) (tgt := 32) (lIa_ok dd5) (by decide) h (fun c3 h => ?_) (fun c3 h => ?_)
    · refine Y.blk (pc' := 12) (L' := [some (.ref a0), some (.int a1), some (.int a2), some (.null), none]) (st' := [.null]) (sg := [(.aload_n 3, 0)]) (lSa_ok dd6) rfl ?_
      refine Y.ifnonnull_n (off := 7) (lIa_ok dd7) ?_
      refine Y.blk (pc' := 16) (L' := [some (.ref a0), some (.int a1), some (.int a2), some (.null), none]) (st' := [.int (nI 0)]) (sg := [(.iconst 0, nI 0)]) (lSa_ok dd8) rfl ?_
      refine Y.goto (off := 15) (tgt := 31) (lIa_ok dd9) (by decide) ?_
      exact Y.iret rfl (lIa_ok dd10) h
    · refine Y.blk (pc' := 33) (L' := [some (.ref a0), some (.int a1), some (.int a2), some (.null), none]) (st' := [.null]) (sg := [(.aload_n 3, 0)]) (lSa_ok dd11) rfl ?_
      refine Y.ifnonnull_n (off := 5) (lIa_ok dd12) ?_
      refine Y.blk (pc' := 37) (L' := [some (.ref a0), some (.int a1), some (.int a2), some (.null), none]) (st' := [.int (-1)]) (sg := [(.iconst (-1), -1)]) (lSa_ok dd13) rfl ?_
      exact Y.iret rfl (lIa_ok dd14) h
  · refine Y.blk (pc' := 8) (L' := [some (.ref a0), some (.int a1), some (.int a2), some (.ref v2), none]) (st' := [.int a2]) (sg := [(.astore_n 3, 0), (.iload_n 2, 0)]) (lSa_ok dd4) rfl ?_
    refine Y.if_ne (off := 24) (tgt := 32) (lIa_ok dd5) (by decide) h (fun c64 h => ?_) (fun c64 h => ?_)
    · refine Y.blk (pc' := 12) (L' := [some (.ref a0), some (.int a1), some (.int a2), some (.ref v2), none]) (st' := [.ref v2]) (sg := [(.aload_n 3, 0)]) (lSa_ok dd6) rfl ?_
      refine Y.ifnonnull_r (off := 7) (tgt := 19) (lIa_ok dd7) (by decide) ?_
      refine Y.blk (pc' := 20) (L' := [some (.ref a0), some (.int a1), some (.int a2), some (.ref v2), none]) (st' := [.ref v2]) (sg := [(.aload_n 3, 0)]) (lSa_ok dd15) rfl ?_
      refine Y.getI fl_M_99 (lIa_ok dd16) h (fun v4 h => ?_)
      refine Y.if_eq (off := 7) (tgt := 30) (lIa_ok dd17) (by decide) h (fun c5 h => ?_) (fun c5 h => ?_)
      · refine Y.blk (pc' := 31) (L' := [some (.ref a0), some (.int a1), some (.int a2), some (.ref v2), none]) (st' := [.int (nI 1)]) (sg := [(.iconst 1, nI 1)]) (lSa_ok dd18) rfl ?_
        exact Y.iret rfl (lIa_ok dd10) h
      · refine Y.blk (pc' := 27) (L' := [some (.ref a0), some (.int a1), some (.int a2), some (.ref v2), none]) (st' := [.int (nI 2)]) (sg := [(.iconst 2, nI 2)]) (lSa_ok dd19) rfl ?_
        refine Y.goto (off := 4) (tgt := 31) (lIa_ok dd20) (by decide) ?_
        exact Y.iret rfl (lIa_ok dd10) h
    · refine Y.blk (pc' := 33) (L' := [some (.ref a0), some (.int a1), some (.int a2), some (.ref v2), none]) (st' := [.ref v2]) (sg := [(.aload_n 3, 0)]) (lSa_ok dd11) rfl ?_
      refine Y.ifnonnull_r (off := 5) (tgt := 38) (lIa_ok dd12) (by decide) ?_
      refine Y.blk (pc' := 40) (L' := [some (.ref a0), some (.int a1), some (.int a2), some (.ref v2), none]) (st' := [.int (nI 1), .int a2]) (sg := [(.iload_n 2, 0), (.iconst 1, nI 1)]) (lSa_ok dd21) rfl ?_
      refine Y.ic_ne (off := 8) (tgt := 48) (lIa_ok dd22) (by decide) h (fun c63 h => ?_) (fun c63 h => ?_)
      · refine Y.blk (pc' := 44) (L' := [some (.ref a0), some (.int a1), some (.int a2), some (.ref v2), none]) (st' := [.ref v2]) (sg := [(.aload_n 3, 0)]) (lSa_ok dd23) rfl ?_
        refine Y.getI fl_M_89 (lIa_ok dd24) h (fun v6 h => ?_)
        exact Y.iret rfl (lIa_ok dd25) h
      · refine Y.blk (pc' := 49) (L' := [some (.ref a0), some (.int a1), some (.int a2), some (.ref v2), none]) (st' := [.ref v2]) (sg := [(.aload_n 3, 0)]) (lSa_ok dd26) rfl ?_
        refine Y.getI fl_M_99 (lIa_ok dd27) h (fun v7 h => ?_)
        refine Y.if_eq (off := 5) (tgt := 57) (lIa_ok dd28) (by decide) h (fun c62 h => ?_) (fun c62 h => ?_)
        · refine Y.blk (pc' := 58) (L' := [some (.ref a0), some (.int a1), some (.int a2), some (.ref v2), none]) (st' := [.int (nI 5)]) (sg := [(.iconst 5, nI 5)]) (lSa_ok dd29) rfl ?_
          refine Y.newa (at_ := .int) (t0 := 0) ac_i rfl (by decide) rfl (by decide) (by decide +kernel) h (fun q8 G9 h => ?_)
          refine Y.blk (pc' := 63) (L' := [some (.ref a0), some (.int a1), some (.int a2), some (.ref v2), none]) (st' := [.ref v2, .int (nI 0), .ref q8, .ref q8]) (sg := [(.dup, 0), (.iconst 0, nI 0), (.aload_n 3, 0)]) (lSa_ok dd30) rfl ?_
          refine Y.getI fl_M_208 (lIa_ok dd31) h (fun v10 h => ?_)
          refine Y.iast (t0 := 0) (lIa_ok dd32) rfl (by decide) h (fun G11 _ _ h => ?_)
          refine Y.blk (pc' := 70) (L' := [some (.ref a0), some (.int a1), some (.int a2), some (.ref v2), none]) (st' := [.ref v2, .int (nI 1), .ref q8, .ref q8]) (sg := [(.dup, 0), (.iconst 1, nI 1), (.aload_n 3, 0)]) (lSa_ok dd33) rfl ?_
          refine Y.getI fl_M_208 (lIa_ok dd34) h (fun v12 h => ?_)
          refine Y.blk (pc' := 75) (L' := [some (.ref a0), some (.int a1), some (.int a2), some (.ref v2), none]) (st' := [.int (v12 - (nI 1)), .int (nI 1), .ref q8, .ref q8]) (sg := [(.iconst 1, nI 1), (.isub, 0)]) (lSa_ok dd35) rfl ?_
          refine Y.iast (t0 := 0) (lIa_ok dd36) rfl (by decide) h (fun G13 _ _ h => ?_)
          refine Y.blk (pc' := 79) (L' := [some (.ref a0), some (.int a1), some (.int a2), some (.ref v2), none]) (st' := [.ref v2, .int (nI 2), .ref q8, .ref q8]) (sg := [(.dup, 0), (.iconst 2, nI 2), (.aload_n 3, 0)]) (lSa_ok dd37) rfl ?_
          refine Y.getI fl_M_208 (lIa_ok dd38) h (fun v14 h => ?_)
          refine Y.blk (pc' := 84) (L' := [some (.ref a0), some (.int a1), some (.int a2), some (.ref v2), none]) (st' := [.ref v2, .ref a0, .int v14, .int (nI 2), .ref q8, .ref q8]) (sg := [(.aload_n 0, 0), (.aload_n 3, 0)]) (lSa_ok dd39) rfl ?_
          refine Y.getI fl_M_89 (lIa_ok dd40) h (fun v15 h => ?_)
          obtain ⟨_, o17, e16, m18, h⟩ := gOb_inv h
          refine Y.callI (yC.Vi (b := a0) (As := [.int v15]) (st := [.int v14, .int (nI 2), .ref q8, .ref q8]) (r := ("PartlisterModel", T_M, 9)) hV.1 cb_M_length lk_M_74 in_M_length rfl se_M_length (lIa_ok dd41) rfl rfl (Nat.le_of_ble_eq_true rfl) (by decide) e16 m18) (k_M_length hV G13 a0 v15) h (fun v20 G19 _ h => ?_)
          refine Y.ic_ge (off := 7) (tgt := 97) (lIa_ok dd42) (by decide) h (fun c61 h => ?_) (fun c61 h => ?_)
          · refine Y.blk (pc' := 98) (L' := [some (.ref a0), some (.int a1), some (.int a2), some (.ref v2), none]) (st' := [.int (nI 0), .int (nI 2), .ref q8, .ref q8]) (sg := [(.iconst 0, nI 0)]) (lSa_ok dd43) rfl ?_
            refine Y.callI (yC.S (As := [.int (nI 0)]) (st := [.int (nI 2), .ref q8, .ref q8]) hV.1 cb_M_one lk_M_188 st_M_one (lIa_ok dd44) rfl rfl (Nat.le_of_ble_eq_true rfl) (by decide)) (k_M_one hV G19 (nI 0)) h (fun v23 G22 _ h => ?_)
            refine Y.iast (t0 := 0) (lIa_ok dd45) rfl (by decide) h (fun G24 _ _ h => ?_)
            refine Y.blk (pc' := 105) (L' := [some (.ref a0), some (.int a1), some (.int a2), some (.ref v2), none]) (st' := [.ref v2, .int (nI 3), .ref q8, .ref q8]) (sg := [(.dup, 0), (.iconst 3, nI 3), (.aload_n 3, 0)]) (lSa_ok dd46) rfl ?_
            refine Y.getI fl_M_208 (lIa_ok dd47) h (fun v25 h => ?_)
            refine Y.if_le (off := 7) (tgt := 115) (lIa_ok dd48) (by decide) h (fun c40 h => ?_) (fun c40 h => ?_)
            · refine Y.blk (pc' := 116) (L' := [some (.ref a0), some (.int a1), some (.int a2), some (.ref v2), none]) (st' := [.int (nI 0), .int (nI 3), .ref q8, .ref q8]) (sg := [(.iconst 0, nI 0)]) (lSa_ok dd49) rfl ?_
              refine Y.callI (yC.S (As := [.int (nI 0)]) (st := [.int (nI 3), .ref q8, .ref q8]) hV.1 cb_M_one lk_M_188 st_M_one (lIa_ok dd50) rfl rfl (Nat.le_of_ble_eq_true rfl) (by decide)) (k_M_one hV G24 (nI 0)) h (fun v28 G27 _ h => ?_)
              refine Y.iast (t0 := 0) (lIa_ok dd51) rfl (by decide) h (fun G29 _ _ h => ?_)
              refine Y.blk (pc' := 123) (L' := [some (.ref a0), some (.int a1), some (.int a2), some (.ref v2), none]) (st' := [.ref v2, .int (nI 4), .ref q8, .ref q8]) (sg := [(.dup, 0), (.iconst 4, nI 4), (.aload_n 3, 0)]) (lSa_ok dd52) rfl ?_
              refine Y.getI fl_M_220 (lIa_ok dd53) h (fun v30 h => ?_)
              refine Y.iast (t0 := 0) (lIa_ok dd54) rfl (by decide) h (fun G31 _ _ h => ?_)
              refine Y.blk (pc' := 134) (L' := [some (.ref a0), some (.int a1), some (.int a2), some (.ref v2), some (.ref q8)]) (st' := [.int (a2 - (nI 2)), .ref q8]) (sg := [(.astore 4, 0), (.aload 4, 0), (.iload_n 2, 0), (.iconst 2, nI 2), (.isub, 0)]) (lSa_ok dd55) rfl ?_
              refine Y.iald (t0 := 0) (lIa_ok dd56) rfl h (fun v32 h => ?_)
              exact Y.iret rfl (lIa_ok dd57) h
            · refine Y.blk (pc' := 112) (L' := [some (.ref a0), some (.int a1), some (.int a2), some (.ref v2), none]) (st' := [.int (nI 1), .int (nI 3), .ref q8, .ref q8]) (sg := [(.iconst 1, nI 1)]) (lSa_ok dd58) rfl ?_
              refine Y.goto (off := 4) (tgt := 116) (lIa_ok dd59) (by decide) ?_
              refine Y.callI (yC.S (As := [.int (nI 1)]) (st := [.int (nI 3), .ref q8, .ref q8]) hV.1 cb_M_one lk_M_188 st_M_one (lIa_ok dd50) rfl rfl (Nat.le_of_ble_eq_true rfl) (by decide)) (k_M_one hV G24 (nI 1)) h (fun v35 G34 _ h => ?_)
              refine Y.iast (t0 := 0) (lIa_ok dd51) rfl (by decide) h (fun G36 _ _ h => ?_)
              refine Y.blk (pc' := 123) (L' := [some (.ref a0), some (.int a1), some (.int a2), some (.ref v2), none]) (st' := [.ref v2, .int (nI 4), .ref q8, .ref q8]) (sg := [(.dup, 0), (.iconst 4, nI 4), (.aload_n 3, 0)]) (lSa_ok dd52) rfl ?_
              refine Y.getI fl_M_220 (lIa_ok dd53) h (fun v37 h => ?_)
              refine Y.iast (t0 := 0) (lIa_ok dd54) rfl (by decide) h (fun G38 _ _ h => ?_)
              refine Y.blk (pc' := 134) (L' := [some (.ref a0), some (.int a1), some (.int a2), some (.ref v2), some (.ref q8)]) (st' := [.int (a2 - (nI 2)), .ref q8]) (sg := [(.astore 4, 0), (.aload 4, 0), (.iload_n 2, 0), (.iconst 2, nI 2), (.isub, 0)]) (lSa_ok dd55) rfl ?_
              refine Y.iald (t0 := 0) (lIa_ok dd56) rfl h (fun v39 h => ?_)
              exact Y.iret rfl (lIa_ok dd57) h
          · refine Y.blk (pc' := 94) (L' := [some (.ref a0), some (.int a1), some (.int a2), some (.ref v2), none]) (st' := [.int (nI 1), .int (nI 2), .ref q8, .ref q8]) (sg := [(.iconst 1, nI 1)]) (lSa_ok dd60) rfl ?_
            refine Y.goto (off := 4) (tgt := 98) (lIa_ok dd61) (by decide) ?_
            refine Y.callI (yC.S (As := [.int (nI 1)]) (st := [.int (nI 2), .ref q8, .ref q8]) hV.1 cb_M_one lk_M_188 st_M_one (lIa_ok dd44) rfl rfl (Nat.le_of_ble_eq_true rfl) (by decide)) (k_M_one hV G19 (nI 1)) h (fun v43 G42 _ h => ?_)
            refine Y.iast (t0 := 0) (lIa_ok dd45) rfl (by decide) h (fun G44 _ _ h => ?_)
            refine Y.blk (pc' := 105) (L' := [some (.ref a0), some (.int a1), some (.int a2), some (.ref v2), none]) (st' := [.ref v2, .int (nI 3), .ref q8, .ref q8]) (sg := [(.dup, 0), (.iconst 3, nI 3), (.aload_n 3, 0)]) (lSa_ok dd46) rfl ?_
            refine Y.getI fl_M_208 (lIa_ok dd47) h (fun v45 h => ?_)
            refine Y.if_le (off := 7) (tgt := 115) (lIa_ok dd48) (by decide) h (fun c60 h => ?_) (fun c60 h => ?_)
            · refine Y.blk (pc' := 116) (L' := [some (.ref a0), some (.int a1), some (.int a2), some (.ref v2), none]) (st' := [.int (nI 0), .int (nI 3), .ref q8, .ref q8]) (sg := [(.iconst 0, nI 0)]) (lSa_ok dd49) rfl ?_
              refine Y.callI (yC.S (As := [.int (nI 0)]) (st := [.int (nI 3), .ref q8, .ref q8]) hV.1 cb_M_one lk_M_188 st_M_one (lIa_ok dd50) rfl rfl (Nat.le_of_ble_eq_true rfl) (by decide)) (k_M_one hV G44 (nI 0)) h (fun v48 G47 _ h => ?_)
              refine Y.iast (t0 := 0) (lIa_ok dd51) rfl (by decide) h (fun G49 _ _ h => ?_)
              refine Y.blk (pc' := 123) (L' := [some (.ref a0), some (.int a1), some (.int a2), some (.ref v2), none]) (st' := [.ref v2, .int (nI 4), .ref q8, .ref q8]) (sg := [(.dup, 0), (.iconst 4, nI 4), (.aload_n 3, 0)]) (lSa_ok dd52) rfl ?_
              refine Y.getI fl_M_220 (lIa_ok dd53) h (fun v50 h => ?_)
              refine Y.iast (t0 := 0) (lIa_ok dd54) rfl (by decide) h (fun G51 _ _ h => ?_)
              refine Y.blk (pc' := 134) (L' := [some (.ref a0), some (.int a1), some (.int a2), some (.ref v2), some (.ref q8)]) (st' := [.int (a2 - (nI 2)), .ref q8]) (sg := [(.astore 4, 0), (.aload 4, 0), (.iload_n 2, 0), (.iconst 2, nI 2), (.isub, 0)]) (lSa_ok dd55) rfl ?_
              refine Y.iald (t0 := 0) (lIa_ok dd56) rfl h (fun v52 h => ?_)
              exact Y.iret rfl (lIa_ok dd57) h
            · refine Y.blk (pc' := 112) (L' := [some (.ref a0), some (.int a1), some (.int a2), some (.ref v2), none]) (st' := [.int (nI 1), .int (nI 3), .ref q8, .ref q8]) (sg := [(.iconst 1, nI 1)]) (lSa_ok dd58) rfl ?_
              refine Y.goto (off := 4) (tgt := 116) (lIa_ok dd59) (by decide) ?_
              refine Y.callI (yC.S (As := [.int (nI 1)]) (st := [.int (nI 3), .ref q8, .ref q8]) hV.1 cb_M_one lk_M_188 st_M_one (lIa_ok dd50) rfl rfl (Nat.le_of_ble_eq_true rfl) (by decide)) (k_M_one hV G44 (nI 1)) h (fun v55 G54 _ h => ?_)
              refine Y.iast (t0 := 0) (lIa_ok dd51) rfl (by decide) h (fun G56 _ _ h => ?_)
              refine Y.blk (pc' := 123) (L' := [some (.ref a0), some (.int a1), some (.int a2), some (.ref v2), none]) (st' := [.ref v2, .int (nI 4), .ref q8, .ref q8]) (sg := [(.dup, 0), (.iconst 4, nI 4), (.aload_n 3, 0)]) (lSa_ok dd52) rfl ?_
              refine Y.getI fl_M_220 (lIa_ok dd53) h (fun v57 h => ?_)
              refine Y.iast (t0 := 0) (lIa_ok dd54) rfl (by decide) h (fun G58 _ _ h => ?_)
              refine Y.blk (pc' := 134) (L' := [some (.ref a0), some (.int a1), some (.int a2), some (.ref v2), some (.ref q8)]) (st' := [.int (a2 - (nI 2)), .ref q8]) (sg := [(.astore 4, 0), (.aload 4, 0), (.iload_n 2, 0), (.iconst 2, nI 2), (.isub, 0)]) (lSa_ok dd55) rfl ?_
              refine Y.iald (t0 := 0) (lIa_ok dd56) rfl h (fun v59 h => ?_)
              exact Y.iret rfl (lIa_ok dd57) h
        · refine Y.blk (pc' := 56) (L' := [some (.ref a0), some (.int a1), some (.int a2), some (.ref v2), none]) (st' := [.int (-1)]) (sg := [(.iconst (-1), -1)]) (lSa_ok dd62) rfl ?_
          exact Y.iret rfl (lIa_ok dd63) h
