def f_M_add2 (G : gH) (a0 : Int64) (a2 : Int64) : gR :=
  rL ((a0 * (lN 31)) + a2) G
theorem k_M_add2 {l : Launch} {D : va_G} {B : Nat} {O : State → Heap → Prop} (hV : zG l D B O) (G : gH) (a0 : Int64) (a2 : Int64) : gMet (zVm l D B O) m_M_add2 2 [.long a0, .long a2] G (f_M_add2 G a0 a2) := by
  have hdd : lSa m_M_add2 0 [(.lload_n 0, 0)] = true ∧ lIa m_M_add2 1 (.ldc2_w 303) 3 = true ∧ lSa m_M_add2 4 [(.lmul, 0), (.lload_n 2, 0), (.ladd, 0)] = true ∧ lIa m_M_add2 7 (.lreturn) 1 = true := by decide +kernel
  obtain ⟨dd0, dd1, dd2, dd3⟩ := hdd
  refine gMet.of (by decide +kernel) (Nat.le_of_ble_eq_true rfl) [some (.long a0), none, some (.long a2), none] (fun ls h => zEn_ok (n := 4) h) ?_
  intro o Gf h
  unfold f_M_add2 at h
  refine Y.blk (pc' := 1) (L' := [some (.long a0), none, some (.long a2), none]) (st' := [.long a0]) (sg := [(.lload_n 0, 0)]) (lSa_ok dd0) rfl ?_
  refine Y.ldc2 (v := lN 31) co_M_303 (lIa_ok dd1) ?_
  refine Y.blk (pc' := 7) (L' := [some (.long a0), none, some (.long a2), none]) (st' := [.long ((a0 * (lN 31)) + a2)]) (sg := [(.lmul, 0), (.lload_n 2, 0), (.ladd, 0)]) (lSa_ok dd2) rfl ?_
  exact Y.lret rfl (lIa_ok dd3) h

def f_M_at (G : gH) (a0 : Nat) (a1 : Int32) (a2 : Int32) : gR :=
  gOb G a0 6 fun o2 => bA (f_M_row G a0 a1) fun v5 G4 => gOb G4 a0 6 fun o7 => bI (f_M_base zDp G4 a0 a1) fun v10 G9 => gOb G9 v5 9 fun o12 => bA (f_AL_get G9 v5 (v10 + a2)) fun v15 G14 => gCaA G14 v15 100 (rA v15 G14)
theorem k_M_at {l : Launch} {D : va_G} {B : Nat} {O : State → Heap → Prop} (hV : zG l D B O) (G : gH) (a0 : Nat) (a1 : Int32) (a2 : Int32) : gMet (zVm l D B O) m_M_at 12 [.ref a0, .int a1, .int a2] G (f_M_at G a0 a1 a2) := by
  have hdd : lSa m_M_at 0 [(.aload_n 0, 0), (.iload_n 1, 0)] = true ∧ lIa m_M_at 2 (.invokevirtual 68) 3 = true ∧ lSa m_M_at 5 [(.aload_n 0, 0), (.iload_n 1, 0)] = true ∧ lIa m_M_at 7 (.invokevirtual 54) 3 = true ∧ lSa m_M_at 10 [(.iload_n 2, 0), (.iadd, 0)] = true ∧ lIa m_M_at 12 (.invokevirtual 57) 3 = true ∧ lIa m_M_at 15 (.checkcast 72) 3 = true ∧ lIa m_M_at 18 (.areturn) 1 = true := by decide +kernel
  obtain ⟨dd0, dd1, dd2, dd3, dd4, dd5, dd6, dd7⟩ := hdd
  refine gMet.of (by decide +kernel) (Nat.le_of_ble_eq_true rfl) [some (.ref a0), some (.int a1), some (.int a2)] (fun ls h => zEn_ok (n := 3) h) ?_
  intro o Gf h
  unfold f_M_at at h
  refine Y.blk (pc' := 2) (L' := [some (.ref a0), some (.int a1), some (.int a2)]) (st' := [.int a1, .ref a0]) (sg := [(.aload_n 0, 0), (.iload_n 1, 0)]) (lSa_ok dd0) rfl ?_
  obtain ⟨_, o2, e1, m3, h⟩ := gOb_inv h
  refine Y.callA (yC.Vi (b := a0) (As := [.int a1]) (st := []) (r := ("PartlisterModel", T_M, 9)) hV.1 cb_M_row lk_M_68 in_M_row rfl se_M_row (lIa_ok dd1) rfl rfl (Nat.le_of_ble_eq_true rfl) (by decide) e1 m3) (k_M_row hV G a0 a1) h (fun v5 G4 _ h => ?_)
  refine Y.blk (pc' := 7) (L' := [some (.ref a0), some (.int a1), some (.int a2)]) (st' := [.int a1, .ref a0, .ref v5]) (sg := [(.aload_n 0, 0), (.iload_n 1, 0)]) (lSa_ok dd2) rfl ?_
  obtain ⟨_, o7, e6, m8, h⟩ := gOb_inv h
  refine Y.callI (yC.Vi (b := a0) (As := [.int a1]) (st := [.ref v5]) (r := ("PartlisterModel", T_M, 9)) hV.1 cb_M_base lk_M_54 in_M_base rfl se_M_base (lIa_ok dd3) rfl rfl (Nat.le_of_ble_eq_true rfl) (by decide) e6 m8) (k_M_base zDp hV G4 a0 a1) h (fun v10 G9 _ h => ?_)
  refine Y.blk (pc' := 12) (L' := [some (.ref a0), some (.int a1), some (.int a2)]) (st' := [.int (v10 + a2), .ref v5]) (sg := [(.iload_n 2, 0), (.iadd, 0)]) (lSa_ok dd4) rfl ?_
  obtain ⟨_, o12, e11, m13, h⟩ := gOb_inv h
  refine Y.callA (yC.Vi (b := v5) (As := [.int (v10 + a2)]) (st := []) (r := ("java/util/ArrayList", T_AL, 3)) hV.1 cb_AL_get lk_M_57 in_AL_get rfl se_AL_get (lIa_ok dd5) rfl rfl (Nat.le_of_ble_eq_true rfl) (by decide) e11 m13) (k_AL_get hV G9 v5 (v10 + a2)) h (fun v15 G14 _ h => ?_)
  refine Y.castA (t0 := 0) (nm := "[I") (lIa_ok dd6) rfl (by decide) ck_M_72 h (fun h => ?_)
  exact Y.aret rfl (by first | exact Or.inl ⟨_, rfl⟩ | exact Or.inr ⟨_, rfl⟩) (lIa_ok dd7) h

def f_M_copy_L10 (w : Nat → Nat) (K36 : gH → Nat → gR) : Nat → gH → Nat → Int32 → Nat → Int32 → gR
  | 0, _, _, _, _, _ => none
  | n + 1, G, x0, x1, x2, x3 =>
    gOb G x0 6 fun o6 => bI (f_M_length G x0 x1) fun v9 G8 => if v9 ≤ x3 then K36 G8 x2
    else gOb G8 x0 6 fun o11 => bA (f_M_at G8 x0 x1 x3) fun v14 G13 => gOb G13 x2 9 fun o16 => bI (f_AL_add2 w G13 x2 v14) fun v19 G18 => f_M_copy_L10 w K36 n G18 x0 x1 x2 (x3 + (nI 1))
def f_M_copy (w : Nat → Nat) (G : gH) (a0 : Nat) (a1 : Int32) : gR :=
  gNewO G 9 3 [.null, .int 0, .int 0] fun q1 G2 => bV (f_AL_init w G2 q1) fun G4 => f_M_copy_L10 w (fun G22 x21 => rA x21 G22) zFu G4 a0 a1 q1 (nI 0)
theorem k_M_copy_L10 {l : Launch} {D : va_G} {B : Nat} {O : State → Heap → Prop} {w : Nat → Nat} (hV : zGw l D B O w) {o : gO} {Gf : gH} (K36 : gH → Nat → gR) (hK36 : ∀ (G : gH) (x2 : Nat), K36 G x2 = some (o, Gf) → Y (zVm l D B O) m_M_copy 13 o Gf 36 [none, none, some (.ref x2), none] [] G) : ∀ (n : Nat) (G : gH) (x0 : Nat) (x1 : Int32) (x2 : Nat) (x3 : Int32), f_M_copy_L10 w K36 n G x0 x1 x2 x3 = some (o, Gf) → Y (zVm l D B O) m_M_copy 13 o Gf 10 [some (.ref x0), some (.int x1), some (.ref x2), some (.int x3)] [] G := by
  have hdd : lSa m_M_copy 10 [(.iload_n 3, 0), (.aload_n 0, 0), (.iload_n 1, 0)] = true ∧ lIa m_M_copy 13 (.invokevirtual 74) 3 = true ∧ lIa m_M_copy 16 (.if_icmp .ge 20) 3 = true ∧ lSa m_M_copy 19 [(.aload_n 2, 0), (.aload_n 0, 0), (.iload_n 1, 0), (.iload_n 3, 0)] = true ∧ lIa m_M_copy 23 (.invokevirtual 132) 3 = true ∧ lIa m_M_copy 26 (.invokevirtual 28) 3 = true ∧ lSa m_M_copy 29 [(.pop, 0), (.iinc 3 1, nI 1)] = true ∧ lIa m_M_copy 33 (.goto (-23)) 3 = true := by decide +kernel
  obtain ⟨dd0, dd1, dd2, dd3, dd4, dd5, dd6, dd7⟩ := hdd
  intro n
  induction n with
  | zero => intro G x0 x1 x2 x3 h; cases h
  | succ n ih =>
    intro G x0 x1 x2 x3 h
    unfold f_M_copy_L10 at h
    refine Y.blk (pc' := 13) (L' := [some (.ref x0), some (.int x1), some (.ref x2), some (.int x3)]) (st' := [.int x1, .ref x0, .int x3]) (sg := [(.iload_n 3, 0), (.aload_n 0, 0), (.iload_n 1, 0)]) (lSa_ok dd0) rfl ?_
    obtain ⟨_, o6, e5, m7, h⟩ := gOb_inv h
    refine Y.callI (yC.Vi (b := x0) (As := [.int x1]) (st := [.int x3]) (r := ("PartlisterModel", T_M, 9)) hV.1.1 cb_M_length lk_M_74 in_M_length rfl se_M_length (lIa_ok dd1) rfl rfl (Nat.le_of_ble_eq_true rfl) (by decide) e5 m7) (k_M_length hV.1 G x0 x1) h (fun v9 G8 _ h => ?_)
    refine Y.ic_ge (off := 20) (tgt := 36) (lIa_ok dd2) (by decide) h (fun c20 h => ?_) (fun c20 h => ?_)
    · refine Y.less (L' := [none, none, some (.ref x2), none]) (zLe_none (zLe_none (zLe_some (zLe_none (zLe_nil))))) ?_
      exact hK36 G8 x2 h
    · refine Y.blk (pc' := 23) (L' := [some (.ref x0), some (.int x1), some (.ref x2), some (.int x3)]) (st' := [.int x3, .int x1, .ref x0, .ref x2]) (sg := [(.aload_n 2, 0), (.aload_n 0, 0), (.iload_n 1, 0), (.iload_n 3, 0)]) (lSa_ok dd3) rfl ?_
      obtain ⟨_, o11, e10, m12, h⟩ := gOb_inv h
      refine Y.callA (yC.Vi (b := x0) (As := [.int x1, .int x3]) (st := [.ref x2]) (r := ("PartlisterModel", T_M, 9)) hV.1.1 cb_M_at lk_M_132 in_M_at rfl se_M_at (lIa_ok dd4) rfl rfl (Nat.le_of_ble_eq_true rfl) (by decide) e10 m12) (k_M_at hV.1 G8 x0 x1 x3) h (fun v14 G13 _ h => ?_)
      obtain ⟨_, o16, e15, m17, h⟩ := gOb_inv h
      refine Y.callI (yC.Vi (b := x2) (As := [.ref v14]) (st := []) (r := ("java/util/ArrayList", T_AL, 3)) hV.1.1 cb_AL_add2 lk_M_28 in_AL_add2 rfl se_AL_add2 (lIa_ok dd5) rfl rfl (Nat.le_of_ble_eq_true rfl) (by decide) e15 m17) (k_AL_add2 hV G13 x2 v14) h (fun v19 G18 _ h => ?_)
      refine Y.blk (pc' := 33) (L' := [some (.ref x0), some (.int x1), some (.ref x2), some (.int (x3 + (nI 1)))]) (st' := []) (sg := [(.pop, 0), (.iinc 3 1, nI 1)]) (lSa_ok dd6) rfl ?_
      refine Y.goto (off := -23) (tgt := 10) (lIa_ok dd7) (by decide) ?_
      exact ih G18 x0 x1 x2 (x3 + (nI 1)) h
theorem k_M_copy {l : Launch} {D : va_G} {B : Nat} {O : State → Heap → Prop} {w : Nat → Nat} (hV : zGw l D B O w) (G : gH) (a0 : Nat) (a1 : Int32) : gMet (zVm l D B O) m_M_copy 13 [.ref a0, .int a1] G (f_M_copy w G a0 a1) := by
  have hdd : lIa m_M_copy 0 (.new 7) 3 = true ∧ lSa m_M_copy 3 [(.dup, 0)] = true ∧ lIa m_M_copy 4 (.invokespecial 9) 3 = true ∧ lSa m_M_copy 7 [(.astore_n 2, 0), (.iconst 0, nI 0), (.istore_n 3, 0)] = true ∧ lSa m_M_copy 36 [(.aload_n 2, 0)] = true ∧ lIa m_M_copy 37 (.areturn) 1 = true := by decide +kernel
  obtain ⟨dd0, dd1, dd2, dd3, dd4, dd5⟩ := hdd
  refine gMet.of (by decide +kernel) (Nat.le_of_ble_eq_true rfl) [some (.ref a0), some (.int a1), none, none] (fun ls h => zEn_ok (n := 4) h) ?_
  intro o Gf h
  unfold f_M_copy at h
  refine Y.new nc_M_7 (by decide) bk_AL (lIa_ok dd0) h (fun q1 G2 h => ?_)
  refine Y.blk (pc' := 4) (L' := [some (.ref a0), some (.int a1), none, none]) (st' := [.ref q1, .ref q1]) (sg := [(.dup, 0)]) (lSa_ok dd1) rfl ?_
  refine Y.callN (yC.I (b := q1) (As := []) (st := [.ref q1]) hV.1.1 cb_AL_init lk_M_9 in_AL_init rfl rfl (lIa_ok dd2) rfl rfl (Nat.le_of_ble_eq_true rfl) (by decide)) (k_AL_init hV G2 q1) h (fun G4 _ h => ?_)
  refine Y.blk (pc' := 10) (L' := [some (.ref a0), some (.int a1), some (.ref q1), some (.int (nI 0))]) (st' := []) (sg := [(.astore_n 2, 0), (.iconst 0, nI 0), (.istore_n 3, 0)]) (lSa_ok dd3) rfl ?_
  refine k_M_copy_L10 hV _ ?_  zFu G4 a0 a1 q1 (nI 0) h
  · intro G22 x21 h
    refine Y.blk (pc' := 37) (L' := [none, none, some (.ref x21), none]) (st' := [.ref x21]) (sg := [(.aload_n 2, 0)]) (lSa_ok dd4) rfl ?_
    exact Y.aret rfl (by first | exact Or.inl ⟨_, rfl⟩ | exact Or.inr ⟨_, rfl⟩) (lIa_ok dd5) h

def f_M_bring_L10 (w : Nat → Nat) (K45 : gH → Nat → Int32 → Nat → gR) : Nat → gH → Nat → Int32 → Int32 → Nat → Int32 → gR
  | 0, _, _, _, _, _, _ => none
  | n + 1, G, x0, x1, x2, x4, x5 =>
    gOb G x4 9 fun o7 => bI (f_AL_size G x4) fun v10 G9 => if v10 ≤ x5 then K45 G9 x0 x1 x4
    else gOb G9 x4 9 fun o12 => bA (f_AL_get G9 x4 x5) fun v15 G14 => gCaA G14 v15 100 (gOb G14 x0 6 fun o17 => bV (f_M_come w G14 x0 x1 (x2 + x5) v15) fun G19 => f_M_bring_L10 w K45 n G19 x0 x1 x2 x4 (x5 + (nI 1)))
def f_M_bring (w : Nat → Nat) (G : gH) (a0 : Nat) (a1 : Int32) (a2 : Int32) (a3 : Int32) : gR :=
  gOb G a0 6 fun o2 => bA (f_M_copy w G a0 a3) fun v5 G4 => f_M_bring_L10 w (fun G24 x21 x22 x23 => gOb G24 x23 9 fun o26 => bI (f_AL_size G24 x23) fun v29 G28 => gOb G28 x21 6 fun o31 => bV (f_M_change G28 x21 x22 v29 (-1)) fun G33 => gOb G33 x23 9 fun o35 => bI (f_AL_size G33 x23) fun v38 G37 => rI v38 G37) zFu G4 a0 a1 a2 v5 (nI 0)
theorem k_M_bring_L10 {l : Launch} {D : va_G} {B : Nat} {O : State → Heap → Prop} {w : Nat → Nat} (hV : zGw l D B O w) {o : gO} {Gf : gH} (K45 : gH → Nat → Int32 → Nat → gR) (hK45 : ∀ (G : gH) (x0 : Nat) (x1 : Int32) (x4 : Nat), K45 G x0 x1 x4 = some (o, Gf) → Y (zVm l D B O) m_M_bring 14 o Gf 45 [some (.ref x0), some (.int x1), none, none, some (.ref x4), none] [] G) : ∀ (n : Nat) (G : gH) (x0 : Nat) (x1 : Int32) (x2 : Int32) (x4 : Nat) (x5 : Int32), f_M_bring_L10 w K45 n G x0 x1 x2 x4 x5 = some (o, Gf) → Y (zVm l D B O) m_M_bring 14 o Gf 10 [some (.ref x0), some (.int x1), some (.int x2), none, some (.ref x4), some (.int x5)] [] G := by
  have hdd : lSa m_M_bring 10 [(.iload 5, 0), (.aload 4, 0)] = true ∧ lIa m_M_bring 14 (.invokevirtual 61) 3 = true ∧ lIa m_M_bring 17 (.if_icmp .ge 28) 3 = true ∧ lSa m_M_bring 20 [(.aload_n 0, 0), (.iload_n 1, 0), (.iload_n 2, 0), (.iload 5, 0), (.iadd, 0), (.aload 4, 0), (.iload 5, 0)] = true ∧ lIa m_M_bring 30 (.invokevirtual 57) 3 = true ∧ lIa m_M_bring 33 (.checkcast 72) 3 = true ∧ lIa m_M_bring 36 (.invokevirtual 124) 3 = true ∧ lSa m_M_bring 39 [(.iinc 5 1, nI 1)] = true ∧ lIa m_M_bring 42 (.goto (-32)) 3 = true := by decide +kernel
  refine lA8 hdd (fun dd0 dd1 dd2 dd3 dd4 dd5 dd6 dd7 hdd => ?_)
  have dd8 := hdd
  intro n
  induction n with
  | zero => intro G x0 x1 x2 x4 x5 h; cases h
  | succ n ih =>
    intro G x0 x1 x2 x4 x5 h
    unfold f_M_bring_L10 at h
    refine Y.blk (pc' := 14) (L' := [some (.ref x0), some (.int x1), some (.int x2), none, some (.ref x4), some (.int x5)]) (st' := [.ref x4, .int x5]) (sg := [(.iload 5, 0), (.aload 4, 0)]) (lSa_ok dd0) rfl ?_
    obtain ⟨_, o7, e6, m8, h⟩ := gOb_inv h
    refine Y.callI (yC.Vi (b := x4) (As := []) (st := [.int x5]) (r := ("java/util/ArrayList", T_AL, 3)) hV.1.1 cb_AL_size lk_M_61 in_AL_size rfl se_AL_size (lIa_ok dd1) rfl rfl (Nat.le_of_ble_eq_true rfl) (by decide) e6 m8) (k_AL_size hV.1 G x4) h (fun v10 G9 _ h => ?_)
    refine Y.ic_ge (off := 28) (tgt := 45) (lIa_ok dd2) (by decide) h (fun c20 h => ?_) (fun c20 h => ?_)
    · refine Y.less (L' := [some (.ref x0), some (.int x1), none, none, some (.ref x4), none]) (zLe_some (zLe_some (zLe_none (zLe_some (zLe_some (zLe_none (zLe_nil))))))) ?_
      exact hK45 G9 x0 x1 x4 h
    · refine Y.blk (pc' := 30) (L' := [some (.ref x0), some (.int x1), some (.int x2), none, some (.ref x4), some (.int x5)]) (st' := [.int x5, .ref x4, .int (x2 + x5), .int x1, .ref x0]) (sg := [(.aload_n 0, 0), (.iload_n 1, 0), (.iload_n 2, 0), (.iload 5, 0), (.iadd, 0), (.aload 4, 0), (.iload 5, 0)]) (lSa_ok dd3) rfl ?_
      obtain ⟨_, o12, e11, m13, h⟩ := gOb_inv h
      refine Y.callA (yC.Vi (b := x4) (As := [.int x5]) (st := [.int (x2 + x5), .int x1, .ref x0]) (r := ("java/util/ArrayList", T_AL, 3)) hV.1.1 cb_AL_get lk_M_57 in_AL_get rfl se_AL_get (lIa_ok dd4) rfl rfl (Nat.le_of_ble_eq_true rfl) (by decide) e11 m13) (k_AL_get hV.1 G9 x4 x5) h (fun v15 G14 _ h => ?_)
      refine Y.castA (t0 := 0) (nm := "[I") (lIa_ok dd5) rfl (by decide) ck_M_72 h (fun h => ?_)
      obtain ⟨_, o17, e16, m18, h⟩ := gOb_inv h
      refine Y.callN (yC.Vi (b := x0) (As := [.int x1, .int (x2 + x5), .ref v15]) (st := []) (r := ("PartlisterModel", T_M, 9)) hV.1.1 cb_M_come lk_M_124 in_M_come rfl se_M_come (lIa_ok dd6) rfl rfl (Nat.le_of_ble_eq_true rfl) (by decide) e16 m18) (k_M_come hV G14 x0 x1 (x2 + x5) v15) h (fun G19 _ h => ?_)
      refine Y.blk (pc' := 42) (L' := [some (.ref x0), some (.int x1), some (.int x2), none, some (.ref x4), some (.int (x5 + (nI 1)))]) (st' := []) (sg := [(.iinc 5 1, nI 1)]) (lSa_ok dd7) rfl ?_
      refine Y.goto (off := -32) (tgt := 10) (lIa_ok dd8) (by decide) ?_
      exact ih G19 x0 x1 x2 x4 (x5 + (nI 1)) h
theorem k_M_bring {l : Launch} {D : va_G} {B : Nat} {O : State → Heap → Prop} {w : Nat → Nat} (hV : zGw l D B O w) (G : gH) (a0 : Nat) (a1 : Int32) (a2 : Int32) (a3 : Int32) : gMet (zVm l D B O) m_M_bring 14 [.ref a0, .int a1, .int a2, .int a3] G (f_M_bring w G a0 a1 a2 a3) := by
  have hdd : lSa m_M_bring 0 [(.aload_n 0, 0), (.iload_n 3, 0)] = true ∧ lIa m_M_bring 2 (.invokevirtual 136) 3 = true ∧ lSa m_M_bring 5 [(.astore 4, 0), (.iconst 0, nI 0), (.istore 5, 0)] = true ∧ lSa m_M_bring 45 [(.aload_n 0, 0), (.iload_n 1, 0), (.aload 4, 0)] = true ∧ lIa m_M_bring 49 (.invokevirtual 61) 3 = true ∧ lSa m_M_bring 52 [(.iconst (-1), -1)] = true ∧ lIa m_M_bring 53 (.invokevirtual 128) 3 = true ∧ lSa m_M_bring 56 [(.aload 4, 0)] = true ∧ lIa m_M_bring 58 (.invokevirtual 61) 3 = true ∧ lIa m_M_bring 61 (.ireturn) 1 = true := by decide +kernel
  refine lA8 hdd (fun dd0 dd1 dd2 dd3 dd4 dd5 dd6 dd7 hdd => ?_)
  obtain ⟨dd8, dd9⟩ := hdd
  refine gMet.of (by decide +kernel) (Nat.le_of_ble_eq_true rfl) [some (.ref a0), some (.int a1), some (.int a2), some (.int a3), none, none] (fun ls h => zEn_ok (n := 6) h) ?_
  intro o Gf h
  unfold f_M_bring at h
  refine Y.blk (pc' := 2) (L' := [some (.ref a0), some (.int a1), some (.int a2), some (.int a3), none, none]) (st' := [.int a3, .ref a0]) (sg := [(.aload_n 0, 0), (.iload_n 3, 0)]) (lSa_ok dd0) rfl ?_
  obtain ⟨_, o2, e1, m3, h⟩ := gOb_inv h
  refine Y.callA (yC.Vi (b := a0) (As := [.int a3]) (st := []) (r := ("PartlisterModel", T_M, 9)) hV.1.1 cb_M_copy lk_M_136 in_M_copy rfl se_M_copy (lIa_ok dd1) rfl rfl (Nat.le_of_ble_eq_true rfl) (by decide) e1 m3) (k_M_copy hV G a0 a3) h (fun v5 G4 _ h => ?_)
  refine Y.blk (pc' := 10) (L' := [some (.ref a0), some (.int a1), some (.int a2), some (.int a3), some (.ref v5), some (.int (nI 0))]) (st' := []) (sg := [(.astore 4, 0), (.iconst 0, nI 0), (.istore 5, 0)]) (lSa_ok dd2) rfl ?_
  refine Y.less (L' := [some (.ref a0), some (.int a1), some (.int a2), none, some (.ref v5), some (.int (nI 0))]) (zLe_some (zLe_some (zLe_some (zLe_none (zLe_some (zLe_some (zLe_nil))))))) ?_
  refine k_M_bring_L10 hV _ ?_  zFu G4 a0 a1 a2 v5 (nI 0) h
  · intro G24 x21 x22 x23 h
    refine Y.blk (pc' := 49) (L' := [some (.ref x21), some (.int x22), none, none, some (.ref x23), none]) (st' := [.ref x23, .int x22, .ref x21]) (sg := [(.aload_n 0, 0), (.iload_n 1, 0), (.aload 4, 0)]) (lSa_ok dd3) rfl ?_
    obtain ⟨_, o26, e25, m27, h⟩ := gOb_inv h
    refine Y.callI (yC.Vi (b := x23) (As := []) (st := [.int x22, .ref x21]) (r := ("java/util/ArrayList", T_AL, 3)) hV.1.1 cb_AL_size lk_M_61 in_AL_size rfl se_AL_size (lIa_ok dd4) rfl rfl (Nat.le_of_ble_eq_true rfl) (by decide) e25 m27) (k_AL_size hV.1 G24 x23) h (fun v29 G28 _ h => ?_)
    refine Y.blk (pc' := 53) (L' := [some (.ref x21), some (.int x22), none, none, some (.ref x23), none]) (st' := [.int (-1), .int v29, .int x22, .ref x21]) (sg := [(.iconst (-1), -1)]) (lSa_ok dd5) rfl ?_
    obtain ⟨_, o31, e30, m32, h⟩ := gOb_inv h
    refine Y.callN (yC.Vi (b := x21) (As := [.int x22, .int v29, .int (-1)]) (st := []) (r := ("PartlisterModel", T_M, 9)) hV.1.1 cb_M_change lk_M_128 in_M_change rfl se_M_change (lIa_ok dd6) rfl rfl (Nat.le_of_ble_eq_true rfl) (by decide) e30 m32) (k_M_change hV.1 G28 x21 x22 v29 (-1)) h (fun G33 _ h => ?_)
    refine Y.blk (pc' := 58) (L' := [some (.ref x21), some (.int x22), none, none, some (.ref x23), none]) (st' := [.ref x23]) (sg := [(.aload 4, 0)]) (lSa_ok dd7) rfl ?_
    obtain ⟨_, o35, e34, m36, h⟩ := gOb_inv h
    refine Y.callI (yC.Vi (b := x23) (As := []) (st := []) (r := ("java/util/ArrayList", T_AL, 3)) hV.1.1 cb_AL_size lk_M_61 in_AL_size rfl se_AL_size (lIa_ok dd8) rfl rfl (Nat.le_of_ble_eq_true rfl) (by decide) e34 m36) (k_AL_size hV.1 G33 x23) h (fun v38 G37 _ h => ?_)
    exact Y.iret rfl (lIa_ok dd9) h

def f_M_addAll (w : Nat → Nat) (G : gH) (a0 : Nat) (a1 : Int32) (a2 : Int32) (a3 : Int32) : gR :=
  gOb G a0 6 fun o2 => bI (f_M_isNoList G a0 a1) fun v5 G4 => if v5 = 0 then (gOb G4 a0 6 fun o7 => bI (f_M_isNoList G4 a0 a3) fun v10 G9 => if v10 = 0 then (gOb G9 a0 6 fun o12 => bI (f_M_start G9 a0 (nI 0) (nI 1)) fun v15 G14 => if v15 = 0 then (gOb G14 a0 6 fun o17 => bI (f_M_length G14 a0 a1) fun v20 G19 => bI (f_M_isIn G19 a2 (nI 0) v20) fun v23 G22 => if v23 = 0 then (gOb G22 a0 6 fun o25 => bI (f_M_refuse G22 a0 (nI 1) (nI 1)) fun v28 G27 => if v28 = 0 then (gOb G27 a0 6 fun o30 => bI (f_M_rowOf zDp G27 a0 a1) fun v33 G32 => gOb G32 a0 6 fun o35 => bI (f_M_rowOf zDp G32 a0 a3) fun v38 G37 => if v33 = v38 then (gOb G37 a0 6 fun o40 => bI (f_M_refuse G37 a0 (nI 1) (nI 2)) fun v43 G42 => if v43 = 0 then gOb G42 a0 6 fun o45 => bI (f_M_bring w G42 a0 a1 a2 a3) fun v48 G47 => rI v48 G47
              else rI (nI 0) G42)
            else gOb G37 a0 6 fun o51 => bI (f_M_length G37 a0 a3) fun v54 G53 => gOb G53 a0 6 fun o56 => bI (f_M_isFull G53 a0 a1 v54) fun v59 G58 => if v59 = 0 then (gOb G58 a0 6 fun o61 => bI (f_M_refuse G58 a0 (nI 0) (nI 2)) fun v64 G63 => if v64 = 0 then gOb G63 a0 6 fun o66 => bI (f_M_bring w G63 a0 a1 a2 a3) fun v69 G68 => rI v69 G68
                else rI (nI 0) G63)
              else gOb G58 a0 6 fun o72 => bI (f_M_refuse G58 a0 (nI 1) (nI 2)) fun v75 G74 => if v75 = 0 then gOb G74 a0 6 fun o77 => bI (f_M_bring w G74 a0 a1 a2 a3) fun v80 G79 => rI v80 G79
                else rI (nI 0) G74)
          else rI (nI 0) G27)
        else gOb G22 a0 6 fun o86 => bI (f_M_refuse G22 a0 (nI 0) (nI 1)) fun v89 G88 => if v89 = 0 then (gOb G88 a0 6 fun o91 => bI (f_M_rowOf zDp G88 a0 a1) fun v94 G93 => gOb G93 a0 6 fun o96 => bI (f_M_rowOf zDp G93 a0 a3) fun v99 G98 => if v94 = v99 then (gOb G98 a0 6 fun o101 => bI (f_M_refuse G98 a0 (nI 1) (nI 2)) fun v104 G103 => if v104 = 0 then gOb G103 a0 6 fun o106 => bI (f_M_bring w G103 a0 a1 a2 a3) fun v109 G108 => rI v109 G108
              else rI (nI 0) G103)
            else gOb G98 a0 6 fun o112 => bI (f_M_length G98 a0 a3) fun v115 G114 => gOb G114 a0 6 fun o117 => bI (f_M_isFull G114 a0 a1 v115) fun v120 G119 => if v120 = 0 then (gOb G119 a0 6 fun o122 => bI (f_M_refuse G119 a0 (nI 0) (nI 2)) fun v125 G124 => if v125 = 0 then gOb G124 a0 6 fun o127 => bI (f_M_bring w G124 a0 a1 a2 a3) fun v130 G129 => rI v130 G129
                else rI (nI 0) G124)
              else gOb G119 a0 6 fun o133 => bI (f_M_refuse G119 a0 (nI 1) (nI 2)) fun v136 G135 => if v136 = 0 then gOb G135 a0 6 fun o138 => bI (f_M_bring w G135 a0 a1 a2 a3) fun v141 G140 => rI v141 G140
                else rI (nI 0) G135)
          else rI (nI 0) G88)
      else rI (nI 0) G14)
    else gOb G9 a0 6 fun o149 => bI (f_M_start G9 a0 (nI 1) (nI 1)) fun v152 G151 => if v152 = 0 then (gOb G151 a0 6 fun o154 => bI (f_M_length G151 a0 a1) fun v157 G156 => bI (f_M_isIn G156 a2 (nI 0) v157) fun v160 G159 => if v160 = 0 then (gOb G159 a0 6 fun o162 => bI (f_M_refuse G159 a0 (nI 1) (nI 1)) fun v165 G164 => if v165 = 0 then (gOb G164 a0 6 fun o167 => bI (f_M_rowOf zDp G164 a0 a1) fun v170 G169 => gOb G169 a0 6 fun o172 => bI (f_M_rowOf zDp G169 a0 a3) fun v175 G174 => if v170 = v175 then (gOb G174 a0 6 fun o177 => bI (f_M_refuse G174 a0 (nI 1) (nI 2)) fun v180 G179 => if v180 = 0 then gOb G179 a0 6 fun o182 => bI (f_M_bring w G179 a0 a1 a2 a3) fun v185 G184 => rI v185 G184
              else rI (nI 0) G179)
            else gOb G174 a0 6 fun o188 => bI (f_M_length G174 a0 a3) fun v191 G190 => gOb G190 a0 6 fun o193 => bI (f_M_isFull G190 a0 a1 v191) fun v196 G195 => if v196 = 0 then (gOb G195 a0 6 fun o198 => bI (f_M_refuse G195 a0 (nI 0) (nI 2)) fun v201 G200 => if v201 = 0 then gOb G200 a0 6 fun o203 => bI (f_M_bring w G200 a0 a1 a2 a3) fun v206 G205 => rI v206 G205
                else rI (nI 0) G200)
              else gOb G195 a0 6 fun o209 => bI (f_M_refuse G195 a0 (nI 1) (nI 2)) fun v212 G211 => if v212 = 0 then gOb G211 a0 6 fun o214 => bI (f_M_bring w G211 a0 a1 a2 a3) fun v217 G216 => rI v217 G216
                else rI (nI 0) G211)
          else rI (nI 0) G164)
        else gOb G159 a0 6 fun o223 => bI (f_M_refuse G159 a0 (nI 0) (nI 1)) fun v226 G225 => if v226 = 0 then (gOb G225 a0 6 fun o228 => bI (f_M_rowOf zDp G225 a0 a1) fun v231 G230 => gOb G230 a0 6 fun o233 => bI (f_M_rowOf zDp G230 a0 a3) fun v236 G235 => if v231 = v236 then (gOb G235 a0 6 fun o238 => bI (f_M_refuse G235 a0 (nI 1) (nI 2)) fun v241 G240 => if v241 = 0 then gOb G240 a0 6 fun o243 => bI (f_M_bring w G240 a0 a1 a2 a3) fun v246 G245 => rI v246 G245
              else rI (nI 0) G240)
            else gOb G235 a0 6 fun o249 => bI (f_M_length G235 a0 a3) fun v252 G251 => gOb G251 a0 6 fun o254 => bI (f_M_isFull G251 a0 a1 v252) fun v257 G256 => if v257 = 0 then (gOb G256 a0 6 fun o259 => bI (f_M_refuse G256 a0 (nI 0) (nI 2)) fun v262 G261 => if v262 = 0 then gOb G261 a0 6 fun o264 => bI (f_M_bring w G261 a0 a1 a2 a3) fun v267 G266 => rI v267 G266
                else rI (nI 0) G261)
              else gOb G256 a0 6 fun o270 => bI (f_M_refuse G256 a0 (nI 1) (nI 2)) fun v273 G272 => if v273 = 0 then gOb G272 a0 6 fun o275 => bI (f_M_bring w G272 a0 a1 a2 a3) fun v278 G277 => rI v278 G277
                else rI (nI 0) G272)
          else rI (nI 0) G225)
      else rI (nI 0) G151)
  else gOb G4 a0 6 fun o287 => bI (f_M_start G4 a0 (nI 1) (nI 1)) fun v290 G289 => if v290 = 0 then (gOb G289 a0 6 fun o292 => bI (f_M_length G289 a0 a1) fun v295 G294 => bI (f_M_isIn G294 a2 (nI 0) v295) fun v298 G297 => if v298 = 0 then (gOb G297 a0 6 fun o300 => bI (f_M_refuse G297 a0 (nI 1) (nI 1)) fun v303 G302 => if v303 = 0 then (gOb G302 a0 6 fun o305 => bI (f_M_rowOf zDp G302 a0 a1) fun v308 G307 => gOb G307 a0 6 fun o310 => bI (f_M_rowOf zDp G307 a0 a3) fun v313 G312 => if v308 = v313 then (gOb G312 a0 6 fun o315 => bI (f_M_refuse G312 a0 (nI 1) (nI 2)) fun v318 G317 => if v318 = 0 then gOb G317 a0 6 fun o320 => bI (f_M_bring w G317 a0 a1 a2 a3) fun v323 G322 => rI v323 G322
            else rI (nI 0) G317)
          else gOb G312 a0 6 fun o326 => bI (f_M_length G312 a0 a3) fun v329 G328 => gOb G328 a0 6 fun o331 => bI (f_M_isFull G328 a0 a1 v329) fun v334 G333 => if v334 = 0 then (gOb G333 a0 6 fun o336 => bI (f_M_refuse G333 a0 (nI 0) (nI 2)) fun v339 G338 => if v339 = 0 then gOb G338 a0 6 fun o341 => bI (f_M_bring w G338 a0 a1 a2 a3) fun v344 G343 => rI v344 G343
              else rI (nI 0) G338)
            else gOb G333 a0 6 fun o347 => bI (f_M_refuse G333 a0 (nI 1) (nI 2)) fun v350 G349 => if v350 = 0 then gOb G349 a0 6 fun o352 => bI (f_M_bring w G349 a0 a1 a2 a3) fun v355 G354 => rI v355 G354
              else rI (nI 0) G349)
        else rI (nI 0) G302)
      else gOb G297 a0 6 fun o361 => bI (f_M_refuse G297 a0 (nI 0) (nI 1)) fun v364 G363 => if v364 = 0 then (gOb G363 a0 6 fun o366 => bI (f_M_rowOf zDp G363 a0 a1) fun v369 G368 => gOb G368 a0 6 fun o371 => bI (f_M_rowOf zDp G368 a0 a3) fun v374 G373 => if v369 = v374 then (gOb G373 a0 6 fun o376 => bI (f_M_refuse G373 a0 (nI 1) (nI 2)) fun v379 G378 => if v379 = 0 then gOb G378 a0 6 fun o381 => bI (f_M_bring w G378 a0 a1 a2 a3) fun v384 G383 => rI v384 G383
            else rI (nI 0) G378)
          else gOb G373 a0 6 fun o387 => bI (f_M_length G373 a0 a3) fun v390 G389 => gOb G389 a0 6 fun o392 => bI (f_M_isFull G389 a0 a1 v390) fun v395 G394 => if v395 = 0 then (gOb G394 a0 6 fun o397 => bI (f_M_refuse G394 a0 (nI 0) (nI 2)) fun v400 G399 => if v400 = 0 then gOb G399 a0 6 fun o402 => bI (f_M_bring w G399 a0 a1 a2 a3) fun v405 G404 => rI v405 G404
              else rI (nI 0) G399)
            else gOb G394 a0 6 fun o408 => bI (f_M_refuse G394 a0 (nI 1) (nI 2)) fun v411 G410 => if v411 = 0 then gOb G410 a0 6 fun o413 => bI (f_M_bring w G410 a0 a1 a2 a3) fun v416 G415 => rI v416 G415
              else rI (nI 0) G410)
        else rI (nI 0) G363)
    else rI (nI 0) G289
theorem k_M_addAll {l : Launch} {D : va_G} {B : Nat} {O : State → Heap → Prop} {w : Nat → Nat} (hV : zGw l D B O w) (G : gH) (a0 : Nat) (a1 : Int32) (a2 : Int32) (a3 : Int32) : gMet (zVm l D B O) m_M_addAll 15 [.ref a0, .int a1, .int a2, .int a3] G (f_M_addAll w G a0 a1 a2 a3) := by
  have hdd : lSa m_M_addAll 0 [(.aload_n 0, 0), (.aload_n 0, 0), (.iload_n 1, 0)] = true ∧ lIa m_M_addAll 3 (.invokevirtual 110) 3 = true ∧ lIa m_M_addAll 6 (.ifCond .ne 11) 3 = true ∧ lSa m_M_addAll 9 [(.aload_n 0, 0), (.iload_n 3, 0)] = true ∧ lIa m_M_addAll 11 (.invokevirtual 110) 3 = true ∧ lIa m_M_addAll 14 (.ifCond .eq 7) 3 = true ∧ lSa m_M_addAll 21 [(.iconst 0, nI 0), (.iconst 1, nI 1)] = true ∧ lIa m_M_addAll 23 (.invokevirtual 114) 3 = true ∧ lIa m_M_addAll 26 (.ifCond .ne 68) 3 = true ∧ lSa m_M_addAll 29 [(.aload_n 0, 0), (.iload_n 2, 0), (.iconst 0, nI 0), (.aload_n 0, 0), (.iload_n 1, 0)] = true ∧ lIa m_M_addAll 34 (.invokevirtual 74) 3 = true ∧ lIa m_M_addAll 37 (.invokestatic 40) 3 = true ∧ lIa m_M_addAll 40 (.ifCond .ne 7) 3 = true ∧ lSa m_M_addAll 43 [(.iconst 1, nI 1)] = true ∧ lIa m_M_addAll 44 (.goto 4) 3 = true ∧ lSa m_M_addAll 48 [(.iconst 1, nI 1)] = true ∧ lIa m_M_addAll 49 (.invokevirtual 36) 3 = true ∧ lIa m_M_addAll 52 (.ifCond .ne 42) 3 = true ∧ lSa m_M_addAll 55 [(.aload_n 0, 0), (.aload_n 0, 0), (.iload_n 1, 0)] = true ∧ lIa m_M_addAll 58 (.invokevirtual 47) 3 = true ∧ lSa m_M_addAll 61 [(.aload_n 0, 0), (.iload_n 3, 0)] = true ∧ lIa m_M_addAll 63 (.invokevirtual 47) 3 = true ∧ lIa m_M_addAll 66 (.if_icmp .eq 16) 3 = true ∧ lSa m_M_addAll 82 [(.iconst 1, nI 1)] = true ∧ lIa m_M_addAll 83 (.goto 4) 3 = true ∧ lSa m_M_addAll 87 [(.iconst 2, nI 2)] = true ∧ lIa m_M_addAll 88 (.invokevirtual 36) 3 = true ∧ lIa m_M_addAll 91 (.ifCond .eq 5) 3 = true ∧ lSa m_M_addAll 96 [(.aload_n 0, 0), (.iload_n 1, 0), (.iload_n 2, 0), (.iload_n 3, 0)] = true ∧ lIa m_M_addAll 100 (.invokevirtual 139) 3 = true ∧ lIa m_M_addAll 103 (.ireturn) 1 = true ∧ lSa m_M_addAll 94 [(.iconst 0, nI 0)] = true ∧ lIa m_M_addAll 95 (.ireturn) 1 = true ∧ lSa m_M_addAll 69 [(.aload_n 0, 0), (.iload_n 1, 0), (.aload_n 0, 0), (.iload_n 3, 0)] = true ∧ lIa m_M_addAll 73 (.invokevirtual 74) 3 = true ∧ lIa m_M_addAll 76 (.invokevirtual 117) 3 = true ∧ lIa m_M_addAll 79 (.ifCond .eq 7) 3 = true ∧ lSa m_M_addAll 86 [(.iconst 0, nI 0), (.iconst 2, nI 2)] = true ∧ lSa m_M_addAll 47 [(.iconst 0, nI 0), (.iconst 1, nI 1)] = true ∧ lSa m_M_addAll 17 [(.iconst 1, nI 1)] = true ∧ lIa m_M_addAll 18 (.goto 4) 3 = true ∧ lSa m_M_addAll 22 [(.iconst 1, nI 1)] = true := by decide +kernel
  refine lA8 hdd (fun dd0 dd1 dd2 dd3 dd4 dd5 dd6 dd7 hdd => ?_)
  refine lA8 hdd (fun dd8 dd9 dd10 dd11 dd12 dd13 dd14 dd15 hdd => ?_)
  refine lA8 hdd (fun dd16 dd17 dd18 dd19 dd20 dd21 dd22 dd23 hdd => ?_)
  refine lA8 hdd (fun dd24 dd25 dd26 dd27 dd28 dd29 dd30 dd31 hdd => ?_)
  refine lA8 hdd (fun dd32 dd33 dd34 dd35 dd36 dd37 dd38 dd39 hdd => ?_)
  obtain ⟨dd40, dd41⟩ := hdd
  refine gMet.of (by decide +kernel) (Nat.le_of_ble_eq_true rfl) [some (.ref a0), some (.int a1), some (.int a2), some (.int a3)] (fun ls h => zEn_ok (n := 4) h) ?_
  intro o Gf h
  unfold f_M_addAll at h
  refine Y.blk (pc' := 3) (L' := [some (.ref a0), some (.int a1), some (.int a2), some (.int a3)]) (st' := [.int a1, .ref a0, .ref a0]) (sg := [(.aload_n 0, 0), (.aload_n 0, 0), (.iload_n 1, 0)]) (lSa_ok dd0) rfl ?_
  obtain ⟨_, o2, e1, m3, h⟩ := gOb_inv h
  refine Y.callI (yC.Vi (b := a0) (As := [.int a1]) (st := [.ref a0]) (r := ("PartlisterModel", T_M, 9)) hV.1.1 cb_M_isNoList lk_M_110 in_M_isNoList rfl se_M_isNoList (lIa_ok dd1) rfl rfl (Nat.le_of_ble_eq_true rfl) (by decide) e1 m3) (k_M_isNoList hV.1 G a0 a1) h (fun v5 G4 _ h => ?_)
  refine Y.if_ne (off := 11) (tgt := 17) (lIa_ok dd2) (by decide) h (fun c423 h => ?_) (fun c423 h => ?_)
  · refine Y.blk (pc' := 11) (L' := [some (.ref a0), some (.int a1), some (.int a2), some (.int a3)]) (st' := [.int a3, .ref a0, .ref a0]) (sg := [(.aload_n 0, 0), (.iload_n 3, 0)]) (lSa_ok dd3) rfl ?_
    obtain ⟨_, o7, e6, m8, h⟩ := gOb_inv h
    refine Y.callI (yC.Vi (b := a0) (As := [.int a3]) (st := [.ref a0]) (r := ("PartlisterModel", T_M, 9)) hV.1.1 cb_M_isNoList lk_M_110 in_M_isNoList rfl se_M_isNoList (lIa_ok dd4) rfl rfl (Nat.le_of_ble_eq_true rfl) (by decide) e6 m8) (k_M_isNoList hV.1 G4 a0 a3) h (fun v10 G9 _ h => ?_)
    refine Y.if_eq (off := 7) (tgt := 21) (lIa_ok dd5) (by decide) h (fun c285 h => ?_) (fun c285 h => ?_)
    · refine Y.blk (pc' := 23) (L' := [some (.ref a0), some (.int a1), some (.int a2), some (.int a3)]) (st' := [.int (nI 1), .int (nI 0), .ref a0]) (sg := [(.iconst 0, nI 0), (.iconst 1, nI 1)]) (lSa_ok dd6) rfl ?_
      obtain ⟨_, o12, e11, m13, h⟩ := gOb_inv h
      refine Y.callI (yC.Vi (b := a0) (As := [.int (nI 0), .int (nI 1)]) (st := []) (r := ("PartlisterModel", T_M, 9)) hV.1.1 cb_M_start lk_M_114 in_M_start rfl se_M_start (lIa_ok dd7) rfl rfl (Nat.le_of_ble_eq_true rfl) (by decide) e11 m13) (k_M_start hV.1 G9 a0 (nI 0) (nI 1)) h (fun v15 G14 _ h => ?_)
      refine Y.if_ne (off := 68) (tgt := 94) (lIa_ok dd8) (by decide) h (fun c147 h => ?_) (fun c147 h => ?_)
      · refine Y.blk (pc' := 34) (L' := [some (.ref a0), some (.int a1), some (.int a2), some (.int a3)]) (st' := [.int a1, .ref a0, .int (nI 0), .int a2, .ref a0]) (sg := [(.aload_n 0, 0), (.iload_n 2, 0), (.iconst 0, nI 0), (.aload_n 0, 0), (.iload_n 1, 0)]) (lSa_ok dd9) rfl ?_
        obtain ⟨_, o17, e16, m18, h⟩ := gOb_inv h
        refine Y.callI (yC.Vi (b := a0) (As := [.int a1]) (st := [.int (nI 0), .int a2, .ref a0]) (r := ("PartlisterModel", T_M, 9)) hV.1.1 cb_M_length lk_M_74 in_M_length rfl se_M_length (lIa_ok dd10) rfl rfl (Nat.le_of_ble_eq_true rfl) (by decide) e16 m18) (k_M_length hV.1 G14 a0 a1) h (fun v20 G19 _ h => ?_)
        refine Y.callI (yC.S (As := [.int a2, .int (nI 0), .int v20]) (st := [.ref a0]) hV.1.1 cb_M_isIn lk_M_40 st_M_isIn (lIa_ok dd11) rfl rfl (Nat.le_of_ble_eq_true rfl) (by decide)) (k_M_isIn hV.1 G19 a2 (nI 0) v20) h (fun v23 G22 _ h => ?_)
        refine Y.if_ne (off := 7) (tgt := 47) (lIa_ok dd12) (by decide) h (fun c146 h => ?_) (fun c146 h => ?_)
        · refine Y.blk (pc' := 44) (L' := [some (.ref a0), some (.int a1), some (.int a2), some (.int a3)]) (st' := [.int (nI 1), .ref a0]) (sg := [(.iconst 1, nI 1)]) (lSa_ok dd13) rfl ?_
          refine Y.goto (off := 4) (tgt := 48) (lIa_ok dd14) (by decide) ?_
          refine Y.blk (pc' := 49) (L' := [some (.ref a0), some (.int a1), some (.int a2), some (.int a3)]) (st' := [.int (nI 1), .int (nI 1), .ref a0]) (sg := [(.iconst 1, nI 1)]) (lSa_ok dd15) rfl ?_
          obtain ⟨_, o25, e24, m26, h⟩ := gOb_inv h
          refine Y.callI (yC.Vi (b := a0) (As := [.int (nI 1), .int (nI 1)]) (st := []) (r := ("PartlisterModel", T_M, 9)) hV.1.1 cb_M_refuse lk_M_36 in_M_refuse rfl se_M_refuse (lIa_ok dd16) rfl rfl (Nat.le_of_ble_eq_true rfl) (by decide) e24 m26) (k_M_refuse hV.1 G22 a0 (nI 1) (nI 1)) h (fun v28 G27 _ h => ?_)
          refine Y.if_ne (off := 42) (tgt := 94) (lIa_ok dd17) (by decide) h (fun c84 h => ?_) (fun c84 h => ?_)
          · refine Y.blk (pc' := 58) (L' := [some (.ref a0), some (.int a1), some (.int a2), some (.int a3)]) (st' := [.int a1, .ref a0, .ref a0]) (sg := [(.aload_n 0, 0), (.aload_n 0, 0), (.iload_n 1, 0)]) (lSa_ok dd18) rfl ?_
            obtain ⟨_, o30, e29, m31, h⟩ := gOb_inv h
            refine Y.callI (yC.Vi (b := a0) (As := [.int a1]) (st := [.ref a0]) (r := ("PartlisterModel", T_M, 9)) hV.1.1 cb_M_rowOf lk_M_47 in_M_rowOf rfl se_M_rowOf (lIa_ok dd19) rfl rfl (Nat.le_of_ble_eq_true rfl) (by decide) e29 m31) (k_M_rowOf zDp hV.1 G27 a0 a1) h (fun v33 G32 _ h => ?_)
            refine Y.blk (pc' := 63) (L' := [some (.ref a0), some (.int a1), some (.int a2), some (.int a3)]) (st' := [.int a3, .ref a0, .int v33, .ref a0]) (sg := [(.aload_n 0, 0), (.iload_n 3, 0)]) (lSa_ok dd20) rfl ?_
            obtain ⟨_, o35, e34, m36, h⟩ := gOb_inv h
            refine Y.callI (yC.Vi (b := a0) (As := [.int a3]) (st := [.int v33, .ref a0]) (r := ("PartlisterModel", T_M, 9)) hV.1.1 cb_M_rowOf lk_M_47 in_M_rowOf rfl se_M_rowOf (lIa_ok dd21) rfl rfl (Nat.le_of_ble_eq_true rfl) (by decide) e34 m36) (k_M_rowOf zDp hV.1 G32 a0 a3) h (fun v38 G37 _ h => ?_)
            refine Y.ic_eq (off := 16) (tgt := 82) (lIa_ok dd22) (by decide) h (fun c83 h => ?_) (fun c83 h => ?_)
            · refine Y.blk (pc' := 83) (L' := [some (.ref a0), some (.int a1), some (.int a2), some (.int a3)]) (st' := [.int (nI 1), .ref a0]) (sg := [(.iconst 1, nI 1)]) (lSa_ok dd23) rfl ?_
              refine Y.goto (off := 4) (tgt := 87) (lIa_ok dd24) (by decide) ?_
              refine Y.blk (pc' := 88) (L' := [some (.ref a0), some (.int a1), some (.int a2), some (.int a3)]) (st' := [.int (nI 2), .int (nI 1), .ref a0]) (sg := [(.iconst 2, nI 2)]) (lSa_ok dd25) rfl ?_
              obtain ⟨_, o40, e39, m41, h⟩ := gOb_inv h
              refine Y.callI (yC.Vi (b := a0) (As := [.int (nI 1), .int (nI 2)]) (st := []) (r := ("PartlisterModel", T_M, 9)) hV.1.1 cb_M_refuse lk_M_36 in_M_refuse rfl se_M_refuse (lIa_ok dd26) rfl rfl (Nat.le_of_ble_eq_true rfl) (by decide) e39 m41) (k_M_refuse hV.1 G37 a0 (nI 1) (nI 2)) h (fun v43 G42 _ h => ?_)
              refine Y.if_eq (off := 5) (tgt := 96) (lIa_ok dd27) (by decide) h (fun c49 h => ?_) (fun c49 h => ?_)
              · refine Y.blk (pc' := 100) (L' := [some (.ref a0), some (.int a1), some (.int a2), some (.int a3)]) (st' := [.int a3, .int a2, .int a1, .ref a0]) (sg := [(.aload_n 0, 0), (.iload_n 1, 0), (.iload_n 2, 0), (.iload_n 3, 0)]) (lSa_ok dd28) rfl ?_
                obtain ⟨_, o45, e44, m46, h⟩ := gOb_inv h
                refine Y.callI (yC.Vi (b := a0) (As := [.int a1, .int a2, .int a3]) (st := []) (r := ("PartlisterModel", T_M, 9)) hV.1.1 cb_M_bring lk_M_139 in_M_bring rfl se_M_bring (lIa_ok dd29) rfl rfl (Nat.le_of_ble_eq_true rfl) (by decide) e44 m46) (k_M_bring hV G42 a0 a1 a2 a3) h (fun v48 G47 _ h => ?_)
                exact Y.iret rfl (lIa_ok dd30) h
              · refine Y.blk (pc' := 95) (L' := [some (.ref a0), some (.int a1), some (.int a2), some (.int a3)]) (st' := [.int (nI 0)]) (sg := [(.iconst 0, nI 0)]) (lSa_ok dd31) rfl ?_
                exact Y.iret rfl (lIa_ok dd32) h
            · refine Y.blk (pc' := 73) (L' := [some (.ref a0), some (.int a1), some (.int a2), some (.int a3)]) (st' := [.int a3, .ref a0, .int a1, .ref a0, .ref a0]) (sg := [(.aload_n 0, 0), (.iload_n 1, 0), (.aload_n 0, 0), (.iload_n 3, 0)]) (lSa_ok dd33) rfl ?_
              obtain ⟨_, o51, e50, m52, h⟩ := gOb_inv h
              refine Y.callI (yC.Vi (b := a0) (As := [.int a3]) (st := [.int a1, .ref a0, .ref a0]) (r := ("PartlisterModel", T_M, 9)) hV.1.1 cb_M_length lk_M_74 in_M_length rfl se_M_length (lIa_ok dd34) rfl rfl (Nat.le_of_ble_eq_true rfl) (by decide) e50 m52) (k_M_length hV.1 G37 a0 a3) h (fun v54 G53 _ h => ?_)
              obtain ⟨_, o56, e55, m57, h⟩ := gOb_inv h
              refine Y.callI (yC.Vi (b := a0) (As := [.int a1, .int v54]) (st := [.ref a0]) (r := ("PartlisterModel", T_M, 9)) hV.1.1 cb_M_isFull lk_M_117 in_M_isFull rfl se_M_isFull (lIa_ok dd35) rfl rfl (Nat.le_of_ble_eq_true rfl) (by decide) e55 m57) (k_M_isFull hV.1 G53 a0 a1 v54) h (fun v59 G58 _ h => ?_)
              refine Y.if_eq (off := 7) (tgt := 86) (lIa_ok dd36) (by decide) h (fun c82 h => ?_) (fun c82 h => ?_)
              · refine Y.blk (pc' := 88) (L' := [some (.ref a0), some (.int a1), some (.int a2), some (.int a3)]) (st' := [.int (nI 2), .int (nI 0), .ref a0]) (sg := [(.iconst 0, nI 0), (.iconst 2, nI 2)]) (lSa_ok dd37) rfl ?_
                obtain ⟨_, o61, e60, m62, h⟩ := gOb_inv h
                refine Y.callI (yC.Vi (b := a0) (As := [.int (nI 0), .int (nI 2)]) (st := []) (r := ("PartlisterModel", T_M, 9)) hV.1.1 cb_M_refuse lk_M_36 in_M_refuse rfl se_M_refuse (lIa_ok dd26) rfl rfl (Nat.le_of_ble_eq_true rfl) (by decide) e60 m62) (k_M_refuse hV.1 G58 a0 (nI 0) (nI 2)) h (fun v64 G63 _ h => ?_)
                refine Y.if_eq (off := 5) (tgt := 96) (lIa_ok dd27) (by decide) h (fun c70 h => ?_) (fun c70 h => ?_)
                · refine Y.blk (pc' := 100) (L' := [some (.ref a0), some (.int a1), some (.int a2), some (.int a3)]) (st' := [.int a3, .int a2, .int a1, .ref a0]) (sg := [(.aload_n 0, 0), (.iload_n 1, 0), (.iload_n 2, 0), (.iload_n 3, 0)]) (lSa_ok dd28) rfl ?_
                  obtain ⟨_, o66, e65, m67, h⟩ := gOb_inv h
                  refine Y.callI (yC.Vi (b := a0) (As := [.int a1, .int a2, .int a3]) (st := []) (r := ("PartlisterModel", T_M, 9)) hV.1.1 cb_M_bring lk_M_139 in_M_bring rfl se_M_bring (lIa_ok dd29) rfl rfl (Nat.le_of_ble_eq_true rfl) (by decide) e65 m67) (k_M_bring hV G63 a0 a1 a2 a3) h (fun v69 G68 _ h => ?_)
                  exact Y.iret rfl (lIa_ok dd30) h
                · refine Y.blk (pc' := 95) (L' := [some (.ref a0), some (.int a1), some (.int a2), some (.int a3)]) (st' := [.int (nI 0)]) (sg := [(.iconst 0, nI 0)]) (lSa_ok dd31) rfl ?_
                  exact Y.iret rfl (lIa_ok dd32) h
              · refine Y.blk (pc' := 83) (L' := [some (.ref a0), some (.int a1), some (.int a2), some (.int a3)]) (st' := [.int (nI 1), .ref a0]) (sg := [(.iconst 1, nI 1)]) (lSa_ok dd23) rfl ?_
                refine Y.goto (off := 4) (tgt := 87) (lIa_ok dd24) (by decide) ?_
                refine Y.blk (pc' := 88) (L' := [some (.ref a0), some (.int a1), some (.int a2), some (.int a3)]) (st' := [.int (nI 2), .int (nI 1), .ref a0]) (sg := [(.iconst 2, nI 2)]) (lSa_ok dd25) rfl ?_
                obtain ⟨_, o72, e71, m73, h⟩ := gOb_inv h
                refine Y.callI (yC.Vi (b := a0) (As := [.int (nI 1), .int (nI 2)]) (st := []) (r := ("PartlisterModel", T_M, 9)) hV.1.1 cb_M_refuse lk_M_36 in_M_refuse rfl se_M_refuse (lIa_ok dd26) rfl rfl (Nat.le_of_ble_eq_true rfl) (by decide) e71 m73) (k_M_refuse hV.1 G58 a0 (nI 1) (nI 2)) h (fun v75 G74 _ h => ?_)
                refine Y.if_eq (off := 5) (tgt := 96) (lIa_ok dd27) (by decide) h (fun c81 h => ?_) (fun c81 h => ?_)
                · refine Y.blk (pc' := 100) (L' := [some (.ref a0), some (.int a1), some (.int a2), some (.int a3)]) (st' := [.int a3, .int a2, .int a1, .ref a0]) (sg := [(.aload_n 0, 0), (.iload_n 1, 0), (.iload_n 2, 0), (.iload_n 3, 0)]) (lSa_ok dd28) rfl ?_
                  obtain ⟨_, o77, e76, m78, h⟩ := gOb_inv h
                  refine Y.callI (yC.Vi (b := a0) (As := [.int a1, .int a2, .int a3]) (st := []) (r := ("PartlisterModel", T_M, 9)) hV.1.1 cb_M_bring lk_M_139 in_M_bring rfl se_M_bring (lIa_ok dd29) rfl rfl (Nat.le_of_ble_eq_true rfl) (by decide) e76 m78) (k_M_bring hV G74 a0 a1 a2 a3) h (fun v80 G79 _ h => ?_)
                  exact Y.iret rfl (lIa_ok dd30) h
                · refine Y.blk (pc' := 95) (L' := [some (.ref a0), some (.int a1), some (.int a2), some (.int a3)]) (st' := [.int (nI 0)]) (sg := [(.iconst 0, nI 0)]) (lSa_ok dd31) rfl ?_
                  exact Y.iret rfl (lIa_ok dd32) h
          · refine Y.blk (pc' := 95) (L' := [some (.ref a0), some (.int a1), some (.int a2), some (.int a3)]) (st' := [.int (nI 0)]) (sg := [(.iconst 0, nI 0)]) (lSa_ok dd31) rfl ?_
            exact Y.iret rfl (lIa_ok dd32) h
        · refine Y.blk (pc' := 49) (L' := [some (.ref a0), some (.int a1), some (.int a2), some (.int a3)]) (st' := [.int (nI 1), .int (nI 0), .ref a0]) (sg := [(.iconst 0, nI 0), (.iconst 1, nI 1)]) (lSa_ok dd38) rfl ?_
          obtain ⟨_, o86, e85, m87, h⟩ := gOb_inv h
          refine Y.callI (yC.Vi (b := a0) (As := [.int (nI 0), .int (nI 1)]) (st := []) (r := ("PartlisterModel", T_M, 9)) hV.1.1 cb_M_refuse lk_M_36 in_M_refuse rfl se_M_refuse (lIa_ok dd16) rfl rfl (Nat.le_of_ble_eq_true rfl) (by decide) e85 m87) (k_M_refuse hV.1 G22 a0 (nI 0) (nI 1)) h (fun v89 G88 _ h => ?_)
          refine Y.if_ne (off := 42) (tgt := 94) (lIa_ok dd17) (by decide) h (fun c145 h => ?_) (fun c145 h => ?_)
          · refine Y.blk (pc' := 58) (L' := [some (.ref a0), some (.int a1), some (.int a2), some (.int a3)]) (st' := [.int a1, .ref a0, .ref a0]) (sg := [(.aload_n 0, 0), (.aload_n 0, 0), (.iload_n 1, 0)]) (lSa_ok dd18) rfl ?_
            obtain ⟨_, o91, e90, m92, h⟩ := gOb_inv h
            refine Y.callI (yC.Vi (b := a0) (As := [.int a1]) (st := [.ref a0]) (r := ("PartlisterModel", T_M, 9)) hV.1.1 cb_M_rowOf lk_M_47 in_M_rowOf rfl se_M_rowOf (lIa_ok dd19) rfl rfl (Nat.le_of_ble_eq_true rfl) (by decide) e90 m92) (k_M_rowOf zDp hV.1 G88 a0 a1) h (fun v94 G93 _ h => ?_)
            refine Y.blk (pc' := 63) (L' := [some (.ref a0), some (.int a1), some (.int a2), some (.int a3)]) (st' := [.int a3, .ref a0, .int v94, .ref a0]) (sg := [(.aload_n 0, 0), (.iload_n 3, 0)]) (lSa_ok dd20) rfl ?_
            obtain ⟨_, o96, e95, m97, h⟩ := gOb_inv h
            refine Y.callI (yC.Vi (b := a0) (As := [.int a3]) (st := [.int v94, .ref a0]) (r := ("PartlisterModel", T_M, 9)) hV.1.1 cb_M_rowOf lk_M_47 in_M_rowOf rfl se_M_rowOf (lIa_ok dd21) rfl rfl (Nat.le_of_ble_eq_true rfl) (by decide) e95 m97) (k_M_rowOf zDp hV.1 G93 a0 a3) h (fun v99 G98 _ h => ?_)
            refine Y.ic_eq (off := 16) (tgt := 82) (lIa_ok dd22) (by decide) h (fun c144 h => ?_) (fun c144 h => ?_)
            · refine Y.blk (pc' := 83) (L' := [some (.ref a0), some (.int a1), some (.int a2), some (.int a3)]) (st' := [.int (nI 1), .ref a0]) (sg := [(.iconst 1, nI 1)]) (lSa_ok dd23) rfl ?_
              refine Y.goto (off := 4) (tgt := 87) (lIa_ok dd24) (by decide) ?_
              refine Y.blk (pc' := 88) (L' := [some (.ref a0), some (.int a1), some (.int a2), some (.int a3)]) (st' := [.int (nI 2), .int (nI 1), .ref a0]) (sg := [(.iconst 2, nI 2)]) (lSa_ok dd25) rfl ?_
              obtain ⟨_, o101, e100, m102, h⟩ := gOb_inv h
              refine Y.callI (yC.Vi (b := a0) (As := [.int (nI 1), .int (nI 2)]) (st := []) (r := ("PartlisterModel", T_M, 9)) hV.1.1 cb_M_refuse lk_M_36 in_M_refuse rfl se_M_refuse (lIa_ok dd26) rfl rfl (Nat.le_of_ble_eq_true rfl) (by decide) e100 m102) (k_M_refuse hV.1 G98 a0 (nI 1) (nI 2)) h (fun v104 G103 _ h => ?_)
              refine Y.if_eq (off := 5) (tgt := 96) (lIa_ok dd27) (by decide) h (fun c110 h => ?_) (fun c110 h => ?_)
              · refine Y.blk (pc' := 100) (L' := [some (.ref a0), some (.int a1), some (.int a2), some (.int a3)]) (st' := [.int a3, .int a2, .int a1, .ref a0]) (sg := [(.aload_n 0, 0), (.iload_n 1, 0), (.iload_n 2, 0), (.iload_n 3, 0)]) (lSa_ok dd28) rfl ?_
                obtain ⟨_, o106, e105, m107, h⟩ := gOb_inv h
                refine Y.callI (yC.Vi (b := a0) (As := [.int a1, .int a2, .int a3]) (st := []) (r := ("PartlisterModel", T_M, 9)) hV.1.1 cb_M_bring lk_M_139 in_M_bring rfl se_M_bring (lIa_ok dd29) rfl rfl (Nat.le_of_ble_eq_true rfl) (by decide) e105 m107) (k_M_bring hV G103 a0 a1 a2 a3) h (fun v109 G108 _ h => ?_)
                exact Y.iret rfl (lIa_ok dd30) h
              · refine Y.blk (pc' := 95) (L' := [some (.ref a0), some (.int a1), some (.int a2), some (.int a3)]) (st' := [.int (nI 0)]) (sg := [(.iconst 0, nI 0)]) (lSa_ok dd31) rfl ?_
                exact Y.iret rfl (lIa_ok dd32) h
            · refine Y.blk (pc' := 73) (L' := [some (.ref a0), some (.int a1), some (.int a2), some (.int a3)]) (st' := [.int a3, .ref a0, .int a1, .ref a0, .ref a0]) (sg := [(.aload_n 0, 0), (.iload_n 1, 0), (.aload_n 0, 0), (.iload_n 3, 0)]) (lSa_ok dd33) rfl ?_
              obtain ⟨_, o112, e111, m113, h⟩ := gOb_inv h
              refine Y.callI (yC.Vi (b := a0) (As := [.int a3]) (st := [.int a1, .ref a0, .ref a0]) (r := ("PartlisterModel", T_M, 9)) hV.1.1 cb_M_length lk_M_74 in_M_length rfl se_M_length (lIa_ok dd34) rfl rfl (Nat.le_of_ble_eq_true rfl) (by decide) e111 m113) (k_M_length hV.1 G98 a0 a3) h (fun v115 G114 _ h => ?_)
              obtain ⟨_, o117, e116, m118, h⟩ := gOb_inv h
              refine Y.callI (yC.Vi (b := a0) (As := [.int a1, .int v115]) (st := [.ref a0]) (r := ("PartlisterModel", T_M, 9)) hV.1.1 cb_M_isFull lk_M_117 in_M_isFull rfl se_M_isFull (lIa_ok dd35) rfl rfl (Nat.le_of_ble_eq_true rfl) (by decide) e116 m118) (k_M_isFull hV.1 G114 a0 a1 v115) h (fun v120 G119 _ h => ?_)
              refine Y.if_eq (off := 7) (tgt := 86) (lIa_ok dd36) (by decide) h (fun c143 h => ?_) (fun c143 h => ?_)
              · refine Y.blk (pc' := 88) (L' := [some (.ref a0), some (.int a1), some (.int a2), some (.int a3)]) (st' := [.int (nI 2), .int (nI 0), .ref a0]) (sg := [(.iconst 0, nI 0), (.iconst 2, nI 2)]) (lSa_ok dd37) rfl ?_
                obtain ⟨_, o122, e121, m123, h⟩ := gOb_inv h
                refine Y.callI (yC.Vi (b := a0) (As := [.int (nI 0), .int (nI 2)]) (st := []) (r := ("PartlisterModel", T_M, 9)) hV.1.1 cb_M_refuse lk_M_36 in_M_refuse rfl se_M_refuse (lIa_ok dd26) rfl rfl (Nat.le_of_ble_eq_true rfl) (by decide) e121 m123) (k_M_refuse hV.1 G119 a0 (nI 0) (nI 2)) h (fun v125 G124 _ h => ?_)
                refine Y.if_eq (off := 5) (tgt := 96) (lIa_ok dd27) (by decide) h (fun c131 h => ?_) (fun c131 h => ?_)
                · refine Y.blk (pc' := 100) (L' := [some (.ref a0), some (.int a1), some (.int a2), some (.int a3)]) (st' := [.int a3, .int a2, .int a1, .ref a0]) (sg := [(.aload_n 0, 0), (.iload_n 1, 0), (.iload_n 2, 0), (.iload_n 3, 0)]) (lSa_ok dd28) rfl ?_
                  obtain ⟨_, o127, e126, m128, h⟩ := gOb_inv h
                  refine Y.callI (yC.Vi (b := a0) (As := [.int a1, .int a2, .int a3]) (st := []) (r := ("PartlisterModel", T_M, 9)) hV.1.1 cb_M_bring lk_M_139 in_M_bring rfl se_M_bring (lIa_ok dd29) rfl rfl (Nat.le_of_ble_eq_true rfl) (by decide) e126 m128) (k_M_bring hV G124 a0 a1 a2 a3) h (fun v130 G129 _ h => ?_)
                  exact Y.iret rfl (lIa_ok dd30) h
                · refine Y.blk (pc' := 95) (L' := [some (.ref a0), some (.int a1), some (.int a2), some (.int a3)]) (st' := [.int (nI 0)]) (sg := [(.iconst 0, nI 0)]) (lSa_ok dd31) rfl ?_
                  exact Y.iret rfl (lIa_ok dd32) h
              · refine Y.blk (pc' := 83) (L' := [some (.ref a0), some (.int a1), some (.int a2), some (.int a3)]) (st' := [.int (nI 1), .ref a0]) (sg := [(.iconst 1, nI 1)]) (lSa_ok dd23) rfl ?_
                refine Y.goto (off := 4) (tgt := 87) (lIa_ok dd24) (by decide) ?_
                refine Y.blk (pc' := 88) (L' := [some (.ref a0), some (.int a1), some (.int a2), some (.int a3)]) (st' := [.int (nI 2), .int (nI 1), .ref a0]) (sg := [(.iconst 2, nI 2)]) (lSa_ok dd25) rfl ?_
                obtain ⟨_, o133, e132, m134, h⟩ := gOb_inv h
                refine Y.callI (yC.Vi (b := a0) (As := [.int (nI 1), .int (nI 2)]) (st := []) (r := ("PartlisterModel", T_M, 9)) hV.1.1 cb_M_refuse lk_M_36 in_M_refuse rfl se_M_refuse (lIa_ok dd26) rfl rfl (Nat.le_of_ble_eq_true rfl) (by decide) e132 m134) (k_M_refuse hV.1 G119 a0 (nI 1) (nI 2)) h (fun v136 G135 _ h => ?_)
                refine Y.if_eq (off := 5) (tgt := 96) (lIa_ok dd27) (by decide) h (fun c142 h => ?_) (fun c142 h => ?_)
                · refine Y.blk (pc' := 100) (L' := [some (.ref a0), some (.int a1), some (.int a2), some (.int a3)]) (st' := [.int a3, .int a2, .int a1, .ref a0]) (sg := [(.aload_n 0, 0), (.iload_n 1, 0), (.iload_n 2, 0), (.iload_n 3, 0)]) (lSa_ok dd28) rfl ?_
                  obtain ⟨_, o138, e137, m139, h⟩ := gOb_inv h
                  refine Y.callI (yC.Vi (b := a0) (As := [.int a1, .int a2, .int a3]) (st := []) (r := ("PartlisterModel", T_M, 9)) hV.1.1 cb_M_bring lk_M_139 in_M_bring rfl se_M_bring (lIa_ok dd29) rfl rfl (Nat.le_of_ble_eq_true rfl) (by decide) e137 m139) (k_M_bring hV G135 a0 a1 a2 a3) h (fun v141 G140 _ h => ?_)
                  exact Y.iret rfl (lIa_ok dd30) h
                · refine Y.blk (pc' := 95) (L' := [some (.ref a0), some (.int a1), some (.int a2), some (.int a3)]) (st' := [.int (nI 0)]) (sg := [(.iconst 0, nI 0)]) (lSa_ok dd31) rfl ?_
                  exact Y.iret rfl (lIa_ok dd32) h
          · refine Y.blk (pc' := 95) (L' := [some (.ref a0), some (.int a1), some (.int a2), some (.int a3)]) (st' := [.int (nI 0)]) (sg := [(.iconst 0, nI 0)]) (lSa_ok dd31) rfl ?_
            exact Y.iret rfl (lIa_ok dd32) h
      · refine Y.blk (pc' := 95) (L' := [some (.ref a0), some (.int a1), some (.int a2), some (.int a3)]) (st' := [.int (nI 0)]) (sg := [(.iconst 0, nI 0)]) (lSa_ok dd31) rfl ?_
        exact Y.iret rfl (lIa_ok dd32) h
    · refine Y.blk (pc' := 18) (L' := [some (.ref a0), some (.int a1), some (.int a2), some (.int a3)]) (st' := [.int (nI 1), .ref a0]) (sg := [(.iconst 1, nI 1)]) (lSa_ok dd39) rfl ?_
      refine Y.goto (off := 4) (tgt := 22) (lIa_ok dd40) (by decide) ?_
      refine Y.blk (pc' := 23) (L' := [some (.ref a0), some (.int a1), some (.int a2), some (.int a3)]) (st' := [.int (nI 1), .int (nI 1), .ref a0]) (sg := [(.iconst 1, nI 1)]) (lSa_ok dd41) rfl ?_
      obtain ⟨_, o149, e148, m150, h⟩ := gOb_inv h
      refine Y.callI (yC.Vi (b := a0) (As := [.int (nI 1), .int (nI 1)]) (st := []) (r := ("PartlisterModel", T_M, 9)) hV.1.1 cb_M_start lk_M_114 in_M_start rfl se_M_start (lIa_ok dd7) rfl rfl (Nat.le_of_ble_eq_true rfl) (by decide) e148 m150) (k_M_start hV.1 G9 a0 (nI 1) (nI 1)) h (fun v152 G151 _ h => ?_)
      refine Y.if_ne (off := 68) (tgt := 94) (lIa_ok dd8) (by decide) h (fun c284 h => ?_) (fun c284 h => ?_)
      · refine Y.blk (pc' := 34) (L' := [some (.ref a0), some (.int a1), some (.int a2), some (.int a3)]) (st' := [.int a1, .ref a0, .int (nI 0), .int a2, .ref a0]) (sg := [(.aload_n 0, 0), (.iload_n 2, 0), (.iconst 0, nI 0), (.aload_n 0, 0), (.iload_n 1, 0)]) (lSa_ok dd9) rfl ?_
        obtain ⟨_, o154, e153, m155, h⟩ := gOb_inv h
        refine Y.callI (yC.Vi (b := a0) (As := [.int a1]) (st := [.int (nI 0), .int a2, .ref a0]) (r := ("PartlisterModel", T_M, 9)) hV.1.1 cb_M_length lk_M_74 in_M_length rfl se_M_length (lIa_ok dd10) rfl rfl (Nat.le_of_ble_eq_true rfl) (by decide) e153 m155) (k_M_length hV.1 G151 a0 a1) h (fun v157 G156 _ h => ?_)
        refine Y.callI (yC.S (As := [.int a2, .int (nI 0), .int v157]) (st := [.ref a0]) hV.1.1 cb_M_isIn lk_M_40 st_M_isIn (lIa_ok dd11) rfl rfl (Nat.le_of_ble_eq_true rfl) (by decide)) (k_M_isIn hV.1 G156 a2 (nI 0) v157) h (fun v160 G159 _ h => ?_)
        refine Y.if_ne (off := 7) (tgt := 47) (lIa_ok dd12) (by decide) h (fun c283 h => ?_) (fun c283 h => ?_)
        · refine Y.blk (pc' := 44) (L' := [some (.ref a0), some (.int a1), some (.int a2), some (.int a3)]) (st' := [.int (nI 1), .ref a0]) (sg := [(.iconst 1, nI 1)]) (lSa_ok dd13) rfl ?_
          refine Y.goto (off := 4) (tgt := 48) (lIa_ok dd14) (by decide) ?_
          refine Y.blk (pc' := 49) (L' := [some (.ref a0), some (.int a1), some (.int a2), some (.int a3)]) (st' := [.int (nI 1), .int (nI 1), .ref a0]) (sg := [(.iconst 1, nI 1)]) (lSa_ok dd15) rfl ?_
          obtain ⟨_, o162, e161, m163, h⟩ := gOb_inv h
          refine Y.callI (yC.Vi (b := a0) (As := [.int (nI 1), .int (nI 1)]) (st := []) (r := ("PartlisterModel", T_M, 9)) hV.1.1 cb_M_refuse lk_M_36 in_M_refuse rfl se_M_refuse (lIa_ok dd16) rfl rfl (Nat.le_of_ble_eq_true rfl) (by decide) e161 m163) (k_M_refuse hV.1 G159 a0 (nI 1) (nI 1)) h (fun v165 G164 _ h => ?_)
          refine Y.if_ne (off := 42) (tgt := 94) (lIa_ok dd17) (by decide) h (fun c221 h => ?_) (fun c221 h => ?_)
          · refine Y.blk (pc' := 58) (L' := [some (.ref a0), some (.int a1), some (.int a2), some (.int a3)]) (st' := [.int a1, .ref a0, .ref a0]) (sg := [(.aload_n 0, 0), (.aload_n 0, 0), (.iload_n 1, 0)]) (lSa_ok dd18) rfl ?_
            obtain ⟨_, o167, e166, m168, h⟩ := gOb_inv h
            refine Y.callI (yC.Vi (b := a0) (As := [.int a1]) (st := [.ref a0]) (r := ("PartlisterModel", T_M, 9)) hV.1.1 cb_M_rowOf lk_M_47 in_M_rowOf rfl se_M_rowOf (lIa_ok dd19) rfl rfl (Nat.le_of_ble_eq_true rfl) (by decide) e166 m168) (k_M_rowOf zDp hV.1 G164 a0 a1) h (fun v170 G169 _ h => ?_)
            refine Y.blk (pc' := 63) (L' := [some (.ref a0), some (.int a1), some (.int a2), some (.int a3)]) (st' := [.int a3, .ref a0, .int v170, .ref a0]) (sg := [(.aload_n 0, 0), (.iload_n 3, 0)]) (lSa_ok dd20) rfl ?_
            obtain ⟨_, o172, e171, m173, h⟩ := gOb_inv h
            refine Y.callI (yC.Vi (b := a0) (As := [.int a3]) (st := [.int v170, .ref a0]) (r := ("PartlisterModel", T_M, 9)) hV.1.1 cb_M_rowOf lk_M_47 in_M_rowOf rfl se_M_rowOf (lIa_ok dd21) rfl rfl (Nat.le_of_ble_eq_true rfl) (by decide) e171 m173) (k_M_rowOf zDp hV.1 G169 a0 a3) h (fun v175 G174 _ h => ?_)
            refine Y.ic_eq (off := 16) (tgt := 82) (lIa_ok dd22) (by decide) h (fun c220 h => ?_) (fun c220 h => ?_)
            · refine Y.blk (pc' := 83) (L' := [some (.ref a0), some (.int a1), some (.int a2), some (.int a3)]) (st' := [.int (nI 1), .ref a0]) (sg := [(.iconst 1, nI 1)]) (lSa_ok dd23) rfl ?_
              refine Y.goto (off := 4) (tgt := 87) (lIa_ok dd24) (by decide) ?_
              refine Y.blk (pc' := 88) (L' := [some (.ref a0), some (.int a1), some (.int a2), some (.int a3)]) (st' := [.int (nI 2), .int (nI 1), .ref a0]) (sg := [(.iconst 2, nI 2)]) (lSa_ok dd25) rfl ?_
              obtain ⟨_, o177, e176, m178, h⟩ := gOb_inv h
              refine Y.callI (yC.Vi (b := a0) (As := [.int (nI 1), .int (nI 2)]) (st := []) (r := ("PartlisterModel", T_M, 9)) hV.1.1 cb_M_refuse lk_M_36 in_M_refuse rfl se_M_refuse (lIa_ok dd26) rfl rfl (Nat.le_of_ble_eq_true rfl) (by decide) e176 m178) (k_M_refuse hV.1 G174 a0 (nI 1) (nI 2)) h (fun v180 G179 _ h => ?_)
              refine Y.if_eq (off := 5) (tgt := 96) (lIa_ok dd27) (by decide) h (fun c186 h => ?_) (fun c186 h => ?_)
              · refine Y.blk (pc' := 100) (L' := [some (.ref a0), some (.int a1), some (.int a2), some (.int a3)]) (st' := [.int a3, .int a2, .int a1, .ref a0]) (sg := [(.aload_n 0, 0), (.iload_n 1, 0), (.iload_n 2, 0), (.iload_n 3, 0)]) (lSa_ok dd28) rfl ?_
                obtain ⟨_, o182, e181, m183, h⟩ := gOb_inv h
                refine Y.callI (yC.Vi (b := a0) (As := [.int a1, .int a2, .int a3]) (st := []) (r := ("PartlisterModel", T_M, 9)) hV.1.1 cb_M_bring lk_M_139 in_M_bring rfl se_M_bring (lIa_ok dd29) rfl rfl (Nat.le_of_ble_eq_true rfl) (by decide) e181 m183) (k_M_bring hV G179 a0 a1 a2 a3) h (fun v185 G184 _ h => ?_)
                exact Y.iret rfl (lIa_ok dd30) h
              · refine Y.blk (pc' := 95) (L' := [some (.ref a0), some (.int a1), some (.int a2), some (.int a3)]) (st' := [.int (nI 0)]) (sg := [(.iconst 0, nI 0)]) (lSa_ok dd31) rfl ?_
                exact Y.iret rfl (lIa_ok dd32) h
            · refine Y.blk (pc' := 73) (L' := [some (.ref a0), some (.int a1), some (.int a2), some (.int a3)]) (st' := [.int a3, .ref a0, .int a1, .ref a0, .ref a0]) (sg := [(.aload_n 0, 0), (.iload_n 1, 0), (.aload_n 0, 0), (.iload_n 3, 0)]) (lSa_ok dd33) rfl ?_
              obtain ⟨_, o188, e187, m189, h⟩ := gOb_inv h
              refine Y.callI (yC.Vi (b := a0) (As := [.int a3]) (st := [.int a1, .ref a0, .ref a0]) (r := ("PartlisterModel", T_M, 9)) hV.1.1 cb_M_length lk_M_74 in_M_length rfl se_M_length (lIa_ok dd34) rfl rfl (Nat.le_of_ble_eq_true rfl) (by decide) e187 m189) (k_M_length hV.1 G174 a0 a3) h (fun v191 G190 _ h => ?_)
              obtain ⟨_, o193, e192, m194, h⟩ := gOb_inv h
              refine Y.callI (yC.Vi (b := a0) (As := [.int a1, .int v191]) (st := [.ref a0]) (r := ("PartlisterModel", T_M, 9)) hV.1.1 cb_M_isFull lk_M_117 in_M_isFull rfl se_M_isFull (lIa_ok dd35) rfl rfl (Nat.le_of_ble_eq_true rfl) (by decide) e192 m194) (k_M_isFull hV.1 G190 a0 a1 v191) h (fun v196 G195 _ h => ?_)
              refine Y.if_eq (off := 7) (tgt := 86) (lIa_ok dd36) (by decide) h (fun c219 h => ?_) (fun c219 h => ?_)
              · refine Y.blk (pc' := 88) (L' := [some (.ref a0), some (.int a1), some (.int a2), some (.int a3)]) (st' := [.int (nI 2), .int (nI 0), .ref a0]) (sg := [(.iconst 0, nI 0), (.iconst 2, nI 2)]) (lSa_ok dd37) rfl ?_
                obtain ⟨_, o198, e197, m199, h⟩ := gOb_inv h
                refine Y.callI (yC.Vi (b := a0) (As := [.int (nI 0), .int (nI 2)]) (st := []) (r := ("PartlisterModel", T_M, 9)) hV.1.1 cb_M_refuse lk_M_36 in_M_refuse rfl se_M_refuse (lIa_ok dd26) rfl rfl (Nat.le_of_ble_eq_true rfl) (by decide) e197 m199) (k_M_refuse hV.1 G195 a0 (nI 0) (nI 2)) h (fun v201 G200 _ h => ?_)
                refine Y.if_eq (off := 5) (tgt := 96) (lIa_ok dd27) (by decide) h (fun c207 h => ?_) (fun c207 h => ?_)
                · refine Y.blk (pc' := 100) (L' := [some (.ref a0), some (.int a1), some (.int a2), some (.int a3)]) (st' := [.int a3, .int a2, .int a1, .ref a0]) (sg := [(.aload_n 0, 0), (.iload_n 1, 0), (.iload_n 2, 0), (.iload_n 3, 0)]) (lSa_ok dd28) rfl ?_
                  obtain ⟨_, o203, e202, m204, h⟩ := gOb_inv h
                  refine Y.callI (yC.Vi (b := a0) (As := [.int a1, .int a2, .int a3]) (st := []) (r := ("PartlisterModel", T_M, 9)) hV.1.1 cb_M_bring lk_M_139 in_M_bring rfl se_M_bring (lIa_ok dd29) rfl rfl (Nat.le_of_ble_eq_true rfl) (by decide) e202 m204) (k_M_bring hV G200 a0 a1 a2 a3) h (fun v206 G205 _ h => ?_)
                  exact Y.iret rfl (lIa_ok dd30) h
                · refine Y.blk (pc' := 95) (L' := [some (.ref a0), some (.int a1), some (.int a2), some (.int a3)]) (st' := [.int (nI 0)]) (sg := [(.iconst 0, nI 0)]) (lSa_ok dd31) rfl ?_
                  exact Y.iret rfl (lIa_ok dd32) h
              · refine Y.blk (pc' := 83) (L' := [some (.ref a0), some (.int a1), some (.int a2), some (.int a3)]) (st' := [.int (nI 1), .ref a0]) (sg := [(.iconst 1, nI 1)]) (lSa_ok dd23) rfl ?_
                refine Y.goto (off := 4) (tgt := 87) (lIa_ok dd24) (by decide) ?_
                refine Y.blk (pc' := 88) (L' := [some (.ref a0), some (.int a1), some (.int a2), some (.int a3)]) (st' := [.int (nI 2), .int (nI 1), .ref a0]) (sg := [(.iconst 2, nI 2)]) (lSa_ok dd25) rfl ?_
                obtain ⟨_, o209, e208, m210, h⟩ := gOb_inv h
                refine Y.callI (yC.Vi (b := a0) (As := [.int (nI 1), .int (nI 2)]) (st := []) (r := ("PartlisterModel", T_M, 9)) hV.1.1 cb_M_refuse lk_M_36 in_M_refuse rfl se_M_refuse (lIa_ok dd26) rfl rfl (Nat.le_of_ble_eq_true rfl) (by decide) e208 m210) (k_M_refuse hV.1 G195 a0 (nI 1) (nI 2)) h (fun v212 G211 _ h => ?_)
                refine Y.if_eq (off := 5) (tgt := 96) (lIa_ok dd27) (by decide) h (fun c218 h => ?_) (fun c218 h => ?_)
                · refine Y.blk (pc' := 100) (L' := [some (.ref a0), some (.int a1), some (.int a2), some (.int a3)]) (st' := [.int a3, .int a2, .int a1, .ref a0]) (sg := [(.aload_n 0, 0), (.iload_n 1, 0), (.iload_n 2, 0), (.iload_n 3, 0)]) (lSa_ok dd28) rfl ?_
                  obtain ⟨_, o214, e213, m215, h⟩ := gOb_inv h
                  refine Y.callI (yC.Vi (b := a0) (As := [.int a1, .int a2, .int a3]) (st := []) (r := ("PartlisterModel", T_M, 9)) hV.1.1 cb_M_bring lk_M_139 in_M_bring rfl se_M_bring (lIa_ok dd29) rfl rfl (Nat.le_of_ble_eq_true rfl) (by decide) e213 m215) (k_M_bring hV G211 a0 a1 a2 a3) h (fun v217 G216 _ h => ?_)
                  exact Y.iret rfl (lIa_ok dd30) h
                · refine Y.blk (pc' := 95) (L' := [some (.ref a0), some (.int a1), some (.int a2), some (.int a3)]) (st' := [.int (nI 0)]) (sg := [(.iconst 0, nI 0)]) (lSa_ok dd31) rfl ?_
                  exact Y.iret rfl (lIa_ok dd32) h
          · refine Y.blk (pc' := 95) (L' := [some (.ref a0), some (.int a1), some (.int a2), some (.int a3)]) (st' := [.int (nI 0)]) (sg := [(.iconst 0, nI 0)]) (lSa_ok dd31) rfl ?_
            exact Y.iret rfl (lIa_ok dd32) h
        · refine Y.blk (pc' := 49) (L' := [some (.ref a0), some (.int a1), some (.int a2), some (.int a3)]) (st' := [.int (nI 1), .int (nI 0), .ref a0]) (sg := [(.iconst 0, nI 0), (.iconst 1, nI 1)]) (lSa_ok dd38) rfl ?_
          obtain ⟨_, o223, e222, m224, h⟩ := gOb_inv h
          refine Y.callI (yC.Vi (b := a0) (As := [.int (nI 0), .int (nI 1)]) (st := []) (r := ("PartlisterModel", T_M, 9)) hV.1.1 cb_M_refuse lk_M_36 in_M_refuse rfl se_M_refuse (lIa_ok dd16) rfl rfl (Nat.le_of_ble_eq_true rfl) (by decide) e222 m224) (k_M_refuse hV.1 G159 a0 (nI 0) (nI 1)) h (fun v226 G225 _ h => ?_)
          refine Y.if_ne (off := 42) (tgt := 94) (lIa_ok dd17) (by decide) h (fun c282 h => ?_) (fun c282 h => ?_)
          · refine Y.blk (pc' := 58) (L' := [some (.ref a0), some (.int a1), some (.int a2), some (.int a3)]) (st' := [.int a1, .ref a0, .ref a0]) (sg := [(.aload_n 0, 0), (.aload_n 0, 0), (.iload_n 1, 0)]) (lSa_ok dd18) rfl ?_
            obtain ⟨_, o228, e227, m229, h⟩ := gOb_inv h
            refine Y.callI (yC.Vi (b := a0) (As := [.int a1]) (st := [.ref a0]) (r := ("PartlisterModel", T_M, 9)) hV.1.1 cb_M_rowOf lk_M_47 in_M_rowOf rfl se_M_rowOf (lIa_ok dd19) rfl rfl (Nat.le_of_ble_eq_true rfl) (by decide) e227 m229) (k_M_rowOf zDp hV.1 G225 a0 a1) h (fun v231 G230 _ h => ?_)
            refine Y.blk (pc' := 63) (L' := [some (.ref a0), some (.int a1), some (.int a2), some (.int a3)]) (st' := [.int a3, .ref a0, .int v231, .ref a0]) (sg := [(.aload_n 0, 0), (.iload_n 3, 0)]) (lSa_ok dd20) rfl ?_
            obtain ⟨_, o233, e232, m234, h⟩ := gOb_inv h
            refine Y.callI (yC.Vi (b := a0) (As := [.int a3]) (st := [.int v231, .ref a0]) (r := ("PartlisterModel", T_M, 9)) hV.1.1 cb_M_rowOf lk_M_47 in_M_rowOf rfl se_M_rowOf (lIa_ok dd21) rfl rfl (Nat.le_of_ble_eq_true rfl) (by decide) e232 m234) (k_M_rowOf zDp hV.1 G230 a0 a3) h (fun v236 G235 _ h => ?_)
            refine Y.ic_eq (off := 16) (tgt := 82) (lIa_ok dd22) (by decide) h (fun c281 h => ?_) (fun c281 h => ?_)
            · refine Y.blk (pc' := 83) (L' := [some (.ref a0), some (.int a1), some (.int a2), some (.int a3)]) (st' := [.int (nI 1), .ref a0]) (sg := [(.iconst 1, nI 1)]) (lSa_ok dd23) rfl ?_
              refine Y.goto (off := 4) (tgt := 87) (lIa_ok dd24) (by decide) ?_
              refine Y.blk (pc' := 88) (L' := [some (.ref a0), some (.int a1), some (.int a2), some (.int a3)]) (st' := [.int (nI 2), .int (nI 1), .ref a0]) (sg := [(.iconst 2, nI 2)]) (lSa_ok dd25) rfl ?_
              obtain ⟨_, o238, e237, m239, h⟩ := gOb_inv h
              refine Y.callI (yC.Vi (b := a0) (As := [.int (nI 1), .int (nI 2)]) (st := []) (r := ("PartlisterModel", T_M, 9)) hV.1.1 cb_M_refuse lk_M_36 in_M_refuse rfl se_M_refuse (lIa_ok dd26) rfl rfl (Nat.le_of_ble_eq_true rfl) (by decide) e237 m239) (k_M_refuse hV.1 G235 a0 (nI 1) (nI 2)) h (fun v241 G240 _ h => ?_)
              refine Y.if_eq (off := 5) (tgt := 96) (lIa_ok dd27) (by decide) h (fun c247 h => ?_) (fun c247 h => ?_)
              · refine Y.blk (pc' := 100) (L' := [some (.ref a0), some (.int a1), some (.int a2), some (.int a3)]) (st' := [.int a3, .int a2, .int a1, .ref a0]) (sg := [(.aload_n 0, 0), (.iload_n 1, 0), (.iload_n 2, 0), (.iload_n 3, 0)]) (lSa_ok dd28) rfl ?_
                obtain ⟨_, o243, e242, m244, h⟩ := gOb_inv h
                refine Y.callI (yC.Vi (b := a0) (As := [.int a1, .int a2, .int a3]) (st := []) (r := ("PartlisterModel", T_M, 9)) hV.1.1 cb_M_bring lk_M_139 in_M_bring rfl se_M_bring (lIa_ok dd29) rfl rfl (Nat.le_of_ble_eq_true rfl) (by decide) e242 m244) (k_M_bring hV G240 a0 a1 a2 a3) h (fun v246 G245 _ h => ?_)
                exact Y.iret rfl (lIa_ok dd30) h
              · refine Y.blk (pc' := 95) (L' := [some (.ref a0), some (.int a1), some (.int a2), some (.int a3)]) (st' := [.int (nI 0)]) (sg := [(.iconst 0, nI 0)]) (lSa_ok dd31) rfl ?_
                exact Y.iret rfl (lIa_ok dd32) h
            · refine Y.blk (pc' := 73) (L' := [some (.ref a0), some (.int a1), some (.int a2), some (.int a3)]) (st' := [.int a3, .ref a0, .int a1, .ref a0, .ref a0]) (sg := [(.aload_n 0, 0), (.iload_n 1, 0), (.aload_n 0, 0), (.iload_n 3, 0)]) (lSa_ok dd33) rfl ?_
              obtain ⟨_, o249, e248, m250, h⟩ := gOb_inv h
              refine Y.callI (yC.Vi (b := a0) (As := [.int a3]) (st := [.int a1, .ref a0, .ref a0]) (r := ("PartlisterModel", T_M, 9)) hV.1.1 cb_M_length lk_M_74 in_M_length rfl se_M_length (lIa_ok dd34) rfl rfl (Nat.le_of_ble_eq_true rfl) (by decide) e248 m250) (k_M_length hV.1 G235 a0 a3) h (fun v252 G251 _ h => ?_)
              obtain ⟨_, o254, e253, m255, h⟩ := gOb_inv h
              refine Y.callI (yC.Vi (b := a0) (As := [.int a1, .int v252]) (st := [.ref a0]) (r := ("PartlisterModel", T_M, 9)) hV.1.1 cb_M_isFull lk_M_117 in_M_isFull rfl se_M_isFull (lIa_ok dd35) rfl rfl (Nat.le_of_ble_eq_true rfl) (by decide) e253 m255) (k_M_isFull hV.1 G251 a0 a1 v252) h (fun v257 G256 _ h => ?_)
              refine Y.if_eq (off := 7) (tgt := 86) (lIa_ok dd36) (by decide) h (fun c280 h => ?_) (fun c280 h => ?_)
              · refine Y.blk (pc' := 88) (L' := [some (.ref a0), some (.int a1), some (.int a2), some (.int a3)]) (st' := [.int (nI 2), .int (nI 0), .ref a0]) (sg := [(.iconst 0, nI 0), (.iconst 2, nI 2)]) (lSa_ok dd37) rfl ?_
                obtain ⟨_, o259, e258, m260, h⟩ := gOb_inv h
                refine Y.callI (yC.Vi (b := a0) (As := [.int (nI 0), .int (nI 2)]) (st := []) (r := ("PartlisterModel", T_M, 9)) hV.1.1 cb_M_refuse lk_M_36 in_M_refuse rfl se_M_refuse (lIa_ok dd26) rfl rfl (Nat.le_of_ble_eq_true rfl) (by decide) e258 m260) (k_M_refuse hV.1 G256 a0 (nI 0) (nI 2)) h (fun v262 G261 _ h => ?_)
                refine Y.if_eq (off := 5) (tgt := 96) (lIa_ok dd27) (by decide) h (fun c268 h => ?_) (fun c268 h => ?_)
                · refine Y.blk (pc' := 100) (L' := [some (.ref a0), some (.int a1), some (.int a2), some (.int a3)]) (st' := [.int a3, .int a2, .int a1, .ref a0]) (sg := [(.aload_n 0, 0), (.iload_n 1, 0), (.iload_n 2, 0), (.iload_n 3, 0)]) (lSa_ok dd28) rfl ?_
                  obtain ⟨_, o264, e263, m265, h⟩ := gOb_inv h
                  refine Y.callI (yC.Vi (b := a0) (As := [.int a1, .int a2, .int a3]) (st := []) (r := ("PartlisterModel", T_M, 9)) hV.1.1 cb_M_bring lk_M_139 in_M_bring rfl se_M_bring (lIa_ok dd29) rfl rfl (Nat.le_of_ble_eq_true rfl) (by decide) e263 m265) (k_M_bring hV G261 a0 a1 a2 a3) h (fun v267 G266 _ h => ?_)
                  exact Y.iret rfl (lIa_ok dd30) h
                · refine Y.blk (pc' := 95) (L' := [some (.ref a0), some (.int a1), some (.int a2), some (.int a3)]) (st' := [.int (nI 0)]) (sg := [(.iconst 0, nI 0)]) (lSa_ok dd31) rfl ?_
                  exact Y.iret rfl (lIa_ok dd32) h
              · refine Y.blk (pc' := 83) (L' := [some (.ref a0), some (.int a1), some (.int a2), some (.int a3)]) (st' := [.int (nI 1), .ref a0]) (sg := [(.iconst 1, nI 1)]) (lSa_ok dd23) rfl ?_
                refine Y.goto (off := 4) (tgt := 87) (lIa_ok dd24) (by decide) ?_
                refine Y.blk (pc' := 88) (L' := [some (.ref a0), some (.int a1), some (.int a2), some (.int a3)]) (st' := [.int (nI 2), .int (nI 1), .ref a0]) (sg := [(.iconst 2, nI 2)]) (lSa_ok dd25) rfl ?_
                obtain ⟨_, o270, e269, m271, h⟩ := gOb_inv h
                refine Y.callI (yC.Vi (b := a0) (As := [.int (nI 1), .int (nI 2)]) (st := []) (r := ("PartlisterModel", T_M, 9)) hV.1.1 cb_M_refuse lk_M_36 in_M_refuse rfl se_M_refuse (lIa_ok dd26) rfl rfl (Nat.le_of_ble_eq_true rfl) (by decide) e269 m271) (k_M_refuse hV.1 G256 a0 (nI 1) (nI 2)) h (fun v273 G272 _ h => ?_)
                refine Y.if_eq (off := 5) (tgt := 96) (lIa_ok dd27) (by decide) h (fun c279 h => ?_) (fun c279 h => ?_)
                · refine Y.blk (pc' := 100) (L' := [some (.ref a0), some (.int a1), some (.int a2), some (.int a3)]) (st' := [.int a3, .int a2, .int a1, .ref a0]) (sg := [(.aload_n 0, 0), (.iload_n 1, 0), (.iload_n 2, 0), (.iload_n 3, 0)]) (lSa_ok dd28) rfl ?_
                  obtain ⟨_, o275, e274, m276, h⟩ := gOb_inv h
                  refine Y.callI (yC.Vi (b := a0) (As := [.int a1, .int a2, .int a3]) (st := []) (r := ("PartlisterModel", T_M, 9)) hV.1.1 cb_M_bring lk_M_139 in_M_bring rfl se_M_bring (lIa_ok dd29) rfl rfl (Nat.le_of_ble_eq_true rfl) (by decide) e274 m276) (k_M_bring hV G272 a0 a1 a2 a3) h (fun v278 G277 _ h => ?_)
                  exact Y.iret rfl (lIa_ok dd30) h
                · refine Y.blk (pc' := 95) (L' := [some (.ref a0), some (.int a1), some (.int a2), some (.int a3)]) (st' := [.int (nI 0)]) (sg := [(.iconst 0, nI 0)]) (lSa_ok dd31) rfl ?_
                  exact Y.iret rfl (lIa_ok dd32) h
          · refine Y.blk (pc' := 95) (L' := [some (.ref a0), some (.int a1), some (.int a2), some (.int a3)]) (st' := [.int (nI 0)]) (sg := [(.iconst 0, nI 0)]) (lSa_ok dd31) rfl ?_
            exact Y.iret rfl (lIa_ok dd32) h
      · refine Y.blk (pc' := 95) (L' := [some (.ref a0), some (.int a1), some (.int a2), some (.int a3)]) (st' := [.int (nI 0)]) (sg := [(.iconst 0, nI 0)]) (lSa_ok dd31) rfl ?_
        exact Y.iret rfl (lIa_ok dd32) h
  · refine Y.blk (pc' := 18) (L' := [some (.ref a0), some (.int a1), some (.int a2), some (.int a3)]) (st' := [.int (nI 1), .ref a0]) (sg := [(.iconst 1, nI 1)]) (lSa_ok dd39) rfl ?_
    refine Y.goto (off := 4) (tgt := 22) (lIa_ok dd40) (by decide) ?_
    refine Y.blk (pc' := 23) (L' := [some (.ref a0), some (.int a1), some (.int a2), some (.int a3)]) (st' := [.int (nI 1), .int (nI 1), .ref a0]) (sg := [(.iconst 1, nI 1)]) (lSa_ok dd41) rfl ?_
    obtain ⟨_, o287, e286, m288, h⟩ := gOb_inv h
    refine Y.callI (yC.Vi (b := a0) (As := [.int (nI 1), .int (nI 1)]) (st := []) (r := ("PartlisterModel", T_M, 9)) hV.1.1 cb_M_start lk_M_114 in_M_start rfl se_M_start (lIa_ok dd7) rfl rfl (Nat.le_of_ble_eq_true rfl) (by decide) e286 m288) (k_M_start hV.1 G4 a0 (nI 1) (nI 1)) h (fun v290 G289 _ h => ?_)
    refine Y.if_ne (off := 68) (tgt := 94) (lIa_ok dd8) (by decide) h (fun c422 h => ?_) (fun c422 h => ?_)
    · refine Y.blk (pc' := 34) (L' := [some (.ref a0), some (.int a1), some (.int a2), some (.int a3)]) (st' := [.int a1, .ref a0, .int (nI 0), .int a2, .ref a0]) (sg := [(.aload_n 0, 0), (.iload_n 2, 0), (.iconst 0, nI 0), (.aload_n 0, 0), (.iload_n 1, 0)]) (lSa_ok dd9) rfl ?_
      obtain ⟨_, o292, e291, m293, h⟩ := gOb_inv h
      refine Y.callI (yC.Vi (b := a0) (As := [.int a1]) (st := [.int (nI 0), .int a2, .ref a0]) (r := ("PartlisterModel", T_M, 9)) hV.1.1 cb_M_length lk_M_74 in_M_length rfl se_M_length (lIa_ok dd10) rfl rfl (Nat.le_of_ble_eq_true rfl) (by decide) e291 m293) (k_M_length hV.1 G289 a0 a1) h (fun v295 G294 _ h => ?_)
      refine Y.callI (yC.S (As := [.int a2, .int (nI 0), .int v295]) (st := [.ref a0]) hV.1.1 cb_M_isIn lk_M_40 st_M_isIn (lIa_ok dd11) rfl rfl (Nat.le_of_ble_eq_true rfl) (by decide)) (k_M_isIn hV.1 G294 a2 (nI 0) v295) h (fun v298 G297 _ h => ?_)
      refine Y.if_ne (off := 7) (tgt := 47) (lIa_ok dd12) (by decide) h (fun c421 h => ?_) (fun c421 h => ?_)
      · refine Y.blk (pc' := 44) (L' := [some (.ref a0), some (.int a1), some (.int a2), some (.int a3)]) (st' := [.int (nI 1), .ref a0]) (sg := [(.iconst 1, nI 1)]) (lSa_ok dd13) rfl ?_
        refine Y.goto (off := 4) (tgt := 48) (lIa_ok dd14) (by decide) ?_
        refine Y.blk (pc' := 49) (L' := [some (.ref a0), some (.int a1), some (.int a2), some (.int a3)]) (st' := [.int (nI 1), .int (nI 1), .ref a0]) (sg := [(.iconst 1, nI 1)]) (lSa_ok dd15) rfl ?_
        obtain ⟨_, o300, e299, m301, h⟩ := gOb_inv h
        refine Y.callI (yC.Vi (b := a0) (As := [.int (nI 1), .int (nI 1)]) (st := []) (r := ("PartlisterModel", T_M, 9)) hV.1.1 cb_M_refuse lk_M_36 in_M_refuse rfl se_M_refuse (lIa_ok dd16) rfl rfl (Nat.le_of_ble_eq_true rfl) (by decide) e299 m301) (k_M_refuse hV.1 G297 a0 (nI 1) (nI 1)) h (fun v303 G302 _ h => ?_)
        refine Y.if_ne (off := 42) (tgt := 94) (lIa_ok dd17) (by decide) h (fun c359 h => ?_) (fun c359 h => ?_)
        · refine Y.blk (pc' := 58) (L' := [some (.ref a0), some (.int a1), some (.int a2), some (.int a3)]) (st' := [.int a1, .ref a0, .ref a0]) (sg := [(.aload_n 0, 0), (.aload_n 0, 0), (.iload_n 1, 0)]) (lSa_ok dd18) rfl ?_
          obtain ⟨_, o305, e304, m306, h⟩ := gOb_inv h
          refine Y.callI (yC.Vi (b := a0) (As := [.int a1]) (st := [.ref a0]) (r := ("PartlisterModel", T_M, 9)) hV.1.1 cb_M_rowOf lk_M_47 in_M_rowOf rfl se_M_rowOf (lIa_ok dd19) rfl rfl (Nat.le_of_ble_eq_true rfl) (by decide) e304 m306) (k_M_rowOf zDp hV.1 G302 a0 a1) h (fun v308 G307 _ h => ?_)
          refine Y.blk (pc' := 63) (L' := [some (.ref a0), some (.int a1), some (.int a2), some (.int a3)]) (st' := [.int a3, .ref a0, .int v308, .ref a0]) (sg := [(.aload_n 0, 0), (.iload_n 3, 0)]) (lSa_ok dd20) rfl ?_
          obtain ⟨_, o310, e309, m311, h⟩ := gOb_inv h
          refine Y.callI (yC.Vi (b := a0) (As := [.int a3]) (st := [.int v308, .ref a0]) (r := ("PartlisterModel", T_M, 9)) hV.1.1 cb_M_rowOf lk_M_47 in_M_rowOf rfl se_M_rowOf (lIa_ok dd21) rfl rfl (Nat.le_of_ble_eq_true rfl) (by decide) e309 m311) (k_M_rowOf zDp hV.1 G307 a0 a3) h (fun v313 G312 _ h => ?_)
          refine Y.ic_eq (off := 16) (tgt := 82) (lIa_ok dd22) (by decide) h (fun c358 h => ?_) (fun c358 h => ?_)
          · refine Y.blk (pc' := 83) (L' := [some (.ref a0), some (.int a1), some (.int a2), some (.int a3)]) (st' := [.int (nI 1), .ref a0]) (sg := [(.iconst 1, nI 1)]) (lSa_ok dd23) rfl ?_
            refine Y.goto (off := 4) (tgt := 87) (lIa_ok dd24) (by decide) ?_
            refine Y.blk (pc' := 88) (L' := [some (.ref a0), some (.int a1), some (.int a2), some (.int a3)]) (st' := [.int (nI 2), .int (nI 1), .ref a0]) (sg := [(.iconst 2, nI 2)]) (lSa_ok dd25) rfl ?_
            obtain ⟨_, o315, e314, m316, h⟩ := gOb_inv h
            refine Y.callI (yC.Vi (b := a0) (As := [.int (nI 1), .int (nI 2)]) (st := []) (r := ("PartlisterModel", T_M, 9)) hV.1.1 cb_M_refuse lk_M_36 in_M_refuse rfl se_M_refuse (lIa_ok dd26) rfl rfl (Nat.le_of_ble_eq_true rfl) (by decide) e314 m316) (k_M_refuse hV.1 G312 a0 (nI 1) (nI 2)) h (fun v318 G317 _ h => ?_)
            refine Y.if_eq (off := 5) (tgt := 96) (lIa_ok dd27) (by decide) h (fun c324 h => ?_) (fun c324 h => ?_)
            · refine Y.blk (pc' := 100) (L' := [some (.ref a0), some (.int a1), some (.int a2), some (.int a3)]) (st' := [.int a3, .int a2, .int a1, .ref a0]) (sg := [(.aload_n 0, 0), (.iload_n 1, 0), (.iload_n 2, 0), (.iload_n 3, 0)]) (lSa_ok dd28) rfl ?_
              obtain ⟨_, o320, e319, m321, h⟩ := gOb_inv h
              refine Y.callI (yC.Vi (b := a0) (As := [.int a1, .int a2, .int a3]) (st := []) (r := ("PartlisterModel", T_M, 9)) hV.1.1 cb_M_bring lk_M_139 in_M_bring rfl se_M_bring (lIa_ok dd29) rfl rfl (Nat.le_of_ble_eq_true rfl) (by decide) e319 m321) (k_M_bring hV G317 a0 a1 a2 a3) h (fun v323 G322 _ h => ?_)
              exact Y.iret rfl (lIa_ok dd30) h
            · refine Y.blk (pc' := 95) (L' := [some (.ref a0), some (.int a1), some (.int a2), some (.int a3)]) (st' := [.int (nI 0)]) (sg := [(.iconst 0, nI 0)]) (lSa_ok dd31) rfl ?_
              exact Y.iret rfl (lIa_ok dd32) h
          · refine Y.blk (pc' := 73) (L' := [some (.ref a0), some (.int a1), some (.int a2), some (.int a3)]) (st' := [.int a3, .ref a0, .int a1, .ref a0, .ref a0]) (sg := [(.aload_n 0, 0), (.iload_n 1, 0), (.aload_n 0, 0), (.iload_n 3, 0)]) (lSa_ok dd33) rfl ?_
            obtain ⟨_, o326, e325, m327, h⟩ := gOb_inv h
            refine Y.callI (yC.Vi (b := a0) (As := [.int a3]) (st := [.int a1, .ref a0, .ref a0]) (r := ("PartlisterModel", T_M, 9)) hV.1.1 cb_M_length lk_M_74 in_M_length rfl se_M_length (lIa_ok dd34) rfl rfl (Nat.le_of_ble_eq_true rfl) (by decide) e325 m327) (k_M_length hV.1 G312 a0 a3) h (fun v329 G328 _ h => ?_)
            obtain ⟨_, o331, e330, m332, h⟩ := gOb_inv h
            refine Y.callI (yC.Vi (b := a0) (As := [.int a1, .int v329]) (st := [.ref a0]) (r := ("PartlisterModel", T_M, 9)) hV.1.1 cb_M_isFull lk_M_117 in_M_isFull rfl se_M_isFull (lIa_ok dd35) rfl rfl (Nat.le_of_ble_eq_true rfl) (by decide) e330 m332) (k_M_isFull hV.1 G328 a0 a1 v329) h (fun v334 G333 _ h => ?_)
            refine Y.if_eq (off := 7) (tgt := 86) (lIa_ok dd36) (by decide) h (fun c357 h => ?_) (fun c357 h => ?_)
            · refine Y.blk (pc' := 88) (L' := [some (.ref a0), some (.int a1), some (.int a2), some (.int a3)]) (st' := [.int (nI 2), .int (nI 0), .ref a0]) (sg := [(.iconst 0, nI 0), (.iconst 2, nI 2)]) (lSa_ok dd37) rfl ?_
              obtain ⟨_, o336, e335, m337, h⟩ := gOb_inv h
              refine Y.callI (yC.Vi (b := a0) (As := [.int (nI 0), .int (nI 2)]) (st := []) (r := ("PartlisterModel", T_M, 9)) hV.1.1 cb_M_refuse lk_M_36 in_M_refuse rfl se_M_refuse (lIa_ok dd26) rfl rfl (Nat.le_of_ble_eq_true rfl) (by decide) e335 m337) (k_M_refuse hV.1 G333 a0 (nI 0) (nI 2)) h (fun v339 G338 _ h => ?_)
              refine Y.if_eq (off := 5) (tgt := 96) (lIa_ok dd27) (by decide) h (fun c345 h => ?_) (fun c345 h => ?_)
              · refine Y.blk (pc' := 100) (L' := [some (.ref a0), some (.int a1), some (.int a2), some (.int a3)]) (st' := [.int a3, .int a2, .int a1, .ref a0]) (sg := [(.aload_n 0, 0), (.iload_n 1, 0), (.iload_n 2, 0), (.iload_n 3, 0)]) (lSa_ok dd28) rfl ?_
                obtain ⟨_, o341, e340, m342, h⟩ := gOb_inv h
                refine Y.callI (yC.Vi (b := a0) (As := [.int a1, .int a2, .int a3]) (st := []) (r := ("PartlisterModel", T_M, 9)) hV.1.1 cb_M_bring lk_M_139 in_M_bring rfl se_M_bring (lIa_ok dd29) rfl rfl (Nat.le_of_ble_eq_true rfl) (by decide) e340 m342) (k_M_bring hV G338 a0 a1 a2 a3) h (fun v344 G343 _ h => ?_)
                exact Y.iret rfl (lIa_ok dd30) h
              · refine Y.blk (pc' := 95) (L' := [some (.ref a0), some (.int a1), some (.int a2), some (.int a3)]) (st' := [.int (nI 0)]) (sg := [(.iconst 0, nI 0)]) (lSa_ok dd31) rfl ?_
                exact Y.iret rfl (lIa_ok dd32) h
            · refine Y.blk (pc' := 83) (L' := [some (.ref a0), some (.int a1), some (.int a2), some (.int a3)]) (st' := [.int (nI 1), .ref a0]) (sg := [(.iconst 1, nI 1)]) (lSa_ok dd23) rfl ?_
              refine Y.goto (off := 4) (tgt := 87) (lIa_ok dd24) (by decide) ?_
              refine Y.blk (pc' := 88) (L' := [some (.ref a0), some (.int a1), some (.int a2), some (.int a3)]) (st' := [.int (nI 2), .int (nI 1), .ref a0]) (sg := [(.iconst 2, nI 2)]) (lSa_ok dd25) rfl ?_
              obtain ⟨_, o347, e346, m348, h⟩ := gOb_inv h
              refine Y.callI (yC.Vi (b := a0) (As := [.int (nI 1), .int (nI 2)]) (st := []) (r := ("PartlisterModel", T_M, 9)) hV.1.1 cb_M_refuse lk_M_36 in_M_refuse rfl se_M_refuse (lIa_ok dd26) rfl rfl (Nat.le_of_ble_eq_true rfl) (by decide) e346 m348) (k_M_refuse hV.1 G333 a0 (nI 1) (nI 2)) h (fun v350 G349 _ h => ?_)
              refine Y.if_eq (off := 5) (tgt := 96) (lIa_ok dd27) (by decide) h (fun c356 h => ?_) (fun c356 h => ?_)
              · refine Y.blk (pc' := 100) (L' := [some (.ref a0), some (.int a1), some (.int a2), some (.int a3)]) (st' := [.int a3, .int a2, .int a1, .ref a0]) (sg := [(.aload_n 0, 0), (.iload_n 1, 0), (.iload_n 2, 0), (.iload_n 3, 0)]) (lSa_ok dd28) rfl ?_
                obtain ⟨_, o352, e351, m353, h⟩ := gOb_inv h
                refine Y.callI (yC.Vi (b := a0) (As := [.int a1, .int a2, .int a3]) (st := []) (r := ("PartlisterModel", T_M, 9)) hV.1.1 cb_M_bring lk_M_139 in_M_bring rfl se_M_bring (lIa_ok dd29) rfl rfl (Nat.le_of_ble_eq_true rfl) (by decide) e351 m353) (k_M_bring hV G349 a0 a1 a2 a3) h (fun v355 G354 _ h => ?_)
                exact Y.iret rfl (lIa_ok dd30) h
              · refine Y.blk (pc' := 95) (L' := [some (.ref a0), some (.int a1), some (.int a2), some (.int a3)]) (st' := [.int (nI 0)]) (sg := [(.iconst 0, nI 0)]) (lSa_ok dd31) rfl ?_
                exact Y.iret rfl (lIa_ok dd32) h
        · refine Y.blk (pc' := 95) (L' := [some (.ref a0), some (.int a1), some (.int a2), some (.int a3)]) (st' := [.int (nI 0)]) (sg := [(.iconst 0, nI 0)]) (lSa_ok dd31) rfl ?_
          exact Y.iret rfl (lIa_ok dd32) h
      · refine Y.blk (pc' := 49) (L' := [some (.ref a0), some (.int a1), some (.int a2), some (.int a3)]) (st' := [.int (nI 1), .int (nI 0), .ref a0]) (sg := [(.iconst 0, nI 0), (.iconst 1, nI 1)]) (lSa_ok dd38) rfl ?_
        obtain ⟨_, o361, e360, m362, h⟩ := gOb_inv h
        refine Y.callI (yC.Vi (b := a0) (As := [.int (nI 0), .int (nI 1)]) (st := []) (r := ("PartlisterModel", T_M, 9)) hV.1.1 cb_M_refuse lk_M_36 in_M_refuse rfl se_M_refuse (lIa_ok dd16) rfl rfl (Nat.le_of_ble_eq_true rfl) (by decide) e360 m362) (k_M_refuse hV.1 G297 a0 (nI 0) (nI 1)) h (fun v364 G363 _ h => ?_)
        refine Y.if_ne (off := 42) (tgt := 94) (lIa_ok dd17) (by decide) h (fun c420 h => ?_) (fun c420 h => ?_)
        · refine Y.blk (pc' := 58) (L' := [some (.ref a0), some (.int a1), some (.int a2), some (.int a3)]) (st' := [.int a1, .ref a0, .ref a0]) (sg := [(.aload_n 0, 0), (.aload_n 0, 0), (.iload_n 1, 0)]) (lSa_ok dd18) rfl ?_
          obtain ⟨_, o366, e365, m367, h⟩ := gOb_inv h
          refine Y.callI (yC.Vi (b := a0) (As := [.int a1]) (st := [.ref a0]) (r := ("PartlisterModel", T_M, 9)) hV.1.1 cb_M_rowOf lk_M_47 in_M_rowOf rfl se_M_rowOf (lIa_ok dd19) rfl rfl (Nat.le_of_ble_eq_true rfl) (by decide) e365 m367) (k_M_rowOf zDp hV.1 G363 a0 a1) h (fun v369 G368 _ h => ?_)
          refine Y.blk (pc' := 63) (L' := [some (.ref a0), some (.int a1), some (.int a2), some (.int a3)]) (st' := [.int a3, .ref a0, .int v369, .ref a0]) (sg := [(.aload_n 0, 0), (.iload_n 3, 0)]) (lSa_ok dd20) rfl ?_
          obtain ⟨_, o371, e370, m372, h⟩ := gOb_inv h
          refine Y.callI (yC.Vi (b := a0) (As := [.int a3]) (st := [.int v369, .ref a0]) (r := ("PartlisterModel", T_M, 9)) hV.1.1 cb_M_rowOf lk_M_47 in_M_rowOf rfl se_M_rowOf (lIa_ok dd21) rfl rfl (Nat.le_of_ble_eq_true rfl) (by decide) e370 m372) (k_M_rowOf zDp hV.1 G368 a0 a3) h (fun v374 G373 _ h => ?_)
          refine Y.ic_eq (off := 16) (tgt := 82) (lIa_ok dd22) (by decide) h (fun c419 h => ?_) (fun c419 h => ?_)
          · refine Y.blk (pc' := 83) (L' := [some (.ref a0), some (.int a1), some (.int a2), some (.int a3)]) (st' := [.int (nI 1), .ref a0]) (sg := [(.iconst 1, nI 1)]) (lSa_ok dd23) rfl ?_
            refine Y.goto (off := 4) (tgt := 87) (lIa_ok dd24) (by decide) ?_
            refine Y.blk (pc' := 88) (L' := [some (.ref a0), some (.int a1), some (.int a2), some (.int a3)]) (st' := [.int (nI 2), .int (nI 1), .ref a0]) (sg := [(.iconst 2, nI 2)]) (lSa_ok dd25) rfl ?_
            obtain ⟨_, o376, e375, m377, h⟩ := gOb_inv h
            refine Y.callI (yC.Vi (b := a0) (As := [.int (nI 1), .int (nI 2)]) (st := []) (r := ("PartlisterModel", T_M, 9)) hV.1.1 cb_M_refuse lk_M_36 in_M_refuse rfl se_M_refuse (lIa_ok dd26) rfl rfl (Nat.le_of_ble_eq_true rfl) (by decide) e375 m377) (k_M_refuse hV.1 G373 a0 (nI 1) (nI 2)) h (fun v379 G378 _ h => ?_)
            refine Y.if_eq (off := 5) (tgt := 96) (lIa_ok dd27) (by decide) h (fun c385 h => ?_) (fun c385 h => ?_)
            · refine Y.blk (pc' := 100) (L' := [some (.ref a0), some (.int a1), some (.int a2), some (.int a3)]) (st' := [.int a3, .int a2, .int a1, .ref a0]) (sg := [(.aload_n 0, 0), (.iload_n 1, 0), (.iload_n 2, 0), (.iload_n 3, 0)]) (lSa_ok dd28) rfl ?_
              obtain ⟨_, o381, e380, m382, h⟩ := gOb_inv h
              refine Y.callI (yC.Vi (b := a0) (As := [.int a1, .int a2, .int a3]) (st := []) (r := ("PartlisterModel", T_M, 9)) hV.1.1 cb_M_bring lk_M_139 in_M_bring rfl se_M_bring (lIa_ok dd29) rfl rfl (Nat.le_of_ble_eq_true rfl) (by decide) e380 m382) (k_M_bring hV G378 a0 a1 a2 a3) h (fun v384 G383 _ h => ?_)
              exact Y.iret rfl (lIa_ok dd30) h
            · refine Y.blk (pc' := 95) (L' := [some (.ref a0), some (.int a1), some (.int a2), some (.int a3)]) (st' := [.int (nI 0)]) (sg := [(.iconst 0, nI 0)]) (lSa_ok dd31) rfl ?_
              exact Y.iret rfl (lIa_ok dd32) h
          · refine Y.blk (pc' := 73) (L' := [some (.ref a0), some (.int a1), some (.int a2), some (.int a3)]) (st' := [.int a3, .ref a0, .int a1, .ref a0, .ref a0]) (sg := [(.aload_n 0, 0), (.iload_n 1, 0), (.aload_n 0, 0), (.iload_n 3, 0)]) (lSa_ok dd33) rfl ?_
            obtain ⟨_, o387, e386, m388, h⟩ := gOb_inv h
            refine Y.callI (yC.Vi (b := a0) (As := [.int a3]) (st := [.int a1, .ref a0, .ref a0]) (r := ("PartlisterModel", T_M, 9)) hV.1.1 cb_M_length lk_M_74 in_M_length rfl se_M_length (lIa_ok dd34) rfl rfl (Nat.le_of_ble_eq_true rfl) (by decide) e386 m388) (k_M_length hV.1 G373 a0 a3) h (fun v390 G389 _ h => ?_)
            obtain ⟨_, o392, e391, m393, h⟩ := gOb_inv h
            refine Y.callI (yC.Vi (b := a0) (As := [.int a1, .int v390]) (st := [.ref a0]) (r := ("PartlisterModel", T_M, 9)) hV.1.1 cb_M_isFull lk_M_117 in_M_isFull rfl se_M_isFull (lIa_ok dd35) rfl rfl (Nat.le_of_ble_eq_true rfl) (by decide) e391 m393) (k_M_isFull hV.1 G389 a0 a1 v390) h (fun v395 G394 _ h => ?_)
            refine Y.if_eq (off := 7) (tgt := 86) (lIa_ok dd36) (by decide) h (fun c418 h => ?_) (fun c418 h => ?_)
            · refine Y.blk (pc' := 88) (L' := [some (.ref a0), some (.int a1), some (.int a2), some (.int a3)]) (st' := [.int (nI 2), .int (nI 0), .ref a0]) (sg := [(.iconst 0, nI 0), (.iconst 2, nI 2)]) (lSa_ok dd37) rfl ?_
              obtain ⟨_, o397, e396, m398, h⟩ := gOb_inv h
              refine Y.callI (yC.Vi (b := a0) (As := [.int (nI 0), .int (nI 2)]) (st := []) (r := ("PartlisterModel", T_M, 9)) hV.1.1 cb_M_refuse lk_M_36 in_M_refuse rfl se_M_refuse (lIa_ok dd26) rfl rfl (Nat.le_of_ble_eq_true rfl) (by decide) e396 m398) (k_M_refuse hV.1 G394 a0 (nI 0) (nI 2)) h (fun v400 G399 _ h => ?_)
              refine Y.if_eq (off := 5) (tgt := 96) (lIa_ok dd27) (by decide) h (fun c406 h => ?_) (fun c406 h => ?_)
              · refine Y.blk (pc' := 100) (L' := [some (.ref a0), some (.int a1), some (.int a2), some (.int a3)]) (st' := [.int a3, .int a2, .int a1, .ref a0]) (sg := [(.aload_n 0, 0), (.iload_n 1, 0), (.iload_n 2, 0), (.iload_n 3, 0)]) (lSa_ok dd28) rfl ?_
                obtain ⟨_, o402, e401, m403, h⟩ := gOb_inv h
                refine Y.callI (yC.Vi (b := a0) (As := [.int a1, .int a2, .int a3]) (st := []) (r := ("PartlisterModel", T_M, 9)) hV.1.1 cb_M_bring lk_M_139 in_M_bring rfl se_M_bring (lIa_ok dd29) rfl rfl (Nat.le_of_ble_eq_true rfl) (by decide) e401 m403) (k_M_bring hV G399 a0 a1 a2 a3) h (fun v405 G404 _ h => ?_)
                exact Y.iret rfl (lIa_ok dd30) h
              · refine Y.blk (pc' := 95) (L' := [some (.ref a0), some (.int a1), some (.int a2), some (.int a3)]) (st' := [.int (nI 0)]) (sg := [(.iconst 0, nI 0)]) (lSa_ok dd31) rfl ?_
                exact Y.iret rfl (lIa_ok dd32) h
            · refine Y.blk (pc' := 83) (L' := [some (.ref a0), some (.int a1), some (.int a2), some (.int a3)]) (st' := [.int (nI 1), .ref a0]) (sg := [(.iconst 1, nI 1)]) (lSa_ok dd23) rfl ?_
              refine Y.goto (off := 4) (tgt := 87) (lIa_ok dd24) (by decide) ?_
              refine Y.blk (pc' := 88) (L' := [some (.ref a0), some (.int a1), some (.int a2), some (.int a3)]) (st' := [.int (nI 2), .int (nI 1), .ref a0]) (sg := [(.iconst 2, nI 2)]) (lSa_ok dd25) rfl ?_
              obtain ⟨_, o408, e407, m409, h⟩ := gOb_inv h
              refine Y.callI (yC.Vi (b := a0) (As := [.int (nI 1), .int (nI 2)]) (st := []) (r := ("PartlisterModel", T_M, 9)) hV.1.1 cb_M_refuse lk_M_36 in_M_refuse rfl se_M_refuse (lIa_ok dd26) rfl rfl (Nat.le_of_ble_eq_true rfl) (by decide) e407 m409) (k_M_refuse hV.1 G394 a0 (nI 1) (nI 2)) h (fun v411 G410 _ h => ?_)
              refine Y.if_eq (off := 5) (tgt := 96) (lIa_ok dd27) (by decide) h (fun c417 h => ?_) (fun c417 h => ?_)
              · refine Y.blk (pc' := 100) (L' := [some (.ref a0), some (.int a1), some (.int a2), some (.int a3)]) (st' := [.int a3, .int a2, .int a1, .ref a0]) (sg := [(.aload_n 0, 0), (.iload_n 1, 0), (.iload_n 2, 0), (.iload_n 3, 0)]) (lSa_ok dd28) rfl ?_
                obtain ⟨_, o413, e412, m414, h⟩ := gOb_inv h
                refine Y.callI (yC.Vi (b := a0) (As := [.int a1, .int a2, .int a3]) (st := []) (r := ("PartlisterModel", T_M, 9)) hV.1.1 cb_M_bring lk_M_139 in_M_bring rfl se_M_bring (lIa_ok dd29) rfl rfl (Nat.le_of_ble_eq_true rfl) (by decide) e412 m414) (k_M_bring hV G410 a0 a1 a2 a3) h (fun v416 G415 _ h => ?_)
                exact Y.iret rfl (lIa_ok dd30) h
              · refine Y.blk (pc' := 95) (L' := [some (.ref a0), some (.int a1), some (.int a2), some (.int a3)]) (st' := [.int (nI 0)]) (sg := [(.iconst 0, nI 0)]) (lSa_ok dd31) rfl ?_
                exact Y.iret rfl (lIa_ok dd32) h
        · refine Y.blk (pc' := 95) (L' := [some (.ref a0), some (.int a1), some (.int a2), some (.int a3)]) (st' := [.int (nI 0)]) (sg := [(.iconst 0, nI 0)]) (lSa_ok dd31) rfl ?_
          exact Y.iret rfl (lIa_ok dd32) h
    · refine Y.blk (pc' := 95) (L' := [some (.ref a0), some (.int a1), some (.int a2), some (.int a3)]) (st' := [.int (nI 0)]) (sg := [(.iconst 0, nI 0)]) (lSa_ok dd31) rfl ?_
      exact Y.iret rfl (lIa_ok dd32) h
