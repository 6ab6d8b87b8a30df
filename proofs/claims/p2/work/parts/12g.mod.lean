def f_M_lastOf_L8 (K24 : gH → Int32 → gR) (K32 : gH → gR) : Nat → gH → Nat → Int32 → Int32 → Int32 → gR
  | 0, _, _, _, _, _ => none
  | n + 1, G, x0, x1, x2, x3 =>
    if x3 < 0 then K32 G
    else gOb G x0 6 fun o7 => bA (f_M_at G x0 x1 x3) fun v10 G9 => gLd G9 v10 100 (nI 0) fun v11 => if v11 = x2 then K24 G9 x3
      else f_M_lastOf_L8 K24 K32 n G9 x0 x1 x2 (x3 + (-1))
def f_M_lastOf (G : gH) (a0 : Nat) (a1 : Int32) (a2 : Int32) : gR :=
  gOb G a0 6 fun o2 => bI (f_M_length G a0 a1) fun v5 G4 => f_M_lastOf_L8 (fun G15 x14 => rI x14 G15) (fun G16 => rI (-1) G16) zFu G4 a0 a1 a2 (v5 - (nI 1))
theorem k_M_lastOf_L8 {l : Launch} {D : va_G} {B : Nat} {O : State → Heap → Prop} (hV : zG l D B O) {o : gO} {Gf : gH} (K24 : gH → Int32 → gR) (K32 : gH → gR) (hK24 : ∀ (G : gH) (x3 : Int32), K24 G x3 = some (o, Gf) → Y (zVm l D B O) m_M_lastOf 13 o Gf 24 [none, none, none, some (.int x3)] [] G) (hK32 : ∀ (G : gH), K32 G  = some (o, Gf) → Y (zVm l D B O) m_M_lastOf 13 o Gf 32 [none, none, none, none] [] G) : ∀ (n : Nat) (G : gH) (x0 : Nat) (x1 : Int32) (x2 : Int32) (x3 : Int32), f_M_lastOf_L8 K24 K32 n G x0 x1 x2 x3 = some (o, Gf) → Y (zVm l D B O) m_M_lastOf 13 o Gf 8 [some (.ref x0), some (.int x1), some (.int x2), some (.int x3)] [] G := by
  intro n
  induction n with
  | zero => intro G x0 x1 x2 x3 h; cases h
  | succ n ih =>
    intro G x0 x1 x2 x3 h
    unfold f_M_lastOf_L8 at h
    refine Y.blk (pc' := 9) (L' := [some (.ref x0), some (.int x1), some (.int x2), some (.int x3)]) (st' := [.int x3]) (sg := [(.iload_n 3, 0)]) (by decide +kernel) rfl ?_
    refine Y.if_lt (off := 23) (tgt := 32) (by decide +kernel) (by decide) h (fun c13 h => ?_) (fun c13 h => ?_)
    · refine Y.less (L' := [none, none, none, none]) (zLe_none (zLe_none (zLe_none (zLe_none (zLe_nil))))) ?_
      exact hK32 G  h
    · refine Y.blk (pc' := 15) (L' := [some (.ref x0), some (.int x1), some (.int x2), some (.int x3)]) (st' := [.int x3, .int x1, .ref x0]) (sg := [(.aload_n 0, 0), (.iload_n 1, 0), (.iload_n 3, 0)]) (by decide +kernel) rfl ?_
      obtain ⟨_, o7, e6, m8, h⟩ := gOb_inv h
      refine Y.callA (yC.Vi (b := x0) (As := [.int x1, .int x3]) (st := []) (r := ("PartlisterModel", T_M, 9)) hV.1 cb_M_at lk_M_132 in_M_at rfl se_M_at (by decide +kernel) rfl rfl (Nat.le_of_ble_eq_true rfl) (by decide) e6 m8) (k_M_at hV G x0 x1 x3) h (fun v10 G9 _ h => ?_)
      refine Y.blk (pc' := 19) (L' := [some (.ref x0), some (.int x1), some (.int x2), some (.int x3)]) (st' := [.int (nI 0), .ref v10]) (sg := [(.iconst 0, nI 0)]) (by decide +kernel) rfl ?_
      refine Y.iald (t0 := 0) (by decide +kernel) rfl h (fun v11 h => ?_)
      refine Y.blk (pc' := 21) (L' := [some (.ref x0), some (.int x1), some (.int x2), some (.int x3)]) (st' := [.int x2, .int v11]) (sg := [(.iload_n 2, 0)]) (by decide +kernel) rfl ?_
      refine Y.ic_ne (off := 5) (tgt := 26) (by decide +kernel) (by decide) h (fun c12 h => ?_) (fun c12 h => ?_)
      · refine Y.less (L' := [none, none, none, some (.int x3)]) (zLe_none (zLe_none (zLe_none (zLe_some (zLe_nil))))) ?_
        exact hK24 G9 x3 h
      · refine Y.blk (pc' := 29) (L' := [some (.ref x0), some (.int x1), some (.int x2), some (.int (x3 + (-1)))]) (st' := []) (sg := [(.iinc 3 (-1), -1)]) (by decide +kernel) rfl ?_
        refine Y.goto (off := -21) (tgt := 8) (by decide +kernel) (by decide) ?_
        exact ih G9 x0 x1 x2 (x3 + (-1)) h
theorem k_M_lastOf {l : Launch} {D : va_G} {B : Nat} {O : State → Heap → Prop} (hV : zG l D B O) (G : gH) (a0 : Nat) (a1 : Int32) (a2 : Int32) : gMet (zVm l D B O) m_M_lastOf 13 [.ref a0, .int a1, .int a2] G (f_M_lastOf G a0 a1 a2) := by
  refine gMet.of (by decide +kernel) (Nat.le_of_ble_eq_true rfl) [some (.ref a0), some (.int a1), some (.int a2), none] (fun ls h => zEn_ok (n := 4) h) ?_
  intro o Gf h
  unfold f_M_lastOf at h
  refine Y.blk (pc' := 2) (L' := [some (.ref a0), some (.int a1), some (.int a2), none]) (st' := [.int a1, .ref a0]) (sg := [(.aload_n 0, 0), (.iload_n 1, 0)]) (by decide +kernel) rfl ?_
  obtain ⟨_, o2, e1, m3, h⟩ := gOb_inv h
  refine Y.callI (yC.Vi (b := a0) (As := [.int a1]) (st := []) (r := ("PartlisterModel", T_M, 9)) hV.1 cb_M_length lk_M_74 in_M_length rfl se_M_length (by decide +kernel) rfl rfl (Nat.le_of_ble_eq_true rfl) (by decide) e1 m3) (k_M_length hV G a0 a1) h (fun v5 G4 _ h => ?_)
  refine Y.blk (pc' := 8) (L' := [some (.ref a0), some (.int a1), some (.int a2), some (.int (v5 - (nI 1)))]) (st' := []) (sg := [(.iconst 1, nI 1), (.isub, 0), (.istore_n 3, 0)]) (by decide +kernel) rfl ?_
  refine k_M_lastOf_L8 hV _ _ ?_ ?_  zFu G4 a0 a1 a2 (v5 - (nI 1)) h
  · intro G15 x14 h
    refine Y.blk (pc' := 25) (L' := [none, none, none, some (.int x14)]) (st' := [.int x14]) (sg := [(.iload_n 3, 0)]) (by decide +kernel) rfl ?_
    exact Y.iret rfl (by decide +kernel) h
  · intro G16 h
    refine Y.blk (pc' := 33) (L' := [none, none, none, none]) (st' := [.int (-1)]) (sg := [(.iconst (-1), -1)]) (by decide +kernel) rfl ?_
    exact Y.iret rfl (by decide +kernel) h

def f_M_manyOf_L5 (K45 : gH → Int32 → gR) : Nat → gH → Nat → Int32 → Int32 → Int32 → Int32 → gR
  | 0, _, _, _, _, _, _ => none
  | n + 1, G, x0, x1, x2, x3, x4 =>
    gOb G x0 6 fun o2 => bI (f_M_length G x0 x1) fun v5 G4 => if v5 ≤ x4 then K45 G4 x3
    else gOb G4 x0 6 fun o7 => bA (f_M_at G4 x0 x1 x4) fun v10 G9 => gLd G9 v10 100 (nI 0) fun v11 => if v11 = x2 then bI (f_M_one G9 (nI 1)) fun v14 G13 => f_M_manyOf_L5 K45 n G13 x0 x1 x2 (x3 + v14) (x4 + (nI 1))
      else bI (f_M_one G9 (nI 0)) fun v17 G16 => f_M_manyOf_L5 K45 n G16 x0 x1 x2 (x3 + v17) (x4 + (nI 1))
def f_M_manyOf (G : gH) (a0 : Nat) (a1 : Int32) (a2 : Int32) : gR :=
  f_M_manyOf_L5 (fun G21 x20 => rI x20 G21) zFu G a0 a1 a2 (nI 0) (nI 0)
theorem k_M_manyOf_L5 {l : Launch} {D : va_G} {B : Nat} {O : State → Heap → Prop} (hV : zG l D B O) {o : gO} {Gf : gH} (K45 : gH → Int32 → gR) (hK45 : ∀ (G : gH) (x3 : Int32), K45 G x3 = some (o, Gf) → Y (zVm l D B O) m_M_manyOf 13 o Gf 45 [none, none, none, some (.int x3), none] [] G) : ∀ (n : Nat) (G : gH) (x0 : Nat) (x1 : Int32) (x2 : Int32) (x3 : Int32) (x4 : Int32), f_M_manyOf_L5 K45 n G x0 x1 x2 x3 x4 = some (o, Gf) → Y (zVm l D B O) m_M_manyOf 13 o Gf 5 [some (.ref x0), some (.int x1), some (.int x2), some (.int x3), some (.int x4)] [] G := by
  intro n
  induction n with
  | zero => intro G x0 x1 x2 x3 x4 h; cases h
  | succ n ih =>
    intro G x0 x1 x2 x3 x4 h
    unfold f_M_manyOf_L5 at h
    refine Y.blk (pc' := 9) (L' := [some (.ref x0), some (.int x1), some (.int x2), some (.int x3), some (.int x4)]) (st' := [.int x1, .ref x0, .int x4]) (sg := [(.iload 4, 0), (.aload_n 0, 0), (.iload_n 1, 0)]) (by decide +kernel) rfl ?_
    obtain ⟨_, o2, e1, m3, h⟩ := gOb_inv h
    refine Y.callI (yC.Vi (b := x0) (As := [.int x1]) (st := [.int x4]) (r := ("PartlisterModel", T_M, 9)) hV.1 cb_M_length lk_M_74 in_M_length rfl se_M_length (by decide +kernel) rfl rfl (Nat.le_of_ble_eq_true rfl) (by decide) e1 m3) (k_M_length hV G x0 x1) h (fun v5 G4 _ h => ?_)
    refine Y.ic_ge (off := 33) (tgt := 45) (by decide +kernel) (by decide) h (fun c19 h => ?_) (fun c19 h => ?_)
    · refine Y.less (L' := [none, none, none, some (.int x3), none]) (zLe_none (zLe_none (zLe_none (zLe_some (zLe_none (zLe_nil)))))) ?_
      exact hK45 G4 x3 h
    · refine Y.blk (pc' := 20) (L' := [some (.ref x0), some (.int x1), some (.int x2), some (.int x3), some (.int x4)]) (st' := [.int x4, .int x1, .ref x0, .int x3]) (sg := [(.iload_n 3, 0), (.aload_n 0, 0), (.iload_n 1, 0), (.iload 4, 0)]) (by decide +kernel) rfl ?_
      obtain ⟨_, o7, e6, m8, h⟩ := gOb_inv h
      refine Y.callA (yC.Vi (b := x0) (As := [.int x1, .int x4]) (st := [.int x3]) (r := ("PartlisterModel", T_M, 9)) hV.1 cb_M_at lk_M_132 in_M_at rfl se_M_at (by decide +kernel) rfl rfl (Nat.le_of_ble_eq_true rfl) (by decide) e6 m8) (k_M_at hV G4 x0 x1 x4) h (fun v10 G9 _ h => ?_)
      refine Y.blk (pc' := 24) (L' := [some (.ref x0), some (.int x1), some (.int x2), some (.int x3), some (.int x4)]) (st' := [.int (nI 0), .ref v10, .int x3]) (sg := [(.iconst 0, nI 0)]) (by decide +kernel) rfl ?_
      refine Y.iald (t0 := 0) (by decide +kernel) rfl h (fun v11 h => ?_)
      refine Y.blk (pc' := 26) (L' := [some (.ref x0), some (.int x1), some (.int x2), some (.int x3), some (.int x4)]) (st' := [.int x2, .int v11, .int x3]) (sg := [(.iload_n 2, 0)]) (by decide +kernel) rfl ?_
      refine Y.ic_ne (off := 7) (tgt := 33) (by decide +kernel) (by decide) h (fun c18 h => ?_) (fun c18 h => ?_)
      · refine Y.blk (pc' := 30) (L' := [some (.ref x0), some (.int x1), some (.int x2), some (.int x3), some (.int x4)]) (st' := [.int (nI 1), .int x3]) (sg := [(.iconst 1, nI 1)]) (by decide +kernel) rfl ?_
        refine Y.goto (off := 4) (tgt := 34) (by decide +kernel) (by decide) ?_
        refine Y.callI (yC.S (As := [.int (nI 1)]) (st := [.int x3]) hV.1 cb_M_one lk_M_188 st_M_one (by decide +kernel) rfl rfl (Nat.le_of_ble_eq_true rfl) (by decide)) (k_M_one hV G9 (nI 1)) h (fun v14 G13 _ h => ?_)
        refine Y.blk (pc' := 42) (L' := [some (.ref x0), some (.int x1), some (.int x2), some (.int (x3 + v14)), some (.int (x4 + (nI 1)))]) (st' := []) (sg := [(.iadd, 0), (.istore_n 3, 0), (.iinc 4 1, nI 1)]) (by decide +kernel) rfl ?_
        refine Y.goto (off := -37) (tgt := 5) (by decide +kernel) (by decide) ?_
        exact ih G13 x0 x1 x2 (x3 + v14) (x4 + (nI 1)) h
      · refine Y.blk (pc' := 34) (L' := [some (.ref x0), some (.int x1), some (.int x2), some (.int x3), some (.int x4)]) (st' := [.int (nI 0), .int x3]) (sg := [(.iconst 0, nI 0)]) (by decide +kernel) rfl ?_
        refine Y.callI (yC.S (As := [.int (nI 0)]) (st := [.int x3]) hV.1 cb_M_one lk_M_188 st_M_one (by decide +kernel) rfl rfl (Nat.le_of_ble_eq_true rfl) (by decide)) (k_M_one hV G9 (nI 0)) h (fun v17 G16 _ h => ?_)
        refine Y.blk (pc' := 42) (L' := [some (.ref x0), some (.int x1), some (.int x2), some (.int (x3 + v17)), some (.int (x4 + (nI 1)))]) (st' := []) (sg := [(.iadd, 0), (.istore_n 3, 0), (.iinc 4 1, nI 1)]) (by decide +kernel) rfl ?_
        refine Y.goto (off := -37) (tgt := 5) (by decide +kernel) (by decide) ?_
        exact ih G16 x0 x1 x2 (x3 + v17) (x4 + (nI 1)) h
theorem k_M_manyOf {l : Launch} {D : va_G} {B : Nat} {O : State → Heap → Prop} (hV : zG l D B O) (G : gH) (a0 : Nat) (a1 : Int32) (a2 : Int32) : gMet (zVm l D B O) m_M_manyOf 13 [.ref a0, .int a1, .int a2] G (f_M_manyOf G a0 a1 a2) := by
  refine gMet.of (by decide +kernel) (Nat.le_of_ble_eq_true rfl) [some (.ref a0), some (.int a1), some (.int a2), none, none] (fun ls h => zEn_ok (n := 5) h) ?_
  intro o Gf h
  unfold f_M_manyOf at h
  refine Y.blk (pc' := 5) (L' := [some (.ref a0), some (.int a1), some (.int a2), some (.int (nI 0)), some (.int (nI 0))]) (st' := []) (sg := [(.iconst 0, nI 0), (.istore_n 3, 0), (.iconst 0, nI 0), (.istore 4, 0)]) (by decide +kernel) rfl ?_
  refine k_M_manyOf_L5 hV _ ?_  zFu G a0 a1 a2 (nI 0) (nI 0) h
  · intro G21 x20 h
    refine Y.blk (pc' := 46) (L' := [none, none, none, some (.int x20), none]) (st' := [.int x20]) (sg := [(.iload_n 3, 0)]) (by decide +kernel) rfl ?_
    exact Y.iret rfl (by decide +kernel) h

def f_M_partTold (G : gH) (a0 : Nat) (a1 : Int32) (a2 : Int32) : gR :=
  gNewA G 100 (nI 4) fun q1 G2 => gFA G2 a0 6 2 fun v3 => gLdq G2 v3 104 a1 (none) fun v4 => gFI G2 v4 5 0 fun v5 => gSt G2 q1 100 (nI 0) v5 fun G6 => gFA G6 a0 6 2 fun v7 => gLdq G6 v7 104 a1 (none) fun v8 => gFI G6 v8 5 1 fun v9 => gSt G6 q1 100 (nI 1) v9 fun G10 => gOb G10 a0 6 fun o12 => bI (f_M_rowOf zDp G10 a0 a1) fun v15 G14 => gSt G14 q1 100 (nI 2) v15 fun G16 => gOb G16 a0 6 fun o18 => bI (f_M_base zDp G16 a0 a1) fun v21 G20 => gSt G20 q1 100 (nI 3) v21 fun G22 => gLd G22 q1 100 a2 fun v23 => rI v23 G22
theorem k_M_partTold {l : Launch} {D : va_G} {B : Nat} {O : State → Heap → Prop} (hV : zG l D B O) (G : gH) (a0 : Nat) (a1 : Int32) (a2 : Int32) : gMet (zVm l D B O) m_M_partTold 11 [.ref a0, .int a1, .int a2] G (f_M_partTold G a0 a1 a2) := by
  refine gMet.of (by decide +kernel) (Nat.le_of_ble_eq_true rfl) [some (.ref a0), some (.int a1), some (.int a2), none] (fun ls h => zEn_ok (n := 4) h) ?_
  intro o Gf h
  unfold f_M_partTold at h
  refine Y.blk (pc' := 1) (L' := [some (.ref a0), some (.int a1), some (.int a2), none]) (st' := [.int (nI 4)]) (sg := [(.iconst 4, nI 4)]) (by decide +kernel) rfl ?_
  refine Y.newa (at_ := .int) (t0 := 0) ac_i rfl (by decide) rfl (by decide) (by decide +kernel) h (fun q1 G2 h => ?_)
  refine Y.blk (pc' := 6) (L' := [some (.ref a0), some (.int a1), some (.int a2), none]) (st' := [.ref a0, .int (nI 0), .ref q1, .ref q1]) (sg := [(.dup, 0), (.iconst 0, nI 0), (.aload_n 0, 0)]) (by decide +kernel) rfl ?_
  refine Y.getA fl_M_18 (by decide +kernel) h (fun v3 h => ?_)
  refine Y.blk (pc' := 10) (L' := [some (.ref a0), some (.int a1), some (.int a2), none]) (st' := [.int a1, .ref v3, .int (nI 0), .ref q1, .ref q1]) (sg := [(.iload_n 1, 0)]) (by decide +kernel) rfl ?_
  refine Y.aald (t0 := 4) (by decide +kernel) rfl h (fun h => ?_) (fun v4 h => ?_)
  · cases h
  · refine Y.getI fl_M_44 (by decide +kernel) h (fun v5 h => ?_)
    refine Y.iast (t0 := 0) (by decide +kernel) rfl (by decide) h (fun G6 _ _ h => ?_)
    refine Y.blk (pc' := 18) (L' := [some (.ref a0), some (.int a1), some (.int a2), none]) (st' := [.ref a0, .int (nI 1), .ref q1, .ref q1]) (sg := [(.dup, 0), (.iconst 1, nI 1), (.aload_n 0, 0)]) (by decide +kernel) rfl ?_
    refine Y.getA fl_M_18 (by decide +kernel) h (fun v7 h => ?_)
    refine Y.blk (pc' := 22) (L' := [some (.ref a0), some (.int a1), some (.int a2), none]) (st' := [.int a1, .ref v7, .int (nI 1), .ref q1, .ref q1]) (sg := [(.iload_n 1, 0)]) (by decide +kernel) rfl ?_
    refine Y.aald (t0 := 4) (by decide +kernel) rfl h (fun h => ?_) (fun v8 h => ?_)
    · cases h
    · refine Y.getI fl_M_51 (by decide +kernel) h (fun v9 h => ?_)
      refine Y.iast (t0 := 0) (by decide +kernel) rfl (by decide) h (fun G10 _ _ h => ?_)
      refine Y.blk (pc' := 31) (L' := [some (.ref a0), some (.int a1), some (.int a2), none]) (st' := [.int a1, .ref a0, .int (nI 2), .ref q1, .ref q1]) (sg := [(.dup, 0), (.iconst 2, nI 2), (.aload_n 0, 0), (.iload_n 1, 0)]) (by decide +kernel) rfl ?_
      obtain ⟨_, o12, e11, m13, h⟩ := gOb_inv h
      refine Y.callI (yC.Vi (b := a0) (As := [.int a1]) (st := [.int (nI 2), .ref q1, .ref q1]) (r := ("PartlisterModel", T_M, 9)) hV.1 cb_M_rowOf lk_M_47 in_M_rowOf rfl se_M_rowOf (by decide +kernel) rfl rfl (Nat.le_of_ble_eq_true rfl) (by decide) e11 m13) (k_M_rowOf zDp hV G10 a0 a1) h (fun v15 G14 _ h => ?_)
      refine Y.iast (t0 := 0) (by decide +kernel) rfl (by decide) h (fun G16 _ _ h => ?_)
      refine Y.blk (pc' := 39) (L' := [some (.ref a0), some (.int a1), some (.int a2), none]) (st' := [.int a1, .ref a0, .int (nI 3), .ref q1, .ref q1]) (sg := [(.dup, 0), (.iconst 3, nI 3), (.aload_n 0, 0), (.iload_n 1, 0)]) (by decide +kernel) rfl ?_
      obtain ⟨_, o18, e17, m19, h⟩ := gOb_inv h
      refine Y.callI (yC.Vi (b := a0) (As := [.int a1]) (st := [.int (nI 3), .ref q1, .ref q1]) (r := ("PartlisterModel", T_M, 9)) hV.1 cb_M_base lk_M_54 in_M_base rfl se_M_base (by decide +kernel) rfl rfl (Nat.le_of_ble_eq_true rfl) (by decide) e17 m19) (k_M_base zDp hV G16 a0 a1) h (fun v21 G20 _ h => ?_)
      refine Y.iast (t0 := 0) (by decide +kernel) rfl (by decide) h (fun G22 _ _ h => ?_)
      refine Y.blk (pc' := 46) (L' := [some (.ref a0), some (.int a1), some (.int a2), some (.ref q1)]) (st' := [.int a2, .ref q1]) (sg := [(.astore_n 3, 0), (.aload_n 3, 0), (.iload_n 2, 0)]) (by decide +kernel) rfl ?_
      refine Y.iald (t0 := 0) (by decide +kernel) rfl h (fun v23 h => ?_)
      exact Y.iret rfl (by decide +kernel) h

def f_M_same (G : gH) (a0 : Nat) (a1 : Int32) (a2 : Int32) : gR :=
  gOb G a0 6 fun o2 => bI (f_M_length G a0 a1) fun v5 G4 => gOb G4 a0 6 fun o7 => bI (f_M_length G4 a0 a2) fun v10 G9 => if v5 = v10 then (gOb G9 a0 6 fun o12 => bI (f_M_liesAt G9 a0 a1 (nI 0) a2) fun v15 G14 => if v15 = 0 then rZ (nI 0) G14
    else rZ (nI 1) G14)
  else rZ (nI 0) G9
theorem k_M_same {l : Launch} {D : va_G} {B : Nat} {O : State → Heap → Prop} (hV : zG l D B O) (G : gH) (a0 : Nat) (a1 : Int32) (a2 : Int32) : gMet (zVm l D B O) m_M_same 14 [.ref a0, .int a1, .int a2] G (f_M_same G a0 a1 a2) := by
  refine gMet.of (by decide +kernel) (Nat.le_of_ble_eq_true rfl) [some (.ref a0), some (.int a1), some (.int a2)] (fun ls h => zEn_ok (n := 3) h) ?_
  intro o Gf h
  unfold f_M_same at h
  refine Y.blk (pc' := 2) (L' := [some (.ref a0), some (.int a1), some (.int a2)]) (st' := [.int a1, .ref a0]) (sg := [(.aload_n 0, 0), (.iload_n 1, 0)]) (by decide +kernel) rfl ?_
  obtain ⟨_, o2, e1, m3, h⟩ := gOb_inv h
  refine Y.callI (yC.Vi (b := a0) (As := [.int a1]) (st := []) (r := ("PartlisterModel", T_M, 9)) hV.1 cb_M_length lk_M_74 in_M_length rfl se_M_length (by decide +kernel) rfl rfl (Nat.le_of_ble_eq_true rfl) (by decide) e1 m3) (k_M_length hV G a0 a1) h (fun v5 G4 _ h => ?_)
  refine Y.blk (pc' := 7) (L' := [some (.ref a0), some (.int a1), some (.int a2)]) (st' := [.int a2, .ref a0, .int v5]) (sg := [(.aload_n 0, 0), (.iload_n 2, 0)]) (by decide +kernel) rfl ?_
  obtain ⟨_, o7, e6, m8, h⟩ := gOb_inv h
  refine Y.callI (yC.Vi (b := a0) (As := [.int a2]) (st := [.int v5]) (r := ("PartlisterModel", T_M, 9)) hV.1 cb_M_length lk_M_74 in_M_length rfl se_M_length (by decide +kernel) rfl rfl (Nat.le_of_ble_eq_true rfl) (by decide) e6 m8) (k_M_length hV G4 a0 a2) h (fun v10 G9 _ h => ?_)
  refine Y.ic_ne (off := 17) (tgt := 27) (by decide +kernel) (by decide) h (fun c17 h => ?_) (fun c17 h => ?_)
  · refine Y.blk (pc' := 17) (L' := [some (.ref a0), some (.int a1), some (.int a2)]) (st' := [.int a2, .int (nI 0), .int a1, .ref a0]) (sg := [(.aload_n 0, 0), (.iload_n 1, 0), (.iconst 0, nI 0), (.iload_n 2, 0)]) (by decide +kernel) rfl ?_
    obtain ⟨_, o12, e11, m13, h⟩ := gOb_inv h
    refine Y.callI (yC.Vi (b := a0) (As := [.int a1, .int (nI 0), .int a2]) (st := []) (r := ("PartlisterModel", T_M, 9)) hV.1 cb_M_liesAt lk_M_232 in_M_liesAt rfl se_M_liesAt (by decide +kernel) rfl rfl (Nat.le_of_ble_eq_true rfl) (by decide) e11 m13) (k_M_liesAt hV G9 a0 a1 (nI 0) a2) h (fun v15 G14 _ h => ?_)
    refine Y.if_eq (off := 7) (tgt := 27) (by decide +kernel) (by decide) h (fun c16 h => ?_) (fun c16 h => ?_)
    · refine Y.blk (pc' := 28) (L' := [some (.ref a0), some (.int a1), some (.int a2)]) (st' := [.int (nI 0)]) (sg := [(.iconst 0, nI 0)]) (by decide +kernel) rfl ?_
      exact Y.zret rfl (by decide +kernel) h
    · refine Y.blk (pc' := 24) (L' := [some (.ref a0), some (.int a1), some (.int a2)]) (st' := [.int (nI 1)]) (sg := [(.iconst 1, nI 1)]) (by decide +kernel) rfl ?_
      refine Y.goto (off := 4) (tgt := 28) (by decide +kernel) (by decide) ?_
      exact Y.zret rfl (by decide +kernel) h
  · refine Y.blk (pc' := 28) (L' := [some (.ref a0), some (.int a1), some (.int a2)]) (st' := [.int (nI 0)]) (sg := [(.iconst 0, nI 0)]) (by decide +kernel) rfl ?_
    exact Y.zret rfl (by decide +kernel) h

def f_M_sizeOf (G : gH) (a0 : Nat) (a1 : Int32) : gR :=
  gOb G a0 6 fun o2 => bI (f_M_isNoList G a0 a1) fun v5 G4 => if v5 = 0 then gOb G4 a0 6 fun o7 => bI (f_M_length G4 a0 a1) fun v10 G9 => rI v10 G9
  else rI (-1) G4
theorem k_M_sizeOf {l : Launch} {D : va_G} {B : Nat} {O : State → Heap → Prop} (hV : zG l D B O) (G : gH) (a0 : Nat) (a1 : Int32) : gMet (zVm l D B O) m_M_sizeOf 6 [.ref a0, .int a1] G (f_M_sizeOf G a0 a1) := by
  refine gMet.of (by decide +kernel) (Nat.le_of_ble_eq_true rfl) [some (.ref a0), some (.int a1)] (fun ls h => zEn_ok (n := 2) h) ?_
  intro o Gf h
  unfold f_M_sizeOf at h
  refine Y.blk (pc' := 2) (L' := [some (.ref a0), some (.int a1)]) (st' := [.int a1, .ref a0]) (sg := [(.aload_n 0, 0), (.iload_n 1, 0)]) (by decide +kernel) rfl ?_
  obtain ⟨_, o2, e1, m3, h⟩ := gOb_inv h
  refine Y.callI (yC.Vi (b := a0) (As := [.int a1]) (st := []) (r := ("PartlisterModel", T_M, 9)) hV.1 cb_M_isNoList lk_M_110 in_M_isNoList rfl se_M_isNoList (by decide +kernel) rfl rfl (Nat.le_of_ble_eq_true rfl) (by decide) e1 m3) (k_M_isNoList hV G a0 a1) h (fun v5 G4 _ h => ?_)
  refine Y.if_eq (off := 7) (tgt := 12) (by decide +kernel) (by decide) h (fun c11 h => ?_) (fun c11 h => ?_)
  · refine Y.blk (pc' := 14) (L' := [some (.ref a0), some (.int a1)]) (st' := [.int a1, .ref a0]) (sg := [(.aload_n 0, 0), (.iload_n 1, 0)]) (by decide +kernel) rfl ?_
    obtain ⟨_, o7, e6, m8, h⟩ := gOb_inv h
    refine Y.callI (yC.Vi (b := a0) (As := [.int a1]) (st := []) (r := ("PartlisterModel", T_M, 9)) hV.1 cb_M_length lk_M_74 in_M_length rfl se_M_length (by decide +kernel) rfl rfl (Nat.le_of_ble_eq_true rfl) (by decide) e6 m8) (k_M_length hV G4 a0 a1) h (fun v10 G9 _ h => ?_)
    exact Y.iret rfl (by decide +kernel) h
  · refine Y.blk (pc' := 9) (L' := [some (.ref a0), some (.int a1)]) (st' := [.int (-1)]) (sg := [(.iconst (-1), -1)]) (by decide +kernel) rfl ?_
    refine Y.goto (off := 8) (tgt := 17) (by decide +kernel) (by decide) ?_
    exact Y.iret rfl (by decide +kernel) h

def f_AB_init (w : Nat → Nat) (G : gH) (a0 : Nat) (a1 : Int32) : gR :=
  if (nI 1) = 0 then none
  else gNewA G 101 a1 fun q1 G2 => gPut G2 a0 10 0 (.ref q1) fun G3 => gPut G3 a0 10 1 (.int (nI 0)) fun G4 => rV G4
theorem k_AB_init {l : Launch} {D : va_G} {B : Nat} {O : State → Heap → Prop} {w : Nat → Nat} (hV : zGw l D B O w) (G : gH) (a0 : Nat) (a1 : Int32) : gMet (zVm l D B O) m_AB_init 2 [.ref a0, .int a1] G (f_AB_init w G a0 a1) := by
  refine gMet.of (by decide +kernel) (Nat.le_of_ble_eq_true rfl) [some (.ref a0), some (.int a1)] (fun ls h => zEn_ok (n := 2) h) ?_
  intro o Gf h
  unfold f_AB_init at h
  refine Y.blk (pc' := 1) (L' := [some (.ref a0), some (.int a1)]) (st' := [.ref a0]) (sg := [(.aload_n 0, 0)]) (by decide +kernel) rfl ?_
  refine Y.objInit lk_AB_3 in_OJ_init cw_OJ_init (by decide) rfl (Nat.le_of_ble_eq_true rfl) (by decide +kernel) ?_
  refine Y.gets (v := .int (nI 1)) (fun U H h => (hV.2 U H h).2.2.2.1) sf_AB_18 (by decide +kernel) ?_
  refine Y.if_eq (off := 18) (tgt := 25) (by decide +kernel) (by decide) h (fun c5 h => ?_) (fun c5 h => ?_)
  · refine Y.blk (pc' := 27) (L' := [some (.ref a0), some (.int a1)]) (st' := [.int a1, .ref a0]) (sg := [(.aload_n 0, 0), (.iload_n 1, 0)]) (by decide +kernel) rfl ?_
    cases h
  · refine Y.blk (pc' := 12) (L' := [some (.ref a0), some (.int a1)]) (st' := [.int a1, .ref a0]) (sg := [(.aload_n 0, 0), (.iload_n 1, 0)]) (by decide +kernel) rfl ?_
    refine Y.newa (at_ := .byte) (t0 := 1) ac_b rfl (by decide) rfl (by decide) (by decide +kernel) h (fun q1 G2 h => ?_)
    refine Y.putf fl_AB_15 (by decide) rfl rfl (by decide +kernel) h (fun G3 _ _ h => ?_)
    refine Y.blk (pc' := 19) (L' := [some (.ref a0), some (.int a1)]) (st' := [.int (nI 0), .ref a0]) (sg := [(.aload_n 0, 0), (.iconst 0, nI 0)]) (by decide +kernel) rfl ?_
    refine Y.putf fl_AB_22 (by decide) rfl rfl (by decide +kernel) h (fun G4 _ _ h => ?_)
    refine Y.goto (off := 16) (tgt := 38) (by decide +kernel) (by decide) ?_
    exact Y.vret rfl (by decide +kernel) h

def f_SB_init (w : Nat → Nat) (G : gH) (a0 : Nat) : gR :=
  bV (f_AB_init w G a0 (nI 16)) fun G2 => rV G2
theorem k_SB_init {l : Launch} {D : va_G} {B : Nat} {O : State → Heap → Prop} {w : Nat → Nat} (hV : zGw l D B O w) (G : gH) (a0 : Nat) : gMet (zVm l D B O) m_SB_init 3 [.ref a0] G (f_SB_init w G a0) := by
  refine gMet.of (by decide +kernel) (Nat.le_of_ble_eq_true rfl) [some (.ref a0)] (fun ls h => zEn_ok (n := 1) h) ?_
  intro o Gf h
  unfold f_SB_init at h
  refine Y.blk (pc' := 3) (L' := [some (.ref a0)]) (st' := [.int (nI 16), .ref a0]) (sg := [(.aload_n 0, 0), (.bipush 16, nI 16)]) (by decide +kernel) rfl ?_
  refine Y.callN (yC.I (b := a0) (As := [.int (nI 16)]) (st := []) hV.1.1 cb_AB_init lk_SB_1 in_AB_init rfl rfl (by decide +kernel) rfl rfl (Nat.le_of_ble_eq_true rfl) (by decide)) (k_AB_init hV G a0 (nI 16)) h (fun G2 _ h => ?_)
  exact Y.vret rfl (by decide +kernel) h

def f_AB_newCapacity (G : gH) (a0 : Nat) (a1 : Int32) : gR :=
  gFA G a0 10 0 fun v1 => gLen G v1 101 fun v2 => gFI G a0 10 1 fun v3 => gFI G a0 10 1 fun v4 => bI (f_AS_newLength G v2 ((a1 <<< (v3 &&& 31)) - v2) (v2 + ((nI 2) <<< (v4 &&& 31)))) fun v7 G6 => if v7 = (nI 2147483647) then none
  else gFI G6 a0 10 1 fun v8 => rI (v7 >>> (v8 &&& 31)) G6
theorem k_AB_newCapacity {l : Launch} {D : va_G} {B : Nat} {O : State → Heap → Prop} (hV : zG l D B O) (G : gH) (a0 : Nat) (a1 : Int32) : gMet (zVm l D B O) m_AB_newCapacity 3 [.ref a0, .int a1] G (f_AB_newCapacity G a0 a1) := by
  refine gMet.of (by decide +kernel) (Nat.le_of_ble_eq_true rfl) [some (.ref a0), some (.int a1), none, none, none, none] (fun ls h => zEn_ok (n := 6) h) ?_
  intro o Gf h
  unfold f_AB_newCapacity at h
  refine Y.blk (pc' := 1) (L' := [some (.ref a0), some (.int a1), none, none, none, none]) (st' := [.ref a0]) (sg := [(.aload_n 0, 0)]) (by decide +kernel) rfl ?_
  refine Y.getA fl_AB_15 (by decide +kernel) h (fun v1 h => ?_)
  refine Y.alen (t0 := 1) (by decide +kernel) rfl h (fun v2 h => ?_)
  refine Y.blk (pc' := 8) (L' := [some (.ref a0), some (.int a1), some (.int v2), none, none, none]) (st' := [.ref a0, .int a1]) (sg := [(.istore_n 2, 0), (.iload_n 1, 0), (.aload_n 0, 0)]) (by decide +kernel) rfl ?_
  refine Y.getI fl_AB_22 (by decide +kernel) h (fun v3 h => ?_)
  refine Y.blk (pc' := 24) (L' := [some (.ref a0), some (.int a1), some (.int v2), some (.int (a1 <<< (v3 &&& 31))), some (.int ((a1 <<< (v3 &&& 31)) - v2)), none]) (st' := [.ref a0, .int (nI 2), .int v2, .int ((a1 <<< (v3 &&& 31)) - v2), .int v2]) (sg := [(.ishl, 0), (.istore_n 3, 0), (.iload_n 3, 0), (.iload_n 2, 0), (.isub, 0), (.istore 4, 0), (.iload_n 2, 0), (.iload 4, 0), (.iload_n 2, 0), (.iconst 2, nI 2), (.aload_n 0, 0)]) (by decide +kernel) rfl ?_
  refine Y.getI fl_AB_22 (by decide +kernel) h (fun v4 h => ?_)
  refine Y.blk (pc' := 29) (L' := [some (.ref a0), some (.int a1), some (.int v2), some (.int (a1 <<< (v3 &&& 31))), some (.int ((a1 <<< (v3 &&& 31)) - v2)), none]) (st' := [.int (v2 + ((nI 2) <<< (v4 &&& 31))), .int ((a1 <<< (v3 &&& 31)) - v2), .int v2]) (sg := [(.ishl, 0), (.iadd, 0)]) (by decide +kernel) rfl ?_
  refine Y.callI (yC.S (As := [.int v2, .int ((a1 <<< (v3 &&& 31)) - v2), .int (v2 + ((nI 2) <<< (v4 &&& 31)))]) (st := []) hV.1 cb_AS_newLength lk_AB_114 st_AS_newLength (by decide +kernel) rfl rfl (Nat.le_of_ble_eq_true rfl) (by decide)) (k_AS_newLength hV G v2 ((a1 <<< (v3 &&& 31)) - v2) (v2 + ((nI 2) <<< (v4 &&& 31)))) h (fun v7 G6 _ h => ?_)
  refine Y.blk (pc' := 36) (L' := [some (.ref a0), some (.int a1), some (.int v2), some (.int (a1 <<< (v3 &&& 31))), some (.int ((a1 <<< (v3 &&& 31)) - v2)), some (.int v7)]) (st' := [.int v7]) (sg := [(.istore 5, 0), (.iload 5, 0)]) (by decide +kernel) rfl ?_
  refine Y.ldc (v := nI 2147483647) co_AB_39 (by decide +kernel) ?_
  refine Y.ic_ne (off := 13) (tgt := 51) (by decide +kernel) (by decide) h (fun c9 h => ?_) (fun c9 h => ?_)
  · cases h
  · refine Y.blk (pc' := 54) (L' := [some (.ref a0), some (.int a1), some (.int v2), some (.int (a1 <<< (v3 &&& 31))), some (.int ((a1 <<< (v3 &&& 31)) - v2)), some (.int v7)]) (st' := [.ref a0, .int v7]) (sg := [(.iload 5, 0), (.aload_n 0, 0)]) (by decide +kernel) rfl ?_
    refine Y.getI fl_AB_22 (by decide +kernel) h (fun v8 h => ?_)
    refine Y.blk (pc' := 58) (L' := [some (.ref a0), some (.int a1), some (.int v2), some (.int (a1 <<< (v3 &&& 31))), some (.int ((a1 <<< (v3 &&& 31)) - v2)), some (.int v7)]) (st' := [.int (v7 >>> (v8 &&& 31))]) (sg := [(.ishr, 0)]) (by decide +kernel) rfl ?_
    exact Y.iret rfl (by decide +kernel) h

def f_AR_copyOf1 (G : gH) (a0 : Nat) (a1 : Int32) : gR :=
  gLen G a0 101 fun v1 => if a1 = v1 then gClB G a0 fun q2 G3 => gCaA G3 q2 101 (rA q2 G3)
  else gNewA G 101 a1 fun q4 G5 => gLen G5 a0 101 fun v6 => gCpB G5 a0 (nI 0) q4 (nI 0) (if a1 < v6 then a1 else v6) fun G7 => rA q4 G7
theorem k_AR_copyOf1 {l : Launch} {D : va_G} {B : Nat} {O : State → Heap → Prop} (hV : zG l D B O) (G : gH) (a0 : Nat) (a1 : Int32) : gMet (zVm l D B O) m_AR_copyOf1 2 [.ref a0, .int a1] G (f_AR_copyOf1 G a0 a1) := by
  refine gMet.of (by decide +kernel) (Nat.le_of_ble_eq_true rfl) [some (.ref a0), some (.int a1), none] (fun ls h => zEn_ok (n := 3) h) ?_
  intro o Gf h
  unfold f_AR_copyOf1 at h
  refine Y.blk (pc' := 2) (L' := [some (.ref a0), some (.int a1), none]) (st' := [.ref a0, .int a1]) (sg := [(.iload_n 1, 0), (.aload_n 0, 0)]) (by decide +kernel) rfl ?_
  refine Y.alen (t0 := 1) (by decide +kernel) rfl h (fun v1 h => ?_)
  refine Y.ic_ne (off := 11) (tgt := 14) (by decide +kernel) (by decide) h (fun c8 h => ?_) (fun c8 h => ?_)
  · refine Y.blk (pc' := 7) (L' := [some (.ref a0), some (.int a1), none]) (st' := [.ref a0]) (sg := [(.aload_n 0, 0)]) (by decide +kernel) rfl ?_
    refine Y.cloneB (t0 := 1) lk_clone rfl (by decide) rfl (Nat.le_of_ble_eq_true rfl) (by decide +kernel) h (fun q2 G3 h => ?_)
    refine Y.castA (t0 := 1) (nm := "[B") (by decide +kernel) rfl (by decide) ck_AR_311 h (fun h => ?_)
    exact Y.aret rfl (by first | exact Or.inl ⟨_, rfl⟩ | exact Or.inr ⟨_, rfl⟩) (by decide +kernel) h
  · refine Y.blk (pc' := 15) (L' := [some (.ref a0), some (.int a1), none]) (st' := [.int a1]) (sg := [(.iload_n 1, 0)]) (by decide +kernel) rfl ?_
    refine Y.newa (at_ := .byte) (t0 := 1) ac_b rfl (by decide) rfl (by decide) (by decide +kernel) h (fun q4 G5 h => ?_)
    refine Y.blk (pc' := 23) (L' := [some (.ref a0), some (.int a1), some (.ref q4)]) (st' := [.ref a0, .int (nI 0), .ref q4, .int (nI 0), .ref a0]) (sg := [(.astore_n 2, 0), (.aload_n 0, 0), (.iconst 0, nI 0), (.aload_n 2, 0), (.iconst 0, nI 0), (.aload_n 0, 0)]) (by decide +kernel) rfl ?_
    refine Y.alen (t0 := 1) (by decide +kernel) rfl h (fun v6 h => ?_)
    refine Y.blk (pc' := 25) (L' := [some (.ref a0), some (.int a1), some (.ref q4)]) (st' := [.int a1, .int v6, .int (nI 0), .ref q4, .int (nI 0), .ref a0]) (sg := [(.iload_n 1, 0)]) (by decide +kernel) rfl ?_
    refine Y.mmin lk_AR_304 st_MA_min ini_MA cb_MA_min.1 (by decide) rfl (Nat.le_of_ble_eq_true rfl) (by decide +kernel) ?_
    refine Y.copyB (t0 := 1) lk_AR_150 nat_copy st_copy ini_SY (by decide) rfl (Nat.le_of_ble_eq_true rfl) (by decide +kernel) rfl h (fun G7 _ _ h => ?_)
    refine Y.blk (pc' := 32) (L' := [some (.ref a0), some (.int a1), some (.ref q4)]) (st' := [.ref q4]) (sg := [(.aload_n 2, 0)]) (by decide +kernel) rfl ?_
    exact Y.aret rfl (by first | exact Or.inl ⟨_, rfl⟩ | exact Or.inr ⟨_, rfl⟩) (by decide +kernel) h

def f_AB_ensureCapacityInternal (G : gH) (a0 : Nat) (a1 : Int32) : gR :=
  gFA G a0 10 0 fun v1 => gLen G v1 101 fun v2 => gFI G a0 10 1 fun v3 => if (a1 - (v2 >>> (v3 &&& 31))) ≤ 0 then rV G
  else gFA G a0 10 0 fun v4 => gOb G a0 10 fun o6 => bI (f_AB_newCapacity G a0 a1) fun v9 G8 => gFI G8 a0 10 1 fun v10 => bA (f_AR_copyOf1 G8 v4 (v9 <<< (v10 &&& 31))) fun v13 G12 => gPut G12 a0 10 0 (.ref v13) fun G14 => rV G14
theorem k_AB_ensureCapacityInternal {l : Launch} {D : va_G} {B : Nat} {O : State → Heap → Prop} (hV : zG l D B O) (G : gH) (a0 : Nat) (a1 : Int32) : gMet (zVm l D B O) m_AB_ensureCapacityInternal 4 [.ref a0, .int a1] G (f_AB_ensureCapacityInternal G a0 a1) := by
  refine gMet.of (by decide +kernel) (Nat.le_of_ble_eq_true rfl) [some (.ref a0), some (.int a1), none] (fun ls h => zEn_ok (n := 3) h) ?_
  intro o Gf h
  unfold f_AB_ensureCapacityInternal at h
  refine Y.blk (pc' := 1) (L' := [some (.ref a0), some (.int a1), none]) (st' := [.ref a0]) (sg := [(.aload_n 0, 0)]) (by decide +kernel) rfl ?_
  refine Y.getA fl_AB_15 (by decide +kernel) h (fun v1 h => ?_)
  refine Y.alen (t0 := 1) (by decide +kernel) rfl h (fun v2 h => ?_)
  refine Y.blk (pc' := 6) (L' := [some (.ref a0), some (.int a1), none]) (st' := [.ref a0, .int v2]) (sg := [(.aload_n 0, 0)]) (by decide +kernel) rfl ?_
  refine Y.getI fl_AB_22 (by decide +kernel) h (fun v3 h => ?_)
  refine Y.blk (pc' := 14) (L' := [some (.ref a0), some (.int a1), some (.int (v2 >>> (v3 &&& 31)))]) (st' := [.int (a1 - (v2 >>> (v3 &&& 31)))]) (sg := [(.ishr, 0), (.istore_n 2, 0), (.iload_n 1, 0), (.iload_n 2, 0), (.isub, 0)]) (by decide +kernel) rfl ?_
  refine Y.if_le (off := 24) (tgt := 38) (by decide +kernel) (by decide) h (fun c15 h => ?_) (fun c15 h => ?_)
  · exact Y.vret rfl (by decide +kernel) h
  · refine Y.blk (pc' := 19) (L' := [some (.ref a0), some (.int a1), some (.int (v2 >>> (v3 &&& 31)))]) (st' := [.ref a0, .ref a0]) (sg := [(.aload_n 0, 0), (.aload_n 0, 0)]) (by decide +kernel) rfl ?_
    refine Y.getA fl_AB_15 (by decide +kernel) h (fun v4 h => ?_)
    refine Y.blk (pc' := 24) (L' := [some (.ref a0), some (.int a1), some (.int (v2 >>> (v3 &&& 31)))]) (st' := [.int a1, .ref a0, .ref v4, .ref a0]) (sg := [(.aload_n 0, 0), (.iload_n 1, 0)]) (by decide +kernel) rfl ?_
    obtain ⟨_, o6, e5, m7, h⟩ := gOb_inv h
    refine Y.callI (yC.Vi (b := a0) (As := [.int a1]) (st := [.ref v4, .ref a0]) (r := ("java/lang/StringBuilder", T_SB, 4)) hV.1 cb_AB_newCapacity lk_AB_104 in_AB_newCapacity rfl seSB_AB_newCapacity (by decide +kernel) rfl rfl (Nat.le_of_ble_eq_true rfl) (by decide) e5 m7) (k_AB_newCapacity hV G a0 a1) h (fun v9 G8 _ h => ?_)
    refine Y.blk (pc' := 28) (L' := [some (.ref a0), some (.int a1), some (.int (v2 >>> (v3 &&& 31)))]) (st' := [.ref a0, .int v9, .ref v4, .ref a0]) (sg := [(.aload_n 0, 0)]) (by decide +kernel) rfl ?_
    refine Y.getI fl_AB_22 (by decide +kernel) h (fun v10 h => ?_)
    refine Y.blk (pc' := 32) (L' := [some (.ref a0), some (.int a1), some (.int (v2 >>> (v3 &&& 31)))]) (st' := [.int (v9 <<< (v10 &&& 31)), .ref v4, .ref a0]) (sg := [(.ishl, 0)]) (by decide +kernel) rfl ?_
    refine Y.callA (yC.S (As := [.ref v4, .int (v9 <<< (v10 &&& 31))]) (st := [.ref a0]) hV.1 cb_AR_copyOf1 lk_AB_108 st_AR_copyOf1 (by decide +kernel) rfl rfl (Nat.le_of_ble_eq_true rfl) (by decide)) (k_AR_copyOf1 hV G8 v4 (v9 <<< (v10 &&& 31))) h (fun v13 G12 _ h => ?_)
    refine Y.putf fl_AB_15 (by decide) rfl rfl (by decide +kernel) h (fun G14 _ _ h => ?_)
    exact Y.vret rfl (by decide +kernel) h

def f_AB_isLatin1 (w : Nat → Nat) (G : gH) (a0 : Nat) : gR :=
  if (nI 1) = 0 then rZ (nI 0) G
  else gFI G a0 10 1 fun v1 => if v1 = 0 then rZ (nI 1) G
    else rZ (nI 0) G
theorem k_AB_isLatin1 {l : Launch} {D : va_G} {B : Nat} {O : State → Heap → Prop} {w : Nat → Nat} (hV : zGw l D B O w) (G : gH) (a0 : Nat) : gMet (zVm l D B O) m_AB_isLatin1 2 [.ref a0] G (f_AB_isLatin1 w G a0) := by
  refine gMet.of (by decide +kernel) (Nat.le_of_ble_eq_true rfl) [some (.ref a0)] (fun ls h => zEn_ok (n := 1) h) ?_
  intro o Gf h
  unfold f_AB_isLatin1 at h
  refine Y.gets (v := .int (nI 1)) (fun U H h => (hV.2 U H h).2.2.2.1) sf_AB_18 (by decide +kernel) ?_
  refine Y.if_eq (off := 14) (tgt := 17) (by decide +kernel) (by decide) h (fun c3 h => ?_) (fun c3 h => ?_)
  · refine Y.blk (pc' := 18) (L' := [some (.ref a0)]) (st' := [.int (nI 0)]) (sg := [(.iconst 0, nI 0)]) (by decide +kernel) rfl ?_
    exact Y.zret rfl (by decide +kernel) h
  · refine Y.blk (pc' := 7) (L' := [some (.ref a0)]) (st' := [.ref a0]) (sg := [(.aload_n 0, 0)]) (by decide +kernel) rfl ?_
    refine Y.getI fl_AB_22 (by decide +kernel) h (fun v1 h => ?_)
    refine Y.if_ne (off := 7) (tgt := 17) (by decide +kernel) (by decide) h (fun c2 h => ?_) (fun c2 h => ?_)
    · refine Y.blk (pc' := 14) (L' := [some (.ref a0)]) (st' := [.int (nI 1)]) (sg := [(.iconst 1, nI 1)]) (by decide +kernel) rfl ?_
      refine Y.goto (off := 4) (tgt := 18) (by decide +kernel) (by decide) ?_
      exact Y.zret rfl (by decide +kernel) h
    · refine Y.blk (pc' := 18) (L' := [some (.ref a0)]) (st' := [.int (nI 0)]) (sg := [(.iconst 0, nI 0)]) (by decide +kernel) rfl ?_
      exact Y.zret rfl (by decide +kernel) h

def f_L1_canEncode (G : gH) (a0 : Int32) : gR :=
  if (nI 255) < a0 then rZ (nI 0) G
  else rZ (nI 1) G
theorem k_L1_canEncode {l : Launch} {D : va_G} {B : Nat} {O : State → Heap → Prop} (hV : zG l D B O) (G : gH) (a0 : Int32) : gMet (zVm l D B O) m_L1_canEncode 2 [.int a0] G (f_L1_canEncode G a0) := by
  refine gMet.of (by decide +kernel) (Nat.le_of_ble_eq_true rfl) [some (.int a0)] (fun ls h => zEn_ok (n := 1) h) ?_
  intro o Gf h
  unfold f_L1_canEncode at h
  refine Y.blk (pc' := 4) (L' := [some (.int a0)]) (st' := [.int (nI 255), .int a0]) (sg := [(.iload_n 0, 0), (.sipush 255, nI 255)]) (by decide +kernel) rfl ?_
  refine Y.ic_gt (off := 7) (tgt := 11) (by decide +kernel) (by decide) h (fun c1 h => ?_) (fun c1 h => ?_)
  · refine Y.blk (pc' := 12) (L' := [some (.int a0)]) (st' := [.int (nI 0)]) (sg := [(.iconst 0, nI 0)]) (by decide +kernel) rfl ?_
    exact Y.zret rfl (by decide +kernel) h
  · refine Y.blk (pc' := 8) (L' := [some (.int a0)]) (st' := [.int (nI 1)]) (sg := [(.iconst 1, nI 1)]) (by decide +kernel) rfl ?_
    refine Y.goto (off := 4) (tgt := 12) (by decide +kernel) (by decide) ?_
    exact Y.zret rfl (by decide +kernel) h

def f_AB_append1 (w : Nat → Nat) (G : gH) (a0 : Nat) (a1 : Int32) : gR :=
  gFI G a0 10 3 fun v1 => gOb G a0 10 fun o3 => bV (f_AB_ensureCapacityInternal G a0 (v1 + (nI 1))) fun G5 => gOb G5 a0 10 fun o7 => bI (f_AB_isLatin1 w G5 a0) fun v10 G9 => if v10 = 0 then (gOb G9 a0 10 fun o12 => bI (f_AB_isLatin1 w G9 a0) fun v15 G14 => if v15 = 0 then gFA G14 a0 10 0 fun v16 => gFI G14 a0 10 3 fun v17 => gPut G14 a0 10 3 (.int (v17 + (nI 1))) fun G18 => none
    else none)
  else bI (f_L1_canEncode G9 a1) fun v22 G21 => if v22 = 0 then (gOb G21 a0 10 fun o24 => bI (f_AB_isLatin1 w G21 a0) fun v27 G26 => if v27 = 0 then gFA G26 a0 10 0 fun v28 => gFI G26 a0 10 3 fun v29 => gPut G26 a0 10 3 (.int (v29 + (nI 1))) fun G30 => none
      else none)
    else gFA G21 a0 10 0 fun v32 => gFI G21 a0 10 3 fun v33 => gPut G21 a0 10 3 (.int (v33 + (nI 1))) fun G34 => gSt G34 v32 101 v33 (vp_nar .byte a1.toInt8.toInt32) fun G35 => rA a0 G35
theorem k_AB_append1 {l : Launch} {D : va_G} {B : Nat} {O : State → Heap → Prop} {w : Nat → Nat} (hV : zGw l D B O w) (G : gH) (a0 : Nat) (a1 : Int32) : gMet (zVm l D B O) m_AB_append1 5 [.ref a0, .int a1] G (f_AB_append1 w G a0 a1) := by
  refine gMet.of (by decide +kernel) (Nat.le_of_ble_eq_true rfl) [some (.ref a0), some (.int a1)] (fun ls h => zEn_ok (n := 2) h) ?_
  intro o Gf h
  unfold f_AB_append1 at h
  refine Y.blk (pc' := 2) (L' := [some (.ref a0), some (.int a1)]) (st' := [.ref a0, .ref a0]) (sg := [(.aload_n 0, 0), (.aload_n 0, 0)]) (by decide +kernel) rfl ?_
  refine Y.getI fl_AB_79 (by decide +kernel) h (fun v1 h => ?_)
  refine Y.blk (pc' := 7) (L' := [some (.ref a0), some (.int a1)]) (st' := [.int (v1 + (nI 1)), .ref a0]) (sg := [(.iconst 1, nI 1), (.iadd, 0)]) (by decide +kernel) rfl ?_
  obtain ⟨_, o3, e2, m4, h⟩ := gOb_inv h
  refine Y.callN (yC.Vi (b := a0) (As := [.int (v1 + (nI 1))]) (st := []) (r := ("java/lang/StringBuilder", T_SB, 4)) hV.1.1 cb_AB_ensureCapacityInternal lk_AB_100 in_AB_ensureCapacityInternal rfl seSB_AB_ensureCapacityInternal (by decide +kernel) rfl rfl (Nat.le_of_ble_eq_true rfl) (by decide) e2 m4) (k_AB_ensureCapacityInternal hV.1 G a0 (v1 + (nI 1))) h (fun G5 _ h => ?_)
  refine Y.blk (pc' := 11) (L' := [some (.ref a0), some (.int a1)]) (st' := [.ref a0]) (sg := [(.aload_n 0, 0)]) (by decide +kernel) rfl ?_
  obtain ⟨_, o7, e6, m8, h⟩ := gOb_inv h
  refine Y.callI (yC.Vi (b := a0) (As := []) (st := []) (r := ("java/lang/StringBuilder", T_SB, 4)) hV.1.1 cb_AB_isLatin1 lk_AB_83 in_AB_isLatin1 rfl seSB_AB_isLatin1 (by decide +kernel) rfl rfl (Nat.le_of_ble_eq_true rfl) (by decide) e6 m8) (k_AB_isLatin1 hV G5 a0) h (fun v10 G9 _ h => ?_)
  refine Y.if_eq (off := 31) (tgt := 45) (by decide +kernel) (by decide) h (fun c37 h => ?_) (fun c37 h => ?_)
  · refine Y.blk (pc' := 46) (L' := [some (.ref a0), some (.int a1)]) (st' := [.ref a0]) (sg := [(.aload_n 0, 0)]) (by decide +kernel) rfl ?_
    obtain ⟨_, o12, e11, m13, h⟩ := gOb_inv h
    refine Y.callI (yC.Vi (b := a0) (As := []) (st := []) (r := ("java/lang/StringBuilder", T_SB, 4)) hV.1.1 cb_AB_isLatin1 lk_AB_83 in_AB_isLatin1 rfl seSB_AB_isLatin1 (by decide +kernel) rfl rfl (Nat.le_of_ble_eq_true rfl) (by decide) e11 m13) (k_AB_isLatin1 hV G9 a0) h (fun v15 G14 _ h => ?_)
    refine Y.if_eq (off := 7) (tgt := 56) (by decide +kernel) (by decide) h (fun c19 h => ?_) (fun c19 h => ?_)
    · refine Y.blk (pc' := 57) (L' := [some (.ref a0), some (.int a1)]) (st' := [.ref a0]) (sg := [(.aload_n 0, 0)]) (by decide +kernel) rfl ?_
      refine Y.getA fl_AB_15 (by decide +kernel) h (fun v16 h => ?_)
      refine Y.blk (pc' := 62) (L' := [some (.ref a0), some (.int a1)]) (st' := [.ref a0, .ref a0, .ref v16]) (sg := [(.aload_n 0, 0), (.dup, 0)]) (by decide +kernel) rfl ?_
      refine Y.getI fl_AB_79 (by decide +kernel) h (fun v17 h => ?_)
      refine Y.blk (pc' := 68) (L' := [some (.ref a0), some (.int a1)]) (st' := [.int (v17 + (nI 1)), .ref a0, .int v17, .ref v16]) (sg := [(.dup_x1, 0), (.iconst 1, nI 1), (.iadd, 0)]) (by decide +kernel) rfl ?_
      refine Y.putf fl_AB_79 (by decide) rfl rfl (by decide +kernel) h (fun G18 _ _ h => ?_)
      refine Y.blk (pc' := 72) (L' := [some (.ref a0), some (.int a1)]) (st' := [.int a1, .int v17, .ref v16]) (sg := [(.iload_n 1, 0)]) (by decide +kernel) rfl ?_
      cases h
    · refine Y.blk (pc' := 53) (L' := [some (.ref a0), some (.int a1)]) (st' := [.ref a0]) (sg := [(.aload_n 0, 0)]) (by decide +kernel) rfl ?_
      cases h
  · refine Y.blk (pc' := 18) (L' := [some (.ref a0), some (.int a1)]) (st' := [.int a1]) (sg := [(.iload_n 1, 0)]) (by decide +kernel) rfl ?_
    refine Y.callI (yC.S (As := [.int a1]) (st := []) hV.1.1 cb_L1_canEncode lk_AB_191 st_L1_canEncode (by decide +kernel) rfl rfl (Nat.le_of_ble_eq_true rfl) (by decide)) (k_L1_canEncode hV.1 G9 a1) h (fun v22 G21 _ h => ?_)
    refine Y.if_eq (off := 24) (tgt := 45) (by decide +kernel) (by decide) h (fun c36 h => ?_) (fun c36 h => ?_)
    · refine Y.blk (pc' := 46) (L' := [some (.ref a0), some (.int a1)]) (st' := [.ref a0]) (sg := [(.aload_n 0, 0)]) (by decide +kernel) rfl ?_
      obtain ⟨_, o24, e23, m25, h⟩ := gOb_inv h
      refine Y.callI (yC.Vi (b := a0) (As := []) (st := []) (r := ("java/lang/StringBuilder", T_SB, 4)) hV.1.1 cb_AB_isLatin1 lk_AB_83 in_AB_isLatin1 rfl seSB_AB_isLatin1 (by decide +kernel) rfl rfl (Nat.le_of_ble_eq_true rfl) (by decide) e23 m25) (k_AB_isLatin1 hV G21 a0) h (fun v27 G26 _ h => ?_)
      refine Y.if_eq (off := 7) (tgt := 56) (by decide +kernel) (by decide) h (fun c31 h => ?_) (fun c31 h => ?_)
      · refine Y.blk (pc' := 57) (L' := [some (.ref a0), some (.int a1)]) (st' := [.ref a0]) (sg := [(.aload_n 0, 0)]) (by decide +kernel) rfl ?_
        refine Y.getA fl_AB_15 (by decide +kernel) h (fun v28 h => ?_)
        refine Y.blk (pc' := 62) (L' := [some (.ref a0), some (.int a1)]) (st' := [.ref a0, .ref a0, .ref v28]) (sg := [(.aload_n 0, 0), (.dup, 0)]) (by decide +kernel) rfl ?_
        refine Y.getI fl_AB_79 (by decide +kernel) h (fun v29 h => ?_)
        refine Y.blk (pc' := 68) (L' := [some (.ref a0), some (.int a1)]) (st' := [.int (v29 + (nI 1)), .ref a0, .int v29, .ref v28]) (sg := [(.dup_x1, 0), (.iconst 1, nI 1), (.iadd, 0)]) (by decide +kernel) rfl ?_
        refine Y.putf fl_AB_79 (by decide) rfl rfl (by decide +kernel) h (fun G30 _ _ h => ?_)
        refine Y.blk (pc' := 72) (L' := [some (.ref a0), some (.int a1)]) (st' := [.int a1, .int v29, .ref v28]) (sg := [(.iload_n 1, 0)]) (by decide +kernel) rfl ?_
        cases h
      · refine Y.blk (pc' := 53) (L' := [some (.ref a0), some (.int a1)]) (st' := [.ref a0]) (sg := [(.aload_n 0, 0)]) (by decide +kernel) rfl ?_
        cases h
    · refine Y.blk (pc' := 25) (L' := [some (.ref a0), some (.int a1)]) (st' := [.ref a0]) (sg := [(.aload_n 0, 0)]) (by decide +kernel) rfl ?_
      refine Y.getA fl_AB_15 (by decide +kernel) h (fun v32 h => ?_)
      refine Y.blk (pc' := 30) (L' := [some (.ref a0), some (.int a1)]) (st' := [.ref a0, .ref a0, .ref v32]) (sg := [(.aload_n 0, 0), (.dup, 0)]) (by decide +kernel) rfl ?_
      refine Y.getI fl_AB_79 (by decide +kernel) h (fun v33 h => ?_)
      refine Y.blk (pc' := 36) (L' := [some (.ref a0), some (.int a1)]) (st' := [.int (v33 + (nI 1)), .ref a0, .int v33, .ref v32]) (sg := [(.dup_x1, 0), (.iconst 1, nI 1), (.iadd, 0)]) (by decide +kernel) rfl ?_
      refine Y.putf fl_AB_79 (by decide) rfl rfl (by decide +kernel) h (fun G34 _ _ h => ?_)
      refine Y.blk (pc' := 41) (L' := [some (.ref a0), some (.int a1)]) (st' := [.int a1.toInt8.toInt32, .int v33, .ref v32]) (sg := [(.iload_n 1, 0), (.i2b, 0)]) (by decide +kernel) rfl ?_
      refine Y.bast (t0 := 1) (by decide +kernel) rfl (by decide) h (fun G35 _ _ h => ?_)
      refine Y.goto (off := 33) (tgt := 75) (by decide +kernel) (by decide) ?_
      refine Y.blk (pc' := 76) (L' := [some (.ref a0), some (.int a1)]) (st' := [.ref a0]) (sg := [(.aload_n 0, 0)]) (by decide +kernel) rfl ?_
      exact Y.aret rfl (by first | exact Or.inl ⟨_, rfl⟩ | exact Or.inr ⟨_, rfl⟩) (by decide +kernel) h

def f_SB_append1 (w : Nat → Nat) (G : gH) (a0 : Nat) (a1 : Int32) : gR :=
  gOb G a0 10 fun o2 => bA (f_AB_append1 w G a0 a1) fun v5 G4 => rA a0 G4
theorem k_SB_append1 {l : Launch} {D : va_G} {B : Nat} {O : State → Heap → Prop} {w : Nat → Nat} (hV : zGw l D B O w) (G : gH) (a0 : Nat) (a1 : Int32) : gMet (zVm l D B O) m_SB_append1 6 [.ref a0, .int a1] G (f_SB_append1 w G a0 a1) := by
  refine gMet.of (by decide +kernel) (Nat.le_of_ble_eq_true rfl) [some (.ref a0), some (.int a1)] (fun ls h => zEn_ok (n := 2) h) ?_
  intro o Gf h
  unfold f_SB_append1 at h
  refine Y.blk (pc' := 2) (L' := [some (.ref a0), some (.int a1)]) (st' := [.int a1, .ref a0]) (sg := [(.aload_n 0, 0), (.iload_n 1, 0)]) (by decide +kernel) rfl ?_
  obtain ⟨_, o2, e1, m3, h⟩ := gOb_inv h
  refine Y.callA (yC.SU (b := a0) (As := [.int a1]) (st := []) (r := ("java/lang/StringBuilder", T_SB, 4)) hV.1.1 cb_AB_append1 lk_SB_50 sm_AB_append1 su_SB_AB in_AB_append1 (by decide) rfl (by decide +kernel) rfl rfl (Nat.le_of_ble_eq_true rfl) (by decide) e1 m3) (k_AB_append1 hV G a0 a1) h (fun v5 G4 _ h => ?_)
  refine Y.blk (pc' := 7) (L' := [some (.ref a0), some (.int a1)]) (st' := [.ref a0]) (sg := [(.pop, 0), (.aload_n 0, 0)]) (by decide +kernel) rfl ?_
  exact Y.aret rfl (by first | exact Or.inl ⟨_, rfl⟩ | exact Or.inr ⟨_, rfl⟩) (by decide +kernel) h

def f_IN_getChars_L22 (w : Nat → Nat) (K72 : gH → Int32 → Nat → Int32 → Int32 → gR) : Nat → gH → Int32 → Nat → Int32 → Int32 → gR
  | 0, _, _, _, _, _ => none
  | n + 1, G, x0, x2, x5, x6 =>
    if (-100) < x0 then K72 G x0 x2 x5 x6
    else gDiv x0 (nI 100) fun v1 => gLd G (w 1) 101 ((v1 * (nI 100)) - x0) fun v2 => gSt G x2 101 (x5 + (-1)) (vp_nar .byte v2) fun G3 => gLd G3 (w 2) 101 ((v1 * (nI 100)) - x0) fun v4 => gSt G3 x2 101 ((x5 + (-1)) + (-1)) (vp_nar .byte v4) fun G5 => f_IN_getChars_L22 w K72 n G5 v1 x2 ((x5 + (-1)) + (-1)) x6
def f_IN_getChars (w : Nat → Nat) (G : gH) (a0 : Int32) (a1 : Int32) (a2 : Nat) : gR :=
  if 0 ≤ a0 then (if (nI 0) = 0 then (f_IN_getChars_L22 w (fun G11 x7 x8 x9 x10 => gLd G11 (w 1) 101 (-x7) fun v12 => gSt G11 x8 101 (x9 + (-1)) (vp_nar .byte v12) fun G13 => if (-9) ≤ x7 then (if x10 = 0 then rI (x9 + (-1)) G13
          else gSt G13 x8 101 ((x9 + (-1)) + (-1)) (vp_nar .byte (nI 45)) fun G14 => rI ((x9 + (-1)) + (-1)) G14)
        else gLd G13 (w 2) 101 (-x7) fun v16 => gSt G13 x8 101 ((x9 + (-1)) + (-1)) (vp_nar .byte v16) fun G17 => if x10 = 0 then rI ((x9 + (-1)) + (-1)) G17
          else gSt G17 x8 101 (((x9 + (-1)) + (-1)) + (-1)) (vp_nar .byte (nI 45)) fun G18 => rI (((x9 + (-1)) + (-1)) + (-1)) G18) zFu G (-a0) a2 a1 (nI 0))
    else f_IN_getChars_L22 w (fun G25 x21 x22 x23 x24 => gLd G25 (w 1) 101 (-x21) fun v26 => gSt G25 x22 101 (x23 + (-1)) (vp_nar .byte v26) fun G27 => if (-9) ≤ x21 then (if x24 = 0 then rI (x23 + (-1)) G27
          else gSt G27 x22 101 ((x23 + (-1)) + (-1)) (vp_nar .byte (nI 45)) fun G28 => rI ((x23 + (-1)) + (-1)) G28)
        else gLd G27 (w 2) 101 (-x21) fun v30 => gSt G27 x22 101 ((x23 + (-1)) + (-1)) (vp_nar .byte v30) fun G31 => if x24 = 0 then rI ((x23 + (-1)) + (-1)) G31
          else gSt G31 x22 101 (((x23 + (-1)) + (-1)) + (-1)) (vp_nar .byte (nI 45)) fun G32 => rI (((x23 + (-1)) + (-1)) + (-1)) G32) zFu G a0 a2 a1 (nI 0))
  else if (nI 1) = 0 then (f_IN_getChars_L22 w (fun G40 x36 x37 x38 x39 => gLd G40 (w 1) 101 (-x36) fun v41 => gSt G40 x37 101 (x38 + (-1)) (vp_nar .byte v41) fun G42 => if (-9) ≤ x36 then (if x39 = 0 then rI (x38 + (-1)) G42
          else gSt G42 x37 101 ((x38 + (-1)) + (-1)) (vp_nar .byte (nI 45)) fun G43 => rI ((x38 + (-1)) + (-1)) G43)
        else gLd G42 (w 2) 101 (-x36) fun v45 => gSt G42 x37 101 ((x38 + (-1)) + (-1)) (vp_nar .byte v45) fun G46 => if x39 = 0 then rI ((x38 + (-1)) + (-1)) G46
          else gSt G46 x37 101 (((x38 + (-1)) + (-1)) + (-1)) (vp_nar .byte (nI 45)) fun G47 => rI (((x38 + (-1)) + (-1)) + (-1)) G47) zFu G (-a0) a2 a1 (nI 1))
    else f_IN_getChars_L22 w (fun G54 x50 x51 x52 x53 => gLd G54 (w 1) 101 (-x50) fun v55 => gSt G54 x51 101 (x52 + (-1)) (vp_nar .byte v55) fun G56 => if (-9) ≤ x50 then (if x53 = 0 then rI (x52 + (-1)) G56
          else gSt G56 x51 101 ((x52 + (-1)) + (-1)) (vp_nar .byte (nI 45)) fun G57 => rI ((x52 + (-1)) + (-1)) G57)
        else gLd G56 (w 2) 101 (-x50) fun v59 => gSt G56 x51 101 ((x52 + (-1)) + (-1)) (vp_nar .byte v59) fun G60 => if x53 = 0 then rI ((x52 + (-1)) + (-1)) G60
          else gSt G60 x51 101 (((x52 + (-1)) + (-1)) + (-1)) (vp_nar .byte (nI 45)) fun G61 => rI (((x52 + (-1)) + (-1)) + (-1)) G61) zFu G a0 a2 a1 (nI 1)
theorem k_IN_getChars_L22 {l : Launch} {D : va_G} {B : Nat} {O : State → Heap → Prop} {w : Nat → Nat} (hV : zGw l D B O w) {o : gO} {Gf : gH} (K72 : gH → Int32 → Nat → Int32 → Int32 → gR) (hK72 : ∀ (G : gH) (x0 : Int32) (x2 : Nat) (x5 : Int32) (x6 : Int32), K72 G x0 x2 x5 x6 = some (o, Gf) → Y (zVm l D B O) m_IN_getChars 2 o Gf 72 [some (.int x0), none, some (.ref x2), none, none, some (.int x5), some (.int x6)] [] G) : ∀ (n : Nat) (G : gH) (x0 : Int32) (x2 : Nat) (x5 : Int32) (x6 : Int32), f_IN_getChars_L22 w K72 n G x0 x2 x5 x6 = some (o, Gf) → Y (zVm l D B O) m_IN_getChars 2 o Gf 22 [some (.int x0), none, some (.ref x2), none, none, some (.int x5), some (.int x6)] [] G := by
  intro n
  induction n with
  | zero => intro G x0 x2 x5 x6 h; cases h
  | succ n ih =>
    intro G x0 x2 x5 x6 h
    unfold f_IN_getChars_L22 at h
    refine Y.blk (pc' := 25) (L' := [some (.int x0), none, some (.ref x2), none, none, some (.int x5), some (.int x6)]) (st' := [.int (-100), .int x0]) (sg := [(.iload_n 0, 0), (.bipush (-100), -100)]) (by decide +kernel) rfl ?_
    refine Y.ic_gt (off := 47) (tgt := 72) (by decide +kernel) (by decide) h (fun c6 h => ?_) (fun c6 h => ?_)
    · exact hK72 G x0 x2 x5 x6 h
    · refine Y.blk (pc' := 31) (L' := [some (.int x0), none, some (.ref x2), none, none, some (.int x5), some (.int x6)]) (st' := [.int (nI 100), .int x0]) (sg := [(.iload_n 0, 0), (.bipush 100, nI 100)]) (by decide +kernel) rfl ?_
      refine Y.idiv (by decide +kernel) h (fun v1 h => ?_)
      refine Y.blk (pc' := 49) (L' := [some (.int v1), none, some (.ref x2), some (.int v1), some (.int ((v1 * (nI 100)) - x0)), some (.int (x5 + (-1))), some (.int x6)]) (st' := [.int (x5 + (-1)), .ref x2]) (sg := [(.istore_n 3, 0), (.iload_n 3, 0), (.bipush 100, nI 100), (.imul, 0), (.iload_n 0, 0), (.isub, 0), (.istore 4, 0), (.iload_n 3, 0), (.istore_n 0, 0), (.aload_n 2, 0), (.iinc 5 (-1), -1), (.iload 5, 0)]) (by decide +kernel) rfl ?_
      refine Y.gets (v := .ref (w 1)) (fun U H h => (hV.2 U H h).2.1) sf_IN_83 (by decide +kernel) ?_
      refine Y.blk (pc' := 54) (L' := [some (.int v1), none, some (.ref x2), some (.int v1), some (.int ((v1 * (nI 100)) - x0)), some (.int (x5 + (-1))), some (.int x6)]) (st' := [.int ((v1 * (nI 100)) - x0), .ref (w 1), .int (x5 + (-1)), .ref x2]) (sg := [(.iload 4, 0)]) (by decide +kernel) rfl ?_
      refine Y.bald (t0 := 1) (by decide +kernel) rfl h (fun v2 h => ?_)
      refine Y.bast (t0 := 1) (by decide +kernel) rfl (by decide) h (fun G3 _ _ h => ?_)
      refine Y.blk (pc' := 62) (L' := [some (.int v1), none, some (.ref x2), some (.int v1), some (.int ((v1 * (nI 100)) - x0)), some (.int ((x5 + (-1)) + (-1))), some (.int x6)]) (st' := [.int ((x5 + (-1)) + (-1)), .ref x2]) (sg := [(.aload_n 2, 0), (.iinc 5 (-1), -1), (.iload 5, 0)]) (by decide +kernel) rfl ?_
      refine Y.gets (v := .ref (w 2)) (fun U H h => (hV.2 U H h).2.2.1) sf_IN_87 (by decide +kernel) ?_
      refine Y.blk (pc' := 67) (L' := [some (.int v1), none, some (.ref x2), some (.int v1), some (.int ((v1 * (nI 100)) - x0)), some (.int ((x5 + (-1)) + (-1))), some (.int x6)]) (st' := [.int ((v1 * (nI 100)) - x0), .ref (w 2), .int ((x5 + (-1)) + (-1)), .ref x2]) (sg := [(.iload 4, 0)]) (by decide +kernel) rfl ?_
      refine Y.bald (t0 := 1) (by decide +kernel) rfl h (fun v4 h => ?_)
      refine Y.bast (t0 := 1) (by decide +kernel) rfl (by decide) h (fun G5 _ _ h => ?_)
      refine Y.goto (off := -47) (tgt := 22) (by decide +kernel) (by decide) ?_
      refine Y.less (L' := [some (.int v1), none, some (.ref x2), none, none, some (.int ((x5 + (-1)) + (-1))), some (.int x6)]) (zLe_some (zLe_some (zLe_some (zLe_none (zLe_none (zLe_some (zLe_some (zLe_nil)))))))) ?_
      exact ih G5 v1 x2 ((x5 + (-1)) + (-1)) x6 h
theorem k_IN_getChars {l : Launch} {D : va_G} {B : Nat} {O : State → Heap → Prop} {w : Nat → Nat} (hV : zGw l D B O w) (G : gH) (a0 : Int32) (a1 : Int32) (a2 : Nat) : gMet (zVm l D B O) m_IN_getChars 2 [.int a0, .int a1, .ref a2] G (f_IN_getChars w G a0 a1 a2) := by
  refine gMet.of (by decide +kernel) (Nat.le_of_ble_eq_true rfl) [some (.int a0), some (.int a1), some (.ref a2), none, none, none, none] (fun ls h => zEn_ok (n := 7) h) ?_
  intro o Gf h
  unfold f_IN_getChars at h
  refine Y.blk (pc' := 4) (L' := [some (.int a0), some (.int a1), some (.ref a2), none, none, some (.int a1), none]) (st' := [.int a0]) (sg := [(.iload_n 1, 0), (.istore 5, 0), (.iload_n 0, 0)]) (by decide +kernel) rfl ?_
  refine Y.if_ge (off := 7) (tgt := 11) (by decide +kernel) (by decide) h (fun c65 h => ?_) (fun c65 h => ?_)
  · refine Y.blk (pc' := 16) (L' := [some (.int a0), some (.int a1), some (.ref a2), none, none, some (.int a1), some (.int (nI 0))]) (st' := [.int (nI 0)]) (sg := [(.iconst 0, nI 0), (.istore 6, 0), (.iload 6, 0)]) (by decide +kernel) rfl ?_
    refine Y.if_ne (off := 6) (tgt := 22) (by decide +kernel) (by decide) h (fun c35 h => ?_) (fun c35 h => ?_)
    · refine Y.blk (pc' := 22) (L' := [some (.int (-a0)), some (.int a1), some (.ref a2), none, none, some (.int a1), some (.int (nI 0))]) (st' := []) (sg := [(.iload_n 0, 0), (.ineg, 0), (.istore_n 0, 0)]) (by decide +kernel) rfl ?_
      refine Y.less (L' := [some (.int (-a0)), none, some (.ref a2), none, none, some (.int a1), some (.int (nI 0))]) (zLe_some (zLe_none (zLe_some (zLe_some (zLe_some (zLe_some (zLe_some (zLe_nil)))))))) ?_
      refine k_IN_getChars_L22 hV _ ?_  zFu G (-a0) a2 a1 (nI 0) h
      · intro G11 x7 x8 x9 x10 h
        refine Y.blk (pc' := 78) (L' := [some (.int x7), none, some (.ref x8), none, none, some (.int (x9 + (-1))), some (.int x10)]) (st' := [.int (x9 + (-1)), .ref x8]) (sg := [(.aload_n 2, 0), (.iinc 5 (-1), -1), (.iload 5, 0)]) (by decide +kernel) rfl ?_
        refine Y.gets (v := .ref (w 1)) (fun U H h => (hV.2 U H h).2.1) sf_IN_83 (by decide +kernel) ?_
        refine Y.blk (pc' := 83) (L' := [some (.int x7), none, some (.ref x8), none, none, some (.int (x9 + (-1))), some (.int x10)]) (st' := [.int (-x7), .ref (w 1), .int (x9 + (-1)), .ref x8]) (sg := [(.iload_n 0, 0), (.ineg, 0)]) (by decide +kernel) rfl ?_
        refine Y.bald (t0 := 1) (by decide +kernel) rfl h (fun v12 h => ?_)
        refine Y.bast (t0 := 1) (by decide +kernel) rfl (by decide) h (fun G13 _ _ h => ?_)
        refine Y.blk (pc' := 88) (L' := [some (.int x7), none, some (.ref x8), none, none, some (.int (x9 + (-1))), some (.int x10)]) (st' := [.int (-9), .int x7]) (sg := [(.iload_n 0, 0), (.bipush (-9), -9)]) (by decide +kernel) rfl ?_
        refine Y.ic_ge (off := 16) (tgt := 104) (by decide +kernel) (by decide) h (fun c20 h => ?_) (fun c20 h => ?_)
        · refine Y.blk (pc' := 106) (L' := [some (.int x7), none, some (.ref x8), none, none, some (.int (x9 + (-1))), some (.int x10)]) (st' := [.int x10]) (sg := [(.iload 6, 0)]) (by decide +kernel) rfl ?_
          refine Y.if_eq (off := 12) (tgt := 118) (by decide +kernel) (by decide) h (fun c15 h => ?_) (fun c15 h => ?_)
          · refine Y.blk (pc' := 120) (L' := [some (.int x7), none, some (.ref x8), none, none, some (.int (x9 + (-1))), some (.int x10)]) (st' := [.int (x9 + (-1))]) (sg := [(.iload 5, 0)]) (by decide +kernel) rfl ?_
            exact Y.iret rfl (by decide +kernel) h
          · refine Y.blk (pc' := 117) (L' := [some (.int x7), none, some (.ref x8), none, none, some (.int ((x9 + (-1)) + (-1))), some (.int x10)]) (st' := [.int (nI 45), .int ((x9 + (-1)) + (-1)), .ref x8]) (sg := [(.aload_n 2, 0), (.iinc 5 (-1), -1), (.iload 5, 0), (.bipush 45, nI 45)]) (by decide +kernel) rfl ?_
            refine Y.bast (t0 := 1) (by decide +kernel) rfl (by decide) h (fun G14 _ _ h => ?_)
            refine Y.blk (pc' := 120) (L' := [some (.int x7), none, some (.ref x8), none, none, some (.int ((x9 + (-1)) + (-1))), some (.int x10)]) (st' := [.int ((x9 + (-1)) + (-1))]) (sg := [(.iload 5, 0)]) (by decide +kernel) rfl ?_
            exact Y.iret rfl (by decide +kernel) h
        · refine Y.blk (pc' := 97) (L' := [some (.int x7), none, some (.ref x8), none, none, some (.int ((x9 + (-1)) + (-1))), some (.int x10)]) (st' := [.int ((x9 + (-1)) + (-1)), .ref x8]) (sg := [(.aload_n 2, 0), (.iinc 5 (-1), -1), (.iload 5, 0)]) (by decide +kernel) rfl ?_
          refine Y.gets (v := .ref (w 2)) (fun U H h => (hV.2 U H h).2.2.1) sf_IN_87 (by decide +kernel) ?_
          refine Y.blk (pc' := 102) (L' := [some (.int x7), none, some (.ref x8), none, none, some (.int ((x9 + (-1)) + (-1))), some (.int x10)]) (st' := [.int (-x7), .ref (w 2), .int ((x9 + (-1)) + (-1)), .ref x8]) (sg := [(.iload_n 0, 0), (.ineg, 0)]) (by decide +kernel) rfl ?_
          refine Y.bald (t0 := 1) (by decide +kernel) rfl h (fun v16 h => ?_)
          refine Y.bast (t0 := 1) (by decide +kernel) rfl (by decide) h (fun G17 _ _ h => ?_)
          refine Y.blk (pc' := 106) (L' := [some (.int x7), none, some (.ref x8), none, none, some (.int ((x9 + (-1)) + (-1))), some (.int x10)]) (st' := [.int x10]) (sg := [(.iload 6, 0)]) (by decide +kernel) rfl ?_
          refine Y.if_eq (off := 12) (tgt := 118) (by decide +kernel) (by decide) h (fun c19 h => ?_) (fun c19 h => ?_)
          · refine Y.blk (pc' := 120) (L' := [some (.int x7), none, some (.ref x8), none, none, some (.int ((x9 + (-1)) + (-1))), some (.int x10)]) (st' := [.int ((x9 + (-1)) + (-1))]) (sg := [(.iload 5, 0)]) (by decide +kernel) rfl ?_
            exact Y.iret rfl (by decide +kernel) h
          · refine Y.blk (pc' := 117) (L' := [some (.int x7), none, some (.ref x8), none, none, some (.int (((x9 + (-1)) + (-1)) + (-1))), some (.int x10)]) (st' := [.int (nI 45), .int (((x9 + (-1)) + (-1)) + (-1)), .ref x8]) (sg := [(.aload_n 2, 0), (.iinc 5 (-1), -1), (.iload 5, 0), (.bipush 45, nI 45)]) (by decide +kernel) rfl ?_
            refine Y.bast (t0 := 1) (by decide +kernel) rfl (by decide) h (fun G18 _ _ h => ?_)
            refine Y.blk (pc' := 120) (L' := [some (.int x7), none, some (.ref x8), none, none, some (.int (((x9 + (-1)) + (-1)) + (-1))), some (.int x10)]) (st' := [.int (((x9 + (-1)) + (-1)) + (-1))]) (sg := [(.iload 5, 0)]) (by decide +kernel) rfl ?_
            exact Y.iret rfl (by decide +kernel) h
    · refine Y.less (L' := [some (.int a0), none, some (.ref a2), none, none, some (.int a1), some (.int (nI 0))]) (zLe_some (zLe_none (zLe_some (zLe_some (zLe_some (zLe_some (zLe_some (zLe_nil)))))))) ?_
      refine k_IN_getChars_L22 hV _ ?_  zFu G a0 a2 a1 (nI 0) h
      · intro G25 x21 x22 x23 x24 h
        refine Y.blk (pc' := 78) (L' := [some (.int x21), none, some (.ref x22), none, none, some (.int (x23 + (-1))), some (.int x24)]) (st' := [.int (x23 + (-1)), .ref x22]) (sg := [(.aload_n 2, 0), (.iinc 5 (-1), -1), (.iload 5, 0)]) (by decide +kernel) rfl ?_
        refine Y.gets (v := .ref (w 1)) (fun U H h => (hV.2 U H h).2.1) sf_IN_83 (by decide +kernel) ?_
        refine Y.blk (pc' := 83) (L' := [some (.int x21), none, some (.ref x22), none, none, some (.int (x23 + (-1))), some (.int x24)]) (st' := [.int (-x21), .ref (w 1), .int (x23 + (-1)), .ref x22]) (sg := [(.iload_n 0, 0), (.ineg, 0)]) (by decide +kernel) rfl ?_
        refine Y.bald (t0 := 1) (by decide +kernel) rfl h (fun v26 h => ?_)
        refine Y.bast (t0 := 1) (by decide +kernel) rfl (by decide) h (fun G27 _ _ h => ?_)
        refine Y.blk (pc' := 88) (L' := [some (.int x21), none, some (.ref x22), none, none, some (.int (x23 + (-1))), some (.int x24)]) (st' := [.int (-9), .int x21]) (sg := [(.iload_n 0, 0), (.bipush (-9), -9)]) (by decide +kernel) rfl ?_
        refine Y.ic_ge (off := 16) (tgt := 104) (by decide +kernel) (by decide) h (fun c34 h => ?_) (fun c34 h => ?_)
        · refine Y.blk (pc' := 106) (L' := [some (.int x21), none, some (.ref x22), none, none, some (.int (x23 + (-1))), some (.int x24)]) (st' := [.int x24]) (sg := [(.iload 6, 0)]) (by decide +kernel) rfl ?_
          refine Y.if_eq (off := 12) (tgt := 118) (by decide +kernel) (by decide) h (fun c29 h => ?_) (fun c29 h => ?_)
          · refine Y.blk (pc' := 120) (L' := [some (.int x21), none, some (.ref x22), none, none, some (.int (x23 + (-1))), some (.int x24)]) (st' := [.int (x23 + (-1))]) (sg := [(.iload 5, 0)]) (by decide +kernel) rfl ?_
            exact Y.iret rfl (by decide +kernel) h
          · refine Y.blk (pc' := 117) (L' := [some (.int x21), none, some (.ref x22), none, none, some (.int ((x23 + (-1)) + (-1))), some (.int x24)]) (st' := [.int (nI 45), .int ((x23 + (-1)) + (-1)), .ref x22]) (sg := [(.aload_n 2, 0), (.iinc 5 (-1), -1), (.iload 5, 0), (.bipush 45, nI 45)]) (by decide +kernel) rfl ?_
            refine Y.bast (t0 := 1) (by decide +kernel) rfl (by decide) h (fun G28 _ _ h => ?_)
            refine Y.blk (pc' := 120) (L' := [some (.int x21), none, some (.ref x22), none, none, some (.int ((x23 + (-1)) + (-1))), some (.int x24)]) (st' := [.int ((x23 + (-1)) + (-1))]) (sg := [(.iload 5, 0)]) (by decide +kernel) rfl ?_
            exact Y.iret rfl (by decide +kernel) h
        · refine Y.blk (pc' := 97) (L' := [some (.int x21), none, some (.ref x22), none, none, some (.int ((x23 + (-1)) + (-1))), some (.int x24)]) (st' := [.int ((x23 + (-1)) + (-1)), .ref x22]) (sg := [(.aload_n 2, 0), (.iinc 5 (-1), -1), (.iload 5, 0)]) (by decide +kernel) rfl ?_
          refine Y.gets (v := .ref (w 2)) (fun U H h => (hV.2 U H h).2.2.1) sf_IN_87 (by decide +kernel) ?_
          refine Y.blk (pc' := 102) (L' := [some (.int x21), none, some (.ref x22), none, none, some (.int ((x23 + (-1)) + (-1))), some (.int x24)]) (st' := [.int (-x21), .ref (w 2), .int ((x23 + (-1)) + (-1)), .ref x22]) (sg := [(.iload_n 0, 0), (.ineg, 0)]) (by decide +kernel) rfl ?_
          refine Y.bald (t0 := 1) (by decide +kernel) rfl h (fun v30 h => ?_)
          refine Y.bast (t0 := 1) (by decide +kernel) rfl (by decide) h (fun G31 _ _ h => ?_)
          refine Y.blk (pc' := 106) (L' := [some (.int x21), none, some (.ref x22), none, none, some (.int ((x23 + (-1)) + (-1))), some (.int x24)]) (st' := [.int x24]) (sg := [(.iload 6, 0)]) (by decide +kernel) rfl ?_
          refine Y.if_eq (off := 12) (tgt := 118) (by decide +kernel) (by decide) h (fun c33 h => ?_) (fun c33 h => ?_)
          · refine Y.blk (pc' := 120) (L' := [some (.int x21), none, some (.ref x22), none, none, some (.int ((x23 + (-1)) + (-1))), some (.int x24)]) (st' := [.int ((x23 + (-1)) + (-1))]) (sg := [(.iload 5, 0)]) (by decide +kernel) rfl ?_
            exact Y.iret rfl (by decide +kernel) h
          · refine Y.blk (pc' := 117) (L' := [some (.int x21), none, some (.ref x22), none, none, some (.int (((x23 + (-1)) + (-1)) + (-1))), some (.int x24)]) (st' := [.int (nI 45), .int (((x23 + (-1)) + (-1)) + (-1)), .ref x22]) (sg := [(.aload_n 2, 0), (.iinc 5 (-1), -1), (.iload 5, 0), (.bipush 45, nI 45)]) (by decide +kernel) rfl ?_
            refine Y.bast (t0 := 1) (by decide +kernel) rfl (by decide) h (fun G32 _ _ h => ?_)
            refine Y.blk (pc' := 120) (L' := [some (.int x21), none, some (.ref x22), none, none, some (.int (((x23 + (-1)) + (-1)) + (-1))), some (.int x24)]) (st' := [.int (((x23 + (-1)) + (-1)) + (-1))]) (sg := [(.iload 5, 0)]) (by decide +kernel) rfl ?_
            exact Y.iret rfl (by decide +kernel) h
  · refine Y.blk (pc' := 8) (L' := [some (.int a0), some (.int a1), some (.ref a2), none, none, some (.int a1), none]) (st' := [.int (nI 1)]) (sg := [(.iconst 1, nI 1)]) (by decide +kernel) rfl ?_
    refine Y.goto (off := 4) (tgt := 12) (by decide +kernel) (by decide) ?_
    refine Y.blk (pc' := 16) (L' := [some (.int a0), some (.int a1), some (.ref a2), none, none, some (.int a1), some (.int (nI 1))]) (st' := [.int (nI 1)]) (sg := [(.istore 6, 0), (.iload 6, 0)]) (by decide +kernel) rfl ?_
    refine Y.if_ne (off := 6) (tgt := 22) (by decide +kernel) (by decide) h (fun c64 h => ?_) (fun c64 h => ?_)
    · refine Y.blk (pc' := 22) (L' := [some (.int (-a0)), some (.int a1), some (.ref a2), none, none, some (.int a1), some (.int (nI 1))]) (st' := []) (sg := [(.iload_n 0, 0), (.ineg, 0), (.istore_n 0, 0)]) (by decide +kernel) rfl ?_
      refine Y.less (L' := [some (.int (-a0)), none, some (.ref a2), none, none, some (.int a1), some (.int (nI 1))]) (zLe_some (zLe_none (zLe_some (zLe_some (zLe_some (zLe_some (zLe_some (zLe_nil)))))))) ?_
      refine k_IN_getChars_L22 hV _ ?_  zFu G (-a0) a2 a1 (nI 1) h
      · intro G40 x36 x37 x38 x39 h
        refine Y.blk (pc' := 78) (L' := [some (.int x36), none, some (.ref x37), none, none, some (.int (x38 + (-1))), some (.int x39)]) (st' := [.int (x38 + (-1)), .ref x37]) (sg := [(.aload_n 2, 0), (.iinc 5 (-1), -1), (.iload 5, 0)]) (by decide +kernel) rfl ?_
        refine Y.gets (v := .ref (w 1)) (fun U H h => (hV.2 U H h).2.1) sf_IN_83 (by decide +kernel) ?_
        refine Y.blk (pc' := 83) (L' := [some (.int x36), none, some (.ref x37), none, none, some (.int (x38 + (-1))), some (.int x39)]) (st' := [.int (-x36), .ref (w 1), .int (x38 + (-1)), .ref x37]) (sg := [(.iload_n 0, 0), (.ineg, 0)]) (by decide +kernel) rfl ?_
        refine Y.bald (t0 := 1) (by decide +kernel) rfl h (fun v41 h => ?_)
        refine Y.bast (t0 := 1) (by decide +kernel) rfl (by decide) h (fun G42 _ _ h => ?_)
        refine Y.blk (pc' := 88) (L' := [some (.int x36), none, some (.ref x37), none, none, some (.int (x38 + (-1))), some (.int x39)]) (st' := [.int (-9), .int x36]) (sg := [(.iload_n 0, 0), (.bipush (-9), -9)]) (by decide +kernel) rfl ?_
        refine Y.ic_ge (off := 16) (tgt := 104) (by decide +kernel) (by decide) h (fun c49 h => ?_) (fun c49 h => ?_)
        · refine Y.blk (pc' := 106) (L' := [some (.int x36), none, some (.ref x37), none, none, some (.int (x38 + (-1))), some (.int x39)]) (st' := [.int x39]) (sg := [(.iload 6, 0)]) (by decide +kernel) rfl ?_
          refine Y.if_eq (off := 12) (tgt := 118) (by decide +kernel) (by decide) h (fun c44 h => ?_) (fun c44 h => ?_)
          · refine Y.blk (pc' := 120) (L' := [some (.int x36), none, some (.ref x37), none, none, some (.int (x38 + (-1))), some (.int x39)]) (st' := [.int (x38 + (-1))]) (sg := [(.iload 5, 0)]) (by decide +kernel) rfl ?_
            exact Y.iret rfl (by decide +kernel) h
          · refine Y.blk (pc' := 117) (L' := [some (.int x36), none, some (.ref x37), none, none, some (.int ((x38 + (-1)) + (-1))), some (.int x39)]) (st' := [.int (nI 45), .int ((x38 + (-1)) + (-1)), .ref x37]) (sg := [(.aload_n 2, 0), (.iinc 5 (-1), -1), (.iload 5, 0), (.bipush 45, nI 45)]) (by decide +kernel) rfl ?_
            refine Y.bast (t0 := 1) (by decide +kernel) rfl (by decide) h (fun G43 _ _ h => ?_)
            refine Y.blk (pc' := 120) (L' := [some (.int x36), none, some (.ref x37), none, none, some (.int ((x38 + (-1)) + (-1))), some (.int x39)]) (st' := [.int ((x38 + (-1)) + (-1))]) (sg := [(.iload 5, 0)]) (by decide +kernel) rfl ?_
            exact Y.iret rfl (by decide +kernel) h
        · refine Y.blk (pc' := 97) (L' := [some (.int x36), none, some (.ref x37), none, none, some (.int ((x38 + (-1)) + (-1))), some (.int x39)]) (st' := [.int ((x38 + (-1)) + (-1)), .ref x37]) (sg := [(.aload_n 2, 0), (.iinc 5 (-1), -1), (.iload 5, 0)]) (by decide +kernel) rfl ?_
          refine Y.gets (v := .ref (w 2)) (fun U H h => (hV.2 U H h).2.2.1) sf_IN_87 (by decide +kernel) ?_
          refine Y.blk (pc' := 102) (L' := [some (.int x36), none, some (.ref x37), none, none, some (.int ((x38 + (-1)) + (-1))), some (.int x39)]) (st' := [.int (-x36), .ref (w 2), .int ((x38 + (-1)) + (-1)), .ref x37]) (sg := [(.iload_n 0, 0), (.ineg, 0)]) (by decide +kernel) rfl ?_
          refine Y.bald (t0 := 1) (by decide +kernel) rfl h (fun v45 h => ?_)
          refine Y.bast (t0 := 1) (by decide +kernel) rfl (by decide) h (fun G46 _ _ h => ?_)
          refine Y.blk (pc' := 106) (L' := [some (.int x36), none, some (.ref x37), none, none, some (.int ((x38 + (-1)) + (-1))), some (.int x39)]) (st' := [.int x39]) (sg := [(.iload 6, 0)]) (by decide +kernel) rfl ?_
          refine Y.if_eq (off := 12) (tgt := 118) (by decide +kernel) (by decide) h (fun c48 h => ?_) (fun c48 h => ?_)
          · refine Y.blk (pc' := 120) (L' := [some (.int x36), none, some (.ref x37), none, none, some (.int ((x38 + (-1)) + (-1))), some (.int x39)]) (st' := [.int ((x38 + (-1)) + (-1))]) (sg := [(.iload 5, 0)]) (by decide +kernel) rfl ?_
            exact Y.iret rfl (by decide +kernel) h
          · refine Y.blk (pc' := 117) (L' := [some (.int x36), none, some (.ref x37), none, none, some (.int (((x38 + (-1)) + (-1)) + (-1))), some (.int x39)]) (st' := [.int (nI 45), .int (((x38 + (-1)) + (-1)) + (-1)), .ref x37]) (sg := [(.aload_n 2, 0), (.iinc 5 (-1), -1), (.iload 5, 0), (.bipush 45, nI 45)]) (by decide +kernel) rfl ?_
            refine Y.bast (t0 := 1) (by decide +kernel) rfl (by decide) h (fun G47 _ _ h => ?_)
            refine Y.blk (pc' := 120) (L' := [some (.int x36), none, some (.ref x37), none, none, some (.int (((x38 + (-1)) + (-1)) + (-1))), some (.int x39)]) (st' := [.int (((x38 + (-1)) + (-1)) + (-1))]) (sg := [(.iload 5, 0)]) (by decide +kernel) rfl ?_
            exact Y.iret rfl (by decide +kernel) h
    · refine Y.less (L' := [some (.int a0), none, some (.ref a2), none, none, some (.int a1), some (.int (nI 1))]) (zLe_some (zLe_none (zLe_some (zLe_some (zLe_some (zLe_some (zLe_some (zLe_nil)))))))) ?_
      refine k_IN_getChars_L22 hV _ ?_  zFu G a0 a2 a1 (nI 1) h
      · intro G54 x50 x51 x52 x53 h
        refine Y.blk (pc' := 78) (L' := [some (.int x50), none, some (.ref x51), none, none, some (.int (x52 + (-1))), some (.int x53)]) (st' := [.int (x52 + (-1)), .ref x51]) (sg := [(.aload_n 2, 0), (.iinc 5 (-1), -1), (.iload 5, 0)]) (by decide +kernel) rfl ?_
        refine Y.gets (v := .ref (w 1)) (fun U H h => (hV.2 U H h).2.1) sf_IN_83 (by decide +kernel) ?_
        refine Y.blk (pc' := 83) (L' := [some (.int x50), none, some (.ref x51), none, none, some (.int (x52 + (-1))), some (.int x53)]) (st' := [.int (-x50), .ref (w 1), .int (x52 + (-1)), .ref x51]) (sg := [(.iload_n 0, 0), (.ineg, 0)]) (by decide +kernel) rfl ?_
        refine Y.bald (t0 := 1) (by decide +kernel) rfl h (fun v55 h => ?_)
        refine Y.bast (t0 := 1) (by decide +kernel) rfl (by decide) h (fun G56 _ _ h => ?_)
        refine Y.blk (pc' := 88) (L' := [some (.int x50), none, some (.ref x51), none, none, some (.int (x52 + (-1))), some (.int x53)]) (st' := [.int (-9), .int x50]) (sg := [(.iload_n 0, 0), (.bipush (-9), -9)]) (by decide +kernel) rfl ?_
        refine Y.ic_ge (off := 16) (tgt := 104) (by decide +kernel) (by decide) h (fun c63 h => ?_) (fun c63 h => ?_)
        · refine Y.blk (pc' := 106) (L' := [some (.int x50), none, some (.ref x51), none, none, some (.int (x52 + (-1))), some (.int x53)]) (st' := [.int x53]) (sg := [(.iload 6, 0)]) (by decide +kernel) rfl ?_
          refine Y.if_eq (off := 12) (tgt := 118) (by decide +kernel) (by decide) h (fun c58 h => ?_) (fun c58 h => ?_)
          · refine Y.blk (pc' := 120) (L' := [some (.int x50), none, some (.ref x51), none, none, some (.int (x52 + (-1))), some (.int x53)]) (st' := [.int (x52 + (-1))]) (sg := [(.iload 5, 0)]) (by decide +kernel) rfl ?_
            exact Y.iret rfl (by decide +kernel) h
          · refine Y.blk (pc' := 117) (L' := [some (.int x50), none, some (.ref x51), none, none, some (.int ((x52 + (-1)) + (-1))), some (.int x53)]) (st' := [.int (nI 45), .int ((x52 + (-1)) + (-1)), .ref x51]) (sg := [(.aload_n 2, 0), (.iinc 5 (-1), -1), (.iload 5, 0), (.bipush 45, nI 45)]) (by decide +kernel) rfl ?_
            refine Y.bast (t0 := 1) (by decide +kernel) rfl (by decide) h (fun G57 _ _ h => ?_)
            refine Y.blk (pc' := 120) (L' := [some (.int x50), none, some (.ref x51), none, none, some (.int ((x52 + (-1)) + (-1))), some (.int x53)]) (st' := [.int ((x52 + (-1)) + (-1))]) (sg := [(.iload 5, 0)]) (by decide +kernel) rfl ?_
            exact Y.iret rfl (by decide +kernel) h
        · refine Y.blk (pc' := 97) (L' := [some (.int x50), none, some (.ref x51), none, none, some (.int ((x52 + (-1)) + (-1))), some (.int x53)]) (st' := [.int ((x52 + (-1)) + (-1)), .ref x51]) (sg := [(.aload_n 2, 0), (.iinc 5 (-1), -1), (.iload 5, 0)]) (by decide +kernel) rfl ?_
          refine Y.gets (v := .ref (w 2)) (fun U H h => (hV.2 U H h).2.2.1) sf_IN_87 (by decide +kernel) ?_
          refine Y.blk (pc' := 102) (L' := [some (.int x50), none, some (.ref x51), none, none, some (.int ((x52 + (-1)) + (-1))), some (.int x53)]) (st' := [.int (-x50), .ref (w 2), .int ((x52 + (-1)) + (-1)), .ref x51]) (sg := [(.iload_n 0, 0), (.ineg, 0)]) (by decide +kernel) rfl ?_
          refine Y.bald (t0 := 1) (by decide +kernel) rfl h (fun v59 h => ?_)
          refine Y.bast (t0 := 1) (by decide +kernel) rfl (by decide) h (fun G60 _ _ h => ?_)
          refine Y.blk (pc' := 106) (L' := [some (.int x50), none, some (.ref x51), none, none, some (.int ((x52 + (-1)) + (-1))), some (.int x53)]) (st' := [.int x53]) (sg := [(.iload 6, 0)]) (by decide +kernel) rfl ?_
          refine Y.if_eq (off := 12) (tgt := 118) (by decide +kernel) (by decide) h (fun c62 h => ?_) (fun c62 h => ?_)
          · refine Y.blk (pc' := 120) (L' := [some (.int x50), none, some (.ref x51), none, none, some (.int ((x52 + (-1)) + (-1))), some (.int x53)]) (st' := [.int ((x52 + (-1)) + (-1))]) (sg := [(.iload 5, 0)]) (by decide +kernel) rfl ?_
            exact Y.iret rfl (by decide +kernel) h
          · refine Y.blk (pc' := 117) (L' := [some (.int x50), none, some (.ref x51), none, none, some (.int (((x52 + (-1)) + (-1)) + (-1))), some (.int x53)]) (st' := [.int (nI 45), .int (((x52 + (-1)) + (-1)) + (-1)), .ref x51]) (sg := [(.aload_n 2, 0), (.iinc 5 (-1), -1), (.iload 5, 0), (.bipush 45, nI 45)]) (by decide +kernel) rfl ?_
            refine Y.bast (t0 := 1) (by decide +kernel) rfl (by decide) h (fun G61 _ _ h => ?_)
            refine Y.blk (pc' := 120) (L' := [some (.int x50), none, some (.ref x51), none, none, some (.int (((x52 + (-1)) + (-1)) + (-1))), some (.int x53)]) (st' := [.int (((x52 + (-1)) + (-1)) + (-1))]) (sg := [(.iload 5, 0)]) (by decide +kernel) rfl ?_
            exact Y.iret rfl (by decide +kernel) h
