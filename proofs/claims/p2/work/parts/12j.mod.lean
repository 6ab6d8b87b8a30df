def f_M_isSame (G : gH) (a0 : Nat) (a1 : Int32) (a2 : Int32) : gR :=
  gOb G a0 6 fun o2 => bI (f_M_areNone G a0 a1 a2) fun v5 G4 => if v5 = 0 then (gOb G4 a0 6 fun o7 => bI (f_M_same G4 a0 a1 a2) fun v10 G9 => if v10 = 0 then rZ (nI 0) G9
    else rZ (nI 1) G9)
  else rZ (nI 0) G4
theorem k_M_isSame {l : Launch} {D : va_G} {B : Nat} {O : State → Heap → Prop} (hV : zG l D B O) (G : gH) (a0 : Nat) (a1 : Int32) (a2 : Int32) : gMet (zVm l D B O) m_M_isSame 15 [.ref a0, .int a1, .int a2] G (f_M_isSame G a0 a1 a2) := by
  refine gMet.of (by decide +kernel) (Nat.le_of_ble_eq_true rfl) [some (.ref a0), some (.int a1), some (.int a2)] (fun ls h => zEn_ok (n := 3) h) ?_
  intro o Gf h
  unfold f_M_isSame at h
  refine Y.blk (pc' := 3) (L' := [some (.ref a0), some (.int a1), some (.int a2)]) (st' := [.int a2, .int a1, .ref a0]) (sg := [(.aload_n 0, 0), (.iload_n 1, 0), (.iload_n 2, 0)]) (by decide +kernel) rfl ?_
  obtain ⟨_, o2, e1, m3, h⟩ := gOb_inv h
  refine Y.callI (yC.Vi (b := a0) (As := [.int a1, .int a2]) (st := []) (r := ("PartlisterModel", T_M, 9)) hV.1 cb_M_areNone lk_M_235 in_M_areNone rfl se_M_areNone (by decide +kernel) rfl rfl (Nat.le_of_ble_eq_true rfl) (by decide) e1 m3) (k_M_areNone hV G a0 a1 a2) h (fun v5 G4 _ h => ?_)
  refine Y.if_ne (off := 16) (tgt := 22) (by decide +kernel) (by decide) h (fun c12 h => ?_) (fun c12 h => ?_)
  · refine Y.blk (pc' := 12) (L' := [some (.ref a0), some (.int a1), some (.int a2)]) (st' := [.int a2, .int a1, .ref a0]) (sg := [(.aload_n 0, 0), (.iload_n 1, 0), (.iload_n 2, 0)]) (by decide +kernel) rfl ?_
    obtain ⟨_, o7, e6, m8, h⟩ := gOb_inv h
    refine Y.callI (yC.Vi (b := a0) (As := [.int a1, .int a2]) (st := []) (r := ("PartlisterModel", T_M, 9)) hV.1 cb_M_same lk_M_244 in_M_same rfl se_M_same (by decide +kernel) rfl rfl (Nat.le_of_ble_eq_true rfl) (by decide) e6 m8) (k_M_same hV G4 a0 a1 a2) h (fun v10 G9 _ h => ?_)
    refine Y.if_eq (off := 7) (tgt := 22) (by decide +kernel) (by decide) h (fun c11 h => ?_) (fun c11 h => ?_)
    · refine Y.blk (pc' := 23) (L' := [some (.ref a0), some (.int a1), some (.int a2)]) (st' := [.int (nI 0)]) (sg := [(.iconst 0, nI 0)]) (by decide +kernel) rfl ?_
      exact Y.zret rfl (by decide +kernel) h
    · refine Y.blk (pc' := 19) (L' := [some (.ref a0), some (.int a1), some (.int a2)]) (st' := [.int (nI 1)]) (sg := [(.iconst 1, nI 1)]) (by decide +kernel) rfl ?_
      refine Y.goto (off := 4) (tgt := 23) (by decide +kernel) (by decide) ?_
      exact Y.zret rfl (by decide +kernel) h
  · refine Y.blk (pc' := 23) (L' := [some (.ref a0), some (.int a1), some (.int a2)]) (st' := [.int (nI 0)]) (sg := [(.iconst 0, nI 0)]) (by decide +kernel) rfl ?_
    exact Y.zret rfl (by decide +kernel) h

def f_M_isSorted_L2 (K32 : gH → gR) (K40 : gH → gR) : Nat → gH → Nat → Int32 → Int32 → gR
  | 0, _, _, _, _ => none
  | n + 1, G, x0, x1, x2 =>
    gOb G x0 6 fun o2 => bI (f_M_length G x0 x1) fun v5 G4 => if v5 ≤ x2 then K40 G4
    else gOb G4 x0 6 fun o7 => bA (f_M_at G4 x0 x1 x2) fun v10 G9 => gLd G9 v10 100 (nI 0) fun v11 => gOb G9 x0 6 fun o13 => bA (f_M_at G9 x0 x1 (x2 - (nI 1))) fun v16 G15 => gLd G15 v16 100 (nI 0) fun v17 => if v17 ≤ v11 then f_M_isSorted_L2 K32 K40 n G15 x0 x1 (x2 + (nI 1))
      else K32 G15
def f_M_isSorted (G : gH) (a0 : Nat) (a1 : Int32) : gR :=
  f_M_isSorted_L2 (fun G20 => rZ (nI 0) G20) (fun G21 => rZ (nI 1) G21) zFu G a0 a1 (nI 1)
theorem k_M_isSorted_L2 {l : Launch} {D : va_G} {B : Nat} {O : State → Heap → Prop} (hV : zG l D B O) {o : gO} {Gf : gH} (K32 : gH → gR) (K40 : gH → gR) (hK32 : ∀ (G : gH), K32 G  = some (o, Gf) → Y (zVm l D B O) m_M_isSorted 13 o Gf 32 [none, none, none] [] G) (hK40 : ∀ (G : gH), K40 G  = some (o, Gf) → Y (zVm l D B O) m_M_isSorted 13 o Gf 40 [none, none, none] [] G) : ∀ (n : Nat) (G : gH) (x0 : Nat) (x1 : Int32) (x2 : Int32), f_M_isSorted_L2 K32 K40 n G x0 x1 x2 = some (o, Gf) → Y (zVm l D B O) m_M_isSorted 13 o Gf 2 [some (.ref x0), some (.int x1), some (.int x2)] [] G := by
  intro n
  induction n with
  | zero => intro G x0 x1 x2 h; cases h
  | succ n ih =>
    intro G x0 x1 x2 h
    unfold f_M_isSorted_L2 at h
    refine Y.blk (pc' := 5) (L' := [some (.ref x0), some (.int x1), some (.int x2)]) (st' := [.int x1, .ref x0, .int x2]) (sg := [(.iload_n 2, 0), (.aload_n 0, 0), (.iload_n 1, 0)]) (by decide +kernel) rfl ?_
    obtain ⟨_, o2, e1, m3, h⟩ := gOb_inv h
    refine Y.callI (yC.Vi (b := x0) (As := [.int x1]) (st := [.int x2]) (r := ("PartlisterModel", T_M, 9)) hV.1 cb_M_length lk_M_74 in_M_length rfl se_M_length (by decide +kernel) rfl rfl (Nat.le_of_ble_eq_true rfl) (by decide) e1 m3) (k_M_length hV G x0 x1) h (fun v5 G4 _ h => ?_)
    refine Y.ic_ge (off := 32) (tgt := 40) (by decide +kernel) (by decide) h (fun c19 h => ?_) (fun c19 h => ?_)
    · refine Y.less (L' := [none, none, none]) (zLe_none (zLe_none (zLe_none (zLe_nil)))) ?_
      exact hK40 G4  h
    · refine Y.blk (pc' := 14) (L' := [some (.ref x0), some (.int x1), some (.int x2)]) (st' := [.int x2, .int x1, .ref x0]) (sg := [(.aload_n 0, 0), (.iload_n 1, 0), (.iload_n 2, 0)]) (by decide +kernel) rfl ?_
      obtain ⟨_, o7, e6, m8, h⟩ := gOb_inv h
      refine Y.callA (yC.Vi (b := x0) (As := [.int x1, .int x2]) (st := []) (r := ("PartlisterModel", T_M, 9)) hV.1 cb_M_at lk_M_132 in_M_at rfl se_M_at (by decide +kernel) rfl rfl (Nat.le_of_ble_eq_true rfl) (by decide) e6 m8) (k_M_at hV G4 x0 x1 x2) h (fun v10 G9 _ h => ?_)
      refine Y.blk (pc' := 18) (L' := [some (.ref x0), some (.int x1), some (.int x2)]) (st' := [.int (nI 0), .ref v10]) (sg := [(.iconst 0, nI 0)]) (by decide +kernel) rfl ?_
      refine Y.iald (t0 := 0) (by decide +kernel) rfl h (fun v11 h => ?_)
      refine Y.blk (pc' := 24) (L' := [some (.ref x0), some (.int x1), some (.int x2)]) (st' := [.int (x2 - (nI 1)), .int x1, .ref x0, .int v11]) (sg := [(.aload_n 0, 0), (.iload_n 1, 0), (.iload_n 2, 0), (.iconst 1, nI 1), (.isub, 0)]) (by decide +kernel) rfl ?_
      obtain ⟨_, o13, e12, m14, h⟩ := gOb_inv h
      refine Y.callA (yC.Vi (b := x0) (As := [.int x1, .int (x2 - (nI 1))]) (st := [.int v11]) (r := ("PartlisterModel", T_M, 9)) hV.1 cb_M_at lk_M_132 in_M_at rfl se_M_at (by decide +kernel) rfl rfl (Nat.le_of_ble_eq_true rfl) (by decide) e12 m14) (k_M_at hV G9 x0 x1 (x2 - (nI 1))) h (fun v16 G15 _ h => ?_)
      refine Y.blk (pc' := 28) (L' := [some (.ref x0), some (.int x1), some (.int x2)]) (st' := [.int (nI 0), .ref v16, .int v11]) (sg := [(.iconst 0, nI 0)]) (by decide +kernel) rfl ?_
      refine Y.iald (t0 := 0) (by decide +kernel) rfl h (fun v17 h => ?_)
      refine Y.ic_ge (off := 5) (tgt := 34) (by decide +kernel) (by decide) h (fun c18 h => ?_) (fun c18 h => ?_)
      · refine Y.blk (pc' := 37) (L' := [some (.ref x0), some (.int x1), some (.int (x2 + (nI 1)))]) (st' := []) (sg := [(.iinc 2 1, nI 1)]) (by decide +kernel) rfl ?_
        refine Y.goto (off := -35) (tgt := 2) (by decide +kernel) (by decide) ?_
        exact ih G15 x0 x1 (x2 + (nI 1)) h
      · refine Y.less (L' := [none, none, none]) (zLe_none (zLe_none (zLe_none (zLe_nil)))) ?_
        exact hK32 G15  h
theorem k_M_isSorted {l : Launch} {D : va_G} {B : Nat} {O : State → Heap → Prop} (hV : zG l D B O) (G : gH) (a0 : Nat) (a1 : Int32) : gMet (zVm l D B O) m_M_isSorted 13 [.ref a0, .int a1] G (f_M_isSorted G a0 a1) := by
  refine gMet.of (by decide +kernel) (Nat.le_of_ble_eq_true rfl) [some (.ref a0), some (.int a1), none] (fun ls h => zEn_ok (n := 3) h) ?_
  intro o Gf h
  unfold f_M_isSorted at h
  refine Y.blk (pc' := 2) (L' := [some (.ref a0), some (.int a1), some (.int (nI 1))]) (st' := []) (sg := [(.iconst 1, nI 1), (.istore_n 2, 0)]) (by decide +kernel) rfl ?_
  refine k_M_isSorted_L2 hV _ _ ?_ ?_  zFu G a0 a1 (nI 1) h
  · intro G20 h
    refine Y.blk (pc' := 33) (L' := [none, none, none]) (st' := [.int (nI 0)]) (sg := [(.iconst 0, nI 0)]) (by decide +kernel) rfl ?_
    exact Y.zret rfl (by decide +kernel) h
  · intro G21 h
    refine Y.blk (pc' := 41) (L' := [none, none, none]) (st' := [.int (nI 1)]) (sg := [(.iconst 1, nI 1)]) (by decide +kernel) rfl ?_
    exact Y.zret rfl (by decide +kernel) h

def f_M_isSound (w : Nat → Nat) (G : gH) (a0 : Nat) : gR :=
  gPut G a0 6 0 (.int (nI 0)) fun G1 => gOb G1 a0 6 fun o3 => bI (f_M_isWhole w G1 a0) fun v6 G5 => rZ v6 G5
theorem k_M_isSound {l : Launch} {D : va_G} {B : Nat} {O : State → Heap → Prop} {w : Nat → Nat} (hV : zGw l D B O w) (G : gH) (a0 : Nat) : gMet (zVm l D B O) m_M_isSound 15 [.ref a0] G (f_M_isSound w G a0) := by
  refine gMet.of (by decide +kernel) (Nat.le_of_ble_eq_true rfl) [some (.ref a0)] (fun ls h => zEn_ok (n := 1) h) ?_
  intro o Gf h
  unfold f_M_isSound at h
  refine Y.blk (pc' := 2) (L' := [some (.ref a0)]) (st' := [.int (nI 0), .ref a0]) (sg := [(.aload_n 0, 0), (.iconst 0, nI 0)]) (by decide +kernel) rfl ?_
  refine Y.putf fl_M_32 (by decide) rfl rfl (by decide +kernel) h (fun G1 _ _ h => ?_)
  refine Y.blk (pc' := 6) (L' := [some (.ref a0)]) (st' := [.ref a0]) (sg := [(.aload_n 0, 0)]) (by decide +kernel) rfl ?_
  obtain ⟨_, o3, e2, m4, h⟩ := gOb_inv h
  refine Y.callI (yC.Vi (b := a0) (As := []) (st := []) (r := ("PartlisterModel", T_M, 9)) hV.1.1 cb_M_isWhole lk_M_299 in_M_isWhole rfl se_M_isWhole (by decide +kernel) rfl rfl (Nat.le_of_ble_eq_true rfl) (by decide) e2 m4) (k_M_isWhole hV G1 a0) h (fun v6 G5 _ h => ?_)
  exact Y.zret rfl (by decide +kernel) h

def f_M_key (G : gH) (a0 : Nat) (a1 : Int32) (a2 : Int32) : gR :=
  gOb G a0 6 fun o2 => bI (f_M_isNoList G a0 a1) fun v5 G4 => if v5 = 0 then (gOb G4 a0 6 fun o7 => bI (f_M_isNoPlace G4 a0 a1 a2) fun v10 G9 => if v10 = 0 then (gOb G9 a0 6 fun o12 => bI (f_M_start G9 a0 (nI 0) (nI 1)) fun v15 G14 => if v15 = 0 then gOb G14 a0 6 fun o17 => bA (f_M_at G14 a0 a1 a2) fun v20 G19 => gLd G19 v20 100 (nI 0) fun v21 => rI v21 G19
      else rI (nI 0) G14)
    else gOb G9 a0 6 fun o24 => bI (f_M_start G9 a0 (nI 1) (nI 1)) fun v27 G26 => if v27 = 0 then gOb G26 a0 6 fun o29 => bA (f_M_at G26 a0 a1 a2) fun v32 G31 => gLd G31 v32 100 (nI 0) fun v33 => rI v33 G31
      else rI (nI 0) G26)
  else gOb G4 a0 6 fun o37 => bI (f_M_start G4 a0 (nI 1) (nI 1)) fun v40 G39 => if v40 = 0 then gOb G39 a0 6 fun o42 => bA (f_M_at G39 a0 a1 a2) fun v45 G44 => gLd G44 v45 100 (nI 0) fun v46 => rI v46 G44
    else rI (nI 0) G39
theorem k_M_key {l : Launch} {D : va_G} {B : Nat} {O : State → Heap → Prop} (hV : zG l D B O) (G : gH) (a0 : Nat) (a1 : Int32) (a2 : Int32) : gMet (zVm l D B O) m_M_key 13 [.ref a0, .int a1, .int a2] G (f_M_key G a0 a1 a2) := by
  refine gMet.of (by decide +kernel) (Nat.le_of_ble_eq_true rfl) [some (.ref a0), some (.int a1), some (.int a2)] (fun ls h => zEn_ok (n := 3) h) ?_
  intro o Gf h
  unfold f_M_key at h
  refine Y.blk (pc' := 3) (L' := [some (.ref a0), some (.int a1), some (.int a2)]) (st' := [.int a1, .ref a0, .ref a0]) (sg := [(.aload_n 0, 0), (.aload_n 0, 0), (.iload_n 1, 0)]) (by decide +kernel) rfl ?_
  obtain ⟨_, o2, e1, m3, h⟩ := gOb_inv h
  refine Y.callI (yC.Vi (b := a0) (As := [.int a1]) (st := [.ref a0]) (r := ("PartlisterModel", T_M, 9)) hV.1 cb_M_isNoList lk_M_110 in_M_isNoList rfl se_M_isNoList (by decide +kernel) rfl rfl (Nat.le_of_ble_eq_true rfl) (by decide) e1 m3) (k_M_isNoList hV G a0 a1) h (fun v5 G4 _ h => ?_)
  refine Y.if_ne (off := 12) (tgt := 18) (by decide +kernel) (by decide) h (fun c48 h => ?_) (fun c48 h => ?_)
  · refine Y.blk (pc' := 12) (L' := [some (.ref a0), some (.int a1), some (.int a2)]) (st' := [.int a2, .int a1, .ref a0, .ref a0]) (sg := [(.aload_n 0, 0), (.iload_n 1, 0), (.iload_n 2, 0)]) (by decide +kernel) rfl ?_
    obtain ⟨_, o7, e6, m8, h⟩ := gOb_inv h
    refine Y.callI (yC.Vi (b := a0) (As := [.int a1, .int a2]) (st := [.ref a0]) (r := ("PartlisterModel", T_M, 9)) hV.1 cb_M_isNoPlace lk_M_147 in_M_isNoPlace rfl se_M_isNoPlace (by decide +kernel) rfl rfl (Nat.le_of_ble_eq_true rfl) (by decide) e6 m8) (k_M_isNoPlace hV G4 a0 a1 a2) h (fun v10 G9 _ h => ?_)
    refine Y.if_eq (off := 7) (tgt := 22) (by decide +kernel) (by decide) h (fun c35 h => ?_) (fun c35 h => ?_)
    · refine Y.blk (pc' := 24) (L' := [some (.ref a0), some (.int a1), some (.int a2)]) (st' := [.int (nI 1), .int (nI 0), .ref a0]) (sg := [(.iconst 0, nI 0), (.iconst 1, nI 1)]) (by decide +kernel) rfl ?_
      obtain ⟨_, o12, e11, m13, h⟩ := gOb_inv h
      refine Y.callI (yC.Vi (b := a0) (As := [.int (nI 0), .int (nI 1)]) (st := []) (r := ("PartlisterModel", T_M, 9)) hV.1 cb_M_start lk_M_114 in_M_start rfl se_M_start (by decide +kernel) rfl rfl (Nat.le_of_ble_eq_true rfl) (by decide) e11 m13) (k_M_start hV G9 a0 (nI 0) (nI 1)) h (fun v15 G14 _ h => ?_)
      refine Y.if_eq (off := 7) (tgt := 34) (by decide +kernel) (by decide) h (fun c22 h => ?_) (fun c22 h => ?_)
      · refine Y.blk (pc' := 37) (L' := [some (.ref a0), some (.int a1), some (.int a2)]) (st' := [.int a2, .int a1, .ref a0]) (sg := [(.aload_n 0, 0), (.iload_n 1, 0), (.iload_n 2, 0)]) (by decide +kernel) rfl ?_
        obtain ⟨_, o17, e16, m18, h⟩ := gOb_inv h
        refine Y.callA (yC.Vi (b := a0) (As := [.int a1, .int a2]) (st := []) (r := ("PartlisterModel", T_M, 9)) hV.1 cb_M_at lk_M_132 in_M_at rfl se_M_at (by decide +kernel) rfl rfl (Nat.le_of_ble_eq_true rfl) (by decide) e16 m18) (k_M_at hV G14 a0 a1 a2) h (fun v20 G19 _ h => ?_)
        refine Y.blk (pc' := 41) (L' := [some (.ref a0), some (.int a1), some (.int a2)]) (st' := [.int (nI 0), .ref v20]) (sg := [(.iconst 0, nI 0)]) (by decide +kernel) rfl ?_
        refine Y.iald (t0 := 0) (by decide +kernel) rfl h (fun v21 h => ?_)
        exact Y.iret rfl (by decide +kernel) h
      · refine Y.blk (pc' := 31) (L' := [some (.ref a0), some (.int a1), some (.int a2)]) (st' := [.int (nI 0)]) (sg := [(.iconst 0, nI 0)]) (by decide +kernel) rfl ?_
        refine Y.goto (off := 11) (tgt := 42) (by decide +kernel) (by decide) ?_
        exact Y.iret rfl (by decide +kernel) h
    · refine Y.blk (pc' := 19) (L' := [some (.ref a0), some (.int a1), some (.int a2)]) (st' := [.int (nI 1), .ref a0]) (sg := [(.iconst 1, nI 1)]) (by decide +kernel) rfl ?_
      refine Y.goto (off := 4) (tgt := 23) (by decide +kernel) (by decide) ?_
      refine Y.blk (pc' := 24) (L' := [some (.ref a0), some (.int a1), some (.int a2)]) (st' := [.int (nI 1), .int (nI 1), .ref a0]) (sg := [(.iconst 1, nI 1)]) (by decide +kernel) rfl ?_
      obtain ⟨_, o24, e23, m25, h⟩ := gOb_inv h
      refine Y.callI (yC.Vi (b := a0) (As := [.int (nI 1), .int (nI 1)]) (st := []) (r := ("PartlisterModel", T_M, 9)) hV.1 cb_M_start lk_M_114 in_M_start rfl se_M_start (by decide +kernel) rfl rfl (Nat.le_of_ble_eq_true rfl) (by decide) e23 m25) (k_M_start hV G9 a0 (nI 1) (nI 1)) h (fun v27 G26 _ h => ?_)
      refine Y.if_eq (off := 7) (tgt := 34) (by decide +kernel) (by decide) h (fun c34 h => ?_) (fun c34 h => ?_)
      · refine Y.blk (pc' := 37) (L' := [some (.ref a0), some (.int a1), some (.int a2)]) (st' := [.int a2, .int a1, .ref a0]) (sg := [(.aload_n 0, 0), (.iload_n 1, 0), (.iload_n 2, 0)]) (by decide +kernel) rfl ?_
        obtain ⟨_, o29, e28, m30, h⟩ := gOb_inv h
        refine Y.callA (yC.Vi (b := a0) (As := [.int a1, .int a2]) (st := []) (r := ("PartlisterModel", T_M, 9)) hV.1 cb_M_at lk_M_132 in_M_at rfl se_M_at (by decide +kernel) rfl rfl (Nat.le_of_ble_eq_true rfl) (by decide) e28 m30) (k_M_at hV G26 a0 a1 a2) h (fun v32 G31 _ h => ?_)
        refine Y.blk (pc' := 41) (L' := [some (.ref a0), some (.int a1), some (.int a2)]) (st' := [.int (nI 0), .ref v32]) (sg := [(.iconst 0, nI 0)]) (by decide +kernel) rfl ?_
        refine Y.iald (t0 := 0) (by decide +kernel) rfl h (fun v33 h => ?_)
        exact Y.iret rfl (by decide +kernel) h
      · refine Y.blk (pc' := 31) (L' := [some (.ref a0), some (.int a1), some (.int a2)]) (st' := [.int (nI 0)]) (sg := [(.iconst 0, nI 0)]) (by decide +kernel) rfl ?_
        refine Y.goto (off := 11) (tgt := 42) (by decide +kernel) (by decide) ?_
        exact Y.iret rfl (by decide +kernel) h
  · refine Y.blk (pc' := 19) (L' := [some (.ref a0), some (.int a1), some (.int a2)]) (st' := [.int (nI 1), .ref a0]) (sg := [(.iconst 1, nI 1)]) (by decide +kernel) rfl ?_
    refine Y.goto (off := 4) (tgt := 23) (by decide +kernel) (by decide) ?_
    refine Y.blk (pc' := 24) (L' := [some (.ref a0), some (.int a1), some (.int a2)]) (st' := [.int (nI 1), .int (nI 1), .ref a0]) (sg := [(.iconst 1, nI 1)]) (by decide +kernel) rfl ?_
    obtain ⟨_, o37, e36, m38, h⟩ := gOb_inv h
    refine Y.callI (yC.Vi (b := a0) (As := [.int (nI 1), .int (nI 1)]) (st := []) (r := ("PartlisterModel", T_M, 9)) hV.1 cb_M_start lk_M_114 in_M_start rfl se_M_start (by decide +kernel) rfl rfl (Nat.le_of_ble_eq_true rfl) (by decide) e36 m38) (k_M_start hV G4 a0 (nI 1) (nI 1)) h (fun v40 G39 _ h => ?_)
    refine Y.if_eq (off := 7) (tgt := 34) (by decide +kernel) (by decide) h (fun c47 h => ?_) (fun c47 h => ?_)
    · refine Y.blk (pc' := 37) (L' := [some (.ref a0), some (.int a1), some (.int a2)]) (st' := [.int a2, .int a1, .ref a0]) (sg := [(.aload_n 0, 0), (.iload_n 1, 0), (.iload_n 2, 0)]) (by decide +kernel) rfl ?_
      obtain ⟨_, o42, e41, m43, h⟩ := gOb_inv h
      refine Y.callA (yC.Vi (b := a0) (As := [.int a1, .int a2]) (st := []) (r := ("PartlisterModel", T_M, 9)) hV.1 cb_M_at lk_M_132 in_M_at rfl se_M_at (by decide +kernel) rfl rfl (Nat.le_of_ble_eq_true rfl) (by decide) e41 m43) (k_M_at hV G39 a0 a1 a2) h (fun v45 G44 _ h => ?_)
      refine Y.blk (pc' := 41) (L' := [some (.ref a0), some (.int a1), some (.int a2)]) (st' := [.int (nI 0), .ref v45]) (sg := [(.iconst 0, nI 0)]) (by decide +kernel) rfl ?_
      refine Y.iald (t0 := 0) (by decide +kernel) rfl h (fun v46 h => ?_)
      exact Y.iret rfl (by decide +kernel) h
    · refine Y.blk (pc' := 31) (L' := [some (.ref a0), some (.int a1), some (.int a2)]) (st' := [.int (nI 0)]) (sg := [(.iconst 0, nI 0)]) (by decide +kernel) rfl ?_
      refine Y.goto (off := 11) (tgt := 42) (by decide +kernel) (by decide) ?_
      exact Y.iret rfl (by decide +kernel) h

def f_M_keys_L8 (K50 : gH → Nat → gR) : Nat → gH → Nat → Int32 → Int32 → Nat → Int32 → gR
  | 0, _, _, _, _, _, _ => none
  | n + 1, G, x0, x1, x2, x3, x4 =>
    if (nI 31) ≤ x4 then K50 G x3
    else gOb G x0 6 fun o4 => bI (f_M_firstOf G x0 x1 x4) fun v7 G6 => if v7 = (-1) then (if (nI 0) = x2 then gSt G6 x3 102 x4 (vp_nar .boolean (nI 1)) fun G8 => f_M_keys_L8 K50 n G8 x0 x1 x2 x3 (x4 + (nI 1))
        else gSt G6 x3 102 x4 (vp_nar .boolean (nI 0)) fun G9 => f_M_keys_L8 K50 n G9 x0 x1 x2 x3 (x4 + (nI 1)))
      else if (nI 1) = x2 then gSt G6 x3 102 x4 (vp_nar .boolean (nI 1)) fun G11 => f_M_keys_L8 K50 n G11 x0 x1 x2 x3 (x4 + (nI 1))
        else gSt G6 x3 102 x4 (vp_nar .boolean (nI 0)) fun G12 => f_M_keys_L8 K50 n G12 x0 x1 x2 x3 (x4 + (nI 1))
def f_M_keys (G : gH) (a0 : Nat) (a1 : Int32) (a2 : Int32) : gR :=
  gNewA G 102 (nI 31) fun q1 G2 => f_M_keys_L8 (fun G17 x16 => rA x16 G17) zFu G2 a0 a1 a2 q1 (nI 0)
theorem k_M_keys_L8 {l : Launch} {D : va_G} {B : Nat} {O : State → Heap → Prop} (hV : zG l D B O) {o : gO} {Gf : gH} (K50 : gH → Nat → gR) (hK50 : ∀ (G : gH) (x3 : Nat), K50 G x3 = some (o, Gf) → Y (zVm l D B O) m_M_keys 14 o Gf 50 [none, none, none, some (.ref x3), none] [] G) : ∀ (n : Nat) (G : gH) (x0 : Nat) (x1 : Int32) (x2 : Int32) (x3 : Nat) (x4 : Int32), f_M_keys_L8 K50 n G x0 x1 x2 x3 x4 = some (o, Gf) → Y (zVm l D B O) m_M_keys 14 o Gf 8 [some (.ref x0), some (.int x1), some (.int x2), some (.ref x3), some (.int x4)] [] G := by
  intro n
  induction n with
  | zero => intro G x0 x1 x2 x3 x4 h; cases h
  | succ n ih =>
    intro G x0 x1 x2 x3 x4 h
    unfold f_M_keys_L8 at h
    refine Y.blk (pc' := 12) (L' := [some (.ref x0), some (.int x1), some (.int x2), some (.ref x3), some (.int x4)]) (st' := [.int (nI 31), .int x4]) (sg := [(.iload 4, 0), (.bipush 31, nI 31)]) (by decide +kernel) rfl ?_
    refine Y.ic_ge (off := 38) (tgt := 50) (by decide +kernel) (by decide) h (fun c15 h => ?_) (fun c15 h => ?_)
    · refine Y.less (L' := [none, none, none, some (.ref x3), none]) (zLe_none (zLe_none (zLe_none (zLe_some (zLe_none (zLe_nil)))))) ?_
      exact hK50 G x3 h
    · refine Y.blk (pc' := 22) (L' := [some (.ref x0), some (.int x1), some (.int x2), some (.ref x3), some (.int x4)]) (st' := [.int x4, .int x1, .ref x0, .int x4, .ref x3]) (sg := [(.aload_n 3, 0), (.iload 4, 0), (.aload_n 0, 0), (.iload_n 1, 0), (.iload 4, 0)]) (by decide +kernel) rfl ?_
      obtain ⟨_, o4, e3, m5, h⟩ := gOb_inv h
      refine Y.callI (yC.Vi (b := x0) (As := [.int x1, .int x4]) (st := [.int x4, .ref x3]) (r := ("PartlisterModel", T_M, 9)) hV.1 cb_M_firstOf lk_M_163 in_M_firstOf rfl se_M_firstOf (by decide +kernel) rfl rfl (Nat.le_of_ble_eq_true rfl) (by decide) e3 m5) (k_M_firstOf hV G x0 x1 x4) h (fun v7 G6 _ h => ?_)
      refine Y.blk (pc' := 26) (L' := [some (.ref x0), some (.int x1), some (.int x2), some (.ref x3), some (.int x4)]) (st' := [.int (-1), .int v7, .int x4, .ref x3]) (sg := [(.iconst (-1), -1)]) (by decide +kernel) rfl ?_
      refine Y.ic_eq (off := 7) (tgt := 33) (by decide +kernel) (by decide) h (fun c14 h => ?_) (fun c14 h => ?_)
      · refine Y.blk (pc' := 35) (L' := [some (.ref x0), some (.int x1), some (.int x2), some (.ref x3), some (.int x4)]) (st' := [.int x2, .int (nI 0), .int x4, .ref x3]) (sg := [(.iconst 0, nI 0), (.iload_n 2, 0)]) (by decide +kernel) rfl ?_
        refine Y.ic_ne (off := 7) (tgt := 42) (by decide +kernel) (by decide) h (fun c10 h => ?_) (fun c10 h => ?_)
        · refine Y.blk (pc' := 39) (L' := [some (.ref x0), some (.int x1), some (.int x2), some (.ref x3), some (.int x4)]) (st' := [.int (nI 1), .int x4, .ref x3]) (sg := [(.iconst 1, nI 1)]) (by decide +kernel) rfl ?_
          refine Y.goto (off := 4) (tgt := 43) (by decide +kernel) (by decide) ?_
          refine Y.zast (t0 := 2) (by decide +kernel) rfl (by decide) h (fun G8 _ _ h => ?_)
          refine Y.blk (pc' := 47) (L' := [some (.ref x0), some (.int x1), some (.int x2), some (.ref x3), some (.int (x4 + (nI 1)))]) (st' := []) (sg := [(.iinc 4 1, nI 1)]) (by decide +kernel) rfl ?_
          refine Y.goto (off := -39) (tgt := 8) (by decide +kernel) (by decide) ?_
          exact ih G8 x0 x1 x2 x3 (x4 + (nI 1)) h
        · refine Y.blk (pc' := 43) (L' := [some (.ref x0), some (.int x1), some (.int x2), some (.ref x3), some (.int x4)]) (st' := [.int (nI 0), .int x4, .ref x3]) (sg := [(.iconst 0, nI 0)]) (by decide +kernel) rfl ?_
          refine Y.zast (t0 := 2) (by decide +kernel) rfl (by decide) h (fun G9 _ _ h => ?_)
          refine Y.blk (pc' := 47) (L' := [some (.ref x0), some (.int x1), some (.int x2), some (.ref x3), some (.int (x4 + (nI 1)))]) (st' := []) (sg := [(.iinc 4 1, nI 1)]) (by decide +kernel) rfl ?_
          refine Y.goto (off := -39) (tgt := 8) (by decide +kernel) (by decide) ?_
          exact ih G9 x0 x1 x2 x3 (x4 + (nI 1)) h
      · refine Y.blk (pc' := 30) (L' := [some (.ref x0), some (.int x1), some (.int x2), some (.ref x3), some (.int x4)]) (st' := [.int (nI 1), .int x4, .ref x3]) (sg := [(.iconst 1, nI 1)]) (by decide +kernel) rfl ?_
        refine Y.goto (off := 4) (tgt := 34) (by decide +kernel) (by decide) ?_
        refine Y.blk (pc' := 35) (L' := [some (.ref x0), some (.int x1), some (.int x2), some (.ref x3), some (.int x4)]) (st' := [.int x2, .int (nI 1), .int x4, .ref x3]) (sg := [(.iload_n 2, 0)]) (by decide +kernel) rfl ?_
        refine Y.ic_ne (off := 7) (tgt := 42) (by decide +kernel) (by decide) h (fun c13 h => ?_) (fun c13 h => ?_)
        · refine Y.blk (pc' := 39) (L' := [some (.ref x0), some (.int x1), some (.int x2), some (.ref x3), some (.int x4)]) (st' := [.int (nI 1), .int x4, .ref x3]) (sg := [(.iconst 1, nI 1)]) (by decide +kernel) rfl ?_
          refine Y.goto (off := 4) (tgt := 43) (by decide +kernel) (by decide) ?_
          refine Y.zast (t0 := 2) (by decide +kernel) rfl (by decide) h (fun G11 _ _ h => ?_)
          refine Y.blk (pc' := 47) (L' := [some (.ref x0), some (.int x1), some (.int x2), some (.ref x3), some (.int (x4 + (nI 1)))]) (st' := []) (sg := [(.iinc 4 1, nI 1)]) (by decide +kernel) rfl ?_
          refine Y.goto (off := -39) (tgt := 8) (by decide +kernel) (by decide) ?_
          exact ih G11 x0 x1 x2 x3 (x4 + (nI 1)) h
        · refine Y.blk (pc' := 43) (L' := [some (.ref x0), some (.int x1), some (.int x2), some (.ref x3), some (.int x4)]) (st' := [.int (nI 0), .int x4, .ref x3]) (sg := [(.iconst 0, nI 0)]) (by decide +kernel) rfl ?_
          refine Y.zast (t0 := 2) (by decide +kernel) rfl (by decide) h (fun G12 _ _ h => ?_)
          refine Y.blk (pc' := 47) (L' := [some (.ref x0), some (.int x1), some (.int x2), some (.ref x3), some (.int (x4 + (nI 1)))]) (st' := []) (sg := [(.iinc 4 1, nI 1)]) (by decide +kernel) rfl ?_
          refine Y.goto (off := -39) (tgt := 8) (by decide +kernel) (by decide) ?_
          exact ih G12 x0 x1 x2 x3 (x4 + (nI 1)) h
theorem k_M_keys {l : Launch} {D : va_G} {B : Nat} {O : State → Heap → Prop} (hV : zG l D B O) (G : gH) (a0 : Nat) (a1 : Int32) (a2 : Int32) : gMet (zVm l D B O) m_M_keys 14 [.ref a0, .int a1, .int a2] G (f_M_keys G a0 a1 a2) := by
  refine gMet.of (by decide +kernel) (Nat.le_of_ble_eq_true rfl) [some (.ref a0), some (.int a1), some (.int a2), none, none] (fun ls h => zEn_ok (n := 5) h) ?_
  intro o Gf h
  unfold f_M_keys at h
  refine Y.blk (pc' := 2) (L' := [some (.ref a0), some (.int a1), some (.int a2), none, none]) (st' := [.int (nI 31)]) (sg := [(.bipush 31, nI 31)]) (by decide +kernel) rfl ?_
  refine Y.newa (at_ := .boolean) (t0 := 2) ac_z rfl (by decide) rfl (by decide) (by decide +kernel) h (fun q1 G2 h => ?_)
  refine Y.blk (pc' := 8) (L' := [some (.ref a0), some (.int a1), some (.int a2), some (.ref q1), some (.int (nI 0))]) (st' := []) (sg := [(.astore_n 3, 0), (.iconst 0, nI 0), (.istore 4, 0)]) (by decide +kernel) rfl ?_
  refine k_M_keys_L8 hV _ ?_  zFu G2 a0 a1 a2 q1 (nI 0) h
  · intro G17 x16 h
    refine Y.blk (pc' := 51) (L' := [none, none, none, some (.ref x16), none]) (st' := [.ref x16]) (sg := [(.aload_n 3, 0)]) (by decide +kernel) rfl ?_
    exact Y.aret rfl (by first | exact Or.inl ⟨_, rfl⟩ | exact Or.inr ⟨_, rfl⟩) (by decide +kernel) h

def f_M_knock (G : gH) (a0 : Nat) : gR :=
  gPut G a0 6 0 (.int (nI 0)) fun G1 => gFI G1 a0 6 8 fun v2 => gPut G1 a0 6 8 (.int (v2 + (nI 1))) fun G3 => gFI G3 a0 6 8 fun v4 => rI v4 G3
theorem k_M_knock {l : Launch} {D : va_G} {B : Nat} {O : State → Heap → Prop} (hV : zG l D B O) (G : gH) (a0 : Nat) : gMet (zVm l D B O) m_M_knock 2 [.ref a0] G (f_M_knock G a0) := by
  refine gMet.of (by decide +kernel) (Nat.le_of_ble_eq_true rfl) [some (.ref a0)] (fun ls h => zEn_ok (n := 1) h) ?_
  intro o Gf h
  unfold f_M_knock at h
  refine Y.blk (pc' := 2) (L' := [some (.ref a0)]) (st' := [.int (nI 0), .ref a0]) (sg := [(.aload_n 0, 0), (.iconst 0, nI 0)]) (by decide +kernel) rfl ?_
  refine Y.putf fl_M_32 (by decide) rfl rfl (by decide +kernel) h (fun G1 _ _ h => ?_)
  refine Y.blk (pc' := 7) (L' := [some (.ref a0)]) (st' := [.ref a0, .ref a0]) (sg := [(.aload_n 0, 0), (.dup, 0)]) (by decide +kernel) rfl ?_
  refine Y.getI fl_M_293 (by decide +kernel) h (fun v2 h => ?_)
  refine Y.blk (pc' := 12) (L' := [some (.ref a0)]) (st' := [.int (v2 + (nI 1)), .ref a0]) (sg := [(.iconst 1, nI 1), (.iadd, 0)]) (by decide +kernel) rfl ?_
  refine Y.putf fl_M_293 (by decide) rfl rfl (by decide +kernel) h (fun G3 _ _ h => ?_)
  refine Y.blk (pc' := 16) (L' := [some (.ref a0)]) (st' := [.ref a0]) (sg := [(.aload_n 0, 0)]) (by decide +kernel) rfl ?_
  refine Y.getI fl_M_293 (by decide +kernel) h (fun v4 h => ?_)
  exact Y.iret rfl (by decide +kernel) h

def f_M_last (G : gH) (a0 : Nat) (a1 : Int32) (a2 : Int32) : gR :=
  gOb G a0 6 fun o2 => bI (f_M_isNoList G a0 a1) fun v5 G4 => gOb G4 a0 6 fun o7 => bI (f_M_start G4 a0 v5 (nI 1)) fun v10 G9 => if v10 = 0 then (gOb G9 a0 6 fun o12 => bI (f_M_isNoKey G9 a0 a2) fun v15 G14 => gOb G14 a0 6 fun o17 => bI (f_M_refuse G14 a0 v15 (nI 2)) fun v20 G19 => if v20 = 0 then gOb G19 a0 6 fun o22 => bI (f_M_lastOf G19 a0 a1 a2) fun v25 G24 => rI v25 G24
    else rI (nI 0) G19)
  else rI (nI 0) G9
theorem k_M_last {l : Launch} {D : va_G} {B : Nat} {O : State → Heap → Prop} (hV : zG l D B O) (G : gH) (a0 : Nat) (a1 : Int32) (a2 : Int32) : gMet (zVm l D B O) m_M_last 14 [.ref a0, .int a1, .int a2] G (f_M_last G a0 a1 a2) := by
  refine gMet.of (by decide +kernel) (Nat.le_of_ble_eq_true rfl) [some (.ref a0), some (.int a1), some (.int a2)] (fun ls h => zEn_ok (n := 3) h) ?_
  intro o Gf h
  unfold f_M_last at h
  refine Y.blk (pc' := 3) (L' := [some (.ref a0), some (.int a1), some (.int a2)]) (st' := [.int a1, .ref a0, .ref a0]) (sg := [(.aload_n 0, 0), (.aload_n 0, 0), (.iload_n 1, 0)]) (by decide +kernel) rfl ?_
  obtain ⟨_, o2, e1, m3, h⟩ := gOb_inv h
  refine Y.callI (yC.Vi (b := a0) (As := [.int a1]) (st := [.ref a0]) (r := ("PartlisterModel", T_M, 9)) hV.1 cb_M_isNoList lk_M_110 in_M_isNoList rfl se_M_isNoList (by decide +kernel) rfl rfl (Nat.le_of_ble_eq_true rfl) (by decide) e1 m3) (k_M_isNoList hV G a0 a1) h (fun v5 G4 _ h => ?_)
  refine Y.blk (pc' := 7) (L' := [some (.ref a0), some (.int a1), some (.int a2)]) (st' := [.int (nI 1), .int v5, .ref a0]) (sg := [(.iconst 1, nI 1)]) (by decide +kernel) rfl ?_
  obtain ⟨_, o7, e6, m8, h⟩ := gOb_inv h
  refine Y.callI (yC.Vi (b := a0) (As := [.int v5, .int (nI 1)]) (st := []) (r := ("PartlisterModel", T_M, 9)) hV.1 cb_M_start lk_M_114 in_M_start rfl se_M_start (by decide +kernel) rfl rfl (Nat.le_of_ble_eq_true rfl) (by decide) e6 m8) (k_M_start hV G4 a0 v5 (nI 1)) h (fun v10 G9 _ h => ?_)
  refine Y.if_ne (off := 16) (tgt := 26) (by decide +kernel) (by decide) h (fun c27 h => ?_) (fun c27 h => ?_)
  · refine Y.blk (pc' := 16) (L' := [some (.ref a0), some (.int a1), some (.int a2)]) (st' := [.int a2, .ref a0, .ref a0]) (sg := [(.aload_n 0, 0), (.aload_n 0, 0), (.iload_n 2, 0)]) (by decide +kernel) rfl ?_
    obtain ⟨_, o12, e11, m13, h⟩ := gOb_inv h
    refine Y.callI (yC.Vi (b := a0) (As := [.int a2]) (st := [.ref a0]) (r := ("PartlisterModel", T_M, 9)) hV.1 cb_M_isNoKey lk_M_160 in_M_isNoKey rfl se_M_isNoKey (by decide +kernel) rfl rfl (Nat.le_of_ble_eq_true rfl) (by decide) e11 m13) (k_M_isNoKey hV G9 a0 a2) h (fun v15 G14 _ h => ?_)
    refine Y.blk (pc' := 20) (L' := [some (.ref a0), some (.int a1), some (.int a2)]) (st' := [.int (nI 2), .int v15, .ref a0]) (sg := [(.iconst 2, nI 2)]) (by decide +kernel) rfl ?_
    obtain ⟨_, o17, e16, m18, h⟩ := gOb_inv h
    refine Y.callI (yC.Vi (b := a0) (As := [.int v15, .int (nI 2)]) (st := []) (r := ("PartlisterModel", T_M, 9)) hV.1 cb_M_refuse lk_M_36 in_M_refuse rfl se_M_refuse (by decide +kernel) rfl rfl (Nat.le_of_ble_eq_true rfl) (by decide) e16 m18) (k_M_refuse hV G14 a0 v15 (nI 2)) h (fun v20 G19 _ h => ?_)
    refine Y.if_eq (off := 7) (tgt := 30) (by decide +kernel) (by decide) h (fun c26 h => ?_) (fun c26 h => ?_)
    · refine Y.blk (pc' := 33) (L' := [some (.ref a0), some (.int a1), some (.int a2)]) (st' := [.int a2, .int a1, .ref a0]) (sg := [(.aload_n 0, 0), (.iload_n 1, 0), (.iload_n 2, 0)]) (by decide +kernel) rfl ?_
      obtain ⟨_, o22, e21, m23, h⟩ := gOb_inv h
      refine Y.callI (yC.Vi (b := a0) (As := [.int a1, .int a2]) (st := []) (r := ("PartlisterModel", T_M, 9)) hV.1 cb_M_lastOf lk_M_226 in_M_lastOf rfl se_M_lastOf (by decide +kernel) rfl rfl (Nat.le_of_ble_eq_true rfl) (by decide) e21 m23) (k_M_lastOf hV G19 a0 a1 a2) h (fun v25 G24 _ h => ?_)
      exact Y.iret rfl (by decide +kernel) h
    · refine Y.blk (pc' := 27) (L' := [some (.ref a0), some (.int a1), some (.int a2)]) (st' := [.int (nI 0)]) (sg := [(.iconst 0, nI 0)]) (by decide +kernel) rfl ?_
      refine Y.goto (off := 9) (tgt := 36) (by decide +kernel) (by decide) ?_
      exact Y.iret rfl (by decide +kernel) h
  · refine Y.blk (pc' := 27) (L' := [some (.ref a0), some (.int a1), some (.int a2)]) (st' := [.int (nI 0)]) (sg := [(.iconst 0, nI 0)]) (by decide +kernel) rfl ?_
    refine Y.goto (off := 9) (tgt := 36) (by decide +kernel) (by decide) ?_
    exact Y.iret rfl (by decide +kernel) h

def f_M_many (G : gH) (a0 : Nat) (a1 : Int32) (a2 : Int32) : gR :=
  gOb G a0 6 fun o2 => bI (f_M_isNoList G a0 a1) fun v5 G4 => gOb G4 a0 6 fun o7 => bI (f_M_start G4 a0 v5 (nI 1)) fun v10 G9 => if v10 = 0 then (gOb G9 a0 6 fun o12 => bI (f_M_isNoKey G9 a0 a2) fun v15 G14 => gOb G14 a0 6 fun o17 => bI (f_M_refuse G14 a0 v15 (nI 2)) fun v20 G19 => if v20 = 0 then gOb G19 a0 6 fun o22 => bI (f_M_manyOf G19 a0 a1 a2) fun v25 G24 => rI v25 G24
    else rI (nI 0) G19)
  else rI (nI 0) G9
theorem k_M_many {l : Launch} {D : va_G} {B : Nat} {O : State → Heap → Prop} (hV : zG l D B O) (G : gH) (a0 : Nat) (a1 : Int32) (a2 : Int32) : gMet (zVm l D B O) m_M_many 14 [.ref a0, .int a1, .int a2] G (f_M_many G a0 a1 a2) := by
  refine gMet.of (by decide +kernel) (Nat.le_of_ble_eq_true rfl) [some (.ref a0), some (.int a1), some (.int a2)] (fun ls h => zEn_ok (n := 3) h) ?_
  intro o Gf h
  unfold f_M_many at h
  refine Y.blk (pc' := 3) (L' := [some (.ref a0), some (.int a1), some (.int a2)]) (st' := [.int a1, .ref a0, .ref a0]) (sg := [(.aload_n 0, 0), (.aload_n 0, 0), (.iload_n 1, 0)]) (by decide +kernel) rfl ?_
  obtain ⟨_, o2, e1, m3, h⟩ := gOb_inv h
  refine Y.callI (yC.Vi (b := a0) (As := [.int a1]) (st := [.ref a0]) (r := ("PartlisterModel", T_M, 9)) hV.1 cb_M_isNoList lk_M_110 in_M_isNoList rfl se_M_isNoList (by decide +kernel) rfl rfl (Nat.le_of_ble_eq_true rfl) (by decide) e1 m3) (k_M_isNoList hV G a0 a1) h (fun v5 G4 _ h => ?_)
  refine Y.blk (pc' := 7) (L' := [some (.ref a0), some (.int a1), some (.int a2)]) (st' := [.int (nI 1), .int v5, .ref a0]) (sg := [(.iconst 1, nI 1)]) (by decide +kernel) rfl ?_
  obtain ⟨_, o7, e6, m8, h⟩ := gOb_inv h
  refine Y.callI (yC.Vi (b := a0) (As := [.int v5, .int (nI 1)]) (st := []) (r := ("PartlisterModel", T_M, 9)) hV.1 cb_M_start lk_M_114 in_M_start rfl se_M_start (by decide +kernel) rfl rfl (Nat.le_of_ble_eq_true rfl) (by decide) e6 m8) (k_M_start hV G4 a0 v5 (nI 1)) h (fun v10 G9 _ h => ?_)
  refine Y.if_ne (off := 16) (tgt := 26) (by decide +kernel) (by decide) h (fun c27 h => ?_) (fun c27 h => ?_)
  · refine Y.blk (pc' := 16) (L' := [some (.ref a0), some (.int a1), some (.int a2)]) (st' := [.int a2, .ref a0, .ref a0]) (sg := [(.aload_n 0, 0), (.aload_n 0, 0), (.iload_n 2, 0)]) (by decide +kernel) rfl ?_
    obtain ⟨_, o12, e11, m13, h⟩ := gOb_inv h
    refine Y.callI (yC.Vi (b := a0) (As := [.int a2]) (st := [.ref a0]) (r := ("PartlisterModel", T_M, 9)) hV.1 cb_M_isNoKey lk_M_160 in_M_isNoKey rfl se_M_isNoKey (by decide +kernel) rfl rfl (Nat.le_of_ble_eq_true rfl) (by decide) e11 m13) (k_M_isNoKey hV G9 a0 a2) h (fun v15 G14 _ h => ?_)
    refine Y.blk (pc' := 20) (L' := [some (.ref a0), some (.int a1), some (.int a2)]) (st' := [.int (nI 2), .int v15, .ref a0]) (sg := [(.iconst 2, nI 2)]) (by decide +kernel) rfl ?_
    obtain ⟨_, o17, e16, m18, h⟩ := gOb_inv h
    refine Y.callI (yC.Vi (b := a0) (As := [.int v15, .int (nI 2)]) (st := []) (r := ("PartlisterModel", T_M, 9)) hV.1 cb_M_refuse lk_M_36 in_M_refuse rfl se_M_refuse (by decide +kernel) rfl rfl (Nat.le_of_ble_eq_true rfl) (by decide) e16 m18) (k_M_refuse hV G14 a0 v15 (nI 2)) h (fun v20 G19 _ h => ?_)
    refine Y.if_eq (off := 7) (tgt := 30) (by decide +kernel) (by decide) h (fun c26 h => ?_) (fun c26 h => ?_)
    · refine Y.blk (pc' := 33) (L' := [some (.ref a0), some (.int a1), some (.int a2)]) (st' := [.int a2, .int a1, .ref a0]) (sg := [(.aload_n 0, 0), (.iload_n 1, 0), (.iload_n 2, 0)]) (by decide +kernel) rfl ?_
      obtain ⟨_, o22, e21, m23, h⟩ := gOb_inv h
      refine Y.callI (yC.Vi (b := a0) (As := [.int a1, .int a2]) (st := []) (r := ("PartlisterModel", T_M, 9)) hV.1 cb_M_manyOf lk_M_229 in_M_manyOf rfl se_M_manyOf (by decide +kernel) rfl rfl (Nat.le_of_ble_eq_true rfl) (by decide) e21 m23) (k_M_manyOf hV G19 a0 a1 a2) h (fun v25 G24 _ h => ?_)
      exact Y.iret rfl (by decide +kernel) h
    · refine Y.blk (pc' := 27) (L' := [some (.ref a0), some (.int a1), some (.int a2)]) (st' := [.int (nI 0)]) (sg := [(.iconst 0, nI 0)]) (by decide +kernel) rfl ?_
      refine Y.goto (off := 9) (tgt := 36) (by decide +kernel) (by decide) ?_
      exact Y.iret rfl (by decide +kernel) h
  · refine Y.blk (pc' := 27) (L' := [some (.ref a0), some (.int a1), some (.int a2)]) (st' := [.int (nI 0)]) (sg := [(.iconst 0, nI 0)]) (by decide +kernel) rfl ?_
    refine Y.goto (off := 9) (tgt := 36) (by decide +kernel) (by decide) ?_
    exact Y.iret rfl (by decide +kernel) h

def f_M_move_L54 (w : Nat → Nat) (K91 : gH → Nat → Int32 → Int32 → gR) : Nat → gH → Nat → Int32 → Int32 → Nat → Int32 → Int32 → gR
  | 0, _, _, _, _, _, _, _ => none
  | n + 1, G, x0, x1, x2, x3, x4, x5 =>
    if x4 ≤ x5 then K91 G x0 x1 x4
    else bI (f_MA_floorMod G (x5 + x2) x4) fun v31 G30 => gOb G30 x3 9 fun o33 => bA (f_AL_get G30 x3 x5) fun v36 G35 => gCaA G35 v36 100 (gOb G35 x0 6 fun o38 => bA (f_M_write G35 x0 x1 v31 v36) fun v41 G40 => f_M_move_L54 w K91 n G40 x0 x1 x2 x3 x4 (x5 + (nI 1)))
def f_M_move (w : Nat → Nat) (G : gH) (a0 : Nat) (a1 : Int32) (a2 : Int32) : gR :=
  gOb G a0 6 fun o2 => bI (f_M_isNoList G a0 a1) fun v5 G4 => gOb G4 a0 6 fun o7 => bI (f_M_start G4 a0 v5 (nI 1)) fun v10 G9 => if v10 = 0 then (bI (f_M_isIn G9 a2 (-40) (nI 40)) fun v13 G12 => if v13 = 0 then (gOb G12 a0 6 fun o15 => bI (f_M_refuse G12 a0 (nI 1) (nI 2)) fun v18 G17 => if v18 = 0 then (gOb G17 a0 6 fun o20 => bA (f_M_copy w G17 a0 a1) fun v23 G22 => gOb G22 v23 9 fun o25 => bI (f_AL_size G22 v23) fun v28 G27 => f_M_move_L54 w (fun G46 x43 x44 x45 => if x45 = 0 then rI (-1) G46
          else gOb G46 x43 6 fun o48 => bA (f_M_at G46 x43 x44 (nI 0)) fun v51 G50 => gLd G50 v51 100 (nI 1) fun v52 => rI v52 G50) zFu G27 a0 a1 a2 v23 v28 (nI 0))
      else rI (nI 0) G17)
    else gOb G12 a0 6 fun o56 => bI (f_M_refuse G12 a0 (nI 0) (nI 2)) fun v59 G58 => if v59 = 0 then (gOb G58 a0 6 fun o61 => bA (f_M_copy w G58 a0 a1) fun v64 G63 => gOb G63 v64 9 fun o66 => bI (f_AL_size G63 v64) fun v69 G68 => f_M_move_L54 w (fun G73 x70 x71 x72 => if x72 = 0 then rI (-1) G73
          else gOb G73 x70 6 fun o75 => bA (f_M_at G73 x70 x71 (nI 0)) fun v78 G77 => gLd G77 v78 100 (nI 1) fun v79 => rI v79 G77) zFu G68 a0 a1 a2 v64 v69 (nI 0))
      else rI (nI 0) G58)
  else rI (nI 0) G9
theorem k_M_move_L54 {l : Launch} {D : va_G} {B : Nat} {O : State → Heap → Prop} {w : Nat → Nat} (hV : zGw l D B O w) {o : gO} {Gf : gH} (K91 : gH → Nat → Int32 → Int32 → gR) (hK91 : ∀ (G : gH) (x0 : Nat) (x1 : Int32) (x4 : Int32), K91 G x0 x1 x4 = some (o, Gf) → Y (zVm l D B O) m_M_move 14 o Gf 91 [some (.ref x0), some (.int x1), none, none, some (.int x4), none] [] G) : ∀ (n : Nat) (G : gH) (x0 : Nat) (x1 : Int32) (x2 : Int32) (x3 : Nat) (x4 : Int32) (x5 : Int32), f_M_move_L54 w K91 n G x0 x1 x2 x3 x4 x5 = some (o, Gf) → Y (zVm l D B O) m_M_move 14 o Gf 54 [some (.ref x0), some (.int x1), some (.int x2), some (.ref x3), some (.int x4), some (.int x5)] [] G := by
  intro n
  induction n with
  | zero => intro G x0 x1 x2 x3 x4 x5 h; cases h
  | succ n ih =>
    intro G x0 x1 x2 x3 x4 x5 h
    unfold f_M_move_L54 at h
    refine Y.blk (pc' := 58) (L' := [some (.ref x0), some (.int x1), some (.int x2), some (.ref x3), some (.int x4), some (.int x5)]) (st' := [.int x4, .int x5]) (sg := [(.iload 5, 0), (.iload 4, 0)]) (by decide +kernel) rfl ?_
    refine Y.ic_ge (off := 33) (tgt := 91) (by decide +kernel) (by decide) h (fun c42 h => ?_) (fun c42 h => ?_)
    · refine Y.less (L' := [some (.ref x0), some (.int x1), none, none, some (.int x4), none]) (zLe_some (zLe_some (zLe_none (zLe_none (zLe_some (zLe_none (zLe_nil))))))) ?_
      exact hK91 G x0 x1 x4 h
    · refine Y.blk (pc' := 69) (L' := [some (.ref x0), some (.int x1), some (.int x2), some (.ref x3), some (.int x4), some (.int x5)]) (st' := [.int x4, .int (x5 + x2), .int x1, .ref x0]) (sg := [(.aload_n 0, 0), (.iload_n 1, 0), (.iload 5, 0), (.iload_n 2, 0), (.iadd, 0), (.iload 4, 0)]) (by decide +kernel) rfl ?_
      refine Y.callI (yC.S (As := [.int (x5 + x2), .int x4]) (st := [.int x1, .ref x0]) hV.1.1 cb_MA_floorMod lk_M_192 st_MA_floorMod (by decide +kernel) rfl rfl (Nat.le_of_ble_eq_true rfl) (by decide)) (k_MA_floorMod hV.1 G (x5 + x2) x4) h (fun v31 G30 _ h => ?_)
      refine Y.blk (pc' := 75) (L' := [some (.ref x0), some (.int x1), some (.int x2), some (.ref x3), some (.int x4), some (.int x5)]) (st' := [.int x5, .ref x3, .int v31, .int x1, .ref x0]) (sg := [(.aload_n 3, 0), (.iload 5, 0)]) (by decide +kernel) rfl ?_
      obtain ⟨_, o33, e32, m34, h⟩ := gOb_inv h
      refine Y.callA (yC.Vi (b := x3) (As := [.int x5]) (st := [.int v31, .int x1, .ref x0]) (r := ("java/util/ArrayList", T_AL, 3)) hV.1.1 cb_AL_get lk_M_57 in_AL_get rfl se_AL_get (by decide +kernel) rfl rfl (Nat.le_of_ble_eq_true rfl) (by decide) e32 m34) (k_AL_get hV.1 G30 x3 x5) h (fun v36 G35 _ h => ?_)
      refine Y.castA (t0 := 0) (nm := "[I") (by decide +kernel) rfl (by decide) ck_M_72 h (fun h => ?_)
      obtain ⟨_, o38, e37, m39, h⟩ := gOb_inv h
      refine Y.callA (yC.Vi (b := x0) (As := [.int x1, .int v31, .ref v36]) (st := []) (r := ("PartlisterModel", T_M, 9)) hV.1.1 cb_M_write lk_M_150 in_M_write rfl se_M_write (by decide +kernel) rfl rfl (Nat.le_of_ble_eq_true rfl) (by decide) e37 m39) (k_M_write hV.1 G35 x0 x1 v31 v36) h (fun v41 G40 _ h => ?_)
      refine Y.blk (pc' := 88) (L' := [some (.ref x0), some (.int x1), some (.int x2), some (.ref x3), some (.int x4), some (.int (x5 + (nI 1)))]) (st' := []) (sg := [(.pop, 0), (.iinc 5 1, nI 1)]) (by decide +kernel) rfl ?_
      refine Y.goto (off := -34) (tgt := 54) (by decide +kernel) (by decide) ?_
      exact ih G40 x0 x1 x2 x3 x4 (x5 + (nI 1)) h
theorem k_M_move {l : Launch} {D : va_G} {B : Nat} {O : State → Heap → Prop} {w : Nat → Nat} (hV : zGw l D B O w) (G : gH) (a0 : Nat) (a1 : Int32) (a2 : Int32) : gMet (zVm l D B O) m_M_move 14 [.ref a0, .int a1, .int a2] G (f_M_move w G a0 a1 a2) := by
  refine gMet.of (by decide +kernel) (Nat.le_of_ble_eq_true rfl) [some (.ref a0), some (.int a1), some (.int a2), none, none, none] (fun ls h => zEn_ok (n := 6) h) ?_
  intro o Gf h
  unfold f_M_move at h
  refine Y.blk (pc' := 3) (L' := [some (.ref a0), some (.int a1), some (.int a2), none, none, none]) (st' := [.int a1, .ref a0, .ref a0]) (sg := [(.aload_n 0, 0), (.aload_n 0, 0), (.iload_n 1, 0)]) (by decide +kernel) rfl ?_
  obtain ⟨_, o2, e1, m3, h⟩ := gOb_inv h
  refine Y.callI (yC.Vi (b := a0) (As := [.int a1]) (st := [.ref a0]) (r := ("PartlisterModel", T_M, 9)) hV.1.1 cb_M_isNoList lk_M_110 in_M_isNoList rfl se_M_isNoList (by decide +kernel) rfl rfl (Nat.le_of_ble_eq_true rfl) (by decide) e1 m3) (k_M_isNoList hV.1 G a0 a1) h (fun v5 G4 _ h => ?_)
  refine Y.blk (pc' := 7) (L' := [some (.ref a0), some (.int a1), some (.int a2), none, none, none]) (st' := [.int (nI 1), .int v5, .ref a0]) (sg := [(.iconst 1, nI 1)]) (by decide +kernel) rfl ?_
  obtain ⟨_, o7, e6, m8, h⟩ := gOb_inv h
  refine Y.callI (yC.Vi (b := a0) (As := [.int v5, .int (nI 1)]) (st := []) (r := ("PartlisterModel", T_M, 9)) hV.1.1 cb_M_start lk_M_114 in_M_start rfl se_M_start (by decide +kernel) rfl rfl (Nat.le_of_ble_eq_true rfl) (by decide) e6 m8) (k_M_start hV.1 G4 a0 v5 (nI 1)) h (fun v10 G9 _ h => ?_)
  refine Y.if_ne (off := 27) (tgt := 37) (by decide +kernel) (by decide) h (fun c83 h => ?_) (fun c83 h => ?_)
  · refine Y.blk (pc' := 19) (L' := [some (.ref a0), some (.int a1), some (.int a2), none, none, none]) (st' := [.int (nI 40), .int (-40), .int a2, .ref a0]) (sg := [(.aload_n 0, 0), (.iload_n 2, 0), (.bipush (-40), -40), (.bipush 40, nI 40)]) (by decide +kernel) rfl ?_
    refine Y.callI (yC.S (As := [.int a2, .int (-40), .int (nI 40)]) (st := [.ref a0]) hV.1.1 cb_M_isIn lk_M_40 st_M_isIn (by decide +kernel) rfl rfl (Nat.le_of_ble_eq_true rfl) (by decide)) (k_M_isIn hV.1 G9 a2 (-40) (nI 40)) h (fun v13 G12 _ h => ?_)
    refine Y.if_ne (off := 7) (tgt := 29) (by decide +kernel) (by decide) h (fun c82 h => ?_) (fun c82 h => ?_)
    · refine Y.blk (pc' := 26) (L' := [some (.ref a0), some (.int a1), some (.int a2), none, none, none]) (st' := [.int (nI 1), .ref a0]) (sg := [(.iconst 1, nI 1)]) (by decide +kernel) rfl ?_
      refine Y.goto (off := 4) (tgt := 30) (by decide +kernel) (by decide) ?_
      refine Y.blk (pc' := 31) (L' := [some (.ref a0), some (.int a1), some (.int a2), none, none, none]) (st' := [.int (nI 2), .int (nI 1), .ref a0]) (sg := [(.iconst 2, nI 2)]) (by decide +kernel) rfl ?_
      obtain ⟨_, o15, e14, m16, h⟩ := gOb_inv h
      refine Y.callI (yC.Vi (b := a0) (As := [.int (nI 1), .int (nI 2)]) (st := []) (r := ("PartlisterModel", T_M, 9)) hV.1.1 cb_M_refuse lk_M_36 in_M_refuse rfl se_M_refuse (by decide +kernel) rfl rfl (Nat.le_of_ble_eq_true rfl) (by decide) e14 m16) (k_M_refuse hV.1 G12 a0 (nI 1) (nI 2)) h (fun v18 G17 _ h => ?_)
      refine Y.if_eq (off := 5) (tgt := 39) (by decide +kernel) (by decide) h (fun c54 h => ?_) (fun c54 h => ?_)
      · refine Y.blk (pc' := 41) (L' := [some (.ref a0), some (.int a1), some (.int a2), none, none, none]) (st' := [.int a1, .ref a0]) (sg := [(.aload_n 0, 0), (.iload_n 1, 0)]) (by decide +kernel) rfl ?_
        obtain ⟨_, o20, e19, m21, h⟩ := gOb_inv h
        refine Y.callA (yC.Vi (b := a0) (As := [.int a1]) (st := []) (r := ("PartlisterModel", T_M, 9)) hV.1.1 cb_M_copy lk_M_136 in_M_copy rfl se_M_copy (by decide +kernel) rfl rfl (Nat.le_of_ble_eq_true rfl) (by decide) e19 m21) (k_M_copy hV G17 a0 a1) h (fun v23 G22 _ h => ?_)
        refine Y.blk (pc' := 46) (L' := [some (.ref a0), some (.int a1), some (.int a2), some (.ref v23), none, none]) (st' := [.ref v23]) (sg := [(.astore_n 3, 0), (.aload_n 3, 0)]) (by decide +kernel) rfl ?_
        obtain ⟨_, o25, e24, m26, h⟩ := gOb_inv h
        refine Y.callI (yC.Vi (b := v23) (As := []) (st := []) (r := ("java/util/ArrayList", T_AL, 3)) hV.1.1 cb_AL_size lk_M_61 in_AL_size rfl se_AL_size (by decide +kernel) rfl rfl (Nat.le_of_ble_eq_true rfl) (by decide) e24 m26) (k_AL_size hV.1 G22 v23) h (fun v28 G27 _ h => ?_)
        refine Y.blk (pc' := 54) (L' := [some (.ref a0), some (.int a1), some (.int a2), some (.ref v23), some (.int v28), some (.int (nI 0))]) (st' := []) (sg := [(.istore 4, 0), (.iconst 0, nI 0), (.istore 5, 0)]) (by decide +kernel) rfl ?_
        refine k_M_move_L54 hV _ ?_  zFu G27 a0 a1 a2 v23 v28 (nI 0) h
        · intro G46 x43 x44 x45 h
          refine Y.blk (pc' := 93) (L' := [some (.ref x43), some (.int x44), none, none, some (.int x45), none]) (st' := [.int x45]) (sg := [(.iload 4, 0)]) (by decide +kernel) rfl ?_
          refine Y.if_ne (off := 7) (tgt := 100) (by decide +kernel) (by decide) h (fun c53 h => ?_) (fun c53 h => ?_)
          · refine Y.blk (pc' := 97) (L' := [some (.ref x43), some (.int x44), none, none, some (.int x45), none]) (st' := [.int (-1)]) (sg := [(.iconst (-1), -1)]) (by decide +kernel) rfl ?_
            refine Y.goto (off := 11) (tgt := 108) (by decide +kernel) (by decide) ?_
            exact Y.iret rfl (by decide +kernel) h
          · refine Y.blk (pc' := 103) (L' := [some (.ref x43), some (.int x44), none, none, some (.int x45), none]) (st' := [.int (nI 0), .int x44, .ref x43]) (sg := [(.aload_n 0, 0), (.iload_n 1, 0), (.iconst 0, nI 0)]) (by decide +kernel) rfl ?_
            obtain ⟨_, o48, e47, m49, h⟩ := gOb_inv h
            refine Y.callA (yC.Vi (b := x43) (As := [.int x44, .int (nI 0)]) (st := []) (r := ("PartlisterModel", T_M, 9)) hV.1.1 cb_M_at lk_M_132 in_M_at rfl se_M_at (by decide +kernel) rfl rfl (Nat.le_of_ble_eq_true rfl) (by decide) e47 m49) (k_M_at hV.1 G46 x43 x44 (nI 0)) h (fun v51 G50 _ h => ?_)
            refine Y.blk (pc' := 107) (L' := [some (.ref x43), some (.int x44), none, none, some (.int x45), none]) (st' := [.int (nI 1), .ref v51]) (sg := [(.iconst 1, nI 1)]) (by decide +kernel) rfl ?_
            refine Y.iald (t0 := 0) (by decide +kernel) rfl h (fun v52 h => ?_)
            exact Y.iret rfl (by decide +kernel) h
      · refine Y.blk (pc' := 38) (L' := [some (.ref a0), some (.int a1), some (.int a2), none, none, none]) (st' := [.int (nI 0)]) (sg := [(.iconst 0, nI 0)]) (by decide +kernel) rfl ?_
        exact Y.iret rfl (by decide +kernel) h
    · refine Y.blk (pc' := 31) (L' := [some (.ref a0), some (.int a1), some (.int a2), none, none, none]) (st' := [.int (nI 2), .int (nI 0), .ref a0]) (sg := [(.iconst 0, nI 0), (.iconst 2, nI 2)]) (by decide +kernel) rfl ?_
      obtain ⟨_, o56, e55, m57, h⟩ := gOb_inv h
      refine Y.callI (yC.Vi (b := a0) (As := [.int (nI 0), .int (nI 2)]) (st := []) (r := ("PartlisterModel", T_M, 9)) hV.1.1 cb_M_refuse lk_M_36 in_M_refuse rfl se_M_refuse (by decide +kernel) rfl rfl (Nat.le_of_ble_eq_true rfl) (by decide) e55 m57) (k_M_refuse hV.1 G12 a0 (nI 0) (nI 2)) h (fun v59 G58 _ h => ?_)
      refine Y.if_eq (off := 5) (tgt := 39) (by decide +kernel) (by decide) h (fun c81 h => ?_) (fun c81 h => ?_)
      · refine Y.blk (pc' := 41) (L' := [some (.ref a0), some (.int a1), some (.int a2), none, none, none]) (st' := [.int a1, .ref a0]) (sg := [(.aload_n 0, 0), (.iload_n 1, 0)]) (by decide +kernel) rfl ?_
        obtain ⟨_, o61, e60, m62, h⟩ := gOb_inv h
        refine Y.callA (yC.Vi (b := a0) (As := [.int a1]) (st := []) (r := ("PartlisterModel", T_M, 9)) hV.1.1 cb_M_copy lk_M_136 in_M_copy rfl se_M_copy (by decide +kernel) rfl rfl (Nat.le_of_ble_eq_true rfl) (by decide) e60 m62) (k_M_copy hV G58 a0 a1) h (fun v64 G63 _ h => ?_)
        refine Y.blk (pc' := 46) (L' := [some (.ref a0), some (.int a1), some (.int a2), some (.ref v64), none, none]) (st' := [.ref v64]) (sg := [(.astore_n 3, 0), (.aload_n 3, 0)]) (by decide +kernel) rfl ?_
        obtain ⟨_, o66, e65, m67, h⟩ := gOb_inv h
        refine Y.callI (yC.Vi (b := v64) (As := []) (st := []) (r := ("java/util/ArrayList", T_AL, 3)) hV.1.1 cb_AL_size lk_M_61 in_AL_size rfl se_AL_size (by decide +kernel) rfl rfl (Nat.le_of_ble_eq_true rfl) (by decide) e65 m67) (k_AL_size hV.1 G63 v64) h (fun v69 G68 _ h => ?_)
        refine Y.blk (pc' := 54) (L' := [some (.ref a0), some (.int a1), some (.int a2), some (.ref v64), some (.int v69), some (.int (nI 0))]) (st' := []) (sg := [(.istore 4, 0), (.iconst 0, nI 0), (.istore 5, 0)]) (by decide +kernel) rfl ?_
        refine k_M_move_L54 hV _ ?_  zFu G68 a0 a1 a2 v64 v69 (nI 0) h
        · intro G73 x70 x71 x72 h
          refine Y.blk (pc' := 93) (L' := [some (.ref x70), some (.int x71), none, none, some (.int x72), none]) (st' := [.int x72]) (sg := [(.iload 4, 0)]) (by decide +kernel) rfl ?_
          refine Y.if_ne (off := 7) (tgt := 100) (by decide +kernel) (by decide) h (fun c80 h => ?_) (fun c80 h => ?_)
          · refine Y.blk (pc' := 97) (L' := [some (.ref x70), some (.int x71), none, none, some (.int x72), none]) (st' := [.int (-1)]) (sg := [(.iconst (-1), -1)]) (by decide +kernel) rfl ?_
            refine Y.goto (off := 11) (tgt := 108) (by decide +kernel) (by decide) ?_
            exact Y.iret rfl (by decide +kernel) h
          · refine Y.blk (pc' := 103) (L' := [some (.ref x70), some (.int x71), none, none, some (.int x72), none]) (st' := [.int (nI 0), .int x71, .ref x70]) (sg := [(.aload_n 0, 0), (.iload_n 1, 0), (.iconst 0, nI 0)]) (by decide +kernel) rfl ?_
            obtain ⟨_, o75, e74, m76, h⟩ := gOb_inv h
            refine Y.callA (yC.Vi (b := x70) (As := [.int x71, .int (nI 0)]) (st := []) (r := ("PartlisterModel", T_M, 9)) hV.1.1 cb_M_at lk_M_132 in_M_at rfl se_M_at (by decide +kernel) rfl rfl (Nat.le_of_ble_eq_true rfl) (by decide) e74 m76) (k_M_at hV.1 G73 x70 x71 (nI 0)) h (fun v78 G77 _ h => ?_)
            refine Y.blk (pc' := 107) (L' := [some (.ref x70), some (.int x71), none, none, some (.int x72), none]) (st' := [.int (nI 1), .ref v78]) (sg := [(.iconst 1, nI 1)]) (by decide +kernel) rfl ?_
            refine Y.iald (t0 := 0) (by decide +kernel) rfl h (fun v79 h => ?_)
            exact Y.iret rfl (by decide +kernel) h
      · refine Y.blk (pc' := 38) (L' := [some (.ref a0), some (.int a1), some (.int a2), none, none, none]) (st' := [.int (nI 0)]) (sg := [(.iconst 0, nI 0)]) (by decide +kernel) rfl ?_
        exact Y.iret rfl (by decide +kernel) h
  · refine Y.blk (pc' := 38) (L' := [some (.ref a0), some (.int a1), some (.int a2), none, none, none]) (st' := [.int (nI 0)]) (sg := [(.iconst 0, nI 0)]) (by decide +kernel) rfl ?_
    exact Y.iret rfl (by decide +kernel) h

def f_M_next (G : gH) (a0 : Nat) (a1 : Int32) : gR :=
  gOb G a0 6 fun o2 => bI (f_M_isNoCursor G a0 a1) fun v5 G4 => gOb G4 a0 6 fun o7 => bI (f_M_start G4 a0 v5 (nI 1)) fun v10 G9 => if v10 = 0 then (gFA G9 a0 6 3 fun v11 => gLdq G9 v11 105 a1 (none) fun v12 => gFI G9 v12 4 3 fun v13 => if v13 = 0 then (gFI G9 v12 4 1 fun v14 => gFI G9 v12 4 0 fun v15 => gOb G9 a0 6 fun o17 => bI (f_M_length G9 a0 v15) fun v20 G19 => if v14 = v20 then gOb G19 a0 6 fun o22 => bI (f_M_fault G19 a0 (-8)) fun v25 G24 => rI v25 G24
        else gFI G19 v12 4 1 fun v26 => gPut G19 v12 4 2 (.int v26) fun G27 => gFI G27 v12 4 1 fun v28 => gPut G27 v12 4 1 (.int (v28 + (nI 1))) fun G29 => gFI G29 v12 4 0 fun v30 => gFI G29 v12 4 2 fun v31 => gOb G29 a0 6 fun o33 => bA (f_M_at G29 a0 v30 v31) fun v36 G35 => gLd G35 v36 100 (nI 1) fun v37 => rI v37 G35)
      else gOb G9 a0 6 fun o40 => bI (f_M_fault G9 a0 (-9)) fun v43 G42 => rI v43 G42)
  else rI (nI 0) G9
theorem k_M_next {l : Launch} {D : va_G} {B : Nat} {O : State → Heap → Prop} (hV : zG l D B O) (G : gH) (a0 : Nat) (a1 : Int32) : gMet (zVm l D B O) m_M_next 13 [.ref a0, .int a1] G (f_M_next G a0 a1) := by
  refine gMet.of (by decide +kernel) (Nat.le_of_ble_eq_true rfl) [some (.ref a0), some (.int a1), none] (fun ls h => zEn_ok (n := 3) h) ?_
  intro o Gf h
  unfold f_M_next at h
  refine Y.blk (pc' := 3) (L' := [some (.ref a0), some (.int a1), none]) (st' := [.int a1, .ref a0, .ref a0]) (sg := [(.aload_n 0, 0), (.aload_n 0, 0), (.iload_n 1, 0)]) (by decide +kernel) rfl ?_
  obtain ⟨_, o2, e1, m3, h⟩ := gOb_inv h
  refine Y.callI (yC.Vi (b := a0) (As := [.int a1]) (st := [.ref a0]) (r := ("PartlisterModel", T_M, 9)) hV.1 cb_M_isNoCursor lk_M_214 in_M_isNoCursor rfl se_M_isNoCursor (by decide +kernel) rfl rfl (Nat.le_of_ble_eq_true rfl) (by decide) e1 m3) (k_M_isNoCursor hV G a0 a1) h (fun v5 G4 _ h => ?_)
  refine Y.blk (pc' := 7) (L' := [some (.ref a0), some (.int a1), none]) (st' := [.int (nI 1), .int v5, .ref a0]) (sg := [(.iconst 1, nI 1)]) (by decide +kernel) rfl ?_
  obtain ⟨_, o7, e6, m8, h⟩ := gOb_inv h
  refine Y.callI (yC.Vi (b := a0) (As := [.int v5, .int (nI 1)]) (st := []) (r := ("PartlisterModel", T_M, 9)) hV.1 cb_M_start lk_M_114 in_M_start rfl se_M_start (by decide +kernel) rfl rfl (Nat.le_of_ble_eq_true rfl) (by decide) e6 m8) (k_M_start hV G4 a0 v5 (nI 1)) h (fun v10 G9 _ h => ?_)
  refine Y.if_eq (off := 5) (tgt := 15) (by decide +kernel) (by decide) h (fun c45 h => ?_) (fun c45 h => ?_)
  · refine Y.blk (pc' := 16) (L' := [some (.ref a0), some (.int a1), none]) (st' := [.ref a0]) (sg := [(.aload_n 0, 0)]) (by decide +kernel) rfl ?_
    refine Y.getA fl_M_24 (by decide +kernel) h (fun v11 h => ?_)
    refine Y.blk (pc' := 20) (L' := [some (.ref a0), some (.int a1), none]) (st' := [.int a1, .ref v11]) (sg := [(.iload_n 1, 0)]) (by decide +kernel) rfl ?_
    refine Y.aald (t0 := 5) (by decide +kernel) rfl h (fun h => ?_) (fun v12 h => ?_)
    · refine Y.blk (pc' := 23) (L' := [some (.ref a0), some (.int a1), some (.null)]) (st' := [.null]) (sg := [(.astore_n 2, 0), (.aload_n 2, 0)]) (by decide +kernel) rfl ?_
      cases h
    · refine Y.blk (pc' := 23) (L' := [some (.ref a0), some (.int a1), some (.ref v12)]) (st' := [.ref v12]) (sg := [(.astore_n 2, 0), (.aload_n 2, 0)]) (by decide +kernel) rfl ?_
      refine Y.getI fl_M_99 (by decide +kernel) h (fun v13 h => ?_)
      refine Y.if_eq (off := 10) (tgt := 36) (by decide +kernel) (by decide) h (fun c44 h => ?_) (fun c44 h => ?_)
      · refine Y.blk (pc' := 37) (L' := [some (.ref a0), some (.int a1), some (.ref v12)]) (st' := [.ref v12]) (sg := [(.aload_n 2, 0)]) (by decide +kernel) rfl ?_
        refine Y.getI fl_M_208 (by decide +kernel) h (fun v14 h => ?_)
        refine Y.blk (pc' := 42) (L' := [some (.ref a0), some (.int a1), some (.ref v12)]) (st' := [.ref v12, .ref a0, .int v14]) (sg := [(.aload_n 0, 0), (.aload_n 2, 0)]) (by decide +kernel) rfl ?_
        refine Y.getI fl_M_89 (by decide +kernel) h (fun v15 h => ?_)
        obtain ⟨_, o17, e16, m18, h⟩ := gOb_inv h
        refine Y.callI (yC.Vi (b := a0) (As := [.int v15]) (st := [.int v14]) (r := ("PartlisterModel", T_M, 9)) hV.1 cb_M_length lk_M_74 in_M_length rfl se_M_length (by decide +kernel) rfl rfl (Nat.le_of_ble_eq_true rfl) (by decide) e16 m18) (k_M_length hV G9 a0 v15) h (fun v20 G19 _ h => ?_)
        refine Y.ic_ne (off := 10) (tgt := 58) (by decide +kernel) (by decide) h (fun c38 h => ?_) (fun c38 h => ?_)
        · refine Y.blk (pc' := 54) (L' := [some (.ref a0), some (.int a1), some (.ref v12)]) (st' := [.int (-8), .ref a0]) (sg := [(.aload_n 0, 0), (.bipush (-8), -8)]) (by decide +kernel) rfl ?_
          obtain ⟨_, o22, e21, m23, h⟩ := gOb_inv h
          refine Y.callI (yC.Vi (b := a0) (As := [.int (-8)]) (st := []) (r := ("PartlisterModel", T_M, 9)) hV.1 cb_M_fault lk_M_217 in_M_fault rfl se_M_fault (by decide +kernel) rfl rfl (Nat.le_of_ble_eq_true rfl) (by decide) e21 m23) (k_M_fault hV G19 a0 (-8)) h (fun v25 G24 _ h => ?_)
          exact Y.iret rfl (by decide +kernel) h
        · refine Y.blk (pc' := 60) (L' := [some (.ref a0), some (.int a1), some (.ref v12)]) (st' := [.ref v12, .ref v12]) (sg := [(.aload_n 2, 0), (.aload_n 2, 0)]) (by decide +kernel) rfl ?_
          refine Y.getI fl_M_208 (by decide +kernel) h (fun v26 h => ?_)
          refine Y.putf fl_M_220 (by decide) rfl rfl (by decide +kernel) h (fun G27 _ _ h => ?_)
          refine Y.blk (pc' := 68) (L' := [some (.ref a0), some (.int a1), some (.ref v12)]) (st' := [.ref v12, .ref v12]) (sg := [(.aload_n 2, 0), (.dup, 0)]) (by decide +kernel) rfl ?_
          refine Y.getI fl_M_208 (by decide +kernel) h (fun v28 h => ?_)
          refine Y.blk (pc' := 73) (L' := [some (.ref a0), some (.int a1), some (.ref v12)]) (st' := [.int (v28 + (nI 1)), .ref v12]) (sg := [(.iconst 1, nI 1), (.iadd, 0)]) (by decide +kernel) rfl ?_
          refine Y.putf fl_M_208 (by decide) rfl rfl (by decide +kernel) h (fun G29 _ _ h => ?_)
          refine Y.blk (pc' := 78) (L' := [some (.ref a0), some (.int a1), some (.ref v12)]) (st' := [.ref v12, .ref a0]) (sg := [(.aload_n 0, 0), (.aload_n 2, 0)]) (by decide +kernel) rfl ?_
          refine Y.getI fl_M_89 (by decide +kernel) h (fun v30 h => ?_)
          refine Y.blk (pc' := 82) (L' := [some (.ref a0), some (.int a1), some (.ref v12)]) (st' := [.ref v12, .int v30, .ref a0]) (sg := [(.aload_n 2, 0)]) (by decide +kernel) rfl ?_
          refine Y.getI fl_M_220 (by decide +kernel) h (fun v31 h => ?_)
          obtain ⟨_, o33, e32, m34, h⟩ := gOb_inv h
          refine Y.callA (yC.Vi (b := a0) (As := [.int v30, .int v31]) (st := []) (r := ("PartlisterModel", T_M, 9)) hV.1 cb_M_at lk_M_132 in_M_at rfl se_M_at (by decide +kernel) rfl rfl (Nat.le_of_ble_eq_true rfl) (by decide) e32 m34) (k_M_at hV G29 a0 v30 v31) h (fun v36 G35 _ h => ?_)
          refine Y.blk (pc' := 89) (L' := [some (.ref a0), some (.int a1), some (.ref v12)]) (st' := [.int (nI 1), .ref v36]) (sg := [(.iconst 1, nI 1)]) (by decide +kernel) rfl ?_
          refine Y.iald (t0 := 0) (by decide +kernel) rfl h (fun v37 h => ?_)
          exact Y.iret rfl (by decide +kernel) h
      · refine Y.blk (pc' := 32) (L' := [some (.ref a0), some (.int a1), some (.ref v12)]) (st' := [.int (-9), .ref a0]) (sg := [(.aload_n 0, 0), (.bipush (-9), -9)]) (by decide +kernel) rfl ?_
        obtain ⟨_, o40, e39, m41, h⟩ := gOb_inv h
        refine Y.callI (yC.Vi (b := a0) (As := [.int (-9)]) (st := []) (r := ("PartlisterModel", T_M, 9)) hV.1 cb_M_fault lk_M_217 in_M_fault rfl se_M_fault (by decide +kernel) rfl rfl (Nat.le_of_ble_eq_true rfl) (by decide) e39 m41) (k_M_fault hV G9 a0 (-9)) h (fun v43 G42 _ h => ?_)
        exact Y.iret rfl (by decide +kernel) h
  · refine Y.blk (pc' := 14) (L' := [some (.ref a0), some (.int a1), none]) (st' := [.int (nI 0)]) (sg := [(.iconst 0, nI 0)]) (by decide +kernel) rfl ?_
    exact Y.iret rfl (by decide +kernel) h

def f_M_ofCursor (G : gH) (a0 : Nat) (a1 : Int32) (a2 : Int32) : gR :=
  bI (f_M_isIn G a1 (nI 0) (nI 2)) fun v3 G2 => if v3 = 0 then (gOb G2 a0 6 fun o5 => bI (f_M_start G2 a0 (nI 1) (nI 1)) fun v8 G7 => if v8 = 0 then (bI (f_M_isIn G7 a2 (nI 0) (nI 6)) fun v11 G10 => if v11 = 0 then (gOb G10 a0 6 fun o13 => bI (f_M_refuse G10 a0 (nI 1) (nI 2)) fun v16 G15 => if v16 = 0 then gOb G15 a0 6 fun o18 => bI (f_M_cursorTold G15 a0 a1 a2) fun v21 G20 => rI v21 G20
        else rI (nI 0) G15)
      else gOb G10 a0 6 fun o24 => bI (f_M_refuse G10 a0 (nI 0) (nI 2)) fun v27 G26 => if v27 = 0 then gOb G26 a0 6 fun o29 => bI (f_M_cursorTold G26 a0 a1 a2) fun v32 G31 => rI v32 G31
        else rI (nI 0) G26)
    else rI (nI 0) G7)
  else gOb G2 a0 6 fun o37 => bI (f_M_start G2 a0 (nI 0) (nI 1)) fun v40 G39 => if v40 = 0 then (bI (f_M_isIn G39 a2 (nI 0) (nI 6)) fun v43 G42 => if v43 = 0 then (gOb G42 a0 6 fun o45 => bI (f_M_refuse G42 a0 (nI 1) (nI 2)) fun v48 G47 => if v48 = 0 then gOb G47 a0 6 fun o50 => bI (f_M_cursorTold G47 a0 a1 a2) fun v53 G52 => rI v53 G52
        else rI (nI 0) G47)
      else gOb G42 a0 6 fun o56 => bI (f_M_refuse G42 a0 (nI 0) (nI 2)) fun v59 G58 => if v59 = 0 then gOb G58 a0 6 fun o61 => bI (f_M_cursorTold G58 a0 a1 a2) fun v64 G63 => rI v64 G63
        else rI (nI 0) G58)
    else rI (nI 0) G39
theorem k_M_ofCursor {l : Launch} {D : va_G} {B : Nat} {O : State → Heap → Prop} (hV : zG l D B O) (G : gH) (a0 : Nat) (a1 : Int32) (a2 : Int32) : gMet (zVm l D B O) m_M_ofCursor 7 [.ref a0, .int a1, .int a2] G (f_M_ofCursor G a0 a1 a2) := by
  refine gMet.of (by decide +kernel) (Nat.le_of_ble_eq_true rfl) [some (.ref a0), some (.int a1), some (.int a2)] (fun ls h => zEn_ok (n := 3) h) ?_
  intro o Gf h
  unfold f_M_ofCursor at h
  refine Y.blk (pc' := 4) (L' := [some (.ref a0), some (.int a1), some (.int a2)]) (st' := [.int (nI 2), .int (nI 0), .int a1, .ref a0]) (sg := [(.aload_n 0, 0), (.iload_n 1, 0), (.iconst 0, nI 0), (.iconst 2, nI 2)]) (by decide +kernel) rfl ?_
  refine Y.callI (yC.S (As := [.int a1, .int (nI 0), .int (nI 2)]) (st := [.ref a0]) hV.1 cb_M_isIn lk_M_40 st_M_isIn (by decide +kernel) rfl rfl (Nat.le_of_ble_eq_true rfl) (by decide)) (k_M_isIn hV G a1 (nI 0) (nI 2)) h (fun v3 G2 _ h => ?_)
  refine Y.if_ne (off := 7) (tgt := 14) (by decide +kernel) (by decide) h (fun c68 h => ?_) (fun c68 h => ?_)
  · refine Y.blk (pc' := 11) (L' := [some (.ref a0), some (.int a1), some (.int a2)]) (st' := [.int (nI 1), .ref a0]) (sg := [(.iconst 1, nI 1)]) (by decide +kernel) rfl ?_
    refine Y.goto (off := 4) (tgt := 15) (by decide +kernel) (by decide) ?_
    refine Y.blk (pc' := 16) (L' := [some (.ref a0), some (.int a1), some (.int a2)]) (st' := [.int (nI 1), .int (nI 1), .ref a0]) (sg := [(.iconst 1, nI 1)]) (by decide +kernel) rfl ?_
    obtain ⟨_, o5, e4, m6, h⟩ := gOb_inv h
    refine Y.callI (yC.Vi (b := a0) (As := [.int (nI 1), .int (nI 1)]) (st := []) (r := ("PartlisterModel", T_M, 9)) hV.1 cb_M_start lk_M_114 in_M_start rfl se_M_start (by decide +kernel) rfl rfl (Nat.le_of_ble_eq_true rfl) (by decide) e4 m6) (k_M_start hV G2 a0 (nI 1) (nI 1)) h (fun v8 G7 _ h => ?_)
    refine Y.if_ne (off := 26) (tgt := 45) (by decide +kernel) (by decide) h (fun c35 h => ?_) (fun c35 h => ?_)
    · refine Y.blk (pc' := 27) (L' := [some (.ref a0), some (.int a1), some (.int a2)]) (st' := [.int (nI 6), .int (nI 0), .int a2, .ref a0]) (sg := [(.aload_n 0, 0), (.iload_n 2, 0), (.iconst 0, nI 0), (.bipush 6, nI 6)]) (by decide +kernel) rfl ?_
      refine Y.callI (yC.S (As := [.int a2, .int (nI 0), .int (nI 6)]) (st := [.ref a0]) hV.1 cb_M_isIn lk_M_40 st_M_isIn (by decide +kernel) rfl rfl (Nat.le_of_ble_eq_true rfl) (by decide)) (k_M_isIn hV G7 a2 (nI 0) (nI 6)) h (fun v11 G10 _ h => ?_)
      refine Y.if_ne (off := 7) (tgt := 37) (by decide +kernel) (by decide) h (fun c34 h => ?_) (fun c34 h => ?_)
      · refine Y.blk (pc' := 34) (L' := [some (.ref a0), some (.int a1), some (.int a2)]) (st' := [.int (nI 1), .ref a0]) (sg := [(.iconst 1, nI 1)]) (by decide +kernel) rfl ?_
        refine Y.goto (off := 4) (tgt := 38) (by decide +kernel) (by decide) ?_
        refine Y.blk (pc' := 39) (L' := [some (.ref a0), some (.int a1), some (.int a2)]) (st' := [.int (nI 2), .int (nI 1), .ref a0]) (sg := [(.iconst 2, nI 2)]) (by decide +kernel) rfl ?_
        obtain ⟨_, o13, e12, m14, h⟩ := gOb_inv h
        refine Y.callI (yC.Vi (b := a0) (As := [.int (nI 1), .int (nI 2)]) (st := []) (r := ("PartlisterModel", T_M, 9)) hV.1 cb_M_refuse lk_M_36 in_M_refuse rfl se_M_refuse (by decide +kernel) rfl rfl (Nat.le_of_ble_eq_true rfl) (by decide) e12 m14) (k_M_refuse hV G10 a0 (nI 1) (nI 2)) h (fun v16 G15 _ h => ?_)
        refine Y.if_eq (off := 7) (tgt := 49) (by decide +kernel) (by decide) h (fun c22 h => ?_) (fun c22 h => ?_)
        · refine Y.blk (pc' := 52) (L' := [some (.ref a0), some (.int a1), some (.int a2)]) (st' := [.int a2, .int a1, .ref a0]) (sg := [(.aload_n 0, 0), (.iload_n 1, 0), (.iload_n 2, 0)]) (by decide +kernel) rfl ?_
          obtain ⟨_, o18, e17, m19, h⟩ := gOb_inv h
          refine Y.callI (yC.Vi (b := a0) (As := [.int a1, .int a2]) (st := []) (r := ("PartlisterModel", T_M, 9)) hV.1 cb_M_cursorTold lk_M_290 in_M_cursorTold rfl se_M_cursorTold (by decide +kernel) rfl rfl (Nat.le_of_ble_eq_true rfl) (by decide) e17 m19) (k_M_cursorTold hV G15 a0 a1 a2) h (fun v21 G20 _ h => ?_)
          exact Y.iret rfl (by decide +kernel) h
        · refine Y.blk (pc' := 46) (L' := [some (.ref a0), some (.int a1), some (.int a2)]) (st' := [.int (nI 0)]) (sg := [(.iconst 0, nI 0)]) (by decide +kernel) rfl ?_
          refine Y.goto (off := 9) (tgt := 55) (by decide +kernel) (by decide) ?_
          exact Y.iret rfl (by decide +kernel) h
      · refine Y.blk (pc' := 39) (L' := [some (.ref a0), some (.int a1), some (.int a2)]) (st' := [.int (nI 2), .int (nI 0), .ref a0]) (sg := [(.iconst 0, nI 0), (.iconst 2, nI 2)]) (by decide +kernel) rfl ?_
        obtain ⟨_, o24, e23, m25, h⟩ := gOb_inv h
        refine Y.callI (yC.Vi (b := a0) (As := [.int (nI 0), .int (nI 2)]) (st := []) (r := ("PartlisterModel", T_M, 9)) hV.1 cb_M_refuse lk_M_36 in_M_refuse rfl se_M_refuse (by decide +kernel) rfl rfl (Nat.le_of_ble_eq_true rfl) (by decide) e23 m25) (k_M_refuse hV G10 a0 (nI 0) (nI 2)) h (fun v27 G26 _ h => ?_)
        refine Y.if_eq (off := 7) (tgt := 49) (by decide +kernel) (by decide) h (fun c33 h => ?_) (fun c33 h => ?_)
        · refine Y.blk (pc' := 52) (L' := [some (.ref a0), some (.int a1), some (.int a2)]) (st' := [.int a2, .int a1, .ref a0]) (sg := [(.aload_n 0, 0), (.iload_n 1, 0), (.iload_n 2, 0)]) (by decide +kernel) rfl ?_
          obtain ⟨_, o29, e28, m30, h⟩ := gOb_inv h
          refine Y.callI (yC.Vi (b := a0) (As := [.int a1, .int a2]) (st := []) (r := ("PartlisterModel", T_M, 9)) hV.1 cb_M_cursorTold lk_M_290 in_M_cursorTold rfl se_M_cursorTold (by decide +kernel) rfl rfl (Nat.le_of_ble_eq_true rfl) (by decide) e28 m30) (k_M_cursorTold hV G26 a0 a1 a2) h (fun v32 G31 _ h => ?_)
          exact Y.iret rfl (by decide +kernel) h
        · refine Y.blk (pc' := 46) (L' := [some (.ref a0), some (.int a1), some (.int a2)]) (st' := [.int (nI 0)]) (sg := [(.iconst 0, nI 0)]) (by decide +kernel) rfl ?_
          refine Y.goto (off := 9) (tgt := 55) (by decide +kernel) (by decide) ?_
          exact Y.iret rfl (by decide +kernel) h
    · refine Y.blk (pc' := 46) (L' := [some (.ref a0), some (.int a1), some (.int a2)]) (st' := [.int (nI 0)]) (sg := [(.iconst 0, nI 0)]) (by decide +kernel) rfl ?_
      refine Y.goto (off := 9) (tgt := 55) (by decide +kernel) (by decide) ?_
      exact Y.iret rfl (by decide +kernel) h
  · refine Y.blk (pc' := 16) (L' := [some (.ref a0), some (.int a1), some (.int a2)]) (st' := [.int (nI 1), .int (nI 0), .ref a0]) (sg := [(.iconst 0, nI 0), (.iconst 1, nI 1)]) (by decide +kernel) rfl ?_
    obtain ⟨_, o37, e36, m38, h⟩ := gOb_inv h
    refine Y.callI (yC.Vi (b := a0) (As := [.int (nI 0), .int (nI 1)]) (st := []) (r := ("PartlisterModel", T_M, 9)) hV.1 cb_M_start lk_M_114 in_M_start rfl se_M_start (by decide +kernel) rfl rfl (Nat.le_of_ble_eq_true rfl) (by decide) e36 m38) (k_M_start hV G2 a0 (nI 0) (nI 1)) h (fun v40 G39 _ h => ?_)
    refine Y.if_ne (off := 26) (tgt := 45) (by decide +kernel) (by decide) h (fun c67 h => ?_) (fun c67 h => ?_)
    · refine Y.blk (pc' := 27) (L' := [some (.ref a0), some (.int a1), some (.int a2)]) (st' := [.int (nI 6), .int (nI 0), .int a2, .ref a0]) (sg := [(.aload_n 0, 0), (.iload_n 2, 0), (.iconst 0, nI 0), (.bipush 6, nI 6)]) (by decide +kernel) rfl ?_
      refine Y.callI (yC.S (As := [.int a2, .int (nI 0), .int (nI 6)]) (st := [.ref a0]) hV.1 cb_M_isIn lk_M_40 st_M_isIn (by decide +kernel) rfl rfl (Nat.le_of_ble_eq_true rfl) (by decide)) (k_M_isIn hV G39 a2 (nI 0) (nI 6)) h (fun v43 G42 _ h => ?_)
      refine Y.if_ne (off := 7) (tgt := 37) (by decide +kernel) (by decide) h (fun c66 h => ?_) (fun c66 h => ?_)
      · refine Y.blk (pc' := 34) (L' := [some (.ref a0), some (.int a1), some (.int a2)]) (st' := [.int (nI 1), .ref a0]) (sg := [(.iconst 1, nI 1)]) (by decide +kernel) rfl ?_
        refine Y.goto (off := 4) (tgt := 38) (by decide +kernel) (by decide) ?_
        refine Y.blk (pc' := 39) (L' := [some (.ref a0), some (.int a1), some (.int a2)]) (st' := [.int (nI 2), .int (nI 1), .ref a0]) (sg := [(.iconst 2, nI 2)]) (by decide +kernel) rfl ?_
        obtain ⟨_, o45, e44, m46, h⟩ := gOb_inv h
        refine Y.callI (yC.Vi (b := a0) (As := [.int (nI 1), .int (nI 2)]) (st := []) (r := ("PartlisterModel", T_M, 9)) hV.1 cb_M_refuse lk_M_36 in_M_refuse rfl se_M_refuse (by decide +kernel) rfl rfl (Nat.le_of_ble_eq_true rfl) (by decide) e44 m46) (k_M_refuse hV G42 a0 (nI 1) (nI 2)) h (fun v48 G47 _ h => ?_)
        refine Y.if_eq (off := 7) (tgt := 49) (by decide +kernel) (by decide) h (fun c54 h => ?_) (fun c54 h => ?_)
        · refine Y.blk (pc' := 52) (L' := [some (.ref a0), some (.int a1), some (.int a2)]) (st' := [.int a2, .int a1, .ref a0]) (sg := [(.aload_n 0, 0), (.iload_n 1, 0), (.iload_n 2, 0)]) (by decide +kernel) rfl ?_
          obtain ⟨_, o50, e49, m51, h⟩ := gOb_inv h
          refine Y.callI (yC.Vi (b := a0) (As := [.int a1, .int a2]) (st := []) (r := ("PartlisterModel", T_M, 9)) hV.1 cb_M_cursorTold lk_M_290 in_M_cursorTold rfl se_M_cursorTold (by decide +kernel) rfl rfl (Nat.le_of_ble_eq_true rfl) (by decide) e49 m51) (k_M_cursorTold hV G47 a0 a1 a2) h (fun v53 G52 _ h => ?_)
          exact Y.iret rfl (by decide +kernel) h
        · refine Y.blk (pc' := 46) (L' := [some (.ref a0), some (.int a1), some (.int a2)]) (st' := [.int (nI 0)]) (sg := [(.iconst 0, nI 0)]) (by decide +kernel) rfl ?_
          refine Y.goto (off := 9) (tgt := 55) (by decide +kernel) (by decide) ?_
          exact Y.iret rfl (by decide +kernel) h
      · refine Y.blk (pc' := 39) (L' := [some (.ref a0), some (.int a1), some (.int a2)]) (st' := [.int (nI 2), .int (nI 0), .ref a0]) (sg := [(.iconst 0, nI 0), (.iconst 2, nI 2)]) (by decide +kernel) rfl ?_
        obtain ⟨_, o56, e55, m57, h⟩ := gOb_inv h
        refine Y.callI (yC.Vi (b := a0) (As := [.int (nI 0), .int (nI 2)]) (st := []) (r := ("PartlisterModel", T_M, 9)) hV.1 cb_M_refuse lk_M_36 in_M_refuse rfl se_M_refuse (by decide +kernel) rfl rfl (Nat.le_of_ble_eq_true rfl) (by decide) e55 m57) (k_M_refuse hV G42 a0 (nI 0) (nI 2)) h (fun v59 G58 _ h => ?_)
        refine Y.if_eq (off := 7) (tgt := 49) (by decide +kernel) (by decide) h (fun c65 h => ?_) (fun c65 h => ?_)
        · refine Y.blk (pc' := 52) (L' := [some (.ref a0), some (.int a1), some (.int a2)]) (st' := [.int a2, .int a1, .ref a0]) (sg := [(.aload_n 0, 0), (.iload_n 1, 0), (.iload_n 2, 0)]) (by decide +kernel) rfl ?_
          obtain ⟨_, o61, e60, m62, h⟩ := gOb_inv h
          refine Y.callI (yC.Vi (b := a0) (As := [.int a1, .int a2]) (st := []) (r := ("PartlisterModel", T_M, 9)) hV.1 cb_M_cursorTold lk_M_290 in_M_cursorTold rfl se_M_cursorTold (by decide +kernel) rfl rfl (Nat.le_of_ble_eq_true rfl) (by decide) e60 m62) (k_M_cursorTold hV G58 a0 a1 a2) h (fun v64 G63 _ h => ?_)
          exact Y.iret rfl (by decide +kernel) h
        · refine Y.blk (pc' := 46) (L' := [some (.ref a0), some (.int a1), some (.int a2)]) (st' := [.int (nI 0)]) (sg := [(.iconst 0, nI 0)]) (by decide +kernel) rfl ?_
          refine Y.goto (off := 9) (tgt := 55) (by decide +kernel) (by decide) ?_
          exact Y.iret rfl (by decide +kernel) h
    · refine Y.blk (pc' := 46) (L' := [some (.ref a0), some (.int a1), some (.int a2)]) (st' := [.int (nI 0)]) (sg := [(.iconst 0, nI 0)]) (by decide +kernel) rfl ?_
      refine Y.goto (off := 9) (tgt := 55) (by decide +kernel) (by decide) ?_
      exact Y.iret rfl (by decide +kernel) h
