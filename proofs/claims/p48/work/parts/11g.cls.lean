def f_I_isSameBackward_L13 (K40 : gH → gR) (K48 : gH → gR) : Nat → gH → Nat → Int32 → Int32 → gR
  | 0, _, _, _, _ => none
  | n + 1, G, x0, x1, x2 =>
    if x2 < 0 then K48 G
    else gOb G x0 1 fun o9 => bI (f_I_thingInSpare G x0 x2) fun v11 G10 => gOb G10 x0 1 fun o13 => bI (f_I_thingAt G10 x0 x1 x2) fun v15 G14 => if v11 = v15 then (gOb G14 x0 1 fun o17 => bI (f_I_placeInSpare G14 x0 x2) fun v19 G18 => if v19 = x2 then f_I_isSameBackward_L13 K40 K48 n G18 x0 x1 (x2 + (-1))
        else K40 G18)
      else K40 G14
def f_I_isSameBackward (G : gH) (a0 : Nat) (a1 : Int32) : gR :=
  gOb G a0 1 fun o2 => bV (f_I_copyToSpare G a0 a1) fun G3 => gOb G3 a0 1 fun o5 => bI (f_I_lengthOf G3 a0 a1) fun v7 G6 => f_I_isSameBackward_L13 (fun G23 => rZ (nI 0) G23) (fun G24 => rZ (nI 1) G24) zFu G6 a0 a1 (v7 - (nI 1))
theorem k_I_isSameBackward_L13 {l : Launch} {D : va_G} {B : Nat} {O : State → Heap → Prop} (hV : zG l D B O) {o : gO} {Gf : gH} (K40 : gH → gR) (K48 : gH → gR) (hK40 : ∀ (G : gH), K40 G  = some (o, Gf) → Y (zVm l D B O) m_I_isSameBackward 5 o Gf 40 [none, none, none] [] G) (hK48 : ∀ (G : gH), K48 G  = some (o, Gf) → Y (zVm l D B O) m_I_isSameBackward 5 o Gf 48 [none, none, none] [] G) : ∀ (n : Nat) (G : gH) (x0 : Nat) (x1 : Int32) (x2 : Int32), f_I_isSameBackward_L13 K40 K48 n G x0 x1 x2 = some (o, Gf) → Y (zVm l D B O) m_I_isSameBackward 5 o Gf 13 [some (.ref x0), some (.int x1), some (.int x2)] [] G := by
  intro n
  induction n with
  | zero => intro G x0 x1 x2 h; cases h
  | succ n ih =>
    intro G x0 x1 x2 h
    unfold f_I_isSameBackward_L13 at h
    refine Y.blk (pc' := 14) (L' := [some (.ref x0), some (.int x1), some (.int x2)]) (st' := [.int x2]) (sg := [(.iload_n 2, 0)]) (by decide +kernel) rfl ?_
    refine Y.if_lt (off := 34) (tgt := 48) (by decide +kernel) (by decide) h (fun c22 h => ?_) (fun c22 h => ?_)
    · refine Y.less (L' := [none, none, none]) (zLe_none (zLe_none (zLe_none (zLe_nil)))) ?_
      exact hK48 G  h
    · refine Y.blk (pc' := 19) (L' := [some (.ref x0), some (.int x1), some (.int x2)]) (st' := [.int x2, .ref x0]) (sg := [(.aload_n 0, 0), (.iload_n 2, 0)]) (by decide +kernel) rfl ?_
      obtain ⟨o9, e8, h⟩ := gOb_inv h
      refine Y.callI (yC.Vi (b := x0) (As := [.int x2]) (st := []) (r := ("Partlister$Lists", T_I, 7)) hV.1 cb_I_thingInSpare lk_I_73 in_I_thingInSpare rfl se_I_thingInSpare (by decide +kernel) rfl rfl (Nat.le_of_ble_eq_true rfl) (by decide) e8) (k_I_thingInSpare hV G x0 x2) h (fun v11 G10 _ h => ?_)
      refine Y.blk (pc' := 25) (L' := [some (.ref x0), some (.int x1), some (.int x2)]) (st' := [.int x2, .int x1, .ref x0, .int v11]) (sg := [(.aload_n 0, 0), (.iload_n 1, 0), (.iload_n 2, 0)]) (by decide +kernel) rfl ?_
      obtain ⟨o13, e12, h⟩ := gOb_inv h
      refine Y.callI (yC.Vi (b := x0) (As := [.int x1, .int x2]) (st := [.int v11]) (r := ("Partlister$Lists", T_I, 7)) hV.1 cb_I_thingAt lk_I_50 in_I_thingAt rfl se_I_thingAt (by decide +kernel) rfl rfl (Nat.le_of_ble_eq_true rfl) (by decide) e12) (k_I_thingAt hV G10 x0 x1 x2) h (fun v15 G14 _ h => ?_)
      refine Y.ic_ne (off := 12) (tgt := 40) (by decide +kernel) (by decide) h (fun c21 h => ?_) (fun c21 h => ?_)
      · refine Y.blk (pc' := 33) (L' := [some (.ref x0), some (.int x1), some (.int x2)]) (st' := [.int x2, .ref x0]) (sg := [(.aload_n 0, 0), (.iload_n 2, 0)]) (by decide +kernel) rfl ?_
        obtain ⟨o17, e16, h⟩ := gOb_inv h
        refine Y.callI (yC.Vi (b := x0) (As := [.int x2]) (st := []) (r := ("Partlister$Lists", T_I, 7)) hV.1 cb_I_placeInSpare lk_I_122 in_I_placeInSpare rfl se_I_placeInSpare (by decide +kernel) rfl rfl (Nat.le_of_ble_eq_true rfl) (by decide) e16) (k_I_placeInSpare hV G14 x0 x2) h (fun v19 G18 _ h => ?_)
        refine Y.blk (pc' := 37) (L' := [some (.ref x0), some (.int x1), some (.int x2)]) (st' := [.int x2, .int v19]) (sg := [(.iload_n 2, 0)]) (by decide +kernel) rfl ?_
        refine Y.ic_eq (off := 5) (tgt := 42) (by decide +kernel) (by decide) h (fun c20 h => ?_) (fun c20 h => ?_)
        · refine Y.blk (pc' := 45) (L' := [some (.ref x0), some (.int x1), some (.int (x2 + (-1)))]) (st' := []) (sg := [(.iinc 2 (-1), -1)]) (by decide +kernel) rfl ?_
          refine Y.goto (off := -32) (tgt := 13) (by decide +kernel) (by decide) ?_
          exact ih G18 x0 x1 (x2 + (-1)) h
        · refine Y.less (L' := [none, none, none]) (zLe_none (zLe_none (zLe_none (zLe_nil)))) ?_
          exact hK40 G18  h
      · refine Y.less (L' := [none, none, none]) (zLe_none (zLe_none (zLe_none (zLe_nil)))) ?_
        exact hK40 G14  h
theorem k_I_isSameBackward {l : Launch} {D : va_G} {B : Nat} {O : State → Heap → Prop} (hV : zG l D B O) (G : gH) (a0 : Nat) (a1 : Int32) : gMet (zVm l D B O) m_I_isSameBackward 5 [.ref a0, .int a1] G (f_I_isSameBackward G a0 a1) := by
  refine gMet.of (by decide +kernel) (Nat.le_of_ble_eq_true rfl) [some (.ref a0), some (.int a1), none] (fun ls h => zEn_ok (n := 3) h) ?_
  intro o Gf h
  unfold f_I_isSameBackward at h
  refine Y.blk (pc' := 2) (L' := [some (.ref a0), some (.int a1), none]) (st' := [.int a1, .ref a0]) (sg := [(.aload_n 0, 0), (.iload_n 1, 0)]) (by decide +kernel) rfl ?_
  obtain ⟨o2, e1, h⟩ := gOb_inv h
  refine Y.callN (yC.Vi (b := a0) (As := [.int a1]) (st := []) (r := ("Partlister$Lists", T_I, 7)) hV.1 cb_I_copyToSpare lk_I_65 in_I_copyToSpare rfl se_I_copyToSpare (by decide +kernel) rfl rfl (Nat.le_of_ble_eq_true rfl) (by decide) e1) (k_I_copyToSpare hV G a0 a1) h (fun G3 _ h => ?_)
  refine Y.blk (pc' := 7) (L' := [some (.ref a0), some (.int a1), none]) (st' := [.int a1, .ref a0]) (sg := [(.aload_n 0, 0), (.iload_n 1, 0)]) (by decide +kernel) rfl ?_
  obtain ⟨o5, e4, h⟩ := gOb_inv h
  refine Y.callI (yC.Vi (b := a0) (As := [.int a1]) (st := []) (r := ("Partlister$Lists", T_I, 7)) hV.1 cb_I_lengthOf lk_I_59 in_I_lengthOf rfl se_I_lengthOf (by decide +kernel) rfl rfl (Nat.le_of_ble_eq_true rfl) (by decide) e4) (k_I_lengthOf hV G3 a0 a1) h (fun v7 G6 _ h => ?_)
  refine Y.blk (pc' := 13) (L' := [some (.ref a0), some (.int a1), some (.int (v7 - (nI 1)))]) (st' := []) (sg := [(.iconst 1, nI 1), (.isub, 0), (.istore_n 2, 0)]) (by decide +kernel) rfl ?_
  refine k_I_isSameBackward_L13 hV _ _ ?_ ?_  zFu G6 a0 a1 (v7 - (nI 1)) h
  · intro G23 h
    refine Y.blk (pc' := 41) (L' := [none, none, none]) (st' := [.int (nI 0)]) (sg := [(.iconst 0, nI 0)]) (by decide +kernel) rfl ?_
    exact Y.zret rfl (by decide +kernel) h
  · intro G24 h
    refine Y.blk (pc' := 49) (L' := [none, none, none]) (st' := [.int (nI 1)]) (sg := [(.iconst 1, nI 1)]) (by decide +kernel) rfl ?_
    exact Y.zret rfl (by decide +kernel) h

def f_I_liesInAbove_L71 (K97 : gH → gR) (K105 : gH → gR) : Nat → gH → Nat → Int32 → Int32 → Int32 → Int32 → Int32 → gR
  | 0, _, _, _, _, _, _, _ => none
  | n + 1, G, x0, x1, x2, x3, x4, x5 =>
    if x4 ≤ x5 then K105 G
    else gOb G x0 1 fun o26 => bI (f_I_thingAt G x0 x1 x5) fun v28 G27 => gOb G27 x0 1 fun o30 => bI (f_I_thingAt G27 x0 x2 (x3 + x5)) fun v32 G31 => if v28 = v32 then f_I_liesInAbove_L71 K97 K105 n G31 x0 x1 x2 x3 x4 (x5 + (nI 1))
      else K97 G31
def f_I_liesInAbove (G : gH) (a0 : Nat) (a1 : Int32) : gR :=
  gFA G a0 1 2 fun v1 => gOb G v1 2 fun o3 => bI (f_N_read G v1 a1) fun v5 G4 => if v5 = (-1) then (if (nI 2) ≤ a1 then rZ (nI 0) G4
    else rZ (nI 1) G4)
  else gFA G4 a0 1 4 fun v7 => gOb G4 v7 2 fun o9 => bI (f_N_read G4 v7 a1) fun v11 G10 => gFA G10 a0 1 4 fun v12 => gOb G10 v12 2 fun o14 => bI (f_N_read G10 v12 v5) fun v16 G15 => gOb G15 a0 1 fun o18 => bI (f_I_lengthOf G15 a0 a1) fun v20 G19 => if (v11 - v16) < 0 then rZ (nI 0) G19
    else gOb G19 a0 1 fun o22 => bI (f_I_lengthOf G19 a0 v5) fun v24 G23 => if ((v11 - v16) + v20) ≤ v24 then f_I_liesInAbove_L71 (fun G35 => rZ (nI 0) G35) (fun G36 => rZ (nI 1) G36) zFu G23 a0 a1 v5 (v11 - v16) v20 (nI 0)
      else rZ (nI 0) G23
theorem k_I_liesInAbove_L71 {l : Launch} {D : va_G} {B : Nat} {O : State → Heap → Prop} (hV : zG l D B O) {o : gO} {Gf : gH} (K97 : gH → gR) (K105 : gH → gR) (hK97 : ∀ (G : gH), K97 G  = some (o, Gf) → Y (zVm l D B O) m_I_liesInAbove 4 o Gf 97 [none, none, none, none, none, none] [] G) (hK105 : ∀ (G : gH), K105 G  = some (o, Gf) → Y (zVm l D B O) m_I_liesInAbove 4 o Gf 105 [none, none, none, none, none, none] [] G) : ∀ (n : Nat) (G : gH) (x0 : Nat) (x1 : Int32) (x2 : Int32) (x3 : Int32) (x4 : Int32) (x5 : Int32), f_I_liesInAbove_L71 K97 K105 n G x0 x1 x2 x3 x4 x5 = some (o, Gf) → Y (zVm l D B O) m_I_liesInAbove 4 o Gf 71 [some (.ref x0), some (.int x1), some (.int x2), some (.int x3), some (.int x4), some (.int x5)] [] G := by
  intro n
  induction n with
  | zero => intro G x0 x1 x2 x3 x4 x5 h; cases h
  | succ n ih =>
    intro G x0 x1 x2 x3 x4 x5 h
    unfold f_I_liesInAbove_L71 at h
    refine Y.blk (pc' := 75) (L' := [some (.ref x0), some (.int x1), some (.int x2), some (.int x3), some (.int x4), some (.int x5)]) (st' := [.int x4, .int x5]) (sg := [(.iload 5, 0), (.iload 4, 0)]) (by decide +kernel) rfl ?_
    refine Y.ic_ge (off := 30) (tgt := 105) (by decide +kernel) (by decide) h (fun c34 h => ?_) (fun c34 h => ?_)
    · refine Y.less (L' := [none, none, none, none, none, none]) (zLe_none (zLe_none (zLe_none (zLe_none (zLe_none (zLe_none (zLe_nil))))))) ?_
      exact hK105 G  h
    · refine Y.blk (pc' := 82) (L' := [some (.ref x0), some (.int x1), some (.int x2), some (.int x3), some (.int x4), some (.int x5)]) (st' := [.int x5, .int x1, .ref x0]) (sg := [(.aload_n 0, 0), (.iload_n 1, 0), (.iload 5, 0)]) (by decide +kernel) rfl ?_
      obtain ⟨o26, e25, h⟩ := gOb_inv h
      refine Y.callI (yC.Vi (b := x0) (As := [.int x1, .int x5]) (st := []) (r := ("Partlister$Lists", T_I, 7)) hV.1 cb_I_thingAt lk_I_50 in_I_thingAt rfl se_I_thingAt (by decide +kernel) rfl rfl (Nat.le_of_ble_eq_true rfl) (by decide) e25) (k_I_thingAt hV G x0 x1 x5) h (fun v28 G27 _ h => ?_)
      refine Y.blk (pc' := 91) (L' := [some (.ref x0), some (.int x1), some (.int x2), some (.int x3), some (.int x4), some (.int x5)]) (st' := [.int (x3 + x5), .int x2, .ref x0, .int v28]) (sg := [(.aload_n 0, 0), (.iload_n 2, 0), (.iload_n 3, 0), (.iload 5, 0), (.iadd, 0)]) (by decide +kernel) rfl ?_
      obtain ⟨o30, e29, h⟩ := gOb_inv h
      refine Y.callI (yC.Vi (b := x0) (As := [.int x2, .int (x3 + x5)]) (st := [.int v28]) (r := ("Partlister$Lists", T_I, 7)) hV.1 cb_I_thingAt lk_I_50 in_I_thingAt rfl se_I_thingAt (by decide +kernel) rfl rfl (Nat.le_of_ble_eq_true rfl) (by decide) e29) (k_I_thingAt hV G27 x0 x2 (x3 + x5)) h (fun v32 G31 _ h => ?_)
      refine Y.ic_eq (off := 5) (tgt := 99) (by decide +kernel) (by decide) h (fun c33 h => ?_) (fun c33 h => ?_)
      · refine Y.blk (pc' := 102) (L' := [some (.ref x0), some (.int x1), some (.int x2), some (.int x3), some (.int x4), some (.int (x5 + (nI 1)))]) (st' := []) (sg := [(.iinc 5 1, nI 1)]) (by decide +kernel) rfl ?_
        refine Y.goto (off := -31) (tgt := 71) (by decide +kernel) (by decide) ?_
        exact ih G31 x0 x1 x2 x3 x4 (x5 + (nI 1)) h
      · refine Y.less (L' := [none, none, none, none, none, none]) (zLe_none (zLe_none (zLe_none (zLe_none (zLe_none (zLe_none (zLe_nil))))))) ?_
        exact hK97 G31  h
theorem k_I_liesInAbove {l : Launch} {D : va_G} {B : Nat} {O : State → Heap → Prop} (hV : zG l D B O) (G : gH) (a0 : Nat) (a1 : Int32) : gMet (zVm l D B O) m_I_liesInAbove 4 [.ref a0, .int a1] G (f_I_liesInAbove G a0 a1) := by
  refine gMet.of (by decide +kernel) (Nat.le_of_ble_eq_true rfl) [some (.ref a0), some (.int a1), none, none, none, none] (fun ls h => zEn_ok (n := 6) h) ?_
  intro o Gf h
  unfold f_I_liesInAbove at h
  refine Y.blk (pc' := 1) (L' := [some (.ref a0), some (.int a1), none, none, none, none]) (st' := [.ref a0]) (sg := [(.aload_n 0, 0)]) (by decide +kernel) rfl ?_
  refine Y.getA fl_I_23 (by decide +kernel) h (fun v1 h => ?_)
  refine Y.blk (pc' := 5) (L' := [some (.ref a0), some (.int a1), none, none, none, none]) (st' := [.int a1, .ref v1]) (sg := [(.iload_n 1, 0)]) (by decide +kernel) rfl ?_
  obtain ⟨o3, e2, h⟩ := gOb_inv h
  refine Y.callI (yC.Vi (b := v1) (As := [.int a1]) (st := []) (r := ("Partlister$Numbers", T_N, 1)) hV.1 cb_N_read lk_I_39 in_N_read rfl se_N_read (by decide +kernel) rfl rfl (Nat.le_of_ble_eq_true rfl) (by decide) e2) (k_N_read hV G v1 a1) h (fun v5 G4 _ h => ?_)
  refine Y.blk (pc' := 11) (L' := [some (.ref a0), some (.int a1), some (.int v5), none, none, none]) (st' := [.int (-1), .int v5]) (sg := [(.istore_n 2, 0), (.iload_n 2, 0), (.iconst (-1), -1)]) (by decide +kernel) rfl ?_
  refine Y.ic_ne (off := 14) (tgt := 25) (by decide +kernel) (by decide) h (fun c39 h => ?_) (fun c39 h => ?_)
  · refine Y.blk (pc' := 16) (L' := [some (.ref a0), some (.int a1), some (.int v5), none, none, none]) (st' := [.int (nI 2), .int a1]) (sg := [(.iload_n 1, 0), (.iconst 2, nI 2)]) (by decide +kernel) rfl ?_
    refine Y.ic_ge (off := 7) (tgt := 23) (by decide +kernel) (by decide) h (fun c6 h => ?_) (fun c6 h => ?_)
    · refine Y.blk (pc' := 24) (L' := [some (.ref a0), some (.int a1), some (.int v5), none, none, none]) (st' := [.int (nI 0)]) (sg := [(.iconst 0, nI 0)]) (by decide +kernel) rfl ?_
      exact Y.zret rfl (by decide +kernel) h
    · refine Y.blk (pc' := 20) (L' := [some (.ref a0), some (.int a1), some (.int v5), none, none, none]) (st' := [.int (nI 1)]) (sg := [(.iconst 1, nI 1)]) (by decide +kernel) rfl ?_
      refine Y.goto (off := 4) (tgt := 24) (by decide +kernel) (by decide) ?_
      exact Y.zret rfl (by decide +kernel) h
  · refine Y.blk (pc' := 26) (L' := [some (.ref a0), some (.int a1), some (.int v5), none, none, none]) (st' := [.ref a0]) (sg := [(.aload_n 0, 0)]) (by decide +kernel) rfl ?_
    refine Y.getA fl_I_29 (by decide +kernel) h (fun v7 h => ?_)
    refine Y.blk (pc' := 30) (L' := [some (.ref a0), some (.int a1), some (.int v5), none, none, none]) (st' := [.int a1, .ref v7]) (sg := [(.iload_n 1, 0)]) (by decide +kernel) rfl ?_
    obtain ⟨o9, e8, h⟩ := gOb_inv h
    refine Y.callI (yC.Vi (b := v7) (As := [.int a1]) (st := []) (r := ("Partlister$Numbers", T_N, 1)) hV.1 cb_N_read lk_I_39 in_N_read rfl se_N_read (by decide +kernel) rfl rfl (Nat.le_of_ble_eq_true rfl) (by decide) e8) (k_N_read hV G4 v7 a1) h (fun v11 G10 _ h => ?_)
    refine Y.blk (pc' := 34) (L' := [some (.ref a0), some (.int a1), some (.int v5), none, none, none]) (st' := [.ref a0, .int v11]) (sg := [(.aload_n 0, 0)]) (by decide +kernel) rfl ?_
    refine Y.getA fl_I_29 (by decide +kernel) h (fun v12 h => ?_)
    refine Y.blk (pc' := 38) (L' := [some (.ref a0), some (.int a1), some (.int v5), none, none, none]) (st' := [.int v5, .ref v12, .int v11]) (sg := [(.iload_n 2, 0)]) (by decide +kernel) rfl ?_
    obtain ⟨o14, e13, h⟩ := gOb_inv h
    refine Y.callI (yC.Vi (b := v12) (As := [.int v5]) (st := [.int v11]) (r := ("Partlister$Numbers", T_N, 1)) hV.1 cb_N_read lk_I_39 in_N_read rfl se_N_read (by decide +kernel) rfl rfl (Nat.le_of_ble_eq_true rfl) (by decide) e13) (k_N_read hV G10 v12 v5) h (fun v16 G15 _ h => ?_)
    refine Y.blk (pc' := 45) (L' := [some (.ref a0), some (.int a1), some (.int v5), some (.int (v11 - v16)), none, none]) (st' := [.int a1, .ref a0]) (sg := [(.isub, 0), (.istore_n 3, 0), (.aload_n 0, 0), (.iload_n 1, 0)]) (by decide +kernel) rfl ?_
    obtain ⟨o18, e17, h⟩ := gOb_inv h
    refine Y.callI (yC.Vi (b := a0) (As := [.int a1]) (st := []) (r := ("Partlister$Lists", T_I, 7)) hV.1 cb_I_lengthOf lk_I_59 in_I_lengthOf rfl se_I_lengthOf (by decide +kernel) rfl rfl (Nat.le_of_ble_eq_true rfl) (by decide) e17) (k_I_lengthOf hV G15 a0 a1) h (fun v20 G19 _ h => ?_)
    refine Y.blk (pc' := 51) (L' := [some (.ref a0), some (.int a1), some (.int v5), some (.int (v11 - v16)), some (.int v20), none]) (st' := [.int (v11 - v16)]) (sg := [(.istore 4, 0), (.iload_n 3, 0)]) (by decide +kernel) rfl ?_
    refine Y.if_lt (off := 15) (tgt := 66) (by decide +kernel) (by decide) h (fun c38 h => ?_) (fun c38 h => ?_)
    · refine Y.blk (pc' := 67) (L' := [some (.ref a0), some (.int a1), some (.int v5), some (.int (v11 - v16)), some (.int v20), none]) (st' := [.int (nI 0)]) (sg := [(.iconst 0, nI 0)]) (by decide +kernel) rfl ?_
      exact Y.zret rfl (by decide +kernel) h
    · refine Y.blk (pc' := 60) (L' := [some (.ref a0), some (.int a1), some (.int v5), some (.int (v11 - v16)), some (.int v20), none]) (st' := [.int v5, .ref a0, .int ((v11 - v16) + v20)]) (sg := [(.iload_n 3, 0), (.iload 4, 0), (.iadd, 0), (.aload_n 0, 0), (.iload_n 2, 0)]) (by decide +kernel) rfl ?_
      obtain ⟨o22, e21, h⟩ := gOb_inv h
      refine Y.callI (yC.Vi (b := a0) (As := [.int v5]) (st := [.int ((v11 - v16) + v20)]) (r := ("Partlister$Lists", T_I, 7)) hV.1 cb_I_lengthOf lk_I_59 in_I_lengthOf rfl se_I_lengthOf (by decide +kernel) rfl rfl (Nat.le_of_ble_eq_true rfl) (by decide) e21) (k_I_lengthOf hV G19 a0 v5) h (fun v24 G23 _ h => ?_)
      refine Y.ic_le (off := 5) (tgt := 68) (by decide +kernel) (by decide) h (fun c37 h => ?_) (fun c37 h => ?_)
      · refine Y.blk (pc' := 71) (L' := [some (.ref a0), some (.int a1), some (.int v5), some (.int (v11 - v16)), some (.int v20), some (.int (nI 0))]) (st' := []) (sg := [(.iconst 0, nI 0), (.istore 5, 0)]) (by decide +kernel) rfl ?_
        refine k_I_liesInAbove_L71 hV _ _ ?_ ?_  zFu G23 a0 a1 v5 (v11 - v16) v20 (nI 0) h
        · intro G35 h
          refine Y.blk (pc' := 98) (L' := [none, none, none, none, none, none]) (st' := [.int (nI 0)]) (sg := [(.iconst 0, nI 0)]) (by decide +kernel) rfl ?_
          exact Y.zret rfl (by decide +kernel) h
        · intro G36 h
          refine Y.blk (pc' := 106) (L' := [none, none, none, none, none, none]) (st' := [.int (nI 1)]) (sg := [(.iconst 1, nI 1)]) (by decide +kernel) rfl ?_
          exact Y.zret rfl (by decide +kernel) h
      · refine Y.blk (pc' := 67) (L' := [some (.ref a0), some (.int a1), some (.int v5), some (.int (v11 - v16)), some (.int v20), none]) (st' := [.int (nI 0)]) (sg := [(.iconst 0, nI 0)]) (by decide +kernel) rfl ?_
        exact Y.zret rfl (by decide +kernel) h

def f_I_areSound_L44 (K66 : gH → gR) (K74 : gH → Nat → Int32 → gR) : Nat → gH → Nat → Int32 → Int32 → gR
  | 0, _, _, _, _ => none
  | n + 1, G, x0, x1, x2 =>
    if (nI 5) ≤ x2 then K74 G x0 x1
    else gOb G x0 1 fun o6 => bI (f_I_isThere G x0 x1) fun v8 G7 => if v8 = 0 then f_I_areSound_L44 K66 K74 n G7 x0 x1 (x2 + (nI 1))
      else gOb G7 x0 1 fun o10 => bI (f_I_isOrdering G7 x0 x1 x2) fun v12 G11 => if v12 = 0 then K66 G11
        else f_I_areSound_L44 K66 K74 n G11 x0 x1 (x2 + (nI 1))
def f_I_areSound_L2 (K40 : gH → gR) (K66 : gH → gR) (K80 : gH → gR) : Nat → gH → Nat → Int32 → gR
  | 0, _, _, _ => none
  | n + 1, G, x0, x1 =>
    if (nI 6) ≤ x1 then K80 G
    else gOb G x0 1 fun o2 => bI (f_I_isThere G x0 x1) fun v4 G3 => if v4 = 0 then f_I_areSound_L44 (fun G16 => K66 G16) (fun G19 x17 x18 => f_I_areSound_L2 K40 K66 K80 n G19 x17 (x18 + (nI 1))) zFu G3 x0 x1 (nI 0)
      else gOb G3 x0 1 fun o21 => bI (f_I_liesInAbove G3 x0 x1) fun v23 G22 => if v23 = 0 then K40 G22
        else gOb G22 x0 1 fun o25 => bI (f_I_isSameBackward G22 x0 x1) fun v27 G26 => if v27 = 0 then K40 G26
          else gOb G26 x0 1 fun o29 => bI (f_I_areKeysFound G26 x0 x1) fun v31 G30 => if v31 = 0 then K40 G30
            else f_I_areSound_L44 (fun G32 => K66 G32) (fun G35 x33 x34 => f_I_areSound_L2 K40 K66 K80 n G35 x33 (x34 + (nI 1))) zFu G30 x0 x1 (nI 0)
def f_I_areSound (G : gH) (a0 : Nat) : gR :=
  f_I_areSound_L2 (fun G41 => rZ (nI 0) G41) (fun G42 => rZ (nI 0) G42) (fun G43 => rZ (nI 1) G43) zFu G a0 (nI 0)
theorem k_I_areSound_L44 {l : Launch} {D : va_G} {B : Nat} {O : State → Heap → Prop} (hV : zG l D B O) {o : gO} {Gf : gH} (K66 : gH → gR) (K74 : gH → Nat → Int32 → gR) (hK66 : ∀ (G : gH), K66 G  = some (o, Gf) → Y (zVm l D B O) m_I_areSound 6 o Gf 66 [none, none, none] [] G) (hK74 : ∀ (G : gH) (x0 : Nat) (x1 : Int32), K74 G x0 x1 = some (o, Gf) → Y (zVm l D B O) m_I_areSound 6 o Gf 74 [some (.ref x0), some (.int x1), none] [] G) : ∀ (n : Nat) (G : gH) (x0 : Nat) (x1 : Int32) (x2 : Int32), f_I_areSound_L44 K66 K74 n G x0 x1 x2 = some (o, Gf) → Y (zVm l D B O) m_I_areSound 6 o Gf 44 [some (.ref x0), some (.int x1), some (.int x2)] [] G := by
  intro n
  induction n with
  | zero => intro G x0 x1 x2 h; cases h
  | succ n ih =>
    intro G x0 x1 x2 h
    unfold f_I_areSound_L44 at h
    refine Y.blk (pc' := 46) (L' := [some (.ref x0), some (.int x1), some (.int x2)]) (st' := [.int (nI 5), .int x2]) (sg := [(.iload_n 2, 0), (.iconst 5, nI 5)]) (by decide +kernel) rfl ?_
    refine Y.ic_ge (off := 28) (tgt := 74) (by decide +kernel) (by decide) h (fun c15 h => ?_) (fun c15 h => ?_)
    · refine Y.less (L' := [some (.ref x0), some (.int x1), none]) (zLe_some (zLe_some (zLe_none (zLe_nil)))) ?_
      exact hK74 G x0 x1 h
    · refine Y.blk (pc' := 51) (L' := [some (.ref x0), some (.int x1), some (.int x2)]) (st' := [.int x1, .ref x0]) (sg := [(.aload_n 0, 0), (.iload_n 1, 0)]) (by decide +kernel) rfl ?_
      obtain ⟨o6, e5, h⟩ := gOb_inv h
      refine Y.callI (yC.Vi (b := x0) (As := [.int x1]) (st := []) (r := ("Partlister$Lists", T_I, 7)) hV.1 cb_I_isThere lk_I_86 in_I_isThere rfl se_I_isThere (by decide +kernel) rfl rfl (Nat.le_of_ble_eq_true rfl) (by decide) e5) (k_I_isThere hV G x0 x1) h (fun v8 G7 _ h => ?_)
      refine Y.if_eq (off := 14) (tgt := 68) (by decide +kernel) (by decide) h (fun c14 h => ?_) (fun c14 h => ?_)
      · refine Y.blk (pc' := 71) (L' := [some (.ref x0), some (.int x1), some (.int (x2 + (nI 1)))]) (st' := []) (sg := [(.iinc 2 1, nI 1)]) (by decide +kernel) rfl ?_
        refine Y.goto (off := -27) (tgt := 44) (by decide +kernel) (by decide) ?_
        exact ih G7 x0 x1 (x2 + (nI 1)) h
      · refine Y.blk (pc' := 60) (L' := [some (.ref x0), some (.int x1), some (.int x2)]) (st' := [.int x2, .int x1, .ref x0]) (sg := [(.aload_n 0, 0), (.iload_n 1, 0), (.iload_n 2, 0)]) (by decide +kernel) rfl ?_
        obtain ⟨o10, e9, h⟩ := gOb_inv h
        refine Y.callI (yC.Vi (b := x0) (As := [.int x1, .int x2]) (st := []) (r := ("Partlister$Lists", T_I, 7)) hV.1 cb_I_isOrdering lk_I_119 in_I_isOrdering rfl se_I_isOrdering (by decide +kernel) rfl rfl (Nat.le_of_ble_eq_true rfl) (by decide) e9) (k_I_isOrdering hV G7 x0 x1 x2) h (fun v12 G11 _ h => ?_)
        refine Y.if_ne (off := 5) (tgt := 68) (by decide +kernel) (by decide) h (fun c13 h => ?_) (fun c13 h => ?_)
        · refine Y.less (L' := [none, none, none]) (zLe_none (zLe_none (zLe_none (zLe_nil)))) ?_
          exact hK66 G11  h
        · refine Y.blk (pc' := 71) (L' := [some (.ref x0), some (.int x1), some (.int (x2 + (nI 1)))]) (st' := []) (sg := [(.iinc 2 1, nI 1)]) (by decide +kernel) rfl ?_
          refine Y.goto (off := -27) (tgt := 44) (by decide +kernel) (by decide) ?_
          exact ih G11 x0 x1 (x2 + (nI 1)) h
theorem k_I_areSound_L2 {l : Launch} {D : va_G} {B : Nat} {O : State → Heap → Prop} (hV : zG l D B O) {o : gO} {Gf : gH} (K40 : gH → gR) (K66 : gH → gR) (K80 : gH → gR) (hK40 : ∀ (G : gH), K40 G  = some (o, Gf) → Y (zVm l D B O) m_I_areSound 6 o Gf 40 [none, none, none] [] G) (hK66 : ∀ (G : gH), K66 G  = some (o, Gf) → Y (zVm l D B O) m_I_areSound 6 o Gf 66 [none, none, none] [] G) (hK80 : ∀ (G : gH), K80 G  = some (o, Gf) → Y (zVm l D B O) m_I_areSound 6 o Gf 80 [none, none, none] [] G) : ∀ (n : Nat) (G : gH) (x0 : Nat) (x1 : Int32), f_I_areSound_L2 K40 K66 K80 n G x0 x1 = some (o, Gf) → Y (zVm l D B O) m_I_areSound 6 o Gf 2 [some (.ref x0), some (.int x1), none] [] G := by
  intro n
  induction n with
  | zero => intro G x0 x1 h; cases h
  | succ n ih =>
    intro G x0 x1 h
    unfold f_I_areSound_L2 at h
    refine Y.blk (pc' := 5) (L' := [some (.ref x0), some (.int x1), none]) (st' := [.int (nI 6), .int x1]) (sg := [(.iload_n 1, 0), (.bipush 6, nI 6)]) (by decide +kernel) rfl ?_
    refine Y.ic_ge (off := 75) (tgt := 80) (by decide +kernel) (by decide) h (fun c40 h => ?_) (fun c40 h => ?_)
    · refine Y.less (L' := [none, none, none]) (zLe_none (zLe_none (zLe_some (zLe_nil)))) ?_
      exact hK80 G  h
    · refine Y.blk (pc' := 10) (L' := [some (.ref x0), some (.int x1), none]) (st' := [.int x1, .ref x0]) (sg := [(.aload_n 0, 0), (.iload_n 1, 0)]) (by decide +kernel) rfl ?_
      obtain ⟨o2, e1, h⟩ := gOb_inv h
      refine Y.callI (yC.Vi (b := x0) (As := [.int x1]) (st := []) (r := ("Partlister$Lists", T_I, 7)) hV.1 cb_I_isThere lk_I_86 in_I_isThere rfl se_I_isThere (by decide +kernel) rfl rfl (Nat.le_of_ble_eq_true rfl) (by decide) e1) (k_I_isThere hV G x0 x1) h (fun v4 G3 _ h => ?_)
      refine Y.if_eq (off := 29) (tgt := 42) (by decide +kernel) (by decide) h (fun c39 h => ?_) (fun c39 h => ?_)
      · refine Y.blk (pc' := 44) (L' := [some (.ref x0), some (.int x1), some (.int (nI 0))]) (st' := []) (sg := [(.iconst 0, nI 0), (.istore_n 2, 0)]) (by decide +kernel) rfl ?_
        refine k_I_areSound_L44 hV _ _ ?_ ?_  zFu G3 x0 x1 (nI 0) h
        · intro G16 h
          exact hK66 G16  h
        · intro G19 x17 x18 h
          refine Y.blk (pc' := 77) (L' := [some (.ref x17), some (.int (x18 + (nI 1))), none]) (st' := []) (sg := [(.iinc 1 1, nI 1)]) (by decide +kernel) rfl ?_
          refine Y.goto (off := -75) (tgt := 2) (by decide +kernel) (by decide) ?_
          exact ih G19 x17 (x18 + (nI 1)) h
      · refine Y.blk (pc' := 18) (L' := [some (.ref x0), some (.int x1), none]) (st' := [.int x1, .ref x0]) (sg := [(.aload_n 0, 0), (.iload_n 1, 0)]) (by decide +kernel) rfl ?_
        obtain ⟨o21, e20, h⟩ := gOb_inv h
        refine Y.callI (yC.Vi (b := x0) (As := [.int x1]) (st := []) (r := ("Partlister$Lists", T_I, 7)) hV.1 cb_I_liesInAbove lk_I_110 in_I_liesInAbove rfl se_I_liesInAbove (by decide +kernel) rfl rfl (Nat.le_of_ble_eq_true rfl) (by decide) e20) (k_I_liesInAbove hV G3 x0 x1) h (fun v23 G22 _ h => ?_)
        refine Y.if_eq (off := 19) (tgt := 40) (by decide +kernel) (by decide) h (fun c38 h => ?_) (fun c38 h => ?_)
        · refine Y.less (L' := [none, none, none]) (zLe_none (zLe_none (zLe_some (zLe_nil)))) ?_
          exact hK40 G22  h
        · refine Y.blk (pc' := 26) (L' := [some (.ref x0), some (.int x1), none]) (st' := [.int x1, .ref x0]) (sg := [(.aload_n 0, 0), (.iload_n 1, 0)]) (by decide +kernel) rfl ?_
          obtain ⟨o25, e24, h⟩ := gOb_inv h
          refine Y.callI (yC.Vi (b := x0) (As := [.int x1]) (st := []) (r := ("Partlister$Lists", T_I, 7)) hV.1 cb_I_isSameBackward lk_I_113 in_I_isSameBackward rfl se_I_isSameBackward (by decide +kernel) rfl rfl (Nat.le_of_ble_eq_true rfl) (by decide) e24) (k_I_isSameBackward hV G22 x0 x1) h (fun v27 G26 _ h => ?_)
          refine Y.if_eq (off := 11) (tgt := 40) (by decide +kernel) (by decide) h (fun c37 h => ?_) (fun c37 h => ?_)
          · refine Y.less (L' := [none, none, none]) (zLe_none (zLe_none (zLe_some (zLe_nil)))) ?_
            exact hK40 G26  h
          · refine Y.blk (pc' := 34) (L' := [some (.ref x0), some (.int x1), none]) (st' := [.int x1, .ref x0]) (sg := [(.aload_n 0, 0), (.iload_n 1, 0)]) (by decide +kernel) rfl ?_
            obtain ⟨o29, e28, h⟩ := gOb_inv h
            refine Y.callI (yC.Vi (b := x0) (As := [.int x1]) (st := []) (r := ("Partlister$Lists", T_I, 7)) hV.1 cb_I_areKeysFound lk_I_116 in_I_areKeysFound rfl se_I_areKeysFound (by decide +kernel) rfl rfl (Nat.le_of_ble_eq_true rfl) (by decide) e28) (k_I_areKeysFound hV G26 x0 x1) h (fun v31 G30 _ h => ?_)
            refine Y.if_ne (off := 5) (tgt := 42) (by decide +kernel) (by decide) h (fun c36 h => ?_) (fun c36 h => ?_)
            · refine Y.less (L' := [none, none, none]) (zLe_none (zLe_none (zLe_some (zLe_nil)))) ?_
              exact hK40 G30  h
            · refine Y.blk (pc' := 44) (L' := [some (.ref x0), some (.int x1), some (.int (nI 0))]) (st' := []) (sg := [(.iconst 0, nI 0), (.istore_n 2, 0)]) (by decide +kernel) rfl ?_
              refine k_I_areSound_L44 hV _ _ ?_ ?_  zFu G30 x0 x1 (nI 0) h
              · intro G32 h
                exact hK66 G32  h
              · intro G35 x33 x34 h
                refine Y.blk (pc' := 77) (L' := [some (.ref x33), some (.int (x34 + (nI 1))), none]) (st' := []) (sg := [(.iinc 1 1, nI 1)]) (by decide +kernel) rfl ?_
                refine Y.goto (off := -75) (tgt := 2) (by decide +kernel) (by decide) ?_
                exact ih G35 x33 (x34 + (nI 1)) h
theorem k_I_areSound {l : Launch} {D : va_G} {B : Nat} {O : State → Heap → Prop} (hV : zG l D B O) (G : gH) (a0 : Nat) : gMet (zVm l D B O) m_I_areSound 6 [.ref a0] G (f_I_areSound G a0) := by
  refine gMet.of (by decide +kernel) (Nat.le_of_ble_eq_true rfl) [some (.ref a0), none, none] (fun ls h => zEn_ok (n := 3) h) ?_
  intro o Gf h
  unfold f_I_areSound at h
  refine Y.blk (pc' := 2) (L' := [some (.ref a0), some (.int (nI 0)), none]) (st' := []) (sg := [(.iconst 0, nI 0), (.istore_n 1, 0)]) (by decide +kernel) rfl ?_
  refine k_I_areSound_L2 hV _ _ _ ?_ ?_ ?_  zFu G a0 (nI 0) h
  · intro G41 h
    refine Y.blk (pc' := 41) (L' := [none, none, none]) (st' := [.int (nI 0)]) (sg := [(.iconst 0, nI 0)]) (by decide +kernel) rfl ?_
    exact Y.zret rfl (by decide +kernel) h
  · intro G42 h
    refine Y.blk (pc' := 67) (L' := [none, none, none]) (st' := [.int (nI 0)]) (sg := [(.iconst 0, nI 0)]) (by decide +kernel) rfl ?_
    exact Y.zret rfl (by decide +kernel) h
  · intro G43 h
    refine Y.blk (pc' := 81) (L' := [none, none, none]) (st' := [.int (nI 1)]) (sg := [(.iconst 1, nI 1)]) (by decide +kernel) rfl ?_
    exact Y.zret rfl (by decide +kernel) h

def f_X_digest_L6 (K29 : gH → Nat → Int64 → gR) : Nat → gH → Nat → Int64 → Int32 → gR
  | 0, _, _, _, _ => none
  | n + 1, G, x0, x1, x3 =>
    if (nI 8) ≤ x3 then K29 G x0 x1
    else gOb G x0 3 fun o2 => bI (f_X_worthOfHouse G x0 x3) fun v4 G3 => bL (f_X_mix G3 x1 v4.toInt64) fun v7 G6 => f_X_digest_L6 K29 n G6 x0 v7 (x3 + (nI 1))
def f_X_digest_L31 (K75 : gH → Nat → Int64 → gR) : Nat → gH → Nat → Int64 → Int32 → gR
  | 0, _, _, _, _ => none
  | n + 1, G, x0, x1, x3 =>
    if (nI 6) ≤ x3 then K75 G x0 x1
    else gFA G x0 3 0 fun v12 => gOb G v12 1 fun o14 => bI (f_I_lengthOf G v12 x3) fun v16 G15 => bL (f_X_mix G15 x1 v16.toInt64) fun v19 G18 => gFA G18 x0 3 0 fun v20 => gOb G18 v20 1 fun o22 => bI (f_I_isThere G18 v20 x3) fun v24 G23 => if v24 = 0 then f_X_digest_L31 K75 n G23 x0 v19 (x3 + (nI 1))
      else gOb G23 x0 3 fun o26 => bL (f_X_mixList G23 x0 v19 x3) fun v28 G27 => f_X_digest_L31 K75 n G27 x0 v28 (x3 + (nI 1))
def f_X_digest_L86 (K131 : gH → Nat → Int64 → Int32 → gR) : Nat → gH → Nat → Int64 → Int32 → Int32 → gR
  | 0, _, _, _, _, _ => none
  | n + 1, G, x0, x1, x3, x4 =>
    if (nI 6) ≤ x4 then K131 G x0 x1 x3
    else gFA G x0 3 0 fun v34 => gOb G v34 1 fun o36 => bI (f_I_isThere G v34 x3) fun v38 G37 => if v38 = 0 then f_X_digest_L86 K131 n G37 x0 x1 x3 (x4 + (nI 1))
      else gFA G37 x0 3 0 fun v39 => gOb G37 v39 1 fun o41 => bI (f_I_isThere G37 v39 x4) fun v43 G42 => if v43 = 0 then f_X_digest_L86 K131 n G42 x0 x1 x3 (x4 + (nI 1))
        else gOb G42 x0 3 fun o45 => bL (f_X_mixPair G42 x0 x1 x3 x4) fun v47 G46 => f_X_digest_L86 K131 n G46 x0 v47 x3 (x4 + (nI 1))
def f_X_digest_L77 (K137 : gH → Nat → Int64 → gR) : Nat → gH → Nat → Int64 → Int32 → gR
  | 0, _, _, _, _ => none
  | n + 1, G, x0, x1, x3 =>
    if (nI 6) ≤ x3 then K137 G x0 x1
    else f_X_digest_L86 (fun G54 x51 x52 x53 => f_X_digest_L77 K137 n G54 x51 x52 (x53 + (nI 1))) zFu G x0 x1 x3 (nI 0)
def f_X_digest_L147 (K173 : gH → Nat → Int64 → Int32 → gR) : Nat → gH → Nat → Int64 → Int32 → Int32 → gR
  | 0, _, _, _, _, _ => none
  | n + 1, G, x0, x1, x3, x4 =>
    if (nI 7) ≤ x4 then K173 G x0 x1 x3
    else gOb G x0 3 fun o60 => bI (f_X_worthOfCursor G x0 x3 x4) fun v62 G61 => bL (f_X_mix G61 x1 v62.toInt64) fun v65 G64 => f_X_digest_L147 K173 n G64 x0 v65 x3 (x4 + (nI 1))
def f_X_digest_L139 (K179 : gH → Nat → Int64 → gR) : Nat → gH → Nat → Int64 → Int32 → gR
  | 0, _, _, _, _ => none
  | n + 1, G, x0, x1, x3 =>
    if (nI 3) ≤ x3 then K179 G x0 x1
    else f_X_digest_L147 (fun G70 x67 x68 x69 => f_X_digest_L139 K179 n G70 x67 x68 (x69 + (nI 1))) zFu G x0 x1 x3 (nI 0)
def f_X_digest (G : gH) (a0 : Nat) : gR :=
  f_X_digest_L6 (fun G11 x9 x10 => f_X_digest_L31 (fun G33 x31 x32 => f_X_digest_L77 (fun G58 x56 x57 => f_X_digest_L139 (fun G74 x72 x73 => gFA G74 x72 3 0 fun v75 => gOb G74 v75 1 fun o77 => bI (f_I_areSound G74 v75) fun v79 G78 => if v79 = 0 then bL (f_X_mix G78 x73 (lN 0)) fun v82 G81 => rL v82 G81
          else bL (f_X_mix G78 x73 (lN 1)) fun v85 G84 => rL v85 G84) zFu G58 x56 x57 (nI 0)) zFu G33 x31 x32 (nI 0)) zFu G11 x9 x10 (nI 0)) zFu G a0 (lN 2203) (nI 0)
theorem k_X_digest_L6 {l : Launch} {D : va_G} {B : Nat} {O : State → Heap → Prop} (hV : zG l D B O) {o : gO} {Gf : gH} (K29 : gH → Nat → Int64 → gR) (hK29 : ∀ (G : gH) (x0 : Nat) (x1 : Int64), K29 G x0 x1 = some (o, Gf) → Y (zVm l D B O) m_X_digest 7 o Gf 29 [some (.ref x0), some (.long x1), none, none, none] [] G) : ∀ (n : Nat) (G : gH) (x0 : Nat) (x1 : Int64) (x3 : Int32), f_X_digest_L6 K29 n G x0 x1 x3 = some (o, Gf) → Y (zVm l D B O) m_X_digest 7 o Gf 6 [some (.ref x0), some (.long x1), none, some (.int x3), none] [] G := by
  intro n
  induction n with
  | zero => intro G x0 x1 x3 h; cases h
  | succ n ih =>
    intro G x0 x1 x3 h
    unfold f_X_digest_L6 at h
    refine Y.blk (pc' := 9) (L' := [some (.ref x0), some (.long x1), none, some (.int x3), none]) (st' := [.int (nI 8), .int x3]) (sg := [(.iload_n 3, 0), (.bipush 8, nI 8)]) (by decide +kernel) rfl ?_
    refine Y.ic_ge (off := 20) (tgt := 29) (by decide +kernel) (by decide) h (fun c8 h => ?_) (fun c8 h => ?_)
    · refine Y.less (L' := [some (.ref x0), some (.long x1), none, none, none]) (zLe_some (zLe_some (zLe_some (zLe_none (zLe_some (zLe_nil)))))) ?_
      exact hK29 G x0 x1 h
    · refine Y.blk (pc' := 15) (L' := [some (.ref x0), some (.long x1), none, some (.int x3), none]) (st' := [.int x3, .ref x0, .long x1]) (sg := [(.lload_n 1, 0), (.aload_n 0, 0), (.iload_n 3, 0)]) (by decide +kernel) rfl ?_
      obtain ⟨o2, e1, h⟩ := gOb_inv h
      refine Y.callI (yC.Vi (b := x0) (As := [.int x3]) (st := [.long x1]) (r := ("Partlister", T_X, 5)) hV.1 cb_X_worthOfHouse lk_X_250 in_X_worthOfHouse rfl se_X_worthOfHouse (by decide +kernel) rfl rfl (Nat.le_of_ble_eq_true rfl) (by decide) e1) (k_X_worthOfHouse hV G x0 x3) h (fun v4 G3 _ h => ?_)
      refine Y.blk (pc' := 19) (L' := [some (.ref x0), some (.long x1), none, some (.int x3), none]) (st' := [.long v4.toInt64, .long x1]) (sg := [(.i2l, 0)]) (by decide +kernel) rfl ?_
      refine Y.callL (yC.S (As := [.long x1, .long v4.toInt64]) (st := []) hV.1 cb_X_mix lk_X_263 st_X_mix (by decide +kernel) rfl rfl (Nat.le_of_ble_eq_true rfl) (by decide)) (k_X_mix hV G3 x1 v4.toInt64) h (fun v7 G6 _ h => ?_)
      refine Y.blk (pc' := 26) (L' := [some (.ref x0), some (.long v7), none, some (.int (x3 + (nI 1))), none]) (st' := []) (sg := [(.lstore_n 1, 0), (.iinc 3 1, nI 1)]) (by decide +kernel) rfl ?_
      refine Y.goto (off := -20) (tgt := 6) (by decide +kernel) (by decide) ?_
      exact ih G6 x0 v7 (x3 + (nI 1)) h
theorem k_X_digest_L31 {l : Launch} {D : va_G} {B : Nat} {O : State → Heap → Prop} (hV : zG l D B O) {o : gO} {Gf : gH} (K75 : gH → Nat → Int64 → gR) (hK75 : ∀ (G : gH) (x0 : Nat) (x1 : Int64), K75 G x0 x1 = some (o, Gf) → Y (zVm l D B O) m_X_digest 7 o Gf 75 [some (.ref x0), some (.long x1), none, none, none] [] G) : ∀ (n : Nat) (G : gH) (x0 : Nat) (x1 : Int64) (x3 : Int32), f_X_digest_L31 K75 n G x0 x1 x3 = some (o, Gf) → Y (zVm l D B O) m_X_digest 7 o Gf 31 [some (.ref x0), some (.long x1), none, some (.int x3), none] [] G := by
  intro n
  induction n with
  | zero => intro G x0 x1 x3 h; cases h
  | succ n ih =>
    intro G x0 x1 x3 h
    unfold f_X_digest_L31 at h
    refine Y.blk (pc' := 34) (L' := [some (.ref x0), some (.long x1), none, some (.int x3), none]) (st' := [.int (nI 6), .int x3]) (sg := [(.iload_n 3, 0), (.bipush 6, nI 6)]) (by decide +kernel) rfl ?_
    refine Y.ic_ge (off := 41) (tgt := 75) (by decide +kernel) (by decide) h (fun c30 h => ?_) (fun c30 h => ?_)
    · refine Y.less (L' := [some (.ref x0), some (.long x1), none, none, none]) (zLe_some (zLe_some (zLe_some (zLe_none (zLe_some (zLe_nil)))))) ?_
      exact hK75 G x0 x1 h
    · refine Y.blk (pc' := 39) (L' := [some (.ref x0), some (.long x1), none, some (.int x3), none]) (st' := [.ref x0, .long x1]) (sg := [(.lload_n 1, 0), (.aload_n 0, 0)]) (by decide +kernel) rfl ?_
      refine Y.getA fl_X_10 (by decide +kernel) h (fun v12 h => ?_)
      refine Y.blk (pc' := 43) (L' := [some (.ref x0), some (.long x1), none, some (.int x3), none]) (st' := [.int x3, .ref v12, .long x1]) (sg := [(.iload_n 3, 0)]) (by decide +kernel) rfl ?_
      obtain ⟨o14, e13, h⟩ := gOb_inv h
      refine Y.callI (yC.Vi (b := v12) (As := [.int x3]) (st := [.long x1]) (r := ("Partlister$Lists", T_I, 7)) hV.1 cb_I_lengthOf lk_X_34 in_I_lengthOf rfl se_I_lengthOf (by decide +kernel) rfl rfl (Nat.le_of_ble_eq_true rfl) (by decide) e13) (k_I_lengthOf hV G v12 x3) h (fun v16 G15 _ h => ?_)
      refine Y.blk (pc' := 47) (L' := [some (.ref x0), some (.long x1), none, some (.int x3), none]) (st' := [.long v16.toInt64, .long x1]) (sg := [(.i2l, 0)]) (by decide +kernel) rfl ?_
      refine Y.callL (yC.S (As := [.long x1, .long v16.toInt64]) (st := []) hV.1 cb_X_mix lk_X_263 st_X_mix (by decide +kernel) rfl rfl (Nat.le_of_ble_eq_true rfl) (by decide)) (k_X_mix hV G15 x1 v16.toInt64) h (fun v19 G18 _ h => ?_)
      refine Y.blk (pc' := 52) (L' := [some (.ref x0), some (.long v19), none, some (.int x3), none]) (st' := [.ref x0]) (sg := [(.lstore_n 1, 0), (.aload_n 0, 0)]) (by decide +kernel) rfl ?_
      refine Y.getA fl_X_10 (by decide +kernel) h (fun v20 h => ?_)
      refine Y.blk (pc' := 56) (L' := [some (.ref x0), some (.long v19), none, some (.int x3), none]) (st' := [.int x3, .ref v20]) (sg := [(.iload_n 3, 0)]) (by decide +kernel) rfl ?_
      obtain ⟨o22, e21, h⟩ := gOb_inv h
      refine Y.callI (yC.Vi (b := v20) (As := [.int x3]) (st := []) (r := ("Partlister$Lists", T_I, 7)) hV.1 cb_I_isThere lk_X_155 in_I_isThere rfl se_I_isThere (by decide +kernel) rfl rfl (Nat.le_of_ble_eq_true rfl) (by decide) e21) (k_I_isThere hV G18 v20 x3) h (fun v24 G23 _ h => ?_)
      refine Y.if_eq (off := 10) (tgt := 69) (by decide +kernel) (by decide) h (fun c29 h => ?_) (fun c29 h => ?_)
      · refine Y.blk (pc' := 72) (L' := [some (.ref x0), some (.long v19), none, some (.int (x3 + (nI 1))), none]) (st' := []) (sg := [(.iinc 3 1, nI 1)]) (by decide +kernel) rfl ?_
        refine Y.goto (off := -41) (tgt := 31) (by decide +kernel) (by decide) ?_
        exact ih G23 x0 v19 (x3 + (nI 1)) h
      · refine Y.blk (pc' := 65) (L' := [some (.ref x0), some (.long v19), none, some (.int x3), none]) (st' := [.int x3, .long v19, .ref x0]) (sg := [(.aload_n 0, 0), (.lload_n 1, 0), (.iload_n 3, 0)]) (by decide +kernel) rfl ?_
        obtain ⟨o26, e25, h⟩ := gOb_inv h
        refine Y.callL (yC.Vi (b := x0) (As := [.long v19, .int x3]) (st := []) (r := ("Partlister", T_X, 5)) hV.1 cb_X_mixList lk_X_267 in_X_mixList rfl se_X_mixList (by decide +kernel) rfl rfl (Nat.le_of_ble_eq_true rfl) (by decide) e25) (k_X_mixList hV G23 x0 v19 x3) h (fun v28 G27 _ h => ?_)
        refine Y.blk (pc' := 72) (L' := [some (.ref x0), some (.long v28), none, some (.int (x3 + (nI 1))), none]) (st' := []) (sg := [(.lstore_n 1, 0), (.iinc 3 1, nI 1)]) (by decide +kernel) rfl ?_
        refine Y.goto (off := -41) (tgt := 31) (by decide +kernel) (by decide) ?_
        exact ih G27 x0 v28 (x3 + (nI 1)) h
theorem k_X_digest_L86 {l : Launch} {D : va_G} {B : Nat} {O : State → Heap → Prop} (hV : zG l D B O) {o : gO} {Gf : gH} (K131 : gH → Nat → Int64 → Int32 → gR) (hK131 : ∀ (G : gH) (x0 : Nat) (x1 : Int64) (x3 : Int32), K131 G x0 x1 x3 = some (o, Gf) → Y (zVm l D B O) m_X_digest 7 o Gf 131 [some (.ref x0), some (.long x1), none, some (.int x3), none] [] G) : ∀ (n : Nat) (G : gH) (x0 : Nat) (x1 : Int64) (x3 : Int32) (x4 : Int32), f_X_digest_L86 K131 n G x0 x1 x3 x4 = some (o, Gf) → Y (zVm l D B O) m_X_digest 7 o Gf 86 [some (.ref x0), some (.long x1), none, some (.int x3), some (.int x4)] [] G := by
  intro n
  induction n with
  | zero => intro G x0 x1 x3 x4 h; cases h
  | succ n ih =>
    intro G x0 x1 x3 x4 h
    unfold f_X_digest_L86 at h
    refine Y.blk (pc' := 90) (L' := [some (.ref x0), some (.long x1), none, some (.int x3), some (.int x4)]) (st' := [.int (nI 6), .int x4]) (sg := [(.iload 4, 0), (.bipush 6, nI 6)]) (by decide +kernel) rfl ?_
    refine Y.ic_ge (off := 41) (tgt := 131) (by decide +kernel) (by decide) h (fun c50 h => ?_) (fun c50 h => ?_)
    · refine Y.less (L' := [some (.ref x0), some (.long x1), none, some (.int x3), none]) (zLe_some (zLe_some (zLe_some (zLe_some (zLe_none (zLe_nil)))))) ?_
      exact hK131 G x0 x1 x3 h
    · refine Y.blk (pc' := 94) (L' := [some (.ref x0), some (.long x1), none, some (.int x3), some (.int x4)]) (st' := [.ref x0]) (sg := [(.aload_n 0, 0)]) (by decide +kernel) rfl ?_
      refine Y.getA fl_X_10 (by decide +kernel) h (fun v34 h => ?_)
      refine Y.blk (pc' := 98) (L' := [some (.ref x0), some (.long x1), none, some (.int x3), some (.int x4)]) (st' := [.int x3, .ref v34]) (sg := [(.iload_n 3, 0)]) (by decide +kernel) rfl ?_
      obtain ⟨o36, e35, h⟩ := gOb_inv h
      refine Y.callI (yC.Vi (b := v34) (As := [.int x3]) (st := []) (r := ("Partlister$Lists", T_I, 7)) hV.1 cb_I_isThere lk_X_155 in_I_isThere rfl se_I_isThere (by decide +kernel) rfl rfl (Nat.le_of_ble_eq_true rfl) (by decide) e35) (k_I_isThere hV G v34 x3) h (fun v38 G37 _ h => ?_)
      refine Y.if_eq (off := 24) (tgt := 125) (by decide +kernel) (by decide) h (fun c49 h => ?_) (fun c49 h => ?_)
      · refine Y.blk (pc' := 128) (L' := [some (.ref x0), some (.long x1), none, some (.int x3), some (.int (x4 + (nI 1)))]) (st' := []) (sg := [(.iinc 4 1, nI 1)]) (by decide +kernel) rfl ?_
        refine Y.goto (off := -42) (tgt := 86) (by decide +kernel) (by decide) ?_
        exact ih G37 x0 x1 x3 (x4 + (nI 1)) h
      · refine Y.blk (pc' := 105) (L' := [some (.ref x0), some (.long x1), none, some (.int x3), some (.int x4)]) (st' := [.ref x0]) (sg := [(.aload_n 0, 0)]) (by decide +kernel) rfl ?_
        refine Y.getA fl_X_10 (by decide +kernel) h (fun v39 h => ?_)
        refine Y.blk (pc' := 110) (L' := [some (.ref x0), some (.long x1), none, some (.int x3), some (.int x4)]) (st' := [.int x4, .ref v39]) (sg := [(.iload 4, 0)]) (by decide +kernel) rfl ?_
        obtain ⟨o41, e40, h⟩ := gOb_inv h
        refine Y.callI (yC.Vi (b := v39) (As := [.int x4]) (st := []) (r := ("Partlister$Lists", T_I, 7)) hV.1 cb_I_isThere lk_X_155 in_I_isThere rfl se_I_isThere (by decide +kernel) rfl rfl (Nat.le_of_ble_eq_true rfl) (by decide) e40) (k_I_isThere hV G37 v39 x4) h (fun v43 G42 _ h => ?_)
        refine Y.if_eq (off := 12) (tgt := 125) (by decide +kernel) (by decide) h (fun c48 h => ?_) (fun c48 h => ?_)
        · refine Y.blk (pc' := 128) (L' := [some (.ref x0), some (.long x1), none, some (.int x3), some (.int (x4 + (nI 1)))]) (st' := []) (sg := [(.iinc 4 1, nI 1)]) (by decide +kernel) rfl ?_
          refine Y.goto (off := -42) (tgt := 86) (by decide +kernel) (by decide) ?_
          exact ih G42 x0 x1 x3 (x4 + (nI 1)) h
        · refine Y.blk (pc' := 121) (L' := [some (.ref x0), some (.long x1), none, some (.int x3), some (.int x4)]) (st' := [.int x4, .int x3, .long x1, .ref x0]) (sg := [(.aload_n 0, 0), (.lload_n 1, 0), (.iload_n 3, 0), (.iload 4, 0)]) (by decide +kernel) rfl ?_
          obtain ⟨o45, e44, h⟩ := gOb_inv h
          refine Y.callL (yC.Vi (b := x0) (As := [.long x1, .int x3, .int x4]) (st := []) (r := ("Partlister", T_X, 5)) hV.1 cb_X_mixPair lk_X_271 in_X_mixPair rfl se_X_mixPair (by decide +kernel) rfl rfl (Nat.le_of_ble_eq_true rfl) (by decide) e44) (k_X_mixPair hV G42 x0 x1 x3 x4) h (fun v47 G46 _ h => ?_)
          refine Y.blk (pc' := 128) (L' := [some (.ref x0), some (.long v47), none, some (.int x3), some (.int (x4 + (nI 1)))]) (st' := []) (sg := [(.lstore_n 1, 0), (.iinc 4 1, nI 1)]) (by decide +kernel) rfl ?_
          refine Y.goto (off := -42) (tgt := 86) (by decide +kernel) (by decide) ?_
          exact ih G46 x0 v47 x3 (x4 + (nI 1)) h
theorem k_X_digest_L77 {l : Launch} {D : va_G} {B : Nat} {O : State → Heap → Prop} (hV : zG l D B O) {o : gO} {Gf : gH} (K137 : gH → Nat → Int64 → gR) (hK137 : ∀ (G : gH) (x0 : Nat) (x1 : Int64), K137 G x0 x1 = some (o, Gf) → Y (zVm l D B O) m_X_digest 7 o Gf 137 [some (.ref x0), some (.long x1), none, none, none] [] G) : ∀ (n : Nat) (G : gH) (x0 : Nat) (x1 : Int64) (x3 : Int32), f_X_digest_L77 K137 n G x0 x1 x3 = some (o, Gf) → Y (zVm l D B O) m_X_digest 7 o Gf 77 [some (.ref x0), some (.long x1), none, some (.int x3), none] [] G := by
  intro n
  induction n with
  | zero => intro G x0 x1 x3 h; cases h
  | succ n ih =>
    intro G x0 x1 x3 h
    unfold f_X_digest_L77 at h
    refine Y.blk (pc' := 80) (L' := [some (.ref x0), some (.long x1), none, some (.int x3), none]) (st' := [.int (nI 6), .int x3]) (sg := [(.iload_n 3, 0), (.bipush 6, nI 6)]) (by decide +kernel) rfl ?_
    refine Y.ic_ge (off := 57) (tgt := 137) (by decide +kernel) (by decide) h (fun c55 h => ?_) (fun c55 h => ?_)
    · refine Y.less (L' := [some (.ref x0), some (.long x1), none, none, none]) (zLe_some (zLe_some (zLe_some (zLe_none (zLe_some (zLe_nil)))))) ?_
      exact hK137 G x0 x1 h
    · refine Y.blk (pc' := 86) (L' := [some (.ref x0), some (.long x1), none, some (.int x3), some (.int (nI 0))]) (st' := []) (sg := [(.iconst 0, nI 0), (.istore 4, 0)]) (by decide +kernel) rfl ?_
      refine k_X_digest_L86 hV _ ?_  zFu G x0 x1 x3 (nI 0) h
      · intro G54 x51 x52 x53 h
        refine Y.blk (pc' := 134) (L' := [some (.ref x51), some (.long x52), none, some (.int (x53 + (nI 1))), none]) (st' := []) (sg := [(.iinc 3 1, nI 1)]) (by decide +kernel) rfl ?_
        refine Y.goto (off := -57) (tgt := 77) (by decide +kernel) (by decide) ?_
        exact ih G54 x51 x52 (x53 + (nI 1)) h
theorem k_X_digest_L147 {l : Launch} {D : va_G} {B : Nat} {O : State → Heap → Prop} (hV : zG l D B O) {o : gO} {Gf : gH} (K173 : gH → Nat → Int64 → Int32 → gR) (hK173 : ∀ (G : gH) (x0 : Nat) (x1 : Int64) (x3 : Int32), K173 G x0 x1 x3 = some (o, Gf) → Y (zVm l D B O) m_X_digest 7 o Gf 173 [some (.ref x0), some (.long x1), none, some (.int x3), none] [] G) : ∀ (n : Nat) (G : gH) (x0 : Nat) (x1 : Int64) (x3 : Int32) (x4 : Int32), f_X_digest_L147 K173 n G x0 x1 x3 x4 = some (o, Gf) → Y (zVm l D B O) m_X_digest 7 o Gf 147 [some (.ref x0), some (.long x1), none, some (.int x3), some (.int x4)] [] G := by
  intro n
  induction n with
  | zero => intro G x0 x1 x3 x4 h; cases h
  | succ n ih =>
    intro G x0 x1 x3 x4 h
    unfold f_X_digest_L147 at h
    refine Y.blk (pc' := 151) (L' := [some (.ref x0), some (.long x1), none, some (.int x3), some (.int x4)]) (st' := [.int (nI 7), .int x4]) (sg := [(.iload 4, 0), (.bipush 7, nI 7)]) (by decide +kernel) rfl ?_
    refine Y.ic_ge (off := 22) (tgt := 173) (by decide +kernel) (by decide) h (fun c66 h => ?_) (fun c66 h => ?_)
    · refine Y.less (L' := [some (.ref x0), some (.long x1), none, some (.int x3), none]) (zLe_some (zLe_some (zLe_some (zLe_some (zLe_none (zLe_nil)))))) ?_
      exact hK173 G x0 x1 x3 h
    · refine Y.blk (pc' := 159) (L' := [some (.ref x0), some (.long x1), none, some (.int x3), some (.int x4)]) (st' := [.int x4, .int x3, .ref x0, .long x1]) (sg := [(.lload_n 1, 0), (.aload_n 0, 0), (.iload_n 3, 0), (.iload 4, 0)]) (by decide +kernel) rfl ?_
      obtain ⟨o60, e59, h⟩ := gOb_inv h
      refine Y.callI (yC.Vi (b := x0) (As := [.int x3, .int x4]) (st := [.long x1]) (r := ("Partlister", T_X, 5)) hV.1 cb_X_worthOfCursor lk_X_245 in_X_worthOfCursor rfl se_X_worthOfCursor (by decide +kernel) rfl rfl (Nat.le_of_ble_eq_true rfl) (by decide) e59) (k_X_worthOfCursor hV G x0 x3 x4) h (fun v62 G61 _ h => ?_)
      refine Y.blk (pc' := 163) (L' := [some (.ref x0), some (.long x1), none, some (.int x3), some (.int x4)]) (st' := [.long v62.toInt64, .long x1]) (sg := [(.i2l, 0)]) (by decide +kernel) rfl ?_
      refine Y.callL (yC.S (As := [.long x1, .long v62.toInt64]) (st := []) hV.1 cb_X_mix lk_X_263 st_X_mix (by decide +kernel) rfl rfl (Nat.le_of_ble_eq_true rfl) (by decide)) (k_X_mix hV G61 x1 v62.toInt64) h (fun v65 G64 _ h => ?_)
      refine Y.blk (pc' := 170) (L' := [some (.ref x0), some (.long v65), none, some (.int x3), some (.int (x4 + (nI 1)))]) (st' := []) (sg := [(.lstore_n 1, 0), (.iinc 4 1, nI 1)]) (by decide +kernel) rfl ?_
      refine Y.goto (off := -23) (tgt := 147) (by decide +kernel) (by decide) ?_
      exact ih G64 x0 v65 x3 (x4 + (nI 1)) h
theorem k_X_digest_L139 {l : Launch} {D : va_G} {B : Nat} {O : State → Heap → Prop} (hV : zG l D B O) {o : gO} {Gf : gH} (K179 : gH → Nat → Int64 → gR) (hK179 : ∀ (G : gH) (x0 : Nat) (x1 : Int64), K179 G x0 x1 = some (o, Gf) → Y (zVm l D B O) m_X_digest 7 o Gf 179 [some (.ref x0), some (.long x1), none, none, none] [] G) : ∀ (n : Nat) (G : gH) (x0 : Nat) (x1 : Int64) (x3 : Int32), f_X_digest_L139 K179 n G x0 x1 x3 = some (o, Gf) → Y (zVm l D B O) m_X_digest 7 o Gf 139 [some (.ref x0), some (.long x1), none, some (.int x3), none] [] G := by
  intro n
  induction n with
  | zero => intro G x0 x1 x3 h; cases h
  | succ n ih =>
    intro G x0 x1 x3 h
    unfold f_X_digest_L139 at h
    refine Y.blk (pc' := 141) (L' := [some (.ref x0), some (.long x1), none, some (.int x3), none]) (st' := [.int (nI 3), .int x3]) (sg := [(.iload_n 3, 0), (.iconst 3, nI 3)]) (by decide +kernel) rfl ?_
    refine Y.ic_ge (off := 38) (tgt := 179) (by decide +kernel) (by decide) h (fun c71 h => ?_) (fun c71 h => ?_)
    · refine Y.less (L' := [some (.ref x0), some (.long x1), none, none, none]) (zLe_some (zLe_some (zLe_some (zLe_none (zLe_some (zLe_nil)))))) ?_
      exact hK179 G x0 x1 h
    · refine Y.blk (pc' := 147) (L' := [some (.ref x0), some (.long x1), none, some (.int x3), some (.int (nI 0))]) (st' := []) (sg := [(.iconst 0, nI 0), (.istore 4, 0)]) (by decide +kernel) rfl ?_
      refine k_X_digest_L147 hV _ ?_  zFu G x0 x1 x3 (nI 0) h
      · intro G70 x67 x68 x69 h
        refine Y.blk (pc' := 176) (L' := [some (.ref x67), some (.long x68), none, some (.int (x69 + (nI 1))), none]) (st' := []) (sg := [(.iinc 3 1, nI 1)]) (by decide +kernel) rfl ?_
        refine Y.goto (off := -37) (tgt := 139) (by decide +kernel) (by decide) ?_
        exact ih G70 x67 x68 (x69 + (nI 1)) h
theorem k_X_digest {l : Launch} {D : va_G} {B : Nat} {O : State → Heap → Prop} (hV : zG l D B O) (G : gH) (a0 : Nat) : gMet (zVm l D B O) m_X_digest 7 [.ref a0] G (f_X_digest G a0) := by
  refine gMet.of (by decide +kernel) (Nat.le_of_ble_eq_true rfl) [some (.ref a0), none, none, none, none] (fun ls h => zEn_ok (n := 5) h) ?_
  intro o Gf h
  unfold f_X_digest at h
  refine Y.ldc2 (v := lN 2203) co_X_261 (by decide +kernel) ?_
  refine Y.blk (pc' := 6) (L' := [some (.ref a0), some (.long (lN 2203)), none, some (.int (nI 0)), none]) (st' := []) (sg := [(.lstore_n 1, 0), (.iconst 0, nI 0), (.istore_n 3, 0)]) (by decide +kernel) rfl ?_
  refine k_X_digest_L6 hV _ ?_  zFu G a0 (lN 2203) (nI 0) h
  · intro G11 x9 x10 h
    refine Y.blk (pc' := 31) (L' := [some (.ref x9), some (.long x10), none, some (.int (nI 0)), none]) (st' := []) (sg := [(.iconst 0, nI 0), (.istore_n 3, 0)]) (by decide +kernel) rfl ?_
    refine k_X_digest_L31 hV _ ?_  zFu G11 x9 x10 (nI 0) h
    · intro G33 x31 x32 h
      refine Y.blk (pc' := 77) (L' := [some (.ref x31), some (.long x32), none, some (.int (nI 0)), none]) (st' := []) (sg := [(.iconst 0, nI 0), (.istore_n 3, 0)]) (by decide +kernel) rfl ?_
      refine k_X_digest_L77 hV _ ?_  zFu G33 x31 x32 (nI 0) h
      · intro G58 x56 x57 h
        refine Y.blk (pc' := 139) (L' := [some (.ref x56), some (.long x57), none, some (.int (nI 0)), none]) (st' := []) (sg := [(.iconst 0, nI 0), (.istore_n 3, 0)]) (by decide +kernel) rfl ?_
        refine k_X_digest_L139 hV _ ?_  zFu G58 x56 x57 (nI 0) h
        · intro G74 x72 x73 h
          refine Y.blk (pc' := 181) (L' := [some (.ref x72), some (.long x73), none, none, none]) (st' := [.ref x72, .long x73]) (sg := [(.lload_n 1, 0), (.aload_n 0, 0)]) (by decide +kernel) rfl ?_
          refine Y.getA fl_X_10 (by decide +kernel) h (fun v75 h => ?_)
          obtain ⟨o77, e76, h⟩ := gOb_inv h
          refine Y.callI (yC.Vi (b := v75) (As := []) (st := [.long x73]) (r := ("Partlister$Lists", T_I, 7)) hV.1 cb_I_areSound lk_X_253 in_I_areSound rfl se_I_areSound (by decide +kernel) rfl rfl (Nat.le_of_ble_eq_true rfl) (by decide) e76) (k_I_areSound hV G74 v75) h (fun v79 G78 _ h => ?_)
          refine Y.if_eq (off := 7) (tgt := 194) (by decide +kernel) (by decide) h (fun c86 h => ?_) (fun c86 h => ?_)
          · refine Y.blk (pc' := 195) (L' := [some (.ref x72), some (.long x73), none, none, none]) (st' := [.long (lN 0), .long x73]) (sg := [(.lconst 0, 0)]) (by decide +kernel) rfl ?_
            refine Y.callL (yC.S (As := [.long x73, .long (lN 0)]) (st := []) hV.1 cb_X_mix lk_X_263 st_X_mix (by decide +kernel) rfl rfl (Nat.le_of_ble_eq_true rfl) (by decide)) (k_X_mix hV G78 x73 (lN 0)) h (fun v82 G81 _ h => ?_)
            exact Y.lret rfl (by decide +kernel) h
          · refine Y.blk (pc' := 191) (L' := [some (.ref x72), some (.long x73), none, none, none]) (st' := [.long (lN 1), .long x73]) (sg := [(.lconst 1, 0)]) (by decide +kernel) rfl ?_
            refine Y.goto (off := 4) (tgt := 195) (by decide +kernel) (by decide) ?_
            refine Y.callL (yC.S (As := [.long x73, .long (lN 1)]) (st := []) hV.1 cb_X_mix lk_X_263 st_X_mix (by decide +kernel) rfl rfl (Nat.le_of_ble_eq_true rfl) (by decide)) (k_X_mix hV G78 x73 (lN 1)) h (fun v85 G84 _ h => ?_)
            exact Y.lret rfl (by decide +kernel) h

def f_X_failWith (G : gH) (a0 : Nat) (a1 : Int32) : gR :=
  gFI G a0 3 3 fun v1 => gPut G a0 3 3 (.int (v1 + (nI 1))) fun G2 => rI a1 G2
theorem k_X_failWith {l : Launch} {D : va_G} {B : Nat} {O : State → Heap → Prop} (hV : zG l D B O) (G : gH) (a0 : Nat) (a1 : Int32) : gMet (zVm l D B O) m_X_failWith 1 [.ref a0, .int a1] G (f_X_failWith G a0 a1) := by
  refine gMet.of (by decide +kernel) (Nat.le_of_ble_eq_true rfl) [some (.ref a0), some (.int a1)] (fun ls h => zEn_ok (n := 2) h) ?_
  intro o Gf h
  unfold f_X_failWith at h
  refine Y.blk (pc' := 2) (L' := [some (.ref a0), some (.int a1)]) (st' := [.ref a0, .ref a0]) (sg := [(.aload_n 0, 0), (.dup, 0)]) (by decide +kernel) rfl ?_
  refine Y.getI fl_X_302 (by decide +kernel) h (fun v1 h => ?_)
  refine Y.blk (pc' := 7) (L' := [some (.ref a0), some (.int a1)]) (st' := [.int (v1 + (nI 1)), .ref a0]) (sg := [(.iconst 1, nI 1), (.iadd, 0)]) (by decide +kernel) rfl ?_
  refine Y.putf fl_X_302 rfl rfl (by decide +kernel) h (fun G2 _ _ h => ?_)
  refine Y.blk (pc' := 11) (L' := [some (.ref a0), some (.int a1)]) (st' := [.int a1]) (sg := [(.iload_n 1, 0)]) (by decide +kernel) rfl ?_
  exact Y.iret rfl (by decide +kernel) h

def f_X_needCursor (G : gH) (a0 : Nat) (a1 : Int32) : gR :=
  gFA G a0 3 1 fun v1 => gOb G v1 0 fun o3 => bI (f_U_isThere G v1 a1) fun v5 G4 => if v5 = 0 then gThrow "java/lang/IndexOutOfBoundsException" G4
  else rV G4
theorem k_X_needCursor {l : Launch} {D : va_G} {B : Nat} {O : State → Heap → Prop} (hV : zG l D B O) (G : gH) (a0 : Nat) (a1 : Int32) : gMet (zVm l D B O) m_X_needCursor 6 [.ref a0, .int a1] G (f_X_needCursor G a0 a1) := by
  refine gMet.of (by decide +kernel) (Nat.le_of_ble_eq_true rfl) [some (.ref a0), some (.int a1)] (fun ls h => zEn_ok (n := 2) h) ?_
  intro o Gf h
  unfold f_X_needCursor at h
  refine Y.blk (pc' := 1) (L' := [some (.ref a0), some (.int a1)]) (st' := [.ref a0]) (sg := [(.aload_n 0, 0)]) (by decide +kernel) rfl ?_
  refine Y.getA fl_X_19 (by decide +kernel) h (fun v1 h => ?_)
  refine Y.blk (pc' := 5) (L' := [some (.ref a0), some (.int a1)]) (st' := [.int a1, .ref v1]) (sg := [(.iload_n 1, 0)]) (by decide +kernel) rfl ?_
  obtain ⟨o3, e2, h⟩ := gOb_inv h
  refine Y.callI (yC.Vi (b := v1) (As := [.int a1]) (st := []) (r := ("Partlister$Cursors", T_U, 5)) hV.1 cb_U_isThere lk_X_148 in_U_isThere rfl se_U_isThere (by decide +kernel) rfl rfl (Nat.le_of_ble_eq_true rfl) (by decide) e2) (k_U_isThere hV G v1 a1) h (fun v5 G4 _ h => ?_)
  refine Y.if_ne (off := 14) (tgt := 22) (by decide +kernel) (by decide) h (fun c6 h => ?_) (fun c6 h => ?_)
  · exact Y.throwSW (is := 335) (text := "there is no such CURSOR") (names := zNm) hV.1 (hV.2 _ _ _ (by decide +kernel)) (by decide +kernel) (by decide +kernel) ck_X_125 ini_IOE tw_X_129 tg_X_129 (by decide) (by decide) rfl (Nat.le_of_ble_eq_true rfl) (by decide +kernel) (by decide +kernel) (by decide +kernel) (by decide +kernel) (by decide +kernel) h
  · exact Y.vret rfl (by decide +kernel) h

def f_I_closeGap_L27 (K56 : gH → Nat → Int32 → gR) : Nat → gH → Nat → Int32 → Int32 → Int32 → Int32 → gR
  | 0, _, _, _, _, _, _ => none
  | n + 1, G, x0, x1, x3, x4, x5 =>
    if x4 ≤ x5 then K56 G x0 x1
    else gOb G x0 1 fun o15 => bI (f_I_thingAt G x0 x3 x5) fun v17 G16 => gOb G16 x0 1 fun o19 => bV (f_I_write G16 x0 x3 (x5 - (nI 1)) v17) fun G20 => f_I_closeGap_L27 K56 n G20 x0 x1 x3 x4 (x5 + (nI 1))
def f_I_closeGap (G : gH) (a0 : Nat) (a1 : Int32) (a2 : Int32) : gR :=
  gOb G a0 1 fun o2 => bI (f_I_rowOf G a0 a1) fun v4 G3 => gOb G3 a0 1 fun o6 => bI (f_I_lengthOf G3 a0 v4) fun v8 G7 => gFA G7 a0 1 4 fun v9 => gOb G7 v9 2 fun o11 => bI (f_N_read G7 v9 a1) fun v13 G12 => f_I_closeGap_L27 (fun G24 x22 x23 => gOb G24 x22 1 fun o26 => bV (f_I_lengthen G24 x22 x23 (-1)) fun G27 => rV G27) zFu G12 a0 a1 v4 v8 ((v13 + a2) + (nI 1))
theorem k_I_closeGap_L27 {l : Launch} {D : va_G} {B : Nat} {O : State → Heap → Prop} (hV : zG l D B O) {o : gO} {Gf : gH} (K56 : gH → Nat → Int32 → gR) (hK56 : ∀ (G : gH) (x0 : Nat) (x1 : Int32), K56 G x0 x1 = some (o, Gf) → Y (zVm l D B O) m_I_closeGap 4 o Gf 56 [some (.ref x0), some (.int x1), none, none, none, none] [] G) : ∀ (n : Nat) (G : gH) (x0 : Nat) (x1 : Int32) (x3 : Int32) (x4 : Int32) (x5 : Int32), f_I_closeGap_L27 K56 n G x0 x1 x3 x4 x5 = some (o, Gf) → Y (zVm l D B O) m_I_closeGap 4 o Gf 27 [some (.ref x0), some (.int x1), none, some (.int x3), some (.int x4), some (.int x5)] [] G := by
  intro n
  induction n with
  | zero => intro G x0 x1 x3 x4 x5 h; cases h
  | succ n ih =>
    intro G x0 x1 x3 x4 x5 h
    unfold f_I_closeGap_L27 at h
    refine Y.blk (pc' := 31) (L' := [some (.ref x0), some (.int x1), none, some (.int x3), some (.int x4), some (.int x5)]) (st' := [.int x4, .int x5]) (sg := [(.iload 5, 0), (.iload 4, 0)]) (by decide +kernel) rfl ?_
    refine Y.ic_ge (off := 25) (tgt := 56) (by decide +kernel) (by decide) h (fun c21 h => ?_) (fun c21 h => ?_)
    · refine Y.less (L' := [some (.ref x0), some (.int x1), none, none, none, none]) (zLe_some (zLe_some (zLe_some (zLe_none (zLe_none (zLe_none (zLe_nil))))))) ?_
      exact hK56 G x0 x1 h
    · refine Y.blk (pc' := 44) (L' := [some (.ref x0), some (.int x1), none, some (.int x3), some (.int x4), some (.int x5)]) (st' := [.int x5, .int x3, .ref x0, .int (x5 - (nI 1)), .int x3, .ref x0]) (sg := [(.aload_n 0, 0), (.iload_n 3, 0), (.iload 5, 0), (.iconst 1, nI 1), (.isub, 0), (.aload_n 0, 0), (.iload_n 3, 0), (.iload 5, 0)]) (by decide +kernel) rfl ?_
      obtain ⟨o15, e14, h⟩ := gOb_inv h
      refine Y.callI (yC.Vi (b := x0) (As := [.int x3, .int x5]) (st := [.int (x5 - (nI 1)), .int x3, .ref x0]) (r := ("Partlister$Lists", T_I, 7)) hV.1 cb_I_thingAt lk_I_50 in_I_thingAt rfl se_I_thingAt (by decide +kernel) rfl rfl (Nat.le_of_ble_eq_true rfl) (by decide) e14) (k_I_thingAt hV G x0 x3 x5) h (fun v17 G16 _ h => ?_)
      obtain ⟨o19, e18, h⟩ := gOb_inv h
      refine Y.callN (yC.Vi (b := x0) (As := [.int x3, .int (x5 - (nI 1)), .int v17]) (st := []) (r := ("Partlister$Lists", T_I, 7)) hV.1 cb_I_write lk_I_53 in_I_write rfl se_I_write (by decide +kernel) rfl rfl (Nat.le_of_ble_eq_true rfl) (by decide) e18) (k_I_write hV G16 x0 x3 (x5 - (nI 1)) v17) h (fun G20 _ h => ?_)
      refine Y.blk (pc' := 53) (L' := [some (.ref x0), some (.int x1), none, some (.int x3), some (.int x4), some (.int (x5 + (nI 1)))]) (st' := []) (sg := [(.iinc 5 1, nI 1)]) (by decide +kernel) rfl ?_
      refine Y.goto (off := -26) (tgt := 27) (by decide +kernel) (by decide) ?_
      exact ih G20 x0 x1 x3 x4 (x5 + (nI 1)) h
theorem k_I_closeGap {l : Launch} {D : va_G} {B : Nat} {O : State → Heap → Prop} (hV : zG l D B O) (G : gH) (a0 : Nat) (a1 : Int32) (a2 : Int32) : gMet (zVm l D B O) m_I_closeGap 4 [.ref a0, .int a1, .int a2] G (f_I_closeGap G a0 a1 a2) := by
  refine gMet.of (by decide +kernel) (Nat.le_of_ble_eq_true rfl) [some (.ref a0), some (.int a1), some (.int a2), none, none, none] (fun ls h => zEn_ok (n := 6) h) ?_
  intro o Gf h
  unfold f_I_closeGap at h
  refine Y.blk (pc' := 2) (L' := [some (.ref a0), some (.int a1), some (.int a2), none, none, none]) (st' := [.int a1, .ref a0]) (sg := [(.aload_n 0, 0), (.iload_n 1, 0)]) (by decide +kernel) rfl ?_
  obtain ⟨o2, e1, h⟩ := gOb_inv h
  refine Y.callI (yC.Vi (b := a0) (As := [.int a1]) (st := []) (r := ("Partlister$Lists", T_I, 7)) hV.1 cb_I_rowOf lk_I_56 in_I_rowOf rfl se_I_rowOf (by decide +kernel) rfl rfl (Nat.le_of_ble_eq_true rfl) (by decide) e1) (k_I_rowOf hV G a0 a1) h (fun v4 G3 _ h => ?_)
  refine Y.blk (pc' := 8) (L' := [some (.ref a0), some (.int a1), some (.int a2), some (.int v4), none, none]) (st' := [.int v4, .ref a0]) (sg := [(.istore_n 3, 0), (.aload_n 0, 0), (.iload_n 3, 0)]) (by decide +kernel) rfl ?_
  obtain ⟨o6, e5, h⟩ := gOb_inv h
  refine Y.callI (yC.Vi (b := a0) (As := [.int v4]) (st := []) (r := ("Partlister$Lists", T_I, 7)) hV.1 cb_I_lengthOf lk_I_59 in_I_lengthOf rfl se_I_lengthOf (by decide +kernel) rfl rfl (Nat.le_of_ble_eq_true rfl) (by decide) e5) (k_I_lengthOf hV G3 a0 v4) h (fun v8 G7 _ h => ?_)
  refine Y.blk (pc' := 14) (L' := [some (.ref a0), some (.int a1), some (.int a2), some (.int v4), some (.int v8), none]) (st' := [.ref a0]) (sg := [(.istore 4, 0), (.aload_n 0, 0)]) (by decide +kernel) rfl ?_
  refine Y.getA fl_I_29 (by decide +kernel) h (fun v9 h => ?_)
  refine Y.blk (pc' := 18) (L' := [some (.ref a0), some (.int a1), some (.int a2), some (.int v4), some (.int v8), none]) (st' := [.int a1, .ref v9]) (sg := [(.iload_n 1, 0)]) (by decide +kernel) rfl ?_
  obtain ⟨o11, e10, h⟩ := gOb_inv h
  refine Y.callI (yC.Vi (b := v9) (As := [.int a1]) (st := []) (r := ("Partlister$Numbers", T_N, 1)) hV.1 cb_N_read lk_I_39 in_N_read rfl se_N_read (by decide +kernel) rfl rfl (Nat.le_of_ble_eq_true rfl) (by decide) e10) (k_N_read hV G7 v9 a1) h (fun v13 G12 _ h => ?_)
  refine Y.blk (pc' := 27) (L' := [some (.ref a0), some (.int a1), some (.int a2), some (.int v4), some (.int v8), some (.int ((v13 + a2) + (nI 1)))]) (st' := []) (sg := [(.iload_n 2, 0), (.iadd, 0), (.iconst 1, nI 1), (.iadd, 0), (.istore 5, 0)]) (by decide +kernel) rfl ?_
  refine Y.less (L' := [some (.ref a0), some (.int a1), none, some (.int v4), some (.int v8), some (.int ((v13 + a2) + (nI 1)))]) (zLe_some (zLe_some (zLe_none (zLe_some (zLe_some (zLe_some (zLe_nil))))))) ?_
  refine k_I_closeGap_L27 hV _ ?_  zFu G12 a0 a1 v4 v8 ((v13 + a2) + (nI 1)) h
  · intro G24 x22 x23 h
    refine Y.blk (pc' := 59) (L' := [some (.ref x22), some (.int x23), none, none, none, none]) (st' := [.int (-1), .int x23, .ref x22]) (sg := [(.aload_n 0, 0), (.iload_n 1, 0), (.iconst (-1), -1)]) (by decide +kernel) rfl ?_
    obtain ⟨o26, e25, h⟩ := gOb_inv h
    refine Y.callN (yC.Vi (b := x22) (As := [.int x23, .int (-1)]) (st := []) (r := ("Partlister$Lists", T_I, 7)) hV.1 cb_I_lengthen lk_I_62 in_I_lengthen rfl se_I_lengthen (by decide +kernel) rfl rfl (Nat.le_of_ble_eq_true rfl) (by decide) e25) (k_I_lengthen hV G24 x22 x23 (-1)) h (fun G27 _ h => ?_)
    exact Y.vret rfl (by decide +kernel) h

def f_X_takeOut (G : gH) (a0 : Nat) (a1 : Int32) (a2 : Int32) (a3 : Int32) : gR :=
  gFA G a0 3 0 fun v1 => gOb G v1 1 fun o3 => bI (f_I_thingAt G v1 a1 a2) fun v5 G4 => gFA G4 a0 3 0 fun v6 => gOb G4 v6 1 fun o8 => bV (f_I_closeGap G4 v6 a1 a2) fun G9 => gOb G9 a0 3 fun o11 => bV (f_X_endByLength G9 a0 a1 a3) fun G12 => rI v5 G12
theorem k_X_takeOut {l : Launch} {D : va_G} {B : Nat} {O : State → Heap → Prop} (hV : zG l D B O) (G : gH) (a0 : Nat) (a1 : Int32) (a2 : Int32) (a3 : Int32) : gMet (zVm l D B O) m_X_takeOut 6 [.ref a0, .int a1, .int a2, .int a3] G (f_X_takeOut G a0 a1 a2 a3) := by
  refine gMet.of (by decide +kernel) (Nat.le_of_ble_eq_true rfl) [some (.ref a0), some (.int a1), some (.int a2), some (.int a3), none] (fun ls h => zEn_ok (n := 5) h) ?_
  intro o Gf h
  unfold f_X_takeOut at h
  refine Y.blk (pc' := 1) (L' := [some (.ref a0), some (.int a1), some (.int a2), some (.int a3), none]) (st' := [.ref a0]) (sg := [(.aload_n 0, 0)]) (by decide +kernel) rfl ?_
  refine Y.getA fl_X_10 (by decide +kernel) h (fun v1 h => ?_)
  refine Y.blk (pc' := 6) (L' := [some (.ref a0), some (.int a1), some (.int a2), some (.int a3), none]) (st' := [.int a2, .int a1, .ref v1]) (sg := [(.iload_n 1, 0), (.iload_n 2, 0)]) (by decide +kernel) rfl ?_
  obtain ⟨o3, e2, h⟩ := gOb_inv h
  refine Y.callI (yC.Vi (b := v1) (As := [.int a1, .int a2]) (st := []) (r := ("Partlister$Lists", T_I, 7)) hV.1 cb_I_thingAt lk_X_94 in_I_thingAt rfl se_I_thingAt (by decide +kernel) rfl rfl (Nat.le_of_ble_eq_true rfl) (by decide) e2) (k_I_thingAt hV G v1 a1 a2) h (fun v5 G4 _ h => ?_)
  refine Y.blk (pc' := 12) (L' := [some (.ref a0), some (.int a1), some (.int a2), some (.int a3), some (.int v5)]) (st' := [.ref a0]) (sg := [(.istore 4, 0), (.aload_n 0, 0)]) (by decide +kernel) rfl ?_
  refine Y.getA fl_X_10 (by decide +kernel) h (fun v6 h => ?_)
  refine Y.blk (pc' := 17) (L' := [some (.ref a0), some (.int a1), some (.int a2), some (.int a3), some (.int v5)]) (st' := [.int a2, .int a1, .ref v6]) (sg := [(.iload_n 1, 0), (.iload_n 2, 0)]) (by decide +kernel) rfl ?_
  obtain ⟨o8, e7, h⟩ := gOb_inv h
  refine Y.callN (yC.Vi (b := v6) (As := [.int a1, .int a2]) (st := []) (r := ("Partlister$Lists", T_I, 7)) hV.1 cb_I_closeGap lk_X_284 in_I_closeGap rfl se_I_closeGap (by decide +kernel) rfl rfl (Nat.le_of_ble_eq_true rfl) (by decide) e7) (k_I_closeGap hV G4 v6 a1 a2) h (fun G9 _ h => ?_)
  refine Y.blk (pc' := 23) (L' := [some (.ref a0), some (.int a1), some (.int a2), some (.int a3), some (.int v5)]) (st' := [.int a3, .int a1, .ref a0]) (sg := [(.aload_n 0, 0), (.iload_n 1, 0), (.iload_n 3, 0)]) (by decide +kernel) rfl ?_
  obtain ⟨o11, e10, h⟩ := gOb_inv h
  refine Y.callN (yC.Vi (b := a0) (As := [.int a1, .int a3]) (st := []) (r := ("Partlister", T_X, 5)) hV.1 cb_X_endByLength lk_X_281 in_X_endByLength rfl se_X_endByLength (by decide +kernel) rfl rfl (Nat.le_of_ble_eq_true rfl) (by decide) e10) (k_X_endByLength hV G9 a0 a1 a3) h (fun G12 _ h => ?_)
  refine Y.blk (pc' := 28) (L' := [some (.ref a0), some (.int a1), some (.int a2), some (.int a3), some (.int v5)]) (st' := [.int v5]) (sg := [(.iload 4, 0)]) (by decide +kernel) rfl ?_
  exact Y.iret rfl (by decide +kernel) h

def f_X_drop (G : gH) (a0 : Nat) (a1 : Int32) : gR :=
  gOb G a0 3 fun o2 => bV (f_X_needCursor G a0 a1) fun G3 => gFA G3 a0 3 1 fun v4 => gOb G3 v4 0 fun o6 => bI (f_U_isStale G3 v4 a1) fun v8 G7 => if v8 = 0 then (gFA G7 a0 3 1 fun v9 => gOb G7 v9 0 fun o11 => bI (f_U_lastOf G7 v9 a1) fun v13 G12 => if v13 = (-1) then gOb G12 a0 3 fun o15 => bI (f_X_failWith G12 a0 (-7)) fun v17 G16 => rI v17 G16
    else gFA G12 a0 3 1 fun v18 => gOb G12 v18 0 fun o20 => bI (f_U_listOf G12 v18 a1) fun v22 G21 => gOb G21 a0 3 fun o24 => bI (f_X_takeOut G21 a0 v22 v13 a1) fun v26 G25 => gFA G25 a0 3 1 fun v27 => gOb G25 v27 0 fun o29 => bV (f_U_stand G25 v27 a1 v13 (-1)) fun G30 => gFA G30 a0 3 0 fun v31 => gOb G30 v31 1 fun o33 => bI (f_I_lengthOf G30 v31 v22) fun v35 G34 => rI v35 G34)
  else gOb G7 a0 3 fun o38 => bI (f_X_failWith G7 a0 (-9)) fun v40 G39 => rI v40 G39
theorem k_X_drop {l : Launch} {D : va_G} {B : Nat} {O : State → Heap → Prop} (hV : zG l D B O) (G : gH) (a0 : Nat) (a1 : Int32) : gMet (zVm l D B O) m_X_drop 7 [.ref a0, .int a1] G (f_X_drop G a0 a1) := by
  refine gMet.of (by decide +kernel) (Nat.le_of_ble_eq_true rfl) [some (.ref a0), some (.int a1), none, none] (fun ls h => zEn_ok (n := 4) h) ?_
  intro o Gf h
  unfold f_X_drop at h
  refine Y.blk (pc' := 2) (L' := [some (.ref a0), some (.int a1), none, none]) (st' := [.int a1, .ref a0]) (sg := [(.aload_n 0, 0), (.iload_n 1, 0)]) (by decide +kernel) rfl ?_
  obtain ⟨o2, e1, h⟩ := gOb_inv h
  refine Y.callN (yC.Vi (b := a0) (As := [.int a1]) (st := []) (r := ("Partlister", T_X, 5)) hV.1 cb_X_needCursor lk_X_167 in_X_needCursor rfl se_X_needCursor (by decide +kernel) rfl rfl (Nat.le_of_ble_eq_true rfl) (by decide) e1) (k_X_needCursor hV G a0 a1) h (fun G3 _ h => ?_)
  refine Y.blk (pc' := 6) (L' := [some (.ref a0), some (.int a1), none, none]) (st' := [.ref a0]) (sg := [(.aload_n 0, 0)]) (by decide +kernel) rfl ?_
  refine Y.getA fl_X_19 (by decide +kernel) h (fun v4 h => ?_)
  refine Y.blk (pc' := 10) (L' := [some (.ref a0), some (.int a1), none, none]) (st' := [.int a1, .ref v4]) (sg := [(.iload_n 1, 0)]) (by decide +kernel) rfl ?_
  obtain ⟨o6, e5, h⟩ := gOb_inv h
  refine Y.callI (yC.Vi (b := v4) (As := [.int a1]) (st := []) (r := ("Partlister$Cursors", T_U, 5)) hV.1 cb_U_isStale lk_X_170 in_U_isStale rfl se_U_isStale (by decide +kernel) rfl rfl (Nat.le_of_ble_eq_true rfl) (by decide) e5) (k_U_isStale hV G3 v4 a1) h (fun v8 G7 _ h => ?_)
  refine Y.if_eq (off := 10) (tgt := 23) (by decide +kernel) (by decide) h (fun c41 h => ?_) (fun c41 h => ?_)
  · refine Y.blk (pc' := 24) (L' := [some (.ref a0), some (.int a1), none, none]) (st' := [.ref a0]) (sg := [(.aload_n 0, 0)]) (by decide +kernel) rfl ?_
    refine Y.getA fl_X_19 (by decide +kernel) h (fun v9 h => ?_)
    refine Y.blk (pc' := 28) (L' := [some (.ref a0), some (.int a1), none, none]) (st' := [.int a1, .ref v9]) (sg := [(.iload_n 1, 0)]) (by decide +kernel) rfl ?_
    obtain ⟨o11, e10, h⟩ := gOb_inv h
    refine Y.callI (yC.Vi (b := v9) (As := [.int a1]) (st := []) (r := ("Partlister$Cursors", T_U, 5)) hV.1 cb_U_lastOf lk_X_182 in_U_lastOf rfl se_U_lastOf (by decide +kernel) rfl rfl (Nat.le_of_ble_eq_true rfl) (by decide) e10) (k_U_lastOf hV G7 v9 a1) h (fun v13 G12 _ h => ?_)
    refine Y.blk (pc' := 34) (L' := [some (.ref a0), some (.int a1), some (.int v13), none]) (st' := [.int (-1), .int v13]) (sg := [(.istore_n 2, 0), (.iload_n 2, 0), (.iconst (-1), -1)]) (by decide +kernel) rfl ?_
    refine Y.ic_ne (off := 10) (tgt := 44) (by decide +kernel) (by decide) h (fun c36 h => ?_) (fun c36 h => ?_)
    · refine Y.blk (pc' := 40) (L' := [some (.ref a0), some (.int a1), some (.int v13), none]) (st' := [.int (-7), .ref a0]) (sg := [(.aload_n 0, 0), (.bipush (-7), -7)]) (by decide +kernel) rfl ?_
      obtain ⟨o15, e14, h⟩ := gOb_inv h
      refine Y.callI (yC.Vi (b := a0) (As := [.int (-7)]) (st := []) (r := ("Partlister", T_X, 5)) hV.1 cb_X_failWith lk_X_173 in_X_failWith rfl se_X_failWith (by decide +kernel) rfl rfl (Nat.le_of_ble_eq_true rfl) (by decide) e14) (k_X_failWith hV G12 a0 (-7)) h (fun v17 G16 _ h => ?_)
      exact Y.iret rfl (by decide +kernel) h
    · refine Y.blk (pc' := 45) (L' := [some (.ref a0), some (.int a1), some (.int v13), none]) (st' := [.ref a0]) (sg := [(.aload_n 0, 0)]) (by decide +kernel) rfl ?_
      refine Y.getA fl_X_19 (by decide +kernel) h (fun v18 h => ?_)
      refine Y.blk (pc' := 49) (L' := [some (.ref a0), some (.int a1), some (.int v13), none]) (st' := [.int a1, .ref v18]) (sg := [(.iload_n 1, 0)]) (by decide +kernel) rfl ?_
      obtain ⟨o20, e19, h⟩ := gOb_inv h
      refine Y.callI (yC.Vi (b := v18) (As := [.int a1]) (st := []) (r := ("Partlister$Cursors", T_U, 5)) hV.1 cb_U_listOf lk_X_152 in_U_listOf rfl se_U_listOf (by decide +kernel) rfl rfl (Nat.le_of_ble_eq_true rfl) (by decide) e19) (k_U_listOf hV G12 v18 a1) h (fun v22 G21 _ h => ?_)
      refine Y.blk (pc' := 57) (L' := [some (.ref a0), some (.int a1), some (.int v13), some (.int v22)]) (st' := [.int a1, .int v13, .int v22, .ref a0]) (sg := [(.istore_n 3, 0), (.aload_n 0, 0), (.iload_n 3, 0), (.iload_n 2, 0), (.iload_n 1, 0)]) (by decide +kernel) rfl ?_
      obtain ⟨o24, e23, h⟩ := gOb_inv h
      refine Y.callI (yC.Vi (b := a0) (As := [.int v22, .int v13, .int a1]) (st := []) (r := ("Partlister", T_X, 5)) hV.1 cb_X_takeOut lk_X_69 in_X_takeOut rfl se_X_takeOut (by decide +kernel) rfl rfl (Nat.le_of_ble_eq_true rfl) (by decide) e23) (k_X_takeOut hV G21 a0 v22 v13 a1) h (fun v26 G25 _ h => ?_)
      refine Y.blk (pc' := 62) (L' := [some (.ref a0), some (.int a1), some (.int v13), some (.int v22)]) (st' := [.ref a0]) (sg := [(.pop, 0), (.aload_n 0, 0)]) (by decide +kernel) rfl ?_
      refine Y.getA fl_X_19 (by decide +kernel) h (fun v27 h => ?_)
      refine Y.blk (pc' := 68) (L' := [some (.ref a0), some (.int a1), some (.int v13), some (.int v22)]) (st' := [.int (-1), .int v13, .int a1, .ref v27]) (sg := [(.iload_n 1, 0), (.iload_n 2, 0), (.iconst (-1), -1)]) (by decide +kernel) rfl ?_
      obtain ⟨o29, e28, h⟩ := gOb_inv h
      refine Y.callN (yC.Vi (b := v27) (As := [.int a1, .int v13, .int (-1)]) (st := []) (r := ("Partlister$Cursors", T_U, 5)) hV.1 cb_U_stand lk_X_179 in_U_stand rfl se_U_stand (by decide +kernel) rfl rfl (Nat.le_of_ble_eq_true rfl) (by decide) e28) (k_U_stand hV G25 v27 a1 v13 (-1)) h (fun G30 _ h => ?_)
      refine Y.blk (pc' := 72) (L' := [some (.ref a0), some (.int a1), some (.int v13), some (.int v22)]) (st' := [.ref a0]) (sg := [(.aload_n 0, 0)]) (by decide +kernel) rfl ?_
      refine Y.getA fl_X_10 (by decide +kernel) h (fun v31 h => ?_)
      refine Y.blk (pc' := 76) (L' := [some (.ref a0), some (.int a1), some (.int v13), some (.int v22)]) (st' := [.int v22, .ref v31]) (sg := [(.iload_n 3, 0)]) (by decide +kernel) rfl ?_
      obtain ⟨o33, e32, h⟩ := gOb_inv h
      refine Y.callI (yC.Vi (b := v31) (As := [.int v22]) (st := []) (r := ("Partlister$Lists", T_I, 7)) hV.1 cb_I_lengthOf lk_X_34 in_I_lengthOf rfl se_I_lengthOf (by decide +kernel) rfl rfl (Nat.le_of_ble_eq_true rfl) (by decide) e32) (k_I_lengthOf hV G30 v31 v22) h (fun v35 G34 _ h => ?_)
      exact Y.iret rfl (by decide +kernel) h
  · refine Y.blk (pc' := 19) (L' := [some (.ref a0), some (.int a1), none, none]) (st' := [.int (-9), .ref a0]) (sg := [(.aload_n 0, 0), (.bipush (-9), -9)]) (by decide +kernel) rfl ?_
    obtain ⟨o38, e37, h⟩ := gOb_inv h
    refine Y.callI (yC.Vi (b := a0) (As := [.int (-9)]) (st := []) (r := ("Partlister", T_X, 5)) hV.1 cb_X_failWith lk_X_173 in_X_failWith rfl se_X_failWith (by decide +kernel) rfl rfl (Nat.le_of_ble_eq_true rfl) (by decide) e37) (k_X_failWith hV G7 a0 (-9)) h (fun v40 G39 _ h => ?_)
    exact Y.iret rfl (by decide +kernel) h
