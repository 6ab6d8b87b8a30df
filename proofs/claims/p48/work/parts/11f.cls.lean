def f_I_areKeysFound_L8 (K62 : gH → gR) (K88 : gH → gR) (K96 : gH → gR) : Nat → gH → Nat → Int32 → Int32 → Int32 → gR
  | 0, _, _, _, _, _ => none
  | n + 1, G, x0, x1, x2, x3 =>
    if x2 ≤ x3 then K96 G
    else gOb G x0 1 fun o6 => bI (f_I_keyAt G x0 x1 x3) fun v8 G7 => gOb G7 x0 1 fun o10 => bI (f_I_firstOf G7 x0 x1 v8) fun v12 G11 => gOb G11 x0 1 fun o14 => bI (f_I_lastOf G11 x0 x1 v8) fun v16 G15 => if v12 < 0 then K62 G15
      else if x3 < v12 then K62 G15
        else if v16 < x3 then K62 G15
          else if v16 < x2 then (gOb G15 x0 1 fun o18 => bI (f_I_keyAt G15 x0 x1 v12) fun v20 G19 => if v20 = v8 then (gOb G19 x0 1 fun o22 => bI (f_I_keyAt G19 x0 x1 v16) fun v24 G23 => if v24 = v8 then f_I_areKeysFound_L8 K62 K88 K96 n G23 x0 x1 x2 (x3 + (nI 1))
                else K88 G23)
              else K88 G19)
            else K62 G15
def f_I_areKeysFound (G : gH) (a0 : Nat) (a1 : Int32) : gR :=
  gOb G a0 1 fun o2 => bI (f_I_lengthOf G a0 a1) fun v4 G3 => f_I_areKeysFound_L8 (fun G32 => rZ (nI 0) G32) (fun G33 => rZ (nI 0) G33) (fun G34 => rZ (nI 1) G34) zFu G3 a0 a1 v4 (nI 0)
theorem k_I_areKeysFound_L8 {l : Launch} {D : va_G} {B : Nat} {O : State → Heap → Prop} (hV : zG l D B O) {o : gO} {Gf : gH} (K62 : gH → gR) (K88 : gH → gR) (K96 : gH → gR) (hK62 : ∀ (G : gH), K62 G  = some (o, Gf) → Y (zVm l D B O) m_I_areKeysFound 5 o Gf 62 [none, none, none, none, none, none, none] [] G) (hK88 : ∀ (G : gH), K88 G  = some (o, Gf) → Y (zVm l D B O) m_I_areKeysFound 5 o Gf 88 [none, none, none, none, none, none, none] [] G) (hK96 : ∀ (G : gH), K96 G  = some (o, Gf) → Y (zVm l D B O) m_I_areKeysFound 5 o Gf 96 [none, none, none, none, none, none, none] [] G) : ∀ (n : Nat) (G : gH) (x0 : Nat) (x1 : Int32) (x2 : Int32) (x3 : Int32), f_I_areKeysFound_L8 K62 K88 K96 n G x0 x1 x2 x3 = some (o, Gf) → Y (zVm l D B O) m_I_areKeysFound 5 o Gf 8 [some (.ref x0), some (.int x1), some (.int x2), some (.int x3), none, none, none] [] G := by
  intro n
  induction n with
  | zero => intro G x0 x1 x2 x3 h; cases h
  | succ n ih =>
    intro G x0 x1 x2 x3 h
    unfold f_I_areKeysFound_L8 at h
    refine Y.blk (pc' := 10) (L' := [some (.ref x0), some (.int x1), some (.int x2), some (.int x3), none, none, none]) (st' := [.int x2, .int x3]) (sg := [(.iload_n 3, 0), (.iload_n 2, 0)]) (by decide +kernel) rfl ?_
    refine Y.ic_ge (off := 86) (tgt := 96) (by decide +kernel) (by decide) h (fun c31 h => ?_) (fun c31 h => ?_)
    · refine Y.less (L' := [none, none, none, none, none, none, none]) (zLe_none (zLe_none (zLe_none (zLe_none (zLe_some (zLe_some (zLe_some (zLe_nil)))))))) ?_
      exact hK96 G  h
    · refine Y.blk (pc' := 16) (L' := [some (.ref x0), some (.int x1), some (.int x2), some (.int x3), none, none, none]) (st' := [.int x3, .int x1, .ref x0]) (sg := [(.aload_n 0, 0), (.iload_n 1, 0), (.iload_n 3, 0)]) (by decide +kernel) rfl ?_
      obtain ⟨o6, e5, h⟩ := gOb_inv h
      refine Y.callI (yC.Vi (b := x0) (As := [.int x1, .int x3]) (st := []) (r := ("Partlister$Lists", T_I, 7)) hV.1 cb_I_keyAt lk_I_101 in_I_keyAt rfl se_I_keyAt (by decide +kernel) rfl rfl (Nat.le_of_ble_eq_true rfl) (by decide) e5) (k_I_keyAt hV G x0 x1 x3) h (fun v8 G7 _ h => ?_)
      refine Y.blk (pc' := 25) (L' := [some (.ref x0), some (.int x1), some (.int x2), some (.int x3), some (.int v8), none, none]) (st' := [.int v8, .int x1, .ref x0]) (sg := [(.istore 4, 0), (.aload_n 0, 0), (.iload_n 1, 0), (.iload 4, 0)]) (by decide +kernel) rfl ?_
      obtain ⟨o10, e9, h⟩ := gOb_inv h
      refine Y.callI (yC.Vi (b := x0) (As := [.int x1, .int v8]) (st := []) (r := ("Partlister$Lists", T_I, 7)) hV.1 cb_I_firstOf lk_I_125 in_I_firstOf rfl se_I_firstOf (by decide +kernel) rfl rfl (Nat.le_of_ble_eq_true rfl) (by decide) e9) (k_I_firstOf hV G7 x0 x1 v8) h (fun v12 G11 _ h => ?_)
      refine Y.blk (pc' := 34) (L' := [some (.ref x0), some (.int x1), some (.int x2), some (.int x3), some (.int v8), some (.int v12), none]) (st' := [.int v8, .int x1, .ref x0]) (sg := [(.istore 5, 0), (.aload_n 0, 0), (.iload_n 1, 0), (.iload 4, 0)]) (by decide +kernel) rfl ?_
      obtain ⟨o14, e13, h⟩ := gOb_inv h
      refine Y.callI (yC.Vi (b := x0) (As := [.int x1, .int v8]) (st := []) (r := ("Partlister$Lists", T_I, 7)) hV.1 cb_I_lastOf lk_I_128 in_I_lastOf rfl se_I_lastOf (by decide +kernel) rfl rfl (Nat.le_of_ble_eq_true rfl) (by decide) e13) (k_I_lastOf hV G11 x0 x1 v8) h (fun v16 G15 _ h => ?_)
      refine Y.blk (pc' := 41) (L' := [some (.ref x0), some (.int x1), some (.int x2), some (.int x3), some (.int v8), some (.int v12), some (.int v16)]) (st' := [.int v12]) (sg := [(.istore 6, 0), (.iload 5, 0)]) (by decide +kernel) rfl ?_
      refine Y.if_lt (off := 21) (tgt := 62) (by decide +kernel) (by decide) h (fun c30 h => ?_) (fun c30 h => ?_)
      · refine Y.less (L' := [none, none, none, none, none, none, none]) (zLe_none (zLe_none (zLe_none (zLe_none (zLe_none (zLe_none (zLe_none (zLe_nil)))))))) ?_
        exact hK62 G15  h
      · refine Y.blk (pc' := 47) (L' := [some (.ref x0), some (.int x1), some (.int x2), some (.int x3), some (.int v8), some (.int v12), some (.int v16)]) (st' := [.int x3, .int v12]) (sg := [(.iload 5, 0), (.iload_n 3, 0)]) (by decide +kernel) rfl ?_
        refine Y.ic_gt (off := 15) (tgt := 62) (by decide +kernel) (by decide) h (fun c29 h => ?_) (fun c29 h => ?_)
        · refine Y.less (L' := [none, none, none, none, none, none, none]) (zLe_none (zLe_none (zLe_none (zLe_none (zLe_none (zLe_none (zLe_none (zLe_nil)))))))) ?_
          exact hK62 G15  h
        · refine Y.blk (pc' := 53) (L' := [some (.ref x0), some (.int x1), some (.int x2), some (.int x3), some (.int v8), some (.int v12), some (.int v16)]) (st' := [.int x3, .int v16]) (sg := [(.iload 6, 0), (.iload_n 3, 0)]) (by decide +kernel) rfl ?_
          refine Y.ic_lt (off := 9) (tgt := 62) (by decide +kernel) (by decide) h (fun c28 h => ?_) (fun c28 h => ?_)
          · refine Y.less (L' := [none, none, none, none, none, none, none]) (zLe_none (zLe_none (zLe_none (zLe_none (zLe_none (zLe_none (zLe_none (zLe_nil)))))))) ?_
            exact hK62 G15  h
          · refine Y.blk (pc' := 59) (L' := [some (.ref x0), some (.int x1), some (.int x2), some (.int x3), some (.int v8), some (.int v12), some (.int v16)]) (st' := [.int x2, .int v16]) (sg := [(.iload 6, 0), (.iload_n 2, 0)]) (by decide +kernel) rfl ?_
            refine Y.ic_lt (off := 5) (tgt := 64) (by decide +kernel) (by decide) h (fun c27 h => ?_) (fun c27 h => ?_)
            · refine Y.blk (pc' := 68) (L' := [some (.ref x0), some (.int x1), some (.int x2), some (.int x3), some (.int v8), some (.int v12), some (.int v16)]) (st' := [.int v12, .int x1, .ref x0]) (sg := [(.aload_n 0, 0), (.iload_n 1, 0), (.iload 5, 0)]) (by decide +kernel) rfl ?_
              obtain ⟨o18, e17, h⟩ := gOb_inv h
              refine Y.callI (yC.Vi (b := x0) (As := [.int x1, .int v12]) (st := []) (r := ("Partlister$Lists", T_I, 7)) hV.1 cb_I_keyAt lk_I_101 in_I_keyAt rfl se_I_keyAt (by decide +kernel) rfl rfl (Nat.le_of_ble_eq_true rfl) (by decide) e17) (k_I_keyAt hV G15 x0 x1 v12) h (fun v20 G19 _ h => ?_)
              refine Y.blk (pc' := 73) (L' := [some (.ref x0), some (.int x1), some (.int x2), some (.int x3), some (.int v8), some (.int v12), some (.int v16)]) (st' := [.int v8, .int v20]) (sg := [(.iload 4, 0)]) (by decide +kernel) rfl ?_
              refine Y.ic_ne (off := 15) (tgt := 88) (by decide +kernel) (by decide) h (fun c26 h => ?_) (fun c26 h => ?_)
              · refine Y.blk (pc' := 80) (L' := [some (.ref x0), some (.int x1), some (.int x2), some (.int x3), some (.int v8), some (.int v12), some (.int v16)]) (st' := [.int v16, .int x1, .ref x0]) (sg := [(.aload_n 0, 0), (.iload_n 1, 0), (.iload 6, 0)]) (by decide +kernel) rfl ?_
                obtain ⟨o22, e21, h⟩ := gOb_inv h
                refine Y.callI (yC.Vi (b := x0) (As := [.int x1, .int v16]) (st := []) (r := ("Partlister$Lists", T_I, 7)) hV.1 cb_I_keyAt lk_I_101 in_I_keyAt rfl se_I_keyAt (by decide +kernel) rfl rfl (Nat.le_of_ble_eq_true rfl) (by decide) e21) (k_I_keyAt hV G19 x0 x1 v16) h (fun v24 G23 _ h => ?_)
                refine Y.blk (pc' := 85) (L' := [some (.ref x0), some (.int x1), some (.int x2), some (.int x3), some (.int v8), some (.int v12), some (.int v16)]) (st' := [.int v8, .int v24]) (sg := [(.iload 4, 0)]) (by decide +kernel) rfl ?_
                refine Y.ic_eq (off := 5) (tgt := 90) (by decide +kernel) (by decide) h (fun c25 h => ?_) (fun c25 h => ?_)
                · refine Y.blk (pc' := 93) (L' := [some (.ref x0), some (.int x1), some (.int x2), some (.int (x3 + (nI 1))), some (.int v8), some (.int v12), some (.int v16)]) (st' := []) (sg := [(.iinc 3 1, nI 1)]) (by decide +kernel) rfl ?_
                  refine Y.goto (off := -85) (tgt := 8) (by decide +kernel) (by decide) ?_
                  refine Y.less (L' := [some (.ref x0), some (.int x1), some (.int x2), some (.int (x3 + (nI 1))), none, none, none]) (zLe_some (zLe_some (zLe_some (zLe_some (zLe_none (zLe_none (zLe_none (zLe_nil)))))))) ?_
                  exact ih G23 x0 x1 x2 (x3 + (nI 1)) h
                · refine Y.less (L' := [none, none, none, none, none, none, none]) (zLe_none (zLe_none (zLe_none (zLe_none (zLe_none (zLe_none (zLe_none (zLe_nil)))))))) ?_
                  exact hK88 G23  h
              · refine Y.less (L' := [none, none, none, none, none, none, none]) (zLe_none (zLe_none (zLe_none (zLe_none (zLe_none (zLe_none (zLe_none (zLe_nil)))))))) ?_
                exact hK88 G19  h
            · refine Y.less (L' := [none, none, none, none, none, none, none]) (zLe_none (zLe_none (zLe_none (zLe_none (zLe_none (zLe_none (zLe_none (zLe_nil)))))))) ?_
              exact hK62 G15  h
theorem k_I_areKeysFound {l : Launch} {D : va_G} {B : Nat} {O : State → Heap → Prop} (hV : zG l D B O) (G : gH) (a0 : Nat) (a1 : Int32) : gMet (zVm l D B O) m_I_areKeysFound 5 [.ref a0, .int a1] G (f_I_areKeysFound G a0 a1) := by
  refine gMet.of (by decide +kernel) (Nat.le_of_ble_eq_true rfl) [some (.ref a0), some (.int a1), none, none, none, none, none] (fun ls h => zEn_ok (n := 7) h) ?_
  intro o Gf h
  unfold f_I_areKeysFound at h
  refine Y.blk (pc' := 2) (L' := [some (.ref a0), some (.int a1), none, none, none, none, none]) (st' := [.int a1, .ref a0]) (sg := [(.aload_n 0, 0), (.iload_n 1, 0)]) (by decide +kernel) rfl ?_
  obtain ⟨o2, e1, h⟩ := gOb_inv h
  refine Y.callI (yC.Vi (b := a0) (As := [.int a1]) (st := []) (r := ("Partlister$Lists", T_I, 7)) hV.1 cb_I_lengthOf lk_I_59 in_I_lengthOf rfl se_I_lengthOf (by decide +kernel) rfl rfl (Nat.le_of_ble_eq_true rfl) (by decide) e1) (k_I_lengthOf hV G a0 a1) h (fun v4 G3 _ h => ?_)
  refine Y.blk (pc' := 8) (L' := [some (.ref a0), some (.int a1), some (.int v4), some (.int (nI 0)), none, none, none]) (st' := []) (sg := [(.istore_n 2, 0), (.iconst 0, nI 0), (.istore_n 3, 0)]) (by decide +kernel) rfl ?_
  refine k_I_areKeysFound_L8 hV _ _ _ ?_ ?_ ?_  zFu G3 a0 a1 v4 (nI 0) h
  · intro G32 h
    refine Y.blk (pc' := 63) (L' := [none, none, none, none, none, none, none]) (st' := [.int (nI 0)]) (sg := [(.iconst 0, nI 0)]) (by decide +kernel) rfl ?_
    exact Y.zret rfl (by decide +kernel) h
  · intro G33 h
    refine Y.blk (pc' := 89) (L' := [none, none, none, none, none, none, none]) (st' := [.int (nI 0)]) (sg := [(.iconst 0, nI 0)]) (by decide +kernel) rfl ?_
    exact Y.zret rfl (by decide +kernel) h
  · intro G34 h
    refine Y.blk (pc' := 97) (L' := [none, none, none, none, none, none, none]) (st' := [.int (nI 1)]) (sg := [(.iconst 1, nI 1)]) (by decide +kernel) rfl ?_
    exact Y.zret rfl (by decide +kernel) h

def f_X_hasToBeAhead (G : gH) (a0 : Int32) (a1 : Int32) (a2 : Int32) : gR :=
  bI (f_X_keyOf G a0) fun v3 G2 => bI (f_X_keyOf G2 a1) fun v6 G5 => if a2.toInt = 0 then (if v6 ≤ v3 then rZ (nI 0) G5
    else rZ (nI 1) G5)
  else if a2.toInt = 1 then (if v3 ≤ v6 then rZ (nI 0) G5
    else rZ (nI 1) G5)
  else if a2.toInt = 2 then (gRem v3 (nI 5) fun v11 => gRem v6 (nI 5) fun v12 => if v12 ≤ v11 then rZ (nI 0) G5
    else rZ (nI 1) G5)
  else if a2.toInt = 3 then (bI (f_X_tagOf G5 a0) fun v17 G16 => bI (f_X_tagOf G16 a1) fun v20 G19 => if v17 ≤ v20 then rZ (nI 0) G19
    else rZ (nI 1) G19)
  else gRem v3 (nI 2) fun v23 => gRem v6 (nI 2) fun v24 => if v23 = v24 then (if v6 ≤ v3 then rZ (nI 0) G5
      else rZ (nI 1) G5)
    else gRem v3 (nI 2) fun v26 => gRem v6 (nI 2) fun v27 => if v26 ≤ v27 then rZ (nI 0) G5
      else rZ (nI 1) G5
theorem k_X_hasToBeAhead {l : Launch} {D : va_G} {B : Nat} {O : State → Heap → Prop} (hV : zG l D B O) (G : gH) (a0 : Int32) (a1 : Int32) (a2 : Int32) : gMet (zVm l D B O) m_X_hasToBeAhead 2 [.int a0, .int a1, .int a2] G (f_X_hasToBeAhead G a0 a1 a2) := by
  refine gMet.of (by decide +kernel) (Nat.le_of_ble_eq_true rfl) [some (.int a0), some (.int a1), some (.int a2), none, none] (fun ls h => zEn_ok (n := 5) h) ?_
  intro o Gf h
  unfold f_X_hasToBeAhead at h
  refine Y.blk (pc' := 1) (L' := [some (.int a0), some (.int a1), some (.int a2), none, none]) (st' := [.int a0]) (sg := [(.iload_n 0, 0)]) (by decide +kernel) rfl ?_
  refine Y.callI (yC.S (As := [.int a0]) (st := []) hV.1 cb_X_keyOf lk_X_97 st_X_keyOf (by decide +kernel) rfl rfl (Nat.le_of_ble_eq_true rfl) (by decide)) (k_X_keyOf hV G a0) h (fun v3 G2 _ h => ?_)
  refine Y.blk (pc' := 6) (L' := [some (.int a0), some (.int a1), some (.int a2), some (.int v3), none]) (st' := [.int a1]) (sg := [(.istore_n 3, 0), (.iload_n 1, 0)]) (by decide +kernel) rfl ?_
  refine Y.callI (yC.S (As := [.int a1]) (st := []) hV.1 cb_X_keyOf lk_X_97 st_X_keyOf (by decide +kernel) rfl rfl (Nat.le_of_ble_eq_true rfl) (by decide)) (k_X_keyOf hV G2 a1) h (fun v6 G5 _ h => ?_)
  refine Y.blk (pc' := 12) (L' := [some (.int a0), some (.int a1), some (.int a2), some (.int v3), some (.int v6)]) (st' := [.int a2]) (sg := [(.istore 4, 0), (.iload_n 2, 0)]) (by decide +kernel) rfl ?_
  refine Y.swC (j := 0) (off := 32) (tgt := 44) (dflt := 89) (lo := 0) (hi := 3) (offs := #[32, 44, 56, 72]) (len := 32) (by decide +kernel) (by decide) (by decide) (by decide) h (fun c8 h => ?_) (fun c8 h => ?_)
  · refine Y.blk (pc' := 47) (L' := [some (.int a0), some (.int a1), some (.int a2), some (.int v3), some (.int v6)]) (st' := [.int v6, .int v3]) (sg := [(.iload_n 3, 0), (.iload 4, 0)]) (by decide +kernel) rfl ?_
    refine Y.ic_ge (off := 7) (tgt := 54) (by decide +kernel) (by decide) h (fun c7 h => ?_) (fun c7 h => ?_)
    · refine Y.blk (pc' := 55) (L' := [some (.int a0), some (.int a1), some (.int a2), some (.int v3), some (.int v6)]) (st' := [.int (nI 0)]) (sg := [(.iconst 0, nI 0)]) (by decide +kernel) rfl ?_
      exact Y.zret rfl (by decide +kernel) h
    · refine Y.blk (pc' := 51) (L' := [some (.int a0), some (.int a1), some (.int a2), some (.int v3), some (.int v6)]) (st' := [.int (nI 1)]) (sg := [(.iconst 1, nI 1)]) (by decide +kernel) rfl ?_
      refine Y.goto (off := 4) (tgt := 55) (by decide +kernel) (by decide) ?_
      exact Y.zret rfl (by decide +kernel) h
  refine Y.swC (j := 1) (off := 44) (tgt := 56) (dflt := 89) (lo := 0) (hi := 3) (offs := #[32, 44, 56, 72]) (len := 32) (by decide +kernel) (by decide) (by decide) (by decide) h (fun c10 h => ?_) (fun c10 h => ?_)
  · refine Y.blk (pc' := 59) (L' := [some (.int a0), some (.int a1), some (.int a2), some (.int v3), some (.int v6)]) (st' := [.int v6, .int v3]) (sg := [(.iload_n 3, 0), (.iload 4, 0)]) (by decide +kernel) rfl ?_
    refine Y.ic_le (off := 7) (tgt := 66) (by decide +kernel) (by decide) h (fun c9 h => ?_) (fun c9 h => ?_)
    · refine Y.blk (pc' := 67) (L' := [some (.int a0), some (.int a1), some (.int a2), some (.int v3), some (.int v6)]) (st' := [.int (nI 0)]) (sg := [(.iconst 0, nI 0)]) (by decide +kernel) rfl ?_
      exact Y.zret rfl (by decide +kernel) h
    · refine Y.blk (pc' := 63) (L' := [some (.int a0), some (.int a1), some (.int a2), some (.int v3), some (.int v6)]) (st' := [.int (nI 1)]) (sg := [(.iconst 1, nI 1)]) (by decide +kernel) rfl ?_
      refine Y.goto (off := 4) (tgt := 67) (by decide +kernel) (by decide) ?_
      exact Y.zret rfl (by decide +kernel) h
  refine Y.swC (j := 2) (off := 56) (tgt := 68) (dflt := 89) (lo := 0) (hi := 3) (offs := #[32, 44, 56, 72]) (len := 32) (by decide +kernel) (by decide) (by decide) (by decide) h (fun c14 h => ?_) (fun c14 h => ?_)
  · refine Y.blk (pc' := 70) (L' := [some (.int a0), some (.int a1), some (.int a2), some (.int v3), some (.int v6)]) (st' := [.int (nI 5), .int v3]) (sg := [(.iload_n 3, 0), (.iconst 5, nI 5)]) (by decide +kernel) rfl ?_
    refine Y.irem (by decide +kernel) h (fun v11 h => ?_)
    refine Y.blk (pc' := 74) (L' := [some (.int a0), some (.int a1), some (.int a2), some (.int v3), some (.int v6)]) (st' := [.int (nI 5), .int v6, .int v11]) (sg := [(.iload 4, 0), (.iconst 5, nI 5)]) (by decide +kernel) rfl ?_
    refine Y.irem (by decide +kernel) h (fun v12 h => ?_)
    refine Y.ic_ge (off := 7) (tgt := 82) (by decide +kernel) (by decide) h (fun c13 h => ?_) (fun c13 h => ?_)
    · refine Y.blk (pc' := 83) (L' := [some (.int a0), some (.int a1), some (.int a2), some (.int v3), some (.int v6)]) (st' := [.int (nI 0)]) (sg := [(.iconst 0, nI 0)]) (by decide +kernel) rfl ?_
      exact Y.zret rfl (by decide +kernel) h
    · refine Y.blk (pc' := 79) (L' := [some (.int a0), some (.int a1), some (.int a2), some (.int v3), some (.int v6)]) (st' := [.int (nI 1)]) (sg := [(.iconst 1, nI 1)]) (by decide +kernel) rfl ?_
      refine Y.goto (off := 4) (tgt := 83) (by decide +kernel) (by decide) ?_
      exact Y.zret rfl (by decide +kernel) h
  refine Y.swC (j := 3) (off := 72) (tgt := 84) (dflt := 89) (lo := 0) (hi := 3) (offs := #[32, 44, 56, 72]) (len := 32) (by decide +kernel) (by decide) (by decide) (by decide) h (fun c22 h => ?_) (fun c22 h => ?_)
  · refine Y.blk (pc' := 85) (L' := [some (.int a0), some (.int a1), some (.int a2), some (.int v3), some (.int v6)]) (st' := [.int a0]) (sg := [(.iload_n 0, 0)]) (by decide +kernel) rfl ?_
    refine Y.callI (yC.S (As := [.int a0]) (st := []) hV.1 cb_X_tagOf lk_X_48 st_X_tagOf (by decide +kernel) rfl rfl (Nat.le_of_ble_eq_true rfl) (by decide)) (k_X_tagOf hV G5 a0) h (fun v17 G16 _ h => ?_)
    refine Y.blk (pc' := 89) (L' := [some (.int a0), some (.int a1), some (.int a2), some (.int v3), some (.int v6)]) (st' := [.int a1, .int v17]) (sg := [(.iload_n 1, 0)]) (by decide +kernel) rfl ?_
    refine Y.callI (yC.S (As := [.int a1]) (st := [.int v17]) hV.1 cb_X_tagOf lk_X_48 st_X_tagOf (by decide +kernel) rfl rfl (Nat.le_of_ble_eq_true rfl) (by decide)) (k_X_tagOf hV G16 a1) h (fun v20 G19 _ h => ?_)
    refine Y.ic_le (off := 7) (tgt := 99) (by decide +kernel) (by decide) h (fun c21 h => ?_) (fun c21 h => ?_)
    · refine Y.blk (pc' := 100) (L' := [some (.int a0), some (.int a1), some (.int a2), some (.int v3), some (.int v6)]) (st' := [.int (nI 0)]) (sg := [(.iconst 0, nI 0)]) (by decide +kernel) rfl ?_
      exact Y.zret rfl (by decide +kernel) h
    · refine Y.blk (pc' := 96) (L' := [some (.int a0), some (.int a1), some (.int a2), some (.int v3), some (.int v6)]) (st' := [.int (nI 1)]) (sg := [(.iconst 1, nI 1)]) (by decide +kernel) rfl ?_
      refine Y.goto (off := 4) (tgt := 100) (by decide +kernel) (by decide) ?_
      exact Y.zret rfl (by decide +kernel) h
  refine Y.swOut (dflt := 89) (lo := 0) (hi := 3) (offs := #[32, 44, 56, 72]) (len := 32) (tgt := 101) (by decide +kernel) (by omega) (by decide) ?_
  refine Y.blk (pc' := 103) (L' := [some (.int a0), some (.int a1), some (.int a2), some (.int v3), some (.int v6)]) (st' := [.int (nI 2), .int v3]) (sg := [(.iload_n 3, 0), (.iconst 2, nI 2)]) (by decide +kernel) rfl ?_
  refine Y.irem (by decide +kernel) h (fun v23 h => ?_)
  refine Y.blk (pc' := 107) (L' := [some (.int a0), some (.int a1), some (.int a2), some (.int v3), some (.int v6)]) (st' := [.int (nI 2), .int v6, .int v23]) (sg := [(.iload 4, 0), (.iconst 2, nI 2)]) (by decide +kernel) rfl ?_
  refine Y.irem (by decide +kernel) h (fun v24 h => ?_)
  refine Y.ic_eq (off := 21) (tgt := 129) (by decide +kernel) (by decide) h (fun c29 h => ?_) (fun c29 h => ?_)
  · refine Y.blk (pc' := 132) (L' := [some (.int a0), some (.int a1), some (.int a2), some (.int v3), some (.int v6)]) (st' := [.int v6, .int v3]) (sg := [(.iload_n 3, 0), (.iload 4, 0)]) (by decide +kernel) rfl ?_
    refine Y.ic_ge (off := 7) (tgt := 139) (by decide +kernel) (by decide) h (fun c25 h => ?_) (fun c25 h => ?_)
    · refine Y.blk (pc' := 140) (L' := [some (.int a0), some (.int a1), some (.int a2), some (.int v3), some (.int v6)]) (st' := [.int (nI 0)]) (sg := [(.iconst 0, nI 0)]) (by decide +kernel) rfl ?_
      exact Y.zret rfl (by decide +kernel) h
    · refine Y.blk (pc' := 136) (L' := [some (.int a0), some (.int a1), some (.int a2), some (.int v3), some (.int v6)]) (st' := [.int (nI 1)]) (sg := [(.iconst 1, nI 1)]) (by decide +kernel) rfl ?_
      refine Y.goto (off := 4) (tgt := 140) (by decide +kernel) (by decide) ?_
      exact Y.zret rfl (by decide +kernel) h
  · refine Y.blk (pc' := 113) (L' := [some (.int a0), some (.int a1), some (.int a2), some (.int v3), some (.int v6)]) (st' := [.int (nI 2), .int v3]) (sg := [(.iload_n 3, 0), (.iconst 2, nI 2)]) (by decide +kernel) rfl ?_
    refine Y.irem (by decide +kernel) h (fun v26 h => ?_)
    refine Y.blk (pc' := 117) (L' := [some (.int a0), some (.int a1), some (.int a2), some (.int v3), some (.int v6)]) (st' := [.int (nI 2), .int v6, .int v26]) (sg := [(.iload 4, 0), (.iconst 2, nI 2)]) (by decide +kernel) rfl ?_
    refine Y.irem (by decide +kernel) h (fun v27 h => ?_)
    refine Y.ic_le (off := 7) (tgt := 125) (by decide +kernel) (by decide) h (fun c28 h => ?_) (fun c28 h => ?_)
    · refine Y.blk (pc' := 126) (L' := [some (.int a0), some (.int a1), some (.int a2), some (.int v3), some (.int v6)]) (st' := [.int (nI 0)]) (sg := [(.iconst 0, nI 0)]) (by decide +kernel) rfl ?_
      refine Y.goto (off := 14) (tgt := 140) (by decide +kernel) (by decide) ?_
      exact Y.zret rfl (by decide +kernel) h
    · refine Y.blk (pc' := 122) (L' := [some (.int a0), some (.int a1), some (.int a2), some (.int v3), some (.int v6)]) (st' := [.int (nI 1)]) (sg := [(.iconst 1, nI 1)]) (by decide +kernel) rfl ?_
      refine Y.goto (off := 18) (tgt := 140) (by decide +kernel) (by decide) ?_
      exact Y.zret rfl (by decide +kernel) h

def f_I_thingInSpare (G : gH) (a0 : Nat) (a1 : Int32) : gR :=
  gFA G a0 1 5 fun v1 => gOb G v1 2 fun o3 => bI (f_N_read G v1 a1) fun v5 G4 => rI (v5 >>> ((nI 5) &&& 31)) G4
theorem k_I_thingInSpare {l : Launch} {D : va_G} {B : Nat} {O : State → Heap → Prop} (hV : zG l D B O) (G : gH) (a0 : Nat) (a1 : Int32) : gMet (zVm l D B O) m_I_thingInSpare 2 [.ref a0, .int a1] G (f_I_thingInSpare G a0 a1) := by
  refine gMet.of (by decide +kernel) (Nat.le_of_ble_eq_true rfl) [some (.ref a0), some (.int a1)] (fun ls h => zEn_ok (n := 2) h) ?_
  intro o Gf h
  unfold f_I_thingInSpare at h
  refine Y.blk (pc' := 1) (L' := [some (.ref a0), some (.int a1)]) (st' := [.ref a0]) (sg := [(.aload_n 0, 0)]) (by decide +kernel) rfl ?_
  refine Y.getA fl_I_32 (by decide +kernel) h (fun v1 h => ?_)
  refine Y.blk (pc' := 5) (L' := [some (.ref a0), some (.int a1)]) (st' := [.int a1, .ref v1]) (sg := [(.iload_n 1, 0)]) (by decide +kernel) rfl ?_
  obtain ⟨o3, e2, h⟩ := gOb_inv h
  refine Y.callI (yC.Vi (b := v1) (As := [.int a1]) (st := []) (r := ("Partlister$Numbers", T_N, 1)) hV.1 cb_N_read lk_I_39 in_N_read rfl se_N_read (by decide +kernel) rfl rfl (Nat.le_of_ble_eq_true rfl) (by decide) e2) (k_N_read hV G v1 a1) h (fun v5 G4 _ h => ?_)
  refine Y.blk (pc' := 10) (L' := [some (.ref a0), some (.int a1)]) (st' := [.int (v5 >>> ((nI 5) &&& 31))]) (sg := [(.iconst 5, nI 5), (.ishr, 0)]) (by decide +kernel) rfl ?_
  exact Y.iret rfl (by decide +kernel) h

def f_I_arrangeSpare_L20 (K70 : gH → Nat → Int32 → Int32 → Int32 → Int32 → Int32 → gR) : Nat → gH → Nat → Int32 → Int32 → Int32 → Int32 → Int32 → gR
  | 0, _, _, _, _, _, _, _ => none
  | n + 1, G, x0, x1, x2, x3, x4, x5 =>
    if x5 ≤ 0 then K70 G x0 x1 x2 x3 x4 x5
    else gOb G x0 1 fun o7 => bI (f_I_thingInSpare G x0 (x5 - (nI 1))) fun v9 G8 => bI (f_X_hasToBeAhead G8 (x4 >>> ((nI 5) &&& 31)) v9 x2) fun v12 G11 => if v12 = 0 then K70 G11 x0 x1 x2 x3 x4 x5
      else gFA G11 x0 1 5 fun v13 => gFA G11 x0 1 5 fun v14 => gOb G11 v14 2 fun o16 => bI (f_N_read G11 v14 (x5 - (nI 1))) fun v18 G17 => gOb G17 v13 2 fun o20 => bV (f_N_write G17 v13 x5 v18) fun G21 => f_I_arrangeSpare_L20 K70 n G21 x0 x1 x2 x3 x4 (x5 + (-1))
def f_I_arrangeSpare_L2 (K87 : gH → gR) : Nat → gH → Nat → Int32 → Int32 → Int32 → gR
  | 0, _, _, _, _, _ => none
  | n + 1, G, x0, x1, x2, x3 =>
    if x1 ≤ x3 then K87 G
    else gFA G x0 1 5 fun v1 => gOb G v1 2 fun o3 => bI (f_N_read G v1 x3) fun v5 G4 => f_I_arrangeSpare_L20 (fun G30 x24 x25 x26 x27 x28 x29 => gFA G30 x24 1 5 fun v31 => gOb G30 v31 2 fun o33 => bV (f_N_write G30 v31 x29 x28) fun G34 => f_I_arrangeSpare_L2 K87 n G34 x24 x25 x26 (x27 + (nI 1))) zFu G4 x0 x1 x2 x3 v5 x3
def f_I_arrangeSpare (G : gH) (a0 : Nat) (a1 : Int32) (a2 : Int32) : gR :=
  f_I_arrangeSpare_L2 (fun G36 => rV G36) zFu G a0 a1 a2 (nI 1)
theorem k_I_arrangeSpare_L20 {l : Launch} {D : va_G} {B : Nat} {O : State → Heap → Prop} (hV : zG l D B O) {o : gO} {Gf : gH} (K70 : gH → Nat → Int32 → Int32 → Int32 → Int32 → Int32 → gR) (hK70 : ∀ (G : gH) (x0 : Nat) (x1 : Int32) (x2 : Int32) (x3 : Int32) (x4 : Int32) (x5 : Int32), K70 G x0 x1 x2 x3 x4 x5 = some (o, Gf) → Y (zVm l D B O) m_I_arrangeSpare 3 o Gf 70 [some (.ref x0), some (.int x1), some (.int x2), some (.int x3), some (.int x4), some (.int x5)] [] G) : ∀ (n : Nat) (G : gH) (x0 : Nat) (x1 : Int32) (x2 : Int32) (x3 : Int32) (x4 : Int32) (x5 : Int32), f_I_arrangeSpare_L20 K70 n G x0 x1 x2 x3 x4 x5 = some (o, Gf) → Y (zVm l D B O) m_I_arrangeSpare 3 o Gf 20 [some (.ref x0), some (.int x1), some (.int x2), some (.int x3), some (.int x4), some (.int x5)] [] G := by
  intro n
  induction n with
  | zero => intro G x0 x1 x2 x3 x4 x5 h; cases h
  | succ n ih =>
    intro G x0 x1 x2 x3 x4 x5 h
    unfold f_I_arrangeSpare_L20 at h
    refine Y.blk (pc' := 22) (L' := [some (.ref x0), some (.int x1), some (.int x2), some (.int x3), some (.int x4), some (.int x5)]) (st' := [.int x5]) (sg := [(.iload 5, 0)]) (by decide +kernel) rfl ?_
    refine Y.if_le (off := 48) (tgt := 70) (by decide +kernel) (by decide) h (fun c23 h => ?_) (fun c23 h => ?_)
    · exact hK70 G x0 x1 x2 x3 x4 x5 h
    · refine Y.blk (pc' := 34) (L' := [some (.ref x0), some (.int x1), some (.int x2), some (.int x3), some (.int x4), some (.int x5)]) (st' := [.int (x5 - (nI 1)), .ref x0, .int (x4 >>> ((nI 5) &&& 31))]) (sg := [(.iload 4, 0), (.iconst 5, nI 5), (.ishr, 0), (.aload_n 0, 0), (.iload 5, 0), (.iconst 1, nI 1), (.isub, 0)]) (by decide +kernel) rfl ?_
      obtain ⟨o7, e6, h⟩ := gOb_inv h
      refine Y.callI (yC.Vi (b := x0) (As := [.int (x5 - (nI 1))]) (st := [.int (x4 >>> ((nI 5) &&& 31))]) (r := ("Partlister$Lists", T_I, 7)) hV.1 cb_I_thingInSpare lk_I_73 in_I_thingInSpare rfl se_I_thingInSpare (by decide +kernel) rfl rfl (Nat.le_of_ble_eq_true rfl) (by decide) e6) (k_I_thingInSpare hV G x0 (x5 - (nI 1))) h (fun v9 G8 _ h => ?_)
      refine Y.blk (pc' := 38) (L' := [some (.ref x0), some (.int x1), some (.int x2), some (.int x3), some (.int x4), some (.int x5)]) (st' := [.int x2, .int v9, .int (x4 >>> ((nI 5) &&& 31))]) (sg := [(.iload_n 2, 0)]) (by decide +kernel) rfl ?_
      refine Y.callI (yC.SN (As := [.int (x4 >>> ((nI 5) &&& 31)), .int v9, .int x2]) (st := []) hV.1 cb_X_hasToBeAhead lk_I_82 st_X_hasToBeAhead (by decide +kernel) rfl rfl (Nat.le_of_ble_eq_true rfl) (by decide)) (k_X_hasToBeAhead hV G8 (x4 >>> ((nI 5) &&& 31)) v9 x2) h (fun v12 G11 _ h => ?_)
      refine Y.if_eq (off := 29) (tgt := 70) (by decide +kernel) (by decide) h (fun c22 h => ?_) (fun c22 h => ?_)
      · exact hK70 G11 x0 x1 x2 x3 x4 x5 h
      · refine Y.blk (pc' := 45) (L' := [some (.ref x0), some (.int x1), some (.int x2), some (.int x3), some (.int x4), some (.int x5)]) (st' := [.ref x0]) (sg := [(.aload_n 0, 0)]) (by decide +kernel) rfl ?_
        refine Y.getA fl_I_32 (by decide +kernel) h (fun v13 h => ?_)
        refine Y.blk (pc' := 51) (L' := [some (.ref x0), some (.int x1), some (.int x2), some (.int x3), some (.int x4), some (.int x5)]) (st' := [.ref x0, .int x5, .ref v13]) (sg := [(.iload 5, 0), (.aload_n 0, 0)]) (by decide +kernel) rfl ?_
        refine Y.getA fl_I_32 (by decide +kernel) h (fun v14 h => ?_)
        refine Y.blk (pc' := 58) (L' := [some (.ref x0), some (.int x1), some (.int x2), some (.int x3), some (.int x4), some (.int x5)]) (st' := [.int (x5 - (nI 1)), .ref v14, .int x5, .ref v13]) (sg := [(.iload 5, 0), (.iconst 1, nI 1), (.isub, 0)]) (by decide +kernel) rfl ?_
        obtain ⟨o16, e15, h⟩ := gOb_inv h
        refine Y.callI (yC.Vi (b := v14) (As := [.int (x5 - (nI 1))]) (st := [.int x5, .ref v13]) (r := ("Partlister$Numbers", T_N, 1)) hV.1 cb_N_read lk_I_39 in_N_read rfl se_N_read (by decide +kernel) rfl rfl (Nat.le_of_ble_eq_true rfl) (by decide) e15) (k_N_read hV G11 v14 (x5 - (nI 1))) h (fun v18 G17 _ h => ?_)
        obtain ⟨o20, e19, h⟩ := gOb_inv h
        refine Y.callN (yC.Vi (b := v13) (As := [.int x5, .int v18]) (st := []) (r := ("Partlister$Numbers", T_N, 1)) hV.1 cb_N_write lk_I_35 in_N_write rfl se_N_write (by decide +kernel) rfl rfl (Nat.le_of_ble_eq_true rfl) (by decide) e19) (k_N_write hV G17 v13 x5 v18) h (fun G21 _ h => ?_)
        refine Y.blk (pc' := 67) (L' := [some (.ref x0), some (.int x1), some (.int x2), some (.int x3), some (.int x4), some (.int (x5 + (-1)))]) (st' := []) (sg := [(.iinc 5 (-1), -1)]) (by decide +kernel) rfl ?_
        refine Y.goto (off := -47) (tgt := 20) (by decide +kernel) (by decide) ?_
        exact ih G21 x0 x1 x2 x3 x4 (x5 + (-1)) h
theorem k_I_arrangeSpare_L2 {l : Launch} {D : va_G} {B : Nat} {O : State → Heap → Prop} (hV : zG l D B O) {o : gO} {Gf : gH} (K87 : gH → gR) (hK87 : ∀ (G : gH), K87 G  = some (o, Gf) → Y (zVm l D B O) m_I_arrangeSpare 3 o Gf 87 [none, none, none, none, none, none] [] G) : ∀ (n : Nat) (G : gH) (x0 : Nat) (x1 : Int32) (x2 : Int32) (x3 : Int32), f_I_arrangeSpare_L2 K87 n G x0 x1 x2 x3 = some (o, Gf) → Y (zVm l D B O) m_I_arrangeSpare 3 o Gf 2 [some (.ref x0), some (.int x1), some (.int x2), some (.int x3), none, none] [] G := by
  intro n
  induction n with
  | zero => intro G x0 x1 x2 x3 h; cases h
  | succ n ih =>
    intro G x0 x1 x2 x3 h
    unfold f_I_arrangeSpare_L2 at h
    refine Y.blk (pc' := 4) (L' := [some (.ref x0), some (.int x1), some (.int x2), some (.int x3), none, none]) (st' := [.int x1, .int x3]) (sg := [(.iload_n 3, 0), (.iload_n 1, 0)]) (by decide +kernel) rfl ?_
    refine Y.ic_ge (off := 83) (tgt := 87) (by decide +kernel) (by decide) h (fun c35 h => ?_) (fun c35 h => ?_)
    · refine Y.less (L' := [none, none, none, none, none, none]) (zLe_none (zLe_none (zLe_none (zLe_none (zLe_some (zLe_some (zLe_nil))))))) ?_
      exact hK87 G  h
    · refine Y.blk (pc' := 8) (L' := [some (.ref x0), some (.int x1), some (.int x2), some (.int x3), none, none]) (st' := [.ref x0]) (sg := [(.aload_n 0, 0)]) (by decide +kernel) rfl ?_
      refine Y.getA fl_I_32 (by decide +kernel) h (fun v1 h => ?_)
      refine Y.blk (pc' := 12) (L' := [some (.ref x0), some (.int x1), some (.int x2), some (.int x3), none, none]) (st' := [.int x3, .ref v1]) (sg := [(.iload_n 3, 0)]) (by decide +kernel) rfl ?_
      obtain ⟨o3, e2, h⟩ := gOb_inv h
      refine Y.callI (yC.Vi (b := v1) (As := [.int x3]) (st := []) (r := ("Partlister$Numbers", T_N, 1)) hV.1 cb_N_read lk_I_39 in_N_read rfl se_N_read (by decide +kernel) rfl rfl (Nat.le_of_ble_eq_true rfl) (by decide) e2) (k_N_read hV G v1 x3) h (fun v5 G4 _ h => ?_)
      refine Y.blk (pc' := 20) (L' := [some (.ref x0), some (.int x1), some (.int x2), some (.int x3), some (.int v5), some (.int x3)]) (st' := []) (sg := [(.istore 4, 0), (.iload_n 3, 0), (.istore 5, 0)]) (by decide +kernel) rfl ?_
      refine k_I_arrangeSpare_L20 hV _ ?_  zFu G4 x0 x1 x2 x3 v5 x3 h
      · intro G30 x24 x25 x26 x27 x28 x29 h
        refine Y.blk (pc' := 71) (L' := [some (.ref x24), some (.int x25), some (.int x26), some (.int x27), some (.int x28), some (.int x29)]) (st' := [.ref x24]) (sg := [(.aload_n 0, 0)]) (by decide +kernel) rfl ?_
        refine Y.getA fl_I_32 (by decide +kernel) h (fun v31 h => ?_)
        refine Y.blk (pc' := 78) (L' := [some (.ref x24), some (.int x25), some (.int x26), some (.int x27), some (.int x28), some (.int x29)]) (st' := [.int x28, .int x29, .ref v31]) (sg := [(.iload 5, 0), (.iload 4, 0)]) (by decide +kernel) rfl ?_
        obtain ⟨o33, e32, h⟩ := gOb_inv h
        refine Y.callN (yC.Vi (b := v31) (As := [.int x29, .int x28]) (st := []) (r := ("Partlister$Numbers", T_N, 1)) hV.1 cb_N_write lk_I_35 in_N_write rfl se_N_write (by decide +kernel) rfl rfl (Nat.le_of_ble_eq_true rfl) (by decide) e32) (k_N_write hV G30 v31 x29 x28) h (fun G34 _ h => ?_)
        refine Y.blk (pc' := 84) (L' := [some (.ref x24), some (.int x25), some (.int x26), some (.int (x27 + (nI 1))), some (.int x28), some (.int x29)]) (st' := []) (sg := [(.iinc 3 1, nI 1)]) (by decide +kernel) rfl ?_
        refine Y.goto (off := -82) (tgt := 2) (by decide +kernel) (by decide) ?_
        refine Y.less (L' := [some (.ref x24), some (.int x25), some (.int x26), some (.int (x27 + (nI 1))), none, none]) (zLe_some (zLe_some (zLe_some (zLe_some (zLe_none (zLe_none (zLe_nil))))))) ?_
        exact ih G34 x24 x25 x26 (x27 + (nI 1)) h
theorem k_I_arrangeSpare {l : Launch} {D : va_G} {B : Nat} {O : State → Heap → Prop} (hV : zG l D B O) (G : gH) (a0 : Nat) (a1 : Int32) (a2 : Int32) : gMet (zVm l D B O) m_I_arrangeSpare 3 [.ref a0, .int a1, .int a2] G (f_I_arrangeSpare G a0 a1 a2) := by
  refine gMet.of (by decide +kernel) (Nat.le_of_ble_eq_true rfl) [some (.ref a0), some (.int a1), some (.int a2), none, none, none] (fun ls h => zEn_ok (n := 6) h) ?_
  intro o Gf h
  unfold f_I_arrangeSpare at h
  refine Y.blk (pc' := 2) (L' := [some (.ref a0), some (.int a1), some (.int a2), some (.int (nI 1)), none, none]) (st' := []) (sg := [(.iconst 1, nI 1), (.istore_n 3, 0)]) (by decide +kernel) rfl ?_
  refine k_I_arrangeSpare_L2 hV _ ?_  zFu G a0 a1 a2 (nI 1) h
  · intro G36 h
    exact Y.vret rfl (by decide +kernel) h

def f_I_copyToSpare_L8 (K37 : gH → gR) : Nat → gH → Nat → Int32 → Int32 → Int32 → gR
  | 0, _, _, _, _, _ => none
  | n + 1, G, x0, x1, x2, x3 =>
    if x2 ≤ x3 then K37 G
    else gFA G x0 1 5 fun v5 => gOb G x0 1 fun o7 => bI (f_I_thingAt G x0 x1 x3) fun v9 G8 => gOb G8 v5 2 fun o11 => bV (f_N_write G8 v5 x3 ((v9 <<< ((nI 5) &&& 31)) ||| x3)) fun G12 => f_I_copyToSpare_L8 K37 n G12 x0 x1 x2 (x3 + (nI 1))
def f_I_copyToSpare (G : gH) (a0 : Nat) (a1 : Int32) : gR :=
  gOb G a0 1 fun o2 => bI (f_I_lengthOf G a0 a1) fun v4 G3 => f_I_copyToSpare_L8 (fun G14 => rV G14) zFu G3 a0 a1 v4 (nI 0)
theorem k_I_copyToSpare_L8 {l : Launch} {D : va_G} {B : Nat} {O : State → Heap → Prop} (hV : zG l D B O) {o : gO} {Gf : gH} (K37 : gH → gR) (hK37 : ∀ (G : gH), K37 G  = some (o, Gf) → Y (zVm l D B O) m_I_copyToSpare 4 o Gf 37 [none, none, none, none] [] G) : ∀ (n : Nat) (G : gH) (x0 : Nat) (x1 : Int32) (x2 : Int32) (x3 : Int32), f_I_copyToSpare_L8 K37 n G x0 x1 x2 x3 = some (o, Gf) → Y (zVm l D B O) m_I_copyToSpare 4 o Gf 8 [some (.ref x0), some (.int x1), some (.int x2), some (.int x3)] [] G := by
  intro n
  induction n with
  | zero => intro G x0 x1 x2 x3 h; cases h
  | succ n ih =>
    intro G x0 x1 x2 x3 h
    unfold f_I_copyToSpare_L8 at h
    refine Y.blk (pc' := 10) (L' := [some (.ref x0), some (.int x1), some (.int x2), some (.int x3)]) (st' := [.int x2, .int x3]) (sg := [(.iload_n 3, 0), (.iload_n 2, 0)]) (by decide +kernel) rfl ?_
    refine Y.ic_ge (off := 27) (tgt := 37) (by decide +kernel) (by decide) h (fun c13 h => ?_) (fun c13 h => ?_)
    · refine Y.less (L' := [none, none, none, none]) (zLe_none (zLe_none (zLe_none (zLe_none (zLe_nil))))) ?_
      exact hK37 G  h
    · refine Y.blk (pc' := 14) (L' := [some (.ref x0), some (.int x1), some (.int x2), some (.int x3)]) (st' := [.ref x0]) (sg := [(.aload_n 0, 0)]) (by decide +kernel) rfl ?_
      refine Y.getA fl_I_32 (by decide +kernel) h (fun v5 h => ?_)
      refine Y.blk (pc' := 21) (L' := [some (.ref x0), some (.int x1), some (.int x2), some (.int x3)]) (st' := [.int x3, .int x1, .ref x0, .int x3, .ref v5]) (sg := [(.iload_n 3, 0), (.aload_n 0, 0), (.iload_n 1, 0), (.iload_n 3, 0)]) (by decide +kernel) rfl ?_
      obtain ⟨o7, e6, h⟩ := gOb_inv h
      refine Y.callI (yC.Vi (b := x0) (As := [.int x1, .int x3]) (st := [.int x3, .ref v5]) (r := ("Partlister$Lists", T_I, 7)) hV.1 cb_I_thingAt lk_I_50 in_I_thingAt rfl se_I_thingAt (by decide +kernel) rfl rfl (Nat.le_of_ble_eq_true rfl) (by decide) e6) (k_I_thingAt hV G x0 x1 x3) h (fun v9 G8 _ h => ?_)
      refine Y.blk (pc' := 28) (L' := [some (.ref x0), some (.int x1), some (.int x2), some (.int x3)]) (st' := [.int ((v9 <<< ((nI 5) &&& 31)) ||| x3), .int x3, .ref v5]) (sg := [(.iconst 5, nI 5), (.ishl, 0), (.iload_n 3, 0), (.ior, 0)]) (by decide +kernel) rfl ?_
      obtain ⟨o11, e10, h⟩ := gOb_inv h
      refine Y.callN (yC.Vi (b := v5) (As := [.int x3, .int ((v9 <<< ((nI 5) &&& 31)) ||| x3)]) (st := []) (r := ("Partlister$Numbers", T_N, 1)) hV.1 cb_N_write lk_I_35 in_N_write rfl se_N_write (by decide +kernel) rfl rfl (Nat.le_of_ble_eq_true rfl) (by decide) e10) (k_N_write hV G8 v5 x3 ((v9 <<< ((nI 5) &&& 31)) ||| x3)) h (fun G12 _ h => ?_)
      refine Y.blk (pc' := 34) (L' := [some (.ref x0), some (.int x1), some (.int x2), some (.int (x3 + (nI 1)))]) (st' := []) (sg := [(.iinc 3 1, nI 1)]) (by decide +kernel) rfl ?_
      refine Y.goto (off := -26) (tgt := 8) (by decide +kernel) (by decide) ?_
      exact ih G12 x0 x1 x2 (x3 + (nI 1)) h
theorem k_I_copyToSpare {l : Launch} {D : va_G} {B : Nat} {O : State → Heap → Prop} (hV : zG l D B O) (G : gH) (a0 : Nat) (a1 : Int32) : gMet (zVm l D B O) m_I_copyToSpare 4 [.ref a0, .int a1] G (f_I_copyToSpare G a0 a1) := by
  refine gMet.of (by decide +kernel) (Nat.le_of_ble_eq_true rfl) [some (.ref a0), some (.int a1), none, none] (fun ls h => zEn_ok (n := 4) h) ?_
  intro o Gf h
  unfold f_I_copyToSpare at h
  refine Y.blk (pc' := 2) (L' := [some (.ref a0), some (.int a1), none, none]) (st' := [.int a1, .ref a0]) (sg := [(.aload_n 0, 0), (.iload_n 1, 0)]) (by decide +kernel) rfl ?_
  obtain ⟨o2, e1, h⟩ := gOb_inv h
  refine Y.callI (yC.Vi (b := a0) (As := [.int a1]) (st := []) (r := ("Partlister$Lists", T_I, 7)) hV.1 cb_I_lengthOf lk_I_59 in_I_lengthOf rfl se_I_lengthOf (by decide +kernel) rfl rfl (Nat.le_of_ble_eq_true rfl) (by decide) e1) (k_I_lengthOf hV G a0 a1) h (fun v4 G3 _ h => ?_)
  refine Y.blk (pc' := 8) (L' := [some (.ref a0), some (.int a1), some (.int v4), some (.int (nI 0))]) (st' := []) (sg := [(.istore_n 2, 0), (.iconst 0, nI 0), (.istore_n 3, 0)]) (by decide +kernel) rfl ?_
  refine k_I_copyToSpare_L8 hV _ ?_  zFu G3 a0 a1 v4 (nI 0) h
  · intro G14 h
    exact Y.vret rfl (by decide +kernel) h

def f_I_placeInSpare (G : gH) (a0 : Nat) (a1 : Int32) : gR :=
  gFA G a0 1 5 fun v1 => gOb G v1 2 fun o3 => bI (f_N_read G v1 a1) fun v5 G4 => rI (v5 &&& (nI 31)) G4
theorem k_I_placeInSpare {l : Launch} {D : va_G} {B : Nat} {O : State → Heap → Prop} (hV : zG l D B O) (G : gH) (a0 : Nat) (a1 : Int32) : gMet (zVm l D B O) m_I_placeInSpare 2 [.ref a0, .int a1] G (f_I_placeInSpare G a0 a1) := by
  refine gMet.of (by decide +kernel) (Nat.le_of_ble_eq_true rfl) [some (.ref a0), some (.int a1)] (fun ls h => zEn_ok (n := 2) h) ?_
  intro o Gf h
  unfold f_I_placeInSpare at h
  refine Y.blk (pc' := 1) (L' := [some (.ref a0), some (.int a1)]) (st' := [.ref a0]) (sg := [(.aload_n 0, 0)]) (by decide +kernel) rfl ?_
  refine Y.getA fl_I_32 (by decide +kernel) h (fun v1 h => ?_)
  refine Y.blk (pc' := 5) (L' := [some (.ref a0), some (.int a1)]) (st' := [.int a1, .ref v1]) (sg := [(.iload_n 1, 0)]) (by decide +kernel) rfl ?_
  obtain ⟨o3, e2, h⟩ := gOb_inv h
  refine Y.callI (yC.Vi (b := v1) (As := [.int a1]) (st := []) (r := ("Partlister$Numbers", T_N, 1)) hV.1 cb_N_read lk_I_39 in_N_read rfl se_N_read (by decide +kernel) rfl rfl (Nat.le_of_ble_eq_true rfl) (by decide) e2) (k_N_read hV G v1 a1) h (fun v5 G4 _ h => ?_)
  refine Y.blk (pc' := 11) (L' := [some (.ref a0), some (.int a1)]) (st' := [.int (v5 &&& (nI 31))]) (sg := [(.bipush 31, nI 31), (.iand, 0)]) (by decide +kernel) rfl ?_
  exact Y.iret rfl (by decide +kernel) h

def f_I_mayFollow (G : gH) (a0 : Nat) (a1 : Int32) (a2 : Int32) : gR :=
  gOb G a0 1 fun o2 => bI (f_I_thingInSpare G a0 a1) fun v4 G3 => gOb G3 a0 1 fun o6 => bI (f_I_thingInSpare G3 a0 (a1 - (nI 1))) fun v8 G7 => bI (f_X_hasToBeAhead G7 v4 v8 a2) fun v11 G10 => if v11 = 0 then (bI (f_X_hasToBeAhead G10 v8 v4 a2) fun v14 G13 => if v14 = 0 then (gOb G13 a0 1 fun o16 => bI (f_I_placeInSpare G13 a0 (a1 - (nI 1))) fun v18 G17 => gOb G17 a0 1 fun o20 => bI (f_I_placeInSpare G17 a0 a1) fun v22 G21 => if v22 ≤ v18 then rZ (nI 0) G21
      else rZ (nI 1) G21)
    else rZ (nI 1) G13)
  else rZ (nI 0) G10
theorem k_I_mayFollow {l : Launch} {D : va_G} {B : Nat} {O : State → Heap → Prop} (hV : zG l D B O) (G : gH) (a0 : Nat) (a1 : Int32) (a2 : Int32) : gMet (zVm l D B O) m_I_mayFollow 3 [.ref a0, .int a1, .int a2] G (f_I_mayFollow G a0 a1 a2) := by
  refine gMet.of (by decide +kernel) (Nat.le_of_ble_eq_true rfl) [some (.ref a0), some (.int a1), some (.int a2), none, none] (fun ls h => zEn_ok (n := 5) h) ?_
  intro o Gf h
  unfold f_I_mayFollow at h
  refine Y.blk (pc' := 2) (L' := [some (.ref a0), some (.int a1), some (.int a2), none, none]) (st' := [.int a1, .ref a0]) (sg := [(.aload_n 0, 0), (.iload_n 1, 0)]) (by decide +kernel) rfl ?_
  obtain ⟨o2, e1, h⟩ := gOb_inv h
  refine Y.callI (yC.Vi (b := a0) (As := [.int a1]) (st := []) (r := ("Partlister$Lists", T_I, 7)) hV.1 cb_I_thingInSpare lk_I_73 in_I_thingInSpare rfl se_I_thingInSpare (by decide +kernel) rfl rfl (Nat.le_of_ble_eq_true rfl) (by decide) e1) (k_I_thingInSpare hV G a0 a1) h (fun v4 G3 _ h => ?_)
  refine Y.blk (pc' := 10) (L' := [some (.ref a0), some (.int a1), some (.int a2), some (.int v4), none]) (st' := [.int (a1 - (nI 1)), .ref a0]) (sg := [(.istore_n 3, 0), (.aload_n 0, 0), (.iload_n 1, 0), (.iconst 1, nI 1), (.isub, 0)]) (by decide +kernel) rfl ?_
  obtain ⟨o6, e5, h⟩ := gOb_inv h
  refine Y.callI (yC.Vi (b := a0) (As := [.int (a1 - (nI 1))]) (st := []) (r := ("Partlister$Lists", T_I, 7)) hV.1 cb_I_thingInSpare lk_I_73 in_I_thingInSpare rfl se_I_thingInSpare (by decide +kernel) rfl rfl (Nat.le_of_ble_eq_true rfl) (by decide) e5) (k_I_thingInSpare hV G3 a0 (a1 - (nI 1))) h (fun v8 G7 _ h => ?_)
  refine Y.blk (pc' := 19) (L' := [some (.ref a0), some (.int a1), some (.int a2), some (.int v4), some (.int v8)]) (st' := [.int a2, .int v8, .int v4]) (sg := [(.istore 4, 0), (.iload_n 3, 0), (.iload 4, 0), (.iload_n 2, 0)]) (by decide +kernel) rfl ?_
  refine Y.callI (yC.SN (As := [.int v4, .int v8, .int a2]) (st := []) hV.1 cb_X_hasToBeAhead lk_I_82 st_X_hasToBeAhead (by decide +kernel) rfl rfl (Nat.le_of_ble_eq_true rfl) (by decide)) (k_X_hasToBeAhead hV G7 v4 v8 a2) h (fun v11 G10 _ h => ?_)
  refine Y.if_eq (off := 5) (tgt := 27) (by decide +kernel) (by decide) h (fun c25 h => ?_) (fun c25 h => ?_)
  · refine Y.blk (pc' := 31) (L' := [some (.ref a0), some (.int a1), some (.int a2), some (.int v4), some (.int v8)]) (st' := [.int a2, .int v4, .int v8]) (sg := [(.iload 4, 0), (.iload_n 3, 0), (.iload_n 2, 0)]) (by decide +kernel) rfl ?_
    refine Y.callI (yC.SN (As := [.int v8, .int v4, .int a2]) (st := []) hV.1 cb_X_hasToBeAhead lk_I_82 st_X_hasToBeAhead (by decide +kernel) rfl rfl (Nat.le_of_ble_eq_true rfl) (by decide)) (k_X_hasToBeAhead hV G10 v8 v4 a2) h (fun v14 G13 _ h => ?_)
    refine Y.if_ne (off := 18) (tgt := 52) (by decide +kernel) (by decide) h (fun c24 h => ?_) (fun c24 h => ?_)
    · refine Y.blk (pc' := 41) (L' := [some (.ref a0), some (.int a1), some (.int a2), some (.int v4), some (.int v8)]) (st' := [.int (a1 - (nI 1)), .ref a0]) (sg := [(.aload_n 0, 0), (.iload_n 1, 0), (.iconst 1, nI 1), (.isub, 0)]) (by decide +kernel) rfl ?_
      obtain ⟨o16, e15, h⟩ := gOb_inv h
      refine Y.callI (yC.Vi (b := a0) (As := [.int (a1 - (nI 1))]) (st := []) (r := ("Partlister$Lists", T_I, 7)) hV.1 cb_I_placeInSpare lk_I_122 in_I_placeInSpare rfl se_I_placeInSpare (by decide +kernel) rfl rfl (Nat.le_of_ble_eq_true rfl) (by decide) e15) (k_I_placeInSpare hV G13 a0 (a1 - (nI 1))) h (fun v18 G17 _ h => ?_)
      refine Y.blk (pc' := 46) (L' := [some (.ref a0), some (.int a1), some (.int a2), some (.int v4), some (.int v8)]) (st' := [.int a1, .ref a0, .int v18]) (sg := [(.aload_n 0, 0), (.iload_n 1, 0)]) (by decide +kernel) rfl ?_
      obtain ⟨o20, e19, h⟩ := gOb_inv h
      refine Y.callI (yC.Vi (b := a0) (As := [.int a1]) (st := [.int v18]) (r := ("Partlister$Lists", T_I, 7)) hV.1 cb_I_placeInSpare lk_I_122 in_I_placeInSpare rfl se_I_placeInSpare (by decide +kernel) rfl rfl (Nat.le_of_ble_eq_true rfl) (by decide) e19) (k_I_placeInSpare hV G17 a0 a1) h (fun v22 G21 _ h => ?_)
      refine Y.ic_ge (off := 7) (tgt := 56) (by decide +kernel) (by decide) h (fun c23 h => ?_) (fun c23 h => ?_)
      · refine Y.blk (pc' := 57) (L' := [some (.ref a0), some (.int a1), some (.int a2), some (.int v4), some (.int v8)]) (st' := [.int (nI 0)]) (sg := [(.iconst 0, nI 0)]) (by decide +kernel) rfl ?_
        exact Y.zret rfl (by decide +kernel) h
      · refine Y.blk (pc' := 53) (L' := [some (.ref a0), some (.int a1), some (.int a2), some (.int v4), some (.int v8)]) (st' := [.int (nI 1)]) (sg := [(.iconst 1, nI 1)]) (by decide +kernel) rfl ?_
        refine Y.goto (off := 4) (tgt := 57) (by decide +kernel) (by decide) ?_
        exact Y.zret rfl (by decide +kernel) h
    · refine Y.blk (pc' := 53) (L' := [some (.ref a0), some (.int a1), some (.int a2), some (.int v4), some (.int v8)]) (st' := [.int (nI 1)]) (sg := [(.iconst 1, nI 1)]) (by decide +kernel) rfl ?_
      refine Y.goto (off := 4) (tgt := 57) (by decide +kernel) (by decide) ?_
      exact Y.zret rfl (by decide +kernel) h
  · refine Y.blk (pc' := 26) (L' := [some (.ref a0), some (.int a1), some (.int a2), some (.int v4), some (.int v8)]) (st' := [.int (nI 0)]) (sg := [(.iconst 0, nI 0)]) (by decide +kernel) rfl ?_
    exact Y.zret rfl (by decide +kernel) h

def f_IN_bitCount (G : gH) (a0 : Int32) : gR :=
  rI ((((((((a0 - (((a0.toUInt32 >>> ((nI 1).toUInt32 &&& Int32.toUInt32 31)).toInt32) &&& (nI 1431655765))) &&& (nI 858993459)) + ((((a0 - (((a0.toUInt32 >>> ((nI 1).toUInt32 &&& Int32.toUInt32 31)).toInt32) &&& (nI 1431655765))).toUInt32 >>> ((nI 2).toUInt32 &&& Int32.toUInt32 31)).toInt32) &&& (nI 858993459))) + (((((a0 - (((a0.toUInt32 >>> ((nI 1).toUInt32 &&& Int32.toUInt32 31)).toInt32) &&& (nI 1431655765))) &&& (nI 858993459)) + ((((a0 - (((a0.toUInt32 >>> ((nI 1).toUInt32 &&& Int32.toUInt32 31)).toInt32) &&& (nI 1431655765))).toUInt32 >>> ((nI 2).toUInt32 &&& Int32.toUInt32 31)).toInt32) &&& (nI 858993459))).toUInt32 >>> ((nI 4).toUInt32 &&& Int32.toUInt32 31)).toInt32)) &&& (nI 252645135)) + (((((((a0 - (((a0.toUInt32 >>> ((nI 1).toUInt32 &&& Int32.toUInt32 31)).toInt32) &&& (nI 1431655765))) &&& (nI 858993459)) + ((((a0 - (((a0.toUInt32 >>> ((nI 1).toUInt32 &&& Int32.toUInt32 31)).toInt32) &&& (nI 1431655765))).toUInt32 >>> ((nI 2).toUInt32 &&& Int32.toUInt32 31)).toInt32) &&& (nI 858993459))) + (((((a0 - (((a0.toUInt32 >>> ((nI 1).toUInt32 &&& Int32.toUInt32 31)).toInt32) &&& (nI 1431655765))) &&& (nI 858993459)) + ((((a0 - (((a0.toUInt32 >>> ((nI 1).toUInt32 &&& Int32.toUInt32 31)).toInt32) &&& (nI 1431655765))).toUInt32 >>> ((nI 2).toUInt32 &&& Int32.toUInt32 31)).toInt32) &&& (nI 858993459))).toUInt32 >>> ((nI 4).toUInt32 &&& Int32.toUInt32 31)).toInt32)) &&& (nI 252645135)).toUInt32 >>> ((nI 8).toUInt32 &&& Int32.toUInt32 31)).toInt32)) + ((((((((a0 - (((a0.toUInt32 >>> ((nI 1).toUInt32 &&& Int32.toUInt32 31)).toInt32) &&& (nI 1431655765))) &&& (nI 858993459)) + ((((a0 - (((a0.toUInt32 >>> ((nI 1).toUInt32 &&& Int32.toUInt32 31)).toInt32) &&& (nI 1431655765))).toUInt32 >>> ((nI 2).toUInt32 &&& Int32.toUInt32 31)).toInt32) &&& (nI 858993459))) + (((((a0 - (((a0.toUInt32 >>> ((nI 1).toUInt32 &&& Int32.toUInt32 31)).toInt32) &&& (nI 1431655765))) &&& (nI 858993459)) + ((((a0 - (((a0.toUInt32 >>> ((nI 1).toUInt32 &&& Int32.toUInt32 31)).toInt32) &&& (nI 1431655765))).toUInt32 >>> ((nI 2).toUInt32 &&& Int32.toUInt32 31)).toInt32) &&& (nI 858993459))).toUInt32 >>> ((nI 4).toUInt32 &&& Int32.toUInt32 31)).toInt32)) &&& (nI 252645135)) + (((((((a0 - (((a0.toUInt32 >>> ((nI 1).toUInt32 &&& Int32.toUInt32 31)).toInt32) &&& (nI 1431655765))) &&& (nI 858993459)) + ((((a0 - (((a0.toUInt32 >>> ((nI 1).toUInt32 &&& Int32.toUInt32 31)).toInt32) &&& (nI 1431655765))).toUInt32 >>> ((nI 2).toUInt32 &&& Int32.toUInt32 31)).toInt32) &&& (nI 858993459))) + (((((a0 - (((a0.toUInt32 >>> ((nI 1).toUInt32 &&& Int32.toUInt32 31)).toInt32) &&& (nI 1431655765))) &&& (nI 858993459)) + ((((a0 - (((a0.toUInt32 >>> ((nI 1).toUInt32 &&& Int32.toUInt32 31)).toInt32) &&& (nI 1431655765))).toUInt32 >>> ((nI 2).toUInt32 &&& Int32.toUInt32 31)).toInt32) &&& (nI 858993459))).toUInt32 >>> ((nI 4).toUInt32 &&& Int32.toUInt32 31)).toInt32)) &&& (nI 252645135)).toUInt32 >>> ((nI 8).toUInt32 &&& Int32.toUInt32 31)).toInt32)).toUInt32 >>> ((nI 16).toUInt32 &&& Int32.toUInt32 31)).toInt32)) &&& (nI 63)) G
theorem k_IN_bitCount {l : Launch} {D : va_G} {B : Nat} {O : State → Heap → Prop} (hV : zG l D B O) (G : gH) (a0 : Int32) : gMet (zVm l D B O) m_IN_bitCount 1 [.int a0] G (f_IN_bitCount G a0) := by
  refine gMet.of (by decide +kernel) (Nat.le_of_ble_eq_true rfl) [some (.int a0)] (fun ls h => zEn_ok (n := 1) h) ?_
  intro o Gf h
  unfold f_IN_bitCount at h
  refine Y.blk (pc' := 4) (L' := [some (.int a0)]) (st' := [.int ((a0.toUInt32 >>> ((nI 1).toUInt32 &&& Int32.toUInt32 31)).toInt32), .int a0]) (sg := [(.iload_n 0, 0), (.iload_n 0, 0), (.iconst 1, nI 1), (.iushr, 0)]) (by decide +kernel) rfl ?_
  refine Y.ldcw (v := nI 1431655765) co_IN_265 (by decide +kernel) ?_
  refine Y.blk (pc' := 11) (L' := [some (.int (a0 - (((a0.toUInt32 >>> ((nI 1).toUInt32 &&& Int32.toUInt32 31)).toInt32) &&& (nI 1431655765))))]) (st' := [.int (a0 - (((a0.toUInt32 >>> ((nI 1).toUInt32 &&& Int32.toUInt32 31)).toInt32) &&& (nI 1431655765)))]) (sg := [(.iand, 0), (.isub, 0), (.istore_n 0, 0), (.iload_n 0, 0)]) (by decide +kernel) rfl ?_
  refine Y.ldcw (v := nI 858993459) co_IN_266 (by decide +kernel) ?_
  refine Y.blk (pc' := 18) (L' := [some (.int (a0 - (((a0.toUInt32 >>> ((nI 1).toUInt32 &&& Int32.toUInt32 31)).toInt32) &&& (nI 1431655765))))]) (st' := [.int (((a0 - (((a0.toUInt32 >>> ((nI 1).toUInt32 &&& Int32.toUInt32 31)).toInt32) &&& (nI 1431655765))).toUInt32 >>> ((nI 2).toUInt32 &&& Int32.toUInt32 31)).toInt32), .int ((a0 - (((a0.toUInt32 >>> ((nI 1).toUInt32 &&& Int32.toUInt32 31)).toInt32) &&& (nI 1431655765))) &&& (nI 858993459))]) (sg := [(.iand, 0), (.iload_n 0, 0), (.iconst 2, nI 2), (.iushr, 0)]) (by decide +kernel) rfl ?_
  refine Y.ldcw (v := nI 858993459) co_IN_266 (by decide +kernel) ?_
  refine Y.blk (pc' := 29) (L' := [some (.int (((a0 - (((a0.toUInt32 >>> ((nI 1).toUInt32 &&& Int32.toUInt32 31)).toInt32) &&& (nI 1431655765))) &&& (nI 858993459)) + ((((a0 - (((a0.toUInt32 >>> ((nI 1).toUInt32 &&& Int32.toUInt32 31)).toInt32) &&& (nI 1431655765))).toUInt32 >>> ((nI 2).toUInt32 &&& Int32.toUInt32 31)).toInt32) &&& (nI 858993459))))]) (st' := [.int ((((a0 - (((a0.toUInt32 >>> ((nI 1).toUInt32 &&& Int32.toUInt32 31)).toInt32) &&& (nI 1431655765))) &&& (nI 858993459)) + ((((a0 - (((a0.toUInt32 >>> ((nI 1).toUInt32 &&& Int32.toUInt32 31)).toInt32) &&& (nI 1431655765))).toUInt32 >>> ((nI 2).toUInt32 &&& Int32.toUInt32 31)).toInt32) &&& (nI 858993459))) + (((((a0 - (((a0.toUInt32 >>> ((nI 1).toUInt32 &&& Int32.toUInt32 31)).toInt32) &&& (nI 1431655765))) &&& (nI 858993459)) + ((((a0 - (((a0.toUInt32 >>> ((nI 1).toUInt32 &&& Int32.toUInt32 31)).toInt32) &&& (nI 1431655765))).toUInt32 >>> ((nI 2).toUInt32 &&& Int32.toUInt32 31)).toInt32) &&& (nI 858993459))).toUInt32 >>> ((nI 4).toUInt32 &&& Int32.toUInt32 31)).toInt32))]) (sg := [(.iand, 0), (.iadd, 0), (.istore_n 0, 0), (.iload_n 0, 0), (.iload_n 0, 0), (.iconst 4, nI 4), (.iushr, 0), (.iadd, 0)]) (by decide +kernel) rfl ?_
  refine Y.ldcw (v := nI 252645135) co_IN_267 (by decide +kernel) ?_
  refine Y.blk (pc' := 52) (L' := [some (.int (((((((a0 - (((a0.toUInt32 >>> ((nI 1).toUInt32 &&& Int32.toUInt32 31)).toInt32) &&& (nI 1431655765))) &&& (nI 858993459)) + ((((a0 - (((a0.toUInt32 >>> ((nI 1).toUInt32 &&& Int32.toUInt32 31)).toInt32) &&& (nI 1431655765))).toUInt32 >>> ((nI 2).toUInt32 &&& Int32.toUInt32 31)).toInt32) &&& (nI 858993459))) + (((((a0 - (((a0.toUInt32 >>> ((nI 1).toUInt32 &&& Int32.toUInt32 31)).toInt32) &&& (nI 1431655765))) &&& (nI 858993459)) + ((((a0 - (((a0.toUInt32 >>> ((nI 1).toUInt32 &&& Int32.toUInt32 31)).toInt32) &&& (nI 1431655765))).toUInt32 >>> ((nI 2).toUInt32 &&& Int32.toUInt32 31)).toInt32) &&& (nI 858993459))).toUInt32 >>> ((nI 4).toUInt32 &&& Int32.toUInt32 31)).toInt32)) &&& (nI 252645135)) + (((((((a0 - (((a0.toUInt32 >>> ((nI 1).toUInt32 &&& Int32.toUInt32 31)).toInt32) &&& (nI 1431655765))) &&& (nI 858993459)) + ((((a0 - (((a0.toUInt32 >>> ((nI 1).toUInt32 &&& Int32.toUInt32 31)).toInt32) &&& (nI 1431655765))).toUInt32 >>> ((nI 2).toUInt32 &&& Int32.toUInt32 31)).toInt32) &&& (nI 858993459))) + (((((a0 - (((a0.toUInt32 >>> ((nI 1).toUInt32 &&& Int32.toUInt32 31)).toInt32) &&& (nI 1431655765))) &&& (nI 858993459)) + ((((a0 - (((a0.toUInt32 >>> ((nI 1).toUInt32 &&& Int32.toUInt32 31)).toInt32) &&& (nI 1431655765))).toUInt32 >>> ((nI 2).toUInt32 &&& Int32.toUInt32 31)).toInt32) &&& (nI 858993459))).toUInt32 >>> ((nI 4).toUInt32 &&& Int32.toUInt32 31)).toInt32)) &&& (nI 252645135)).toUInt32 >>> ((nI 8).toUInt32 &&& Int32.toUInt32 31)).toInt32)) + ((((((((a0 - (((a0.toUInt32 >>> ((nI 1).toUInt32 &&& Int32.toUInt32 31)).toInt32) &&& (nI 1431655765))) &&& (nI 858993459)) + ((((a0 - (((a0.toUInt32 >>> ((nI 1).toUInt32 &&& Int32.toUInt32 31)).toInt32) &&& (nI 1431655765))).toUInt32 >>> ((nI 2).toUInt32 &&& Int32.toUInt32 31)).toInt32) &&& (nI 858993459))) + (((((a0 - (((a0.toUInt32 >>> ((nI 1).toUInt32 &&& Int32.toUInt32 31)).toInt32) &&& (nI 1431655765))) &&& (nI 858993459)) + ((((a0 - (((a0.toUInt32 >>> ((nI 1).toUInt32 &&& Int32.toUInt32 31)).toInt32) &&& (nI 1431655765))).toUInt32 >>> ((nI 2).toUInt32 &&& Int32.toUInt32 31)).toInt32) &&& (nI 858993459))).toUInt32 >>> ((nI 4).toUInt32 &&& Int32.toUInt32 31)).toInt32)) &&& (nI 252645135)) + (((((((a0 - (((a0.toUInt32 >>> ((nI 1).toUInt32 &&& Int32.toUInt32 31)).toInt32) &&& (nI 1431655765))) &&& (nI 858993459)) + ((((a0 - (((a0.toUInt32 >>> ((nI 1).toUInt32 &&& Int32.toUInt32 31)).toInt32) &&& (nI 1431655765))).toUInt32 >>> ((nI 2).toUInt32 &&& Int32.toUInt32 31)).toInt32) &&& (nI 858993459))) + (((((a0 - (((a0.toUInt32 >>> ((nI 1).toUInt32 &&& Int32.toUInt32 31)).toInt32) &&& (nI 1431655765))) &&& (nI 858993459)) + ((((a0 - (((a0.toUInt32 >>> ((nI 1).toUInt32 &&& Int32.toUInt32 31)).toInt32) &&& (nI 1431655765))).toUInt32 >>> ((nI 2).toUInt32 &&& Int32.toUInt32 31)).toInt32) &&& (nI 858993459))).toUInt32 >>> ((nI 4).toUInt32 &&& Int32.toUInt32 31)).toInt32)) &&& (nI 252645135)).toUInt32 >>> ((nI 8).toUInt32 &&& Int32.toUInt32 31)).toInt32)).toUInt32 >>> ((nI 16).toUInt32 &&& Int32.toUInt32 31)).toInt32)))]) (st' := [.int ((((((((a0 - (((a0.toUInt32 >>> ((nI 1).toUInt32 &&& Int32.toUInt32 31)).toInt32) &&& (nI 1431655765))) &&& (nI 858993459)) + ((((a0 - (((a0.toUInt32 >>> ((nI 1).toUInt32 &&& Int32.toUInt32 31)).toInt32) &&& (nI 1431655765))).toUInt32 >>> ((nI 2).toUInt32 &&& Int32.toUInt32 31)).toInt32) &&& (nI 858993459))) + (((((a0 - (((a0.toUInt32 >>> ((nI 1).toUInt32 &&& Int32.toUInt32 31)).toInt32) &&& (nI 1431655765))) &&& (nI 858993459)) + ((((a0 - (((a0.toUInt32 >>> ((nI 1).toUInt32 &&& Int32.toUInt32 31)).toInt32) &&& (nI 1431655765))).toUInt32 >>> ((nI 2).toUInt32 &&& Int32.toUInt32 31)).toInt32) &&& (nI 858993459))).toUInt32 >>> ((nI 4).toUInt32 &&& Int32.toUInt32 31)).toInt32)) &&& (nI 252645135)) + (((((((a0 - (((a0.toUInt32 >>> ((nI 1).toUInt32 &&& Int32.toUInt32 31)).toInt32) &&& (nI 1431655765))) &&& (nI 858993459)) + ((((a0 - (((a0.toUInt32 >>> ((nI 1).toUInt32 &&& Int32.toUInt32 31)).toInt32) &&& (nI 1431655765))).toUInt32 >>> ((nI 2).toUInt32 &&& Int32.toUInt32 31)).toInt32) &&& (nI 858993459))) + (((((a0 - (((a0.toUInt32 >>> ((nI 1).toUInt32 &&& Int32.toUInt32 31)).toInt32) &&& (nI 1431655765))) &&& (nI 858993459)) + ((((a0 - (((a0.toUInt32 >>> ((nI 1).toUInt32 &&& Int32.toUInt32 31)).toInt32) &&& (nI 1431655765))).toUInt32 >>> ((nI 2).toUInt32 &&& Int32.toUInt32 31)).toInt32) &&& (nI 858993459))).toUInt32 >>> ((nI 4).toUInt32 &&& Int32.toUInt32 31)).toInt32)) &&& (nI 252645135)).toUInt32 >>> ((nI 8).toUInt32 &&& Int32.toUInt32 31)).toInt32)) + ((((((((a0 - (((a0.toUInt32 >>> ((nI 1).toUInt32 &&& Int32.toUInt32 31)).toInt32) &&& (nI 1431655765))) &&& (nI 858993459)) + ((((a0 - (((a0.toUInt32 >>> ((nI 1).toUInt32 &&& Int32.toUInt32 31)).toInt32) &&& (nI 1431655765))).toUInt32 >>> ((nI 2).toUInt32 &&& Int32.toUInt32 31)).toInt32) &&& (nI 858993459))) + (((((a0 - (((a0.toUInt32 >>> ((nI 1).toUInt32 &&& Int32.toUInt32 31)).toInt32) &&& (nI 1431655765))) &&& (nI 858993459)) + ((((a0 - (((a0.toUInt32 >>> ((nI 1).toUInt32 &&& Int32.toUInt32 31)).toInt32) &&& (nI 1431655765))).toUInt32 >>> ((nI 2).toUInt32 &&& Int32.toUInt32 31)).toInt32) &&& (nI 858993459))).toUInt32 >>> ((nI 4).toUInt32 &&& Int32.toUInt32 31)).toInt32)) &&& (nI 252645135)) + (((((((a0 - (((a0.toUInt32 >>> ((nI 1).toUInt32 &&& Int32.toUInt32 31)).toInt32) &&& (nI 1431655765))) &&& (nI 858993459)) + ((((a0 - (((a0.toUInt32 >>> ((nI 1).toUInt32 &&& Int32.toUInt32 31)).toInt32) &&& (nI 1431655765))).toUInt32 >>> ((nI 2).toUInt32 &&& Int32.toUInt32 31)).toInt32) &&& (nI 858993459))) + (((((a0 - (((a0.toUInt32 >>> ((nI 1).toUInt32 &&& Int32.toUInt32 31)).toInt32) &&& (nI 1431655765))) &&& (nI 858993459)) + ((((a0 - (((a0.toUInt32 >>> ((nI 1).toUInt32 &&& Int32.toUInt32 31)).toInt32) &&& (nI 1431655765))).toUInt32 >>> ((nI 2).toUInt32 &&& Int32.toUInt32 31)).toInt32) &&& (nI 858993459))).toUInt32 >>> ((nI 4).toUInt32 &&& Int32.toUInt32 31)).toInt32)) &&& (nI 252645135)).toUInt32 >>> ((nI 8).toUInt32 &&& Int32.toUInt32 31)).toInt32)).toUInt32 >>> ((nI 16).toUInt32 &&& Int32.toUInt32 31)).toInt32)) &&& (nI 63))]) (sg := [(.iand, 0), (.istore_n 0, 0), (.iload_n 0, 0), (.iload_n 0, 0), (.bipush 8, nI 8), (.iushr, 0), (.iadd, 0), (.istore_n 0, 0), (.iload_n 0, 0), (.iload_n 0, 0), (.bipush 16, nI 16), (.iushr, 0), (.iadd, 0), (.istore_n 0, 0), (.iload_n 0, 0), (.bipush 63, nI 63), (.iand, 0)]) (by decide +kernel) rfl ?_
  exact Y.iret rfl (by decide +kernel) h

def f_I_isOrdering_L23 (K62 : gH → gR) (K79 : gH → gR) (K87 : gH → Int32 → Int32 → gR) : Nat → gH → Nat → Int32 → Int32 → Int32 → Int32 → Int32 → gR
  | 0, _, _, _, _, _, _, _ => none
  | n + 1, G, x0, x1, x2, x3, x4, x5 =>
    if x3 ≤ x5 then K87 G x3 x4
    else gOb G x0 1 fun o12 => bI (f_I_placeInSpare G x0 x5) fun v14 G13 => gOb G13 x0 1 fun o16 => bI (f_I_thingInSpare G13 x0 x5) fun v18 G17 => gOb G17 x0 1 fun o20 => bI (f_I_thingAt G17 x0 x1 v14) fun v22 G21 => if v18 = v22 then (if x5 ≤ 0 then f_I_isOrdering_L23 K62 K79 K87 n G21 x0 x1 x2 x3 (x4 ||| ((nI 1) <<< (v14 &&& 31))) (x5 + (nI 1))
        else gOb G21 x0 1 fun o24 => bI (f_I_mayFollow G21 x0 x5 x2) fun v26 G25 => if v26 = 0 then K79 G25
          else f_I_isOrdering_L23 K62 K79 K87 n G25 x0 x1 x2 x3 (x4 ||| ((nI 1) <<< (v14 &&& 31))) (x5 + (nI 1)))
      else K62 G21
def f_I_isOrdering (G : gH) (a0 : Nat) (a1 : Int32) (a2 : Int32) : gR :=
  gOb G a0 1 fun o2 => bI (f_I_lengthOf G a0 a1) fun v4 G3 => gOb G3 a0 1 fun o6 => bV (f_I_copyToSpare G3 a0 a1) fun G7 => gOb G7 a0 1 fun o9 => bV (f_I_arrangeSpare G7 a0 v4 a2) fun G10 => f_I_isOrdering_L23 (fun G31 => rZ (nI 0) G31) (fun G32 => rZ (nI 0) G32) (fun G35 x33 x34 => bI (f_IN_bitCount G35 x34) fun v38 G37 => if v38 = x33 then rZ (nI 1) G37
    else rZ (nI 0) G37) zFu G10 a0 a1 a2 v4 (nI 0) (nI 0)
theorem k_I_isOrdering_L23 {l : Launch} {D : va_G} {B : Nat} {O : State → Heap → Prop} (hV : zG l D B O) {o : gO} {Gf : gH} (K62 : gH → gR) (K79 : gH → gR) (K87 : gH → Int32 → Int32 → gR) (hK62 : ∀ (G : gH), K62 G  = some (o, Gf) → Y (zVm l D B O) m_I_isOrdering 5 o Gf 62 [none, none, none, none, none, none, none] [] G) (hK79 : ∀ (G : gH), K79 G  = some (o, Gf) → Y (zVm l D B O) m_I_isOrdering 5 o Gf 79 [none, none, none, none, none, none, none] [] G) (hK87 : ∀ (G : gH) (x3 : Int32) (x4 : Int32), K87 G x3 x4 = some (o, Gf) → Y (zVm l D B O) m_I_isOrdering 5 o Gf 87 [none, none, none, some (.int x3), some (.int x4), none, none] [] G) : ∀ (n : Nat) (G : gH) (x0 : Nat) (x1 : Int32) (x2 : Int32) (x3 : Int32) (x4 : Int32) (x5 : Int32), f_I_isOrdering_L23 K62 K79 K87 n G x0 x1 x2 x3 x4 x5 = some (o, Gf) → Y (zVm l D B O) m_I_isOrdering 5 o Gf 23 [some (.ref x0), some (.int x1), some (.int x2), some (.int x3), some (.int x4), some (.int x5), none] [] G := by
  intro n
  induction n with
  | zero => intro G x0 x1 x2 x3 x4 x5 h; cases h
  | succ n ih =>
    intro G x0 x1 x2 x3 x4 x5 h
    unfold f_I_isOrdering_L23 at h
    refine Y.blk (pc' := 26) (L' := [some (.ref x0), some (.int x1), some (.int x2), some (.int x3), some (.int x4), some (.int x5), none]) (st' := [.int x3, .int x5]) (sg := [(.iload 5, 0), (.iload_n 3, 0)]) (by decide +kernel) rfl ?_
    refine Y.ic_ge (off := 61) (tgt := 87) (by decide +kernel) (by decide) h (fun c30 h => ?_) (fun c30 h => ?_)
    · refine Y.less (L' := [none, none, none, some (.int x3), some (.int x4), none, none]) (zLe_none (zLe_none (zLe_none (zLe_some (zLe_some (zLe_none (zLe_some (zLe_nil)))))))) ?_
      exact hK87 G x3 x4 h
    · refine Y.blk (pc' := 32) (L' := [some (.ref x0), some (.int x1), some (.int x2), some (.int x3), some (.int x4), some (.int x5), none]) (st' := [.int x5, .ref x0]) (sg := [(.aload_n 0, 0), (.iload 5, 0)]) (by decide +kernel) rfl ?_
      obtain ⟨o12, e11, h⟩ := gOb_inv h
      refine Y.callI (yC.Vi (b := x0) (As := [.int x5]) (st := []) (r := ("Partlister$Lists", T_I, 7)) hV.1 cb_I_placeInSpare lk_I_122 in_I_placeInSpare rfl se_I_placeInSpare (by decide +kernel) rfl rfl (Nat.le_of_ble_eq_true rfl) (by decide) e11) (k_I_placeInSpare hV G x0 x5) h (fun v14 G13 _ h => ?_)
      refine Y.blk (pc' := 49) (L' := [some (.ref x0), some (.int x1), some (.int x2), some (.int x3), some (.int (x4 ||| ((nI 1) <<< (v14 &&& 31)))), some (.int x5), some (.int v14)]) (st' := [.int x5, .ref x0]) (sg := [(.istore 6, 0), (.iload 4, 0), (.iconst 1, nI 1), (.iload 6, 0), (.ishl, 0), (.ior, 0), (.istore 4, 0), (.aload_n 0, 0), (.iload 5, 0)]) (by decide +kernel) rfl ?_
      obtain ⟨o16, e15, h⟩ := gOb_inv h
      refine Y.callI (yC.Vi (b := x0) (As := [.int x5]) (st := []) (r := ("Partlister$Lists", T_I, 7)) hV.1 cb_I_thingInSpare lk_I_73 in_I_thingInSpare rfl se_I_thingInSpare (by decide +kernel) rfl rfl (Nat.le_of_ble_eq_true rfl) (by decide) e15) (k_I_thingInSpare hV G13 x0 x5) h (fun v18 G17 _ h => ?_)
      refine Y.blk (pc' := 56) (L' := [some (.ref x0), some (.int x1), some (.int x2), some (.int x3), some (.int (x4 ||| ((nI 1) <<< (v14 &&& 31)))), some (.int x5), some (.int v14)]) (st' := [.int v14, .int x1, .ref x0, .int v18]) (sg := [(.aload_n 0, 0), (.iload_n 1, 0), (.iload 6, 0)]) (by decide +kernel) rfl ?_
      obtain ⟨o20, e19, h⟩ := gOb_inv h
      refine Y.callI (yC.Vi (b := x0) (As := [.int x1, .int v14]) (st := [.int v18]) (r := ("Partlister$Lists", T_I, 7)) hV.1 cb_I_thingAt lk_I_50 in_I_thingAt rfl se_I_thingAt (by decide +kernel) rfl rfl (Nat.le_of_ble_eq_true rfl) (by decide) e19) (k_I_thingAt hV G17 x0 x1 v14) h (fun v22 G21 _ h => ?_)
      refine Y.ic_eq (off := 5) (tgt := 64) (by decide +kernel) (by decide) h (fun c29 h => ?_) (fun c29 h => ?_)
      · refine Y.blk (pc' := 66) (L' := [some (.ref x0), some (.int x1), some (.int x2), some (.int x3), some (.int (x4 ||| ((nI 1) <<< (v14 &&& 31)))), some (.int x5), some (.int v14)]) (st' := [.int x5]) (sg := [(.iload 5, 0)]) (by decide +kernel) rfl ?_
        refine Y.if_le (off := 15) (tgt := 81) (by decide +kernel) (by decide) h (fun c28 h => ?_) (fun c28 h => ?_)
        · refine Y.blk (pc' := 84) (L' := [some (.ref x0), some (.int x1), some (.int x2), some (.int x3), some (.int (x4 ||| ((nI 1) <<< (v14 &&& 31)))), some (.int (x5 + (nI 1))), some (.int v14)]) (st' := []) (sg := [(.iinc 5 1, nI 1)]) (by decide +kernel) rfl ?_
          refine Y.goto (off := -61) (tgt := 23) (by decide +kernel) (by decide) ?_
          refine Y.less (L' := [some (.ref x0), some (.int x1), some (.int x2), some (.int x3), some (.int (x4 ||| ((nI 1) <<< (v14 &&& 31)))), some (.int (x5 + (nI 1))), none]) (zLe_some (zLe_some (zLe_some (zLe_some (zLe_some (zLe_some (zLe_none (zLe_nil)))))))) ?_
          exact ih G21 x0 x1 x2 x3 (x4 ||| ((nI 1) <<< (v14 &&& 31))) (x5 + (nI 1)) h
        · refine Y.blk (pc' := 73) (L' := [some (.ref x0), some (.int x1), some (.int x2), some (.int x3), some (.int (x4 ||| ((nI 1) <<< (v14 &&& 31)))), some (.int x5), some (.int v14)]) (st' := [.int x2, .int x5, .ref x0]) (sg := [(.aload_n 0, 0), (.iload 5, 0), (.iload_n 2, 0)]) (by decide +kernel) rfl ?_
          obtain ⟨o24, e23, h⟩ := gOb_inv h
          refine Y.callI (yC.Vi (b := x0) (As := [.int x5, .int x2]) (st := []) (r := ("Partlister$Lists", T_I, 7)) hV.1 cb_I_mayFollow lk_I_131 in_I_mayFollow rfl se_I_mayFollow (by decide +kernel) rfl rfl (Nat.le_of_ble_eq_true rfl) (by decide) e23) (k_I_mayFollow hV G21 x0 x5 x2) h (fun v26 G25 _ h => ?_)
          refine Y.if_ne (off := 5) (tgt := 81) (by decide +kernel) (by decide) h (fun c27 h => ?_) (fun c27 h => ?_)
          · refine Y.less (L' := [none, none, none, none, none, none, none]) (zLe_none (zLe_none (zLe_none (zLe_none (zLe_none (zLe_none (zLe_none (zLe_nil)))))))) ?_
            exact hK79 G25  h
          · refine Y.blk (pc' := 84) (L' := [some (.ref x0), some (.int x1), some (.int x2), some (.int x3), some (.int (x4 ||| ((nI 1) <<< (v14 &&& 31)))), some (.int (x5 + (nI 1))), some (.int v14)]) (st' := []) (sg := [(.iinc 5 1, nI 1)]) (by decide +kernel) rfl ?_
            refine Y.goto (off := -61) (tgt := 23) (by decide +kernel) (by decide) ?_
            refine Y.less (L' := [some (.ref x0), some (.int x1), some (.int x2), some (.int x3), some (.int (x4 ||| ((nI 1) <<< (v14 &&& 31)))), some (.int (x5 + (nI 1))), none]) (zLe_some (zLe_some (zLe_some (zLe_some (zLe_some (zLe_some (zLe_none (zLe_nil)))))))) ?_
            exact ih G25 x0 x1 x2 x3 (x4 ||| ((nI 1) <<< (v14 &&& 31))) (x5 + (nI 1)) h
      · refine Y.less (L' := [none, none, none, none, none, none, none]) (zLe_none (zLe_none (zLe_none (zLe_none (zLe_none (zLe_none (zLe_none (zLe_nil)))))))) ?_
        exact hK62 G21  h
theorem k_I_isOrdering {l : Launch} {D : va_G} {B : Nat} {O : State → Heap → Prop} (hV : zG l D B O) (G : gH) (a0 : Nat) (a1 : Int32) (a2 : Int32) : gMet (zVm l D B O) m_I_isOrdering 5 [.ref a0, .int a1, .int a2] G (f_I_isOrdering G a0 a1 a2) := by
  refine gMet.of (by decide +kernel) (Nat.le_of_ble_eq_true rfl) [some (.ref a0), some (.int a1), some (.int a2), none, none, none, none] (fun ls h => zEn_ok (n := 7) h) ?_
  intro o Gf h
  unfold f_I_isOrdering at h
  refine Y.blk (pc' := 2) (L' := [some (.ref a0), some (.int a1), some (.int a2), none, none, none, none]) (st' := [.int a1, .ref a0]) (sg := [(.aload_n 0, 0), (.iload_n 1, 0)]) (by decide +kernel) rfl ?_
  obtain ⟨o2, e1, h⟩ := gOb_inv h
  refine Y.callI (yC.Vi (b := a0) (As := [.int a1]) (st := []) (r := ("Partlister$Lists", T_I, 7)) hV.1 cb_I_lengthOf lk_I_59 in_I_lengthOf rfl se_I_lengthOf (by decide +kernel) rfl rfl (Nat.le_of_ble_eq_true rfl) (by decide) e1) (k_I_lengthOf hV G a0 a1) h (fun v4 G3 _ h => ?_)
  refine Y.blk (pc' := 8) (L' := [some (.ref a0), some (.int a1), some (.int a2), some (.int v4), none, none, none]) (st' := [.int a1, .ref a0]) (sg := [(.istore_n 3, 0), (.aload_n 0, 0), (.iload_n 1, 0)]) (by decide +kernel) rfl ?_
  obtain ⟨o6, e5, h⟩ := gOb_inv h
  refine Y.callN (yC.Vi (b := a0) (As := [.int a1]) (st := []) (r := ("Partlister$Lists", T_I, 7)) hV.1 cb_I_copyToSpare lk_I_65 in_I_copyToSpare rfl se_I_copyToSpare (by decide +kernel) rfl rfl (Nat.le_of_ble_eq_true rfl) (by decide) e5) (k_I_copyToSpare hV G3 a0 a1) h (fun G7 _ h => ?_)
  refine Y.blk (pc' := 14) (L' := [some (.ref a0), some (.int a1), some (.int a2), some (.int v4), none, none, none]) (st' := [.int a2, .int v4, .ref a0]) (sg := [(.aload_n 0, 0), (.iload_n 3, 0), (.iload_n 2, 0)]) (by decide +kernel) rfl ?_
  obtain ⟨o9, e8, h⟩ := gOb_inv h
  refine Y.callN (yC.Vi (b := a0) (As := [.int v4, .int a2]) (st := []) (r := ("Partlister$Lists", T_I, 7)) hV.1 cb_I_arrangeSpare lk_I_76 in_I_arrangeSpare rfl se_I_arrangeSpare (by decide +kernel) rfl rfl (Nat.le_of_ble_eq_true rfl) (by decide) e8) (k_I_arrangeSpare hV G7 a0 v4 a2) h (fun G10 _ h => ?_)
  refine Y.blk (pc' := 23) (L' := [some (.ref a0), some (.int a1), some (.int a2), some (.int v4), some (.int (nI 0)), some (.int (nI 0)), none]) (st' := []) (sg := [(.iconst 0, nI 0), (.istore 4, 0), (.iconst 0, nI 0), (.istore 5, 0)]) (by decide +kernel) rfl ?_
  refine k_I_isOrdering_L23 hV _ _ _ ?_ ?_ ?_  zFu G10 a0 a1 a2 v4 (nI 0) (nI 0) h
  · intro G31 h
    refine Y.blk (pc' := 63) (L' := [none, none, none, none, none, none, none]) (st' := [.int (nI 0)]) (sg := [(.iconst 0, nI 0)]) (by decide +kernel) rfl ?_
    exact Y.zret rfl (by decide +kernel) h
  · intro G32 h
    refine Y.blk (pc' := 80) (L' := [none, none, none, none, none, none, none]) (st' := [.int (nI 0)]) (sg := [(.iconst 0, nI 0)]) (by decide +kernel) rfl ?_
    exact Y.zret rfl (by decide +kernel) h
  · intro G35 x33 x34 h
    refine Y.blk (pc' := 89) (L' := [none, none, none, some (.int x33), some (.int x34), none, none]) (st' := [.int x34]) (sg := [(.iload 4, 0)]) (by decide +kernel) rfl ?_
    refine Y.callI (yC.S (As := [.int x34]) (st := []) hV.1 cb_IN_bitCount lk_I_134 st_IN_bitCount (by decide +kernel) rfl rfl (Nat.le_of_ble_eq_true rfl) (by decide)) (k_IN_bitCount hV G35 x34) h (fun v38 G37 _ h => ?_)
    refine Y.blk (pc' := 93) (L' := [none, none, none, some (.int x33), some (.int x34), none, none]) (st' := [.int x33, .int v38]) (sg := [(.iload_n 3, 0)]) (by decide +kernel) rfl ?_
    refine Y.ic_ne (off := 7) (tgt := 100) (by decide +kernel) (by decide) h (fun c39 h => ?_) (fun c39 h => ?_)
    · refine Y.blk (pc' := 97) (L' := [none, none, none, some (.int x33), some (.int x34), none, none]) (st' := [.int (nI 1)]) (sg := [(.iconst 1, nI 1)]) (by decide +kernel) rfl ?_
      refine Y.goto (off := 4) (tgt := 101) (by decide +kernel) (by decide) ?_
      exact Y.zret rfl (by decide +kernel) h
    · refine Y.blk (pc' := 101) (L' := [none, none, none, some (.int x33), some (.int x34), none, none]) (st' := [.int (nI 0)]) (sg := [(.iconst 0, nI 0)]) (by decide +kernel) rfl ?_
      exact Y.zret rfl (by decide +kernel) h
