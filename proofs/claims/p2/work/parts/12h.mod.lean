def f_IN_stringSize_L16 (K27 : gH → Int32 → Int32 → gR) (K42 : gH → Int32 → gR) : Nat → gH → Int32 → Int32 → Int32 → Int32 → gR
  | 0, _, _, _, _, _ => none
  | n + 1, G, x0, x1, x2, x3 =>
    if (nI 10) ≤ x3 then K42 G x1
    else if x0 ≤ x2 then f_IN_stringSize_L16 K27 K42 n G x0 x1 ((nI 10) * x2) (x3 + (nI 1))
      else K27 G x1 x3
def f_IN_stringSize (G : gH) (a0 : Int32) : gR :=
  if a0 < 0 then f_IN_stringSize_L16 (fun G5 x3 x4 => rI (x4 + x3) G5) (fun G7 x6 => rI ((nI 10) + x6) G7) zFu G a0 (nI 1) (-10) (nI 1)
  else f_IN_stringSize_L16 (fun G10 x8 x9 => rI (x9 + x8) G10) (fun G12 x11 => rI ((nI 10) + x11) G12) zFu G (-a0) (nI 0) (-10) (nI 1)
theorem k_IN_stringSize_L16 {l : Launch} {D : va_G} {B : Nat} {O : State → Heap → Prop} (hV : zG l D B O) {o : gO} {Gf : gH} (K27 : gH → Int32 → Int32 → gR) (K42 : gH → Int32 → gR) (hK27 : ∀ (G : gH) (x1 : Int32) (x3 : Int32), K27 G x1 x3 = some (o, Gf) → Y (zVm l D B O) m_IN_stringSize 2 o Gf 27 [none, some (.int x1), none, some (.int x3)] [] G) (hK42 : ∀ (G : gH) (x1 : Int32), K42 G x1 = some (o, Gf) → Y (zVm l D B O) m_IN_stringSize 2 o Gf 42 [none, some (.int x1), none, none] [] G) : ∀ (n : Nat) (G : gH) (x0 : Int32) (x1 : Int32) (x2 : Int32) (x3 : Int32), f_IN_stringSize_L16 K27 K42 n G x0 x1 x2 x3 = some (o, Gf) → Y (zVm l D B O) m_IN_stringSize 2 o Gf 16 [some (.int x0), some (.int x1), some (.int x2), some (.int x3)] [] G := by
  intro n
  induction n with
  | zero => intro G x0 x1 x2 x3 h; cases h
  | succ n ih =>
    intro G x0 x1 x2 x3 h
    unfold f_IN_stringSize_L16 at h
    refine Y.blk (pc' := 19) (L' := [some (.int x0), some (.int x1), some (.int x2), some (.int x3)]) (st' := [.int (nI 10), .int x3]) (sg := [(.iload_n 3, 0), (.bipush 10, nI 10)]) (by decide +kernel) rfl ?_
    refine Y.ic_ge (off := 23) (tgt := 42) (by decide +kernel) (by decide) h (fun c2 h => ?_) (fun c2 h => ?_)
    · refine Y.less (L' := [none, some (.int x1), none, none]) (zLe_none (zLe_some (zLe_none (zLe_none (zLe_nil))))) ?_
      exact hK42 G x1 h
    · refine Y.blk (pc' := 24) (L' := [some (.int x0), some (.int x1), some (.int x2), some (.int x3)]) (st' := [.int x2, .int x0]) (sg := [(.iload_n 0, 0), (.iload_n 2, 0)]) (by decide +kernel) rfl ?_
      refine Y.ic_le (off := 7) (tgt := 31) (by decide +kernel) (by decide) h (fun c1 h => ?_) (fun c1 h => ?_)
      · refine Y.blk (pc' := 39) (L' := [some (.int x0), some (.int x1), some (.int ((nI 10) * x2)), some (.int (x3 + (nI 1)))]) (st' := []) (sg := [(.bipush 10, nI 10), (.iload_n 2, 0), (.imul, 0), (.istore_n 2, 0), (.iinc 3 1, nI 1)]) (by decide +kernel) rfl ?_
        refine Y.goto (off := -23) (tgt := 16) (by decide +kernel) (by decide) ?_
        exact ih G x0 x1 ((nI 10) * x2) (x3 + (nI 1)) h
      · refine Y.less (L' := [none, some (.int x1), none, some (.int x3)]) (zLe_none (zLe_some (zLe_none (zLe_some (zLe_nil))))) ?_
        exact hK27 G x1 x3 h
theorem k_IN_stringSize {l : Launch} {D : va_G} {B : Nat} {O : State → Heap → Prop} (hV : zG l D B O) (G : gH) (a0 : Int32) : gMet (zVm l D B O) m_IN_stringSize 2 [.int a0] G (f_IN_stringSize G a0) := by
  refine gMet.of (by decide +kernel) (Nat.le_of_ble_eq_true rfl) [some (.int a0), none, none, none] (fun ls h => zEn_ok (n := 4) h) ?_
  intro o Gf h
  unfold f_IN_stringSize at h
  refine Y.blk (pc' := 3) (L' := [some (.int a0), some (.int (nI 1)), none, none]) (st' := [.int a0]) (sg := [(.iconst 1, nI 1), (.istore_n 1, 0), (.iload_n 0, 0)]) (by decide +kernel) rfl ?_
  refine Y.if_lt (off := 8) (tgt := 11) (by decide +kernel) (by decide) h (fun c13 h => ?_) (fun c13 h => ?_)
  · refine Y.blk (pc' := 16) (L' := [some (.int a0), some (.int (nI 1)), some (.int (-10)), some (.int (nI 1))]) (st' := []) (sg := [(.bipush (-10), -10), (.istore_n 2, 0), (.iconst 1, nI 1), (.istore_n 3, 0)]) (by decide +kernel) rfl ?_
    refine k_IN_stringSize_L16 hV _ _ ?_ ?_  zFu G a0 (nI 1) (-10) (nI 1) h
    · intro G5 x3 x4 h
      refine Y.blk (pc' := 30) (L' := [none, some (.int x3), none, some (.int x4)]) (st' := [.int (x4 + x3)]) (sg := [(.iload_n 3, 0), (.iload_n 1, 0), (.iadd, 0)]) (by decide +kernel) rfl ?_
      exact Y.iret rfl (by decide +kernel) h
    · intro G7 x6 h
      refine Y.blk (pc' := 46) (L' := [none, some (.int x6), none, none]) (st' := [.int ((nI 10) + x6)]) (sg := [(.bipush 10, nI 10), (.iload_n 1, 0), (.iadd, 0)]) (by decide +kernel) rfl ?_
      exact Y.iret rfl (by decide +kernel) h
  · refine Y.blk (pc' := 16) (L' := [some (.int (-a0)), some (.int (nI 0)), some (.int (-10)), some (.int (nI 1))]) (st' := []) (sg := [(.iconst 0, nI 0), (.istore_n 1, 0), (.iload_n 0, 0), (.ineg, 0), (.istore_n 0, 0), (.bipush (-10), -10), (.istore_n 2, 0), (.iconst 1, nI 1), (.istore_n 3, 0)]) (by decide +kernel) rfl ?_
    refine k_IN_stringSize_L16 hV _ _ ?_ ?_  zFu G (-a0) (nI 0) (-10) (nI 1) h
    · intro G10 x8 x9 h
      refine Y.blk (pc' := 30) (L' := [none, some (.int x8), none, some (.int x9)]) (st' := [.int (x9 + x8)]) (sg := [(.iload_n 3, 0), (.iload_n 1, 0), (.iadd, 0)]) (by decide +kernel) rfl ?_
      exact Y.iret rfl (by decide +kernel) h
    · intro G12 x11 h
      refine Y.blk (pc' := 46) (L' := [none, some (.int x11), none, none]) (st' := [.int ((nI 10) + x11)]) (sg := [(.bipush 10, nI 10), (.iload_n 1, 0), (.iadd, 0)]) (by decide +kernel) rfl ?_
      exact Y.iret rfl (by decide +kernel) h

def f_AB_append2 (w : Nat → Nat) (G : gH) (a0 : Nat) (a1 : Int32) : gR :=
  gFI G a0 10 3 fun v1 => bI (f_IN_stringSize G a1) fun v4 G3 => gOb G3 a0 10 fun o6 => bV (f_AB_ensureCapacityInternal G3 a0 (v1 + v4)) fun G8 => gOb G8 a0 10 fun o10 => bI (f_AB_isLatin1 w G8 a0) fun v13 G12 => if v13 = 0 then gFA G12 a0 10 0 fun v14 => none
  else gFA G12 a0 10 0 fun v15 => bI (f_IN_getChars w G12 a1 (v1 + v4) v15) fun v18 G17 => gPut G17 a0 10 3 (.int (v1 + v4)) fun G19 => rA a0 G19
theorem k_AB_append2 {l : Launch} {D : va_G} {B : Nat} {O : State → Heap → Prop} {w : Nat → Nat} (hV : zGw l D B O w) (G : gH) (a0 : Nat) (a1 : Int32) : gMet (zVm l D B O) m_AB_append2 5 [.ref a0, .int a1] G (f_AB_append2 w G a0 a1) := by
  refine gMet.of (by decide +kernel) (Nat.le_of_ble_eq_true rfl) [some (.ref a0), some (.int a1), none, none] (fun ls h => zEn_ok (n := 4) h) ?_
  intro o Gf h
  unfold f_AB_append2 at h
  refine Y.blk (pc' := 1) (L' := [some (.ref a0), some (.int a1), none, none]) (st' := [.ref a0]) (sg := [(.aload_n 0, 0)]) (by decide +kernel) rfl ?_
  refine Y.getI fl_AB_79 (by decide +kernel) h (fun v1 h => ?_)
  refine Y.blk (pc' := 7) (L' := [some (.ref a0), some (.int a1), some (.int v1), none]) (st' := [.int a1, .int v1]) (sg := [(.istore_n 2, 0), (.iload_n 2, 0), (.iload_n 1, 0)]) (by decide +kernel) rfl ?_
  refine Y.callI (yC.S (As := [.int a1]) (st := [.int v1]) hV.1.1 cb_IN_stringSize lk_AB_245 st_IN_stringSize (by decide +kernel) rfl rfl (Nat.le_of_ble_eq_true rfl) (by decide)) (k_IN_stringSize hV.1 G a1) h (fun v4 G3 _ h => ?_)
  refine Y.blk (pc' := 14) (L' := [some (.ref a0), some (.int a1), some (.int v1), some (.int (v1 + v4))]) (st' := [.int (v1 + v4), .ref a0]) (sg := [(.iadd, 0), (.istore_n 3, 0), (.aload_n 0, 0), (.iload_n 3, 0)]) (by decide +kernel) rfl ?_
  obtain ⟨_, o6, e5, m7, h⟩ := gOb_inv h
  refine Y.callN (yC.Vi (b := a0) (As := [.int (v1 + v4)]) (st := []) (r := ("java/lang/StringBuilder", T_SB, 4)) hV.1.1 cb_AB_ensureCapacityInternal lk_AB_100 in_AB_ensureCapacityInternal rfl seSB_AB_ensureCapacityInternal (by decide +kernel) rfl rfl (Nat.le_of_ble_eq_true rfl) (by decide) e5 m7) (k_AB_ensureCapacityInternal hV.1 G3 a0 (v1 + v4)) h (fun G8 _ h => ?_)
  refine Y.blk (pc' := 18) (L' := [some (.ref a0), some (.int a1), some (.int v1), some (.int (v1 + v4))]) (st' := [.ref a0]) (sg := [(.aload_n 0, 0)]) (by decide +kernel) rfl ?_
  obtain ⟨_, o10, e9, m11, h⟩ := gOb_inv h
  refine Y.callI (yC.Vi (b := a0) (As := []) (st := []) (r := ("java/lang/StringBuilder", T_SB, 4)) hV.1.1 cb_AB_isLatin1 lk_AB_83 in_AB_isLatin1 rfl seSB_AB_isLatin1 (by decide +kernel) rfl rfl (Nat.le_of_ble_eq_true rfl) (by decide) e9 m11) (k_AB_isLatin1 hV G8 a0) h (fun v13 G12 _ h => ?_)
  refine Y.if_eq (off := 16) (tgt := 37) (by decide +kernel) (by decide) h (fun c20 h => ?_) (fun c20 h => ?_)
  · refine Y.blk (pc' := 41) (L' := [some (.ref a0), some (.int a1), some (.int v1), some (.int (v1 + v4))]) (st' := [.ref a0, .int (v1 + v4), .int v1, .int a1]) (sg := [(.iload_n 1, 0), (.iload_n 2, 0), (.iload_n 3, 0), (.aload_n 0, 0)]) (by decide +kernel) rfl ?_
    refine Y.getA fl_AB_15 (by decide +kernel) h (fun v14 h => ?_)
    cases h
  · refine Y.blk (pc' := 27) (L' := [some (.ref a0), some (.int a1), some (.int v1), some (.int (v1 + v4))]) (st' := [.ref a0, .int (v1 + v4), .int a1]) (sg := [(.iload_n 1, 0), (.iload_n 3, 0), (.aload_n 0, 0)]) (by decide +kernel) rfl ?_
    refine Y.getA fl_AB_15 (by decide +kernel) h (fun v15 h => ?_)
    refine Y.callI (yC.S (As := [.int a1, .int (v1 + v4), .ref v15]) (st := []) hV.1.1 cb_IN_getChars lk_AB_248 st_IN_getChars (by decide +kernel) rfl rfl (Nat.le_of_ble_eq_true rfl) (by decide)) (k_IN_getChars hV G12 a1 (v1 + v4) v15) h (fun v18 G17 _ h => ?_)
    refine Y.blk (pc' := 34) (L' := [some (.ref a0), some (.int a1), some (.int v1), some (.int (v1 + v4))]) (st' := []) (sg := [(.pop, 0)]) (by decide +kernel) rfl ?_
    refine Y.goto (off := 14) (tgt := 48) (by decide +kernel) (by decide) ?_
    refine Y.blk (pc' := 50) (L' := [some (.ref a0), some (.int a1), some (.int v1), some (.int (v1 + v4))]) (st' := [.int (v1 + v4), .ref a0]) (sg := [(.aload_n 0, 0), (.iload_n 3, 0)]) (by decide +kernel) rfl ?_
    refine Y.putf fl_AB_79 (by decide) rfl rfl (by decide +kernel) h (fun G19 _ _ h => ?_)
    refine Y.blk (pc' := 54) (L' := [some (.ref a0), some (.int a1), some (.int v1), some (.int (v1 + v4))]) (st' := [.ref a0]) (sg := [(.aload_n 0, 0)]) (by decide +kernel) rfl ?_
    exact Y.aret rfl (by first | exact Or.inl ⟨_, rfl⟩ | exact Or.inr ⟨_, rfl⟩) (by decide +kernel) h

def f_SB_append2 (w : Nat → Nat) (G : gH) (a0 : Nat) (a1 : Int32) : gR :=
  gOb G a0 10 fun o2 => bA (f_AB_append2 w G a0 a1) fun v5 G4 => rA a0 G4
theorem k_SB_append2 {l : Launch} {D : va_G} {B : Nat} {O : State → Heap → Prop} {w : Nat → Nat} (hV : zGw l D B O w) (G : gH) (a0 : Nat) (a1 : Int32) : gMet (zVm l D B O) m_SB_append2 6 [.ref a0, .int a1] G (f_SB_append2 w G a0 a1) := by
  refine gMet.of (by decide +kernel) (Nat.le_of_ble_eq_true rfl) [some (.ref a0), some (.int a1)] (fun ls h => zEn_ok (n := 2) h) ?_
  intro o Gf h
  unfold f_SB_append2 at h
  refine Y.blk (pc' := 2) (L' := [some (.ref a0), some (.int a1)]) (st' := [.int a1, .ref a0]) (sg := [(.aload_n 0, 0), (.iload_n 1, 0)]) (by decide +kernel) rfl ?_
  obtain ⟨_, o2, e1, m3, h⟩ := gOb_inv h
  refine Y.callA (yC.SU (b := a0) (As := [.int a1]) (st := []) (r := ("java/lang/StringBuilder", T_SB, 4)) hV.1.1 cb_AB_append2 lk_SB_53 sm_AB_append2 su_SB_AB in_AB_append2 (by decide) rfl (by decide +kernel) rfl rfl (Nat.le_of_ble_eq_true rfl) (by decide) e1 m3) (k_AB_append2 hV G a0 a1) h (fun v5 G4 _ h => ?_)
  refine Y.blk (pc' := 7) (L' := [some (.ref a0), some (.int a1)]) (st' := [.ref a0]) (sg := [(.pop, 0), (.aload_n 0, 0)]) (by decide +kernel) rfl ?_
  exact Y.aret rfl (by first | exact Or.inl ⟨_, rfl⟩ | exact Or.inr ⟨_, rfl⟩) (by decide +kernel) h

def f_ST_coder (w : Nat → Nat) (G : gH) (a0 : Nat) : gR :=
  if (nI 1) = 0 then rN .byte (nI 1) G
  else gFI G a0 8 1 fun v1 => rN .byte v1 G
theorem k_ST_coder {l : Launch} {D : va_G} {B : Nat} {O : State → Heap → Prop} {w : Nat → Nat} (hV : zGw l D B O w) (G : gH) (a0 : Nat) : gMet (zVm l D B O) m_ST_coder 2 [.ref a0] G (f_ST_coder w G a0) := by
  refine gMet.of (by decide +kernel) (Nat.le_of_ble_eq_true rfl) [some (.ref a0)] (fun ls h => zEn_ok (n := 1) h) ?_
  intro o Gf h
  unfold f_ST_coder at h
  refine Y.gets (v := .int (nI 1)) (fun U H h => (hV.2 U H h).2.2.2.1) sf_ST_38 (by decide +kernel) ?_
  refine Y.if_eq (off := 10) (tgt := 13) (by decide +kernel) (by decide) h (fun c2 h => ?_) (fun c2 h => ?_)
  · refine Y.blk (pc' := 14) (L' := [some (.ref a0)]) (st' := [.int (nI 1)]) (sg := [(.iconst 1, nI 1)]) (by decide +kernel) rfl ?_
    exact Y.nret (st := []) rfl (by decide +kernel) h
  · refine Y.blk (pc' := 7) (L' := [some (.ref a0)]) (st' := [.ref a0]) (sg := [(.aload_n 0, 0)]) (by decide +kernel) rfl ?_
    refine Y.getI fl_ST_15 (by decide +kernel) h (fun v1 h => ?_)
    refine Y.goto (off := 4) (tgt := 14) (by decide +kernel) (by decide) ?_
    exact Y.nret (st := []) rfl (by decide +kernel) h

def f_AB_inflateIfNeededFor (w : Nat → Nat) (G : gH) (a0 : Nat) (a1 : Nat) : gR :=
  if (nI 1) = 0 then rV G
  else gFI G a0 10 1 fun v1 => gOb G a1 8 fun o3 => bI (f_ST_coder w G a1) fun v6 G5 => if v1 = v6 then rV G5
    else none
theorem k_AB_inflateIfNeededFor {l : Launch} {D : va_G} {B : Nat} {O : State → Heap → Prop} {w : Nat → Nat} (hV : zGw l D B O w) (G : gH) (a0 : Nat) (a1 : Nat) : gMet (zVm l D B O) m_AB_inflateIfNeededFor 3 [.ref a0, .ref a1] G (f_AB_inflateIfNeededFor w G a0 a1) := by
  refine gMet.of (by decide +kernel) (Nat.le_of_ble_eq_true rfl) [some (.ref a0), some (.ref a1)] (fun ls h => zEn_ok (n := 2) h) ?_
  intro o Gf h
  unfold f_AB_inflateIfNeededFor at h
  refine Y.gets (v := .int (nI 1)) (fun U H h => (hV.2 U H h).2.2.2.1) sf_AB_18 (by decide +kernel) ?_
  refine Y.if_eq (off := 18) (tgt := 21) (by decide +kernel) (by decide) h (fun c8 h => ?_) (fun c8 h => ?_)
  · exact Y.vret rfl (by decide +kernel) h
  · refine Y.blk (pc' := 7) (L' := [some (.ref a0), some (.ref a1)]) (st' := [.ref a0]) (sg := [(.aload_n 0, 0)]) (by decide +kernel) rfl ?_
    refine Y.getI fl_AB_22 (by decide +kernel) h (fun v1 h => ?_)
    refine Y.blk (pc' := 11) (L' := [some (.ref a0), some (.ref a1)]) (st' := [.ref a1, .int v1]) (sg := [(.aload_n 1, 0)]) (by decide +kernel) rfl ?_
    obtain ⟨_, o3, e2, m4, h⟩ := gOb_inv h
    refine Y.callI (yC.Vi (b := a1) (As := []) (st := [.int v1]) (r := ("java/lang/String", T_ST, 4)) hV.1.1 cb_ST_coder lk_AB_40 in_ST_coder rfl se_ST_coder (by decide +kernel) rfl rfl (Nat.le_of_ble_eq_true rfl) (by decide) e2 m4) (k_ST_coder hV G a1) h (fun v6 G5 _ h => ?_)
    refine Y.ic_eq (off := 7) (tgt := 21) (by decide +kernel) (by decide) h (fun c7 h => ?_) (fun c7 h => ?_)
    · exact Y.vret rfl (by decide +kernel) h
    · refine Y.blk (pc' := 18) (L' := [some (.ref a0), some (.ref a1)]) (st' := [.ref a0]) (sg := [(.aload_n 0, 0)]) (by decide +kernel) rfl ?_
      cases h

def f_ST_getBytes (w : Nat → Nat) (G : gH) (a0 : Nat) (a1 : Nat) (a2 : Int32) (a3 : Int32) : gR :=
  gOb G a0 8 fun o2 => bI (f_ST_coder w G a0) fun v5 G4 => if v5 = a3 then gFA G4 a0 8 0 fun v6 => gFA G4 a0 8 0 fun v7 => gLen G4 v7 101 fun v8 => gCpB G4 v6 (nI 0) a1 (a2 <<< (a3 &&& 31)) v8 fun G9 => rV G9
  else gFA G4 a0 8 0 fun v10 => gFA G4 a0 8 0 fun v11 => gLen G4 v11 101 fun v12 => none
theorem k_ST_getBytes {l : Launch} {D : va_G} {B : Nat} {O : State → Heap → Prop} {w : Nat → Nat} (hV : zGw l D B O w) (G : gH) (a0 : Nat) (a1 : Nat) (a2 : Int32) (a3 : Int32) : gMet (zVm l D B O) m_ST_getBytes 3 [.ref a0, .ref a1, .int a2, .int a3] G (f_ST_getBytes w G a0 a1 a2 a3) := by
  refine gMet.of (by decide +kernel) (Nat.le_of_ble_eq_true rfl) [some (.ref a0), some (.ref a1), some (.int a2), some (.int a3)] (fun ls h => zEn_ok (n := 4) h) ?_
  intro o Gf h
  unfold f_ST_getBytes at h
  refine Y.blk (pc' := 1) (L' := [some (.ref a0), some (.ref a1), some (.int a2), some (.int a3)]) (st' := [.ref a0]) (sg := [(.aload_n 0, 0)]) (by decide +kernel) rfl ?_
  obtain ⟨_, o2, e1, m3, h⟩ := gOb_inv h
  refine Y.callI (yC.Vi (b := a0) (As := []) (st := []) (r := ("java/lang/String", T_ST, 4)) hV.1.1 cb_ST_coder lk_ST_335 in_ST_coder rfl se_ST_coder (by decide +kernel) rfl rfl (Nat.le_of_ble_eq_true rfl) (by decide) e1 m3) (k_ST_coder hV G a0) h (fun v5 G4 _ h => ?_)
  refine Y.blk (pc' := 5) (L' := [some (.ref a0), some (.ref a1), some (.int a2), some (.int a3)]) (st' := [.int a3, .int v5]) (sg := [(.iload_n 3, 0)]) (by decide +kernel) rfl ?_
  refine Y.ic_ne (off := 23) (tgt := 28) (by decide +kernel) (by decide) h (fun c13 h => ?_) (fun c13 h => ?_)
  · refine Y.blk (pc' := 9) (L' := [some (.ref a0), some (.ref a1), some (.int a2), some (.int a3)]) (st' := [.ref a0]) (sg := [(.aload_n 0, 0)]) (by decide +kernel) rfl ?_
    refine Y.getA fl_ST_9 (by decide +kernel) h (fun v6 h => ?_)
    refine Y.blk (pc' := 18) (L' := [some (.ref a0), some (.ref a1), some (.int a2), some (.int a3)]) (st' := [.ref a0, .int (a2 <<< (a3 &&& 31)), .ref a1, .int (nI 0), .ref v6]) (sg := [(.iconst 0, nI 0), (.aload_n 1, 0), (.iload_n 2, 0), (.iload_n 3, 0), (.ishl, 0), (.aload_n 0, 0)]) (by decide +kernel) rfl ?_
    refine Y.getA fl_ST_9 (by decide +kernel) h (fun v7 h => ?_)
    refine Y.alen (t0 := 1) (by decide +kernel) rfl h (fun v8 h => ?_)
    refine Y.copyB (t0 := 1) lk_ST_212 nat_copy st_copy ini_SY (by decide) rfl (Nat.le_of_ble_eq_true rfl) (by decide +kernel) rfl h (fun G9 _ _ h => ?_)
    refine Y.goto (off := 18) (tgt := 43) (by decide +kernel) (by decide) ?_
    exact Y.vret rfl (by decide +kernel) h
  · refine Y.blk (pc' := 29) (L' := [some (.ref a0), some (.ref a1), some (.int a2), some (.int a3)]) (st' := [.ref a0]) (sg := [(.aload_n 0, 0)]) (by decide +kernel) rfl ?_
    refine Y.getA fl_ST_9 (by decide +kernel) h (fun v10 h => ?_)
    refine Y.blk (pc' := 36) (L' := [some (.ref a0), some (.ref a1), some (.int a2), some (.int a3)]) (st' := [.ref a0, .int a2, .ref a1, .int (nI 0), .ref v10]) (sg := [(.iconst 0, nI 0), (.aload_n 1, 0), (.iload_n 2, 0), (.aload_n 0, 0)]) (by decide +kernel) rfl ?_
    refine Y.getA fl_ST_9 (by decide +kernel) h (fun v11 h => ?_)
    refine Y.alen (t0 := 1) (by decide +kernel) rfl h (fun v12 h => ?_)
    cases h

def f_AB_putStringAt (w : Nat → Nat) (G : gH) (a0 : Nat) (a1 : Int32) (a2 : Nat) : gR :=
  gOb G a0 10 fun o2 => bV (f_AB_inflateIfNeededFor w G a0 a2) fun G4 => gFA G4 a0 10 0 fun v5 => gFI G4 a0 10 1 fun v6 => gOb G4 a2 8 fun o8 => bV (f_ST_getBytes w G4 a2 v5 a1 v6) fun G10 => rV G10
theorem k_AB_putStringAt {l : Launch} {D : va_G} {B : Nat} {O : State → Heap → Prop} {w : Nat → Nat} (hV : zGw l D B O w) (G : gH) (a0 : Nat) (a1 : Int32) (a2 : Nat) : gMet (zVm l D B O) m_AB_putStringAt 4 [.ref a0, .int a1, .ref a2] G (f_AB_putStringAt w G a0 a1 a2) := by
  refine gMet.of (by decide +kernel) (Nat.le_of_ble_eq_true rfl) [some (.ref a0), some (.int a1), some (.ref a2)] (fun ls h => zEn_ok (n := 3) h) ?_
  intro o Gf h
  unfold f_AB_putStringAt at h
  refine Y.blk (pc' := 2) (L' := [some (.ref a0), some (.int a1), some (.ref a2)]) (st' := [.ref a2, .ref a0]) (sg := [(.aload_n 0, 0), (.aload_n 2, 0)]) (by decide +kernel) rfl ?_
  obtain ⟨_, o2, e1, m3, h⟩ := gOb_inv h
  refine Y.callN (yC.Vi (b := a0) (As := [.ref a2]) (st := []) (r := ("java/lang/StringBuilder", T_SB, 4)) hV.1.1 cb_AB_inflateIfNeededFor lk_AB_397 in_AB_inflateIfNeededFor rfl seSB_AB_inflateIfNeededFor (by decide +kernel) rfl rfl (Nat.le_of_ble_eq_true rfl) (by decide) e1 m3) (k_AB_inflateIfNeededFor hV G a0 a2) h (fun G4 _ h => ?_)
  refine Y.blk (pc' := 7) (L' := [some (.ref a0), some (.int a1), some (.ref a2)]) (st' := [.ref a0, .ref a2]) (sg := [(.aload_n 2, 0), (.aload_n 0, 0)]) (by decide +kernel) rfl ?_
  refine Y.getA fl_AB_15 (by decide +kernel) h (fun v5 h => ?_)
  refine Y.blk (pc' := 12) (L' := [some (.ref a0), some (.int a1), some (.ref a2)]) (st' := [.ref a0, .int a1, .ref v5, .ref a2]) (sg := [(.iload_n 1, 0), (.aload_n 0, 0)]) (by decide +kernel) rfl ?_
  refine Y.getI fl_AB_22 (by decide +kernel) h (fun v6 h => ?_)
  obtain ⟨_, o8, e7, m9, h⟩ := gOb_inv h
  refine Y.callN (yC.Vi (b := a2) (As := [.ref v5, .int a1, .int v6]) (st := []) (r := ("java/lang/String", T_ST, 4)) hV.1.1 cb_ST_getBytes lk_AB_399 in_ST_getBytes rfl se_ST_getBytes (by decide +kernel) rfl rfl (Nat.le_of_ble_eq_true rfl) (by decide) e7 m9) (k_ST_getBytes hV G4 a2 v5 a1 v6) h (fun G10 _ h => ?_)
  exact Y.vret rfl (by decide +kernel) h

def f_ST_length (w : Nat → Nat) (G : gH) (a0 : Nat) : gR :=
  gFA G a0 8 0 fun v1 => gLen G v1 101 fun v2 => gOb G a0 8 fun o4 => bI (f_ST_coder w G a0) fun v7 G6 => rI (v2 >>> (v7 &&& 31)) G6
theorem k_ST_length {l : Launch} {D : va_G} {B : Nat} {O : State → Heap → Prop} {w : Nat → Nat} (hV : zGw l D B O w) (G : gH) (a0 : Nat) : gMet (zVm l D B O) m_ST_length 3 [.ref a0] G (f_ST_length w G a0) := by
  refine gMet.of (by decide +kernel) (Nat.le_of_ble_eq_true rfl) [some (.ref a0)] (fun ls h => zEn_ok (n := 1) h) ?_
  intro o Gf h
  unfold f_ST_length at h
  refine Y.blk (pc' := 1) (L' := [some (.ref a0)]) (st' := [.ref a0]) (sg := [(.aload_n 0, 0)]) (by decide +kernel) rfl ?_
  refine Y.getA fl_ST_9 (by decide +kernel) h (fun v1 h => ?_)
  refine Y.alen (t0 := 1) (by decide +kernel) rfl h (fun v2 h => ?_)
  refine Y.blk (pc' := 6) (L' := [some (.ref a0)]) (st' := [.ref a0, .int v2]) (sg := [(.aload_n 0, 0)]) (by decide +kernel) rfl ?_
  obtain ⟨_, o4, e3, m5, h⟩ := gOb_inv h
  refine Y.callI (yC.Vi (b := a0) (As := []) (st := [.int v2]) (r := ("java/lang/String", T_ST, 4)) hV.1.1 cb_ST_coder lk_ST_335 in_ST_coder rfl se_ST_coder (by decide +kernel) rfl rfl (Nat.le_of_ble_eq_true rfl) (by decide) e3 m5) (k_ST_coder hV G a0) h (fun v7 G6 _ h => ?_)
  refine Y.blk (pc' := 10) (L' := [some (.ref a0)]) (st' := [.int (v2 >>> (v7 &&& 31))]) (sg := [(.ishr, 0)]) (by decide +kernel) rfl ?_
  exact Y.iret rfl (by decide +kernel) h

def f_AB_append3 (w : Nat → Nat) (G : gH) (a0 : Nat) (a1 : Nat) : gR :=
  gOb G a1 8 fun o2 => bI (f_ST_length w G a1) fun v5 G4 => gFI G4 a0 10 3 fun v6 => gOb G4 a0 10 fun o8 => bV (f_AB_ensureCapacityInternal G4 a0 (v6 + v5)) fun G10 => gFI G10 a0 10 3 fun v11 => gOb G10 a0 10 fun o13 => bV (f_AB_putStringAt w G10 a0 v11 a1) fun G15 => gFI G15 a0 10 3 fun v16 => gPut G15 a0 10 3 (.int (v16 + v5)) fun G17 => rA a0 G17
theorem k_AB_append3 {l : Launch} {D : va_G} {B : Nat} {O : State → Heap → Prop} {w : Nat → Nat} (hV : zGw l D B O w) (G : gH) (a0 : Nat) (a1 : Nat) : gMet (zVm l D B O) m_AB_append3 5 [.ref a0, .ref a1] G (f_AB_append3 w G a0 a1) := by
  refine gMet.of (by decide +kernel) (Nat.le_of_ble_eq_true rfl) [some (.ref a0), some (.ref a1), none] (fun ls h => zEn_ok (n := 3) h) ?_
  intro o Gf h
  unfold f_AB_append3 at h
  refine Y.blk (pc' := 1) (L' := [some (.ref a0), some (.ref a1), none]) (st' := [.ref a1]) (sg := [(.aload_n 1, 0)]) (by decide +kernel) rfl ?_
  refine Y.ifnonnull_r (off := 8) (tgt := 9) (by decide +kernel) (by decide) ?_
  refine Y.blk (pc' := 10) (L' := [some (.ref a0), some (.ref a1), none]) (st' := [.ref a1]) (sg := [(.aload_n 1, 0)]) (by decide +kernel) rfl ?_
  obtain ⟨_, o2, e1, m3, h⟩ := gOb_inv h
  refine Y.callI (yC.Vi (b := a1) (As := []) (st := []) (r := ("java/lang/String", T_ST, 4)) hV.1.1 cb_ST_length lk_AB_32 in_ST_length rfl se_ST_length (by decide +kernel) rfl rfl (Nat.le_of_ble_eq_true rfl) (by decide) e1 m3) (k_ST_length hV G a1) h (fun v5 G4 _ h => ?_)
  refine Y.blk (pc' := 16) (L' := [some (.ref a0), some (.ref a1), some (.int v5)]) (st' := [.ref a0, .ref a0]) (sg := [(.istore_n 2, 0), (.aload_n 0, 0), (.aload_n 0, 0)]) (by decide +kernel) rfl ?_
  refine Y.getI fl_AB_79 (by decide +kernel) h (fun v6 h => ?_)
  refine Y.blk (pc' := 21) (L' := [some (.ref a0), some (.ref a1), some (.int v5)]) (st' := [.int (v6 + v5), .ref a0]) (sg := [(.iload_n 2, 0), (.iadd, 0)]) (by decide +kernel) rfl ?_
  obtain ⟨_, o8, e7, m9, h⟩ := gOb_inv h
  refine Y.callN (yC.Vi (b := a0) (As := [.int (v6 + v5)]) (st := []) (r := ("java/lang/StringBuilder", T_SB, 4)) hV.1.1 cb_AB_ensureCapacityInternal lk_AB_100 in_AB_ensureCapacityInternal rfl seSB_AB_ensureCapacityInternal (by decide +kernel) rfl rfl (Nat.le_of_ble_eq_true rfl) (by decide) e7 m9) (k_AB_ensureCapacityInternal hV.1 G4 a0 (v6 + v5)) h (fun G10 _ h => ?_)
  refine Y.blk (pc' := 26) (L' := [some (.ref a0), some (.ref a1), some (.int v5)]) (st' := [.ref a0, .ref a0]) (sg := [(.aload_n 0, 0), (.aload_n 0, 0)]) (by decide +kernel) rfl ?_
  refine Y.getI fl_AB_79 (by decide +kernel) h (fun v11 h => ?_)
  refine Y.blk (pc' := 30) (L' := [some (.ref a0), some (.ref a1), some (.int v5)]) (st' := [.ref a1, .int v11, .ref a0]) (sg := [(.aload_n 1, 0)]) (by decide +kernel) rfl ?_
  obtain ⟨_, o13, e12, m14, h⟩ := gOb_inv h
  refine Y.callN (yC.Vi (b := a0) (As := [.int v11, .ref a1]) (st := []) (r := ("java/lang/StringBuilder", T_SB, 4)) hV.1.1 cb_AB_putStringAt lk_AB_208 in_AB_putStringAt rfl seSB_AB_putStringAt (by decide +kernel) rfl rfl (Nat.le_of_ble_eq_true rfl) (by decide) e12 m14) (k_AB_putStringAt hV G10 a0 v11 a1) h (fun G15 _ h => ?_)
  refine Y.blk (pc' := 35) (L' := [some (.ref a0), some (.ref a1), some (.int v5)]) (st' := [.ref a0, .ref a0]) (sg := [(.aload_n 0, 0), (.dup, 0)]) (by decide +kernel) rfl ?_
  refine Y.getI fl_AB_79 (by decide +kernel) h (fun v16 h => ?_)
  refine Y.blk (pc' := 40) (L' := [some (.ref a0), some (.ref a1), some (.int v5)]) (st' := [.int (v16 + v5), .ref a0]) (sg := [(.iload_n 2, 0), (.iadd, 0)]) (by decide +kernel) rfl ?_
  refine Y.putf fl_AB_79 (by decide) rfl rfl (by decide +kernel) h (fun G17 _ _ h => ?_)
  refine Y.blk (pc' := 44) (L' := [some (.ref a0), some (.ref a1), some (.int v5)]) (st' := [.ref a0]) (sg := [(.aload_n 0, 0)]) (by decide +kernel) rfl ?_
  exact Y.aret rfl (by first | exact Or.inl ⟨_, rfl⟩ | exact Or.inr ⟨_, rfl⟩) (by decide +kernel) h

def f_SB_append3 (w : Nat → Nat) (G : gH) (a0 : Nat) (a1 : Nat) : gR :=
  gOb G a0 10 fun o2 => bA (f_AB_append3 w G a0 a1) fun v5 G4 => rA a0 G4
theorem k_SB_append3 {l : Launch} {D : va_G} {B : Nat} {O : State → Heap → Prop} {w : Nat → Nat} (hV : zGw l D B O w) (G : gH) (a0 : Nat) (a1 : Nat) : gMet (zVm l D B O) m_SB_append3 6 [.ref a0, .ref a1] G (f_SB_append3 w G a0 a1) := by
  refine gMet.of (by decide +kernel) (Nat.le_of_ble_eq_true rfl) [some (.ref a0), some (.ref a1)] (fun ls h => zEn_ok (n := 2) h) ?_
  intro o Gf h
  unfold f_SB_append3 at h
  refine Y.blk (pc' := 2) (L' := [some (.ref a0), some (.ref a1)]) (st' := [.ref a1, .ref a0]) (sg := [(.aload_n 0, 0), (.aload_n 1, 0)]) (by decide +kernel) rfl ?_
  obtain ⟨_, o2, e1, m3, h⟩ := gOb_inv h
  refine Y.callA (yC.SU (b := a0) (As := [.ref a1]) (st := []) (r := ("java/lang/StringBuilder", T_SB, 4)) hV.1.1 cb_AB_append3 lk_SB_29 sm_AB_append3 su_SB_AB in_AB_append3 (by decide) rfl (by decide +kernel) rfl rfl (Nat.le_of_ble_eq_true rfl) (by decide) e1 m3) (k_AB_append3 hV G a0 a1) h (fun v5 G4 _ h => ?_)
  refine Y.blk (pc' := 7) (L' := [some (.ref a0), some (.ref a1)]) (st' := [.ref a0]) (sg := [(.pop, 0), (.aload_n 0, 0)]) (by decide +kernel) rfl ?_
  exact Y.aret rfl (by first | exact Or.inl ⟨_, rfl⟩ | exact Or.inr ⟨_, rfl⟩) (by decide +kernel) h

def f_AB_getValue (G : gH) (a0 : Nat) : gR :=
  gFA G a0 10 0 fun v1 => rA v1 G
theorem k_AB_getValue {l : Launch} {D : va_G} {B : Nat} {O : State → Heap → Prop} (hV : zG l D B O) (G : gH) (a0 : Nat) : gMet (zVm l D B O) m_AB_getValue 2 [.ref a0] G (f_AB_getValue G a0) := by
  refine gMet.of (by decide +kernel) (Nat.le_of_ble_eq_true rfl) [some (.ref a0)] (fun ls h => zEn_ok (n := 1) h) ?_
  intro o Gf h
  unfold f_AB_getValue at h
  refine Y.blk (pc' := 1) (L' := [some (.ref a0)]) (st' := [.ref a0]) (sg := [(.aload_n 0, 0)]) (by decide +kernel) rfl ?_
  refine Y.getA fl_AB_15 (by decide +kernel) h (fun v1 h => ?_)
  exact Y.aret rfl (by first | exact Or.inl ⟨_, rfl⟩ | exact Or.inr ⟨_, rfl⟩) (by decide +kernel) h

def f_AR_checkLength (w : Nat → Nat) (G : gH) (a0 : Int32) (a1 : Int32) : gR :=
  if a0 ≤ a1 then rV G
  else none
theorem k_AR_checkLength {l : Launch} {D : va_G} {B : Nat} {O : State → Heap → Prop} {w : Nat → Nat} (hV : zGw l D B O w) (G : gH) (a0 : Int32) (a1 : Int32) : gMet (zVm l D B O) m_AR_checkLength 2 [.int a0, .int a1] G (f_AR_checkLength w G a0 a1) := by
  refine gMet.of (by decide +kernel) (Nat.le_of_ble_eq_true rfl) [some (.int a0), some (.int a1)] (fun ls h => zEn_ok (n := 2) h) ?_
  intro o Gf h
  unfold f_AR_checkLength at h
  refine Y.blk (pc' := 2) (L' := [some (.int a0), some (.int a1)]) (st' := [.int a0, .int a1]) (sg := [(.iload_n 1, 0), (.iload_n 0, 0)]) (by decide +kernel) rfl ?_
  refine Y.ic_ge (off := 35) (tgt := 37) (by decide +kernel) (by decide) h (fun c1 h => ?_) (fun c1 h => ?_)
  · exact Y.vret rfl (by decide +kernel) h
  · cases h

def f_AR_copyOfRangeByte (w : Nat → Nat) (G : gH) (a0 : Nat) (a1 : Int32) (a2 : Int32) : gR :=
  bV (f_AR_checkLength w G a1 a2) fun G2 => gNewA G2 101 (a2 - a1) fun q3 G4 => gLen G4 a0 101 fun v5 => gCpB G4 a0 a1 q3 (nI 0) (if (a2 - a1) < (v5 - a1) then (a2 - a1) else (v5 - a1)) fun G6 => rA q3 G6
theorem k_AR_copyOfRangeByte {l : Launch} {D : va_G} {B : Nat} {O : State → Heap → Prop} {w : Nat → Nat} (hV : zGw l D B O w) (G : gH) (a0 : Nat) (a1 : Int32) (a2 : Int32) : gMet (zVm l D B O) m_AR_copyOfRangeByte 3 [.ref a0, .int a1, .int a2] G (f_AR_copyOfRangeByte w G a0 a1 a2) := by
  refine gMet.of (by decide +kernel) (Nat.le_of_ble_eq_true rfl) [some (.ref a0), some (.int a1), some (.int a2), none, none] (fun ls h => zEn_ok (n := 5) h) ?_
  intro o Gf h
  unfold f_AR_copyOfRangeByte at h
  refine Y.blk (pc' := 2) (L' := [some (.ref a0), some (.int a1), some (.int a2), none, none]) (st' := [.int a2, .int a1]) (sg := [(.iload_n 1, 0), (.iload_n 2, 0)]) (by decide +kernel) rfl ?_
  refine Y.callN (yC.S (As := [.int a1, .int a2]) (st := []) hV.1.1 cb_AR_checkLength lk_AR_343 st_AR_checkLength (by decide +kernel) rfl rfl (Nat.le_of_ble_eq_true rfl) (by decide)) (k_AR_checkLength hV G a1 a2) h (fun G2 _ h => ?_)
  refine Y.blk (pc' := 10) (L' := [some (.ref a0), some (.int a1), some (.int a2), some (.int (a2 - a1)), none]) (st' := [.int (a2 - a1)]) (sg := [(.iload_n 2, 0), (.iload_n 1, 0), (.isub, 0), (.istore_n 3, 0), (.iload_n 3, 0)]) (by decide +kernel) rfl ?_
  refine Y.newa (at_ := .byte) (t0 := 1) ac_b rfl (by decide) rfl (by decide) (by decide +kernel) h (fun q3 G4 h => ?_)
  refine Y.blk (pc' := 20) (L' := [some (.ref a0), some (.int a1), some (.int a2), some (.int (a2 - a1)), some (.ref q3)]) (st' := [.ref a0, .int (nI 0), .ref q3, .int a1, .ref a0]) (sg := [(.astore 4, 0), (.aload_n 0, 0), (.iload_n 1, 0), (.aload 4, 0), (.iconst 0, nI 0), (.aload_n 0, 0)]) (by decide +kernel) rfl ?_
  refine Y.alen (t0 := 1) (by decide +kernel) rfl h (fun v5 h => ?_)
  refine Y.blk (pc' := 24) (L' := [some (.ref a0), some (.int a1), some (.int a2), some (.int (a2 - a1)), some (.ref q3)]) (st' := [.int (a2 - a1), .int (v5 - a1), .int (nI 0), .ref q3, .int a1, .ref a0]) (sg := [(.iload_n 1, 0), (.isub, 0), (.iload_n 3, 0)]) (by decide +kernel) rfl ?_
  refine Y.mmin lk_AR_304 st_MA_min ini_MA cb_MA_min.1 (by decide) rfl (Nat.le_of_ble_eq_true rfl) (by decide +kernel) ?_
  refine Y.copyB (t0 := 1) lk_AR_150 nat_copy st_copy ini_SY (by decide) rfl (Nat.le_of_ble_eq_true rfl) (by decide +kernel) rfl h (fun G6 _ _ h => ?_)
  refine Y.blk (pc' := 32) (L' := [some (.ref a0), some (.int a1), some (.int a2), some (.int (a2 - a1)), some (.ref q3)]) (st' := [.ref q3]) (sg := [(.aload 4, 0)]) (by decide +kernel) rfl ?_
  exact Y.aret rfl (by first | exact Or.inl ⟨_, rfl⟩ | exact Or.inr ⟨_, rfl⟩) (by decide +kernel) h

def f_AR_copyOfRange (w : Nat → Nat) (G : gH) (a0 : Nat) (a1 : Int32) (a2 : Int32) : gR :=
  if a1 = 0 then (gLen G a0 101 fun v1 => if a2 = v1 then gClB G a0 fun q2 G3 => gCaA G3 q2 101 (rA q2 G3)
    else bA (f_AR_copyOfRangeByte w G a0 a1 a2) fun v6 G5 => rA v6 G5)
  else bA (f_AR_copyOfRangeByte w G a0 a1 a2) fun v10 G9 => rA v10 G9
theorem k_AR_copyOfRange {l : Launch} {D : va_G} {B : Nat} {O : State → Heap → Prop} {w : Nat → Nat} (hV : zGw l D B O w) (G : gH) (a0 : Nat) (a1 : Int32) (a2 : Int32) : gMet (zVm l D B O) m_AR_copyOfRange 4 [.ref a0, .int a1, .int a2] G (f_AR_copyOfRange w G a0 a1 a2) := by
  refine gMet.of (by decide +kernel) (Nat.le_of_ble_eq_true rfl) [some (.ref a0), some (.int a1), some (.int a2)] (fun ls h => zEn_ok (n := 3) h) ?_
  intro o Gf h
  unfold f_AR_copyOfRange at h
  refine Y.blk (pc' := 1) (L' := [some (.ref a0), some (.int a1), some (.int a2)]) (st' := [.int a1]) (sg := [(.iload_n 1, 0)]) (by decide +kernel) rfl ?_
  refine Y.if_ne (off := 9) (tgt := 10) (by decide +kernel) (by decide) h (fun c11 h => ?_) (fun c11 h => ?_)
  · refine Y.blk (pc' := 6) (L' := [some (.ref a0), some (.int a1), some (.int a2)]) (st' := [.ref a0, .int a2]) (sg := [(.iload_n 2, 0), (.aload_n 0, 0)]) (by decide +kernel) rfl ?_
    refine Y.alen (t0 := 1) (by decide +kernel) rfl h (fun v1 h => ?_)
    refine Y.ic_eq (off := 10) (tgt := 17) (by decide +kernel) (by decide) h (fun c7 h => ?_) (fun c7 h => ?_)
    · refine Y.blk (pc' := 18) (L' := [some (.ref a0), some (.int a1), some (.int a2)]) (st' := [.ref a0]) (sg := [(.aload_n 0, 0)]) (by decide +kernel) rfl ?_
      refine Y.cloneB (t0 := 1) lk_clone rfl (by decide) rfl (Nat.le_of_ble_eq_true rfl) (by decide +kernel) h (fun q2 G3 h => ?_)
      refine Y.castA (t0 := 1) (nm := "[B") (by decide +kernel) rfl (by decide) ck_AR_311 h (fun h => ?_)
      exact Y.aret rfl (by first | exact Or.inl ⟨_, rfl⟩ | exact Or.inr ⟨_, rfl⟩) (by decide +kernel) h
    · refine Y.blk (pc' := 13) (L' := [some (.ref a0), some (.int a1), some (.int a2)]) (st' := [.int a2, .int a1, .ref a0]) (sg := [(.aload_n 0, 0), (.iload_n 1, 0), (.iload_n 2, 0)]) (by decide +kernel) rfl ?_
      refine Y.callA (yC.S (As := [.ref a0, .int a1, .int a2]) (st := []) hV.1.1 cb_AR_copyOfRangeByte lk_AR_339 st_AR_copyOfRangeByte (by decide +kernel) rfl rfl (Nat.le_of_ble_eq_true rfl) (by decide)) (k_AR_copyOfRangeByte hV G a0 a1 a2) h (fun v6 G5 _ h => ?_)
      exact Y.aret rfl (by first | exact Or.inl ⟨_, rfl⟩ | exact Or.inr ⟨_, rfl⟩) (by decide +kernel) h
  · refine Y.blk (pc' := 13) (L' := [some (.ref a0), some (.int a1), some (.int a2)]) (st' := [.int a2, .int a1, .ref a0]) (sg := [(.aload_n 0, 0), (.iload_n 1, 0), (.iload_n 2, 0)]) (by decide +kernel) rfl ?_
    refine Y.callA (yC.S (As := [.ref a0, .int a1, .int a2]) (st := []) hV.1.1 cb_AR_copyOfRangeByte lk_AR_339 st_AR_copyOfRangeByte (by decide +kernel) rfl rfl (Nat.le_of_ble_eq_true rfl) (by decide)) (k_AR_copyOfRangeByte hV G a0 a1 a2) h (fun v10 G9 _ h => ?_)
    exact Y.aret rfl (by first | exact Or.inl ⟨_, rfl⟩ | exact Or.inr ⟨_, rfl⟩) (by decide +kernel) h

def f_ST_init1 (w : Nat → Nat) (G : gH) (a0 : Nat) (a1 : Nat) : gR :=
  gOb G a1 10 fun o2 => bA (f_AB_getValue G a1) fun v5 G4 => gOb G4 a1 10 fun o7 => bI (f_SB_length G4 a1) fun v10 G9 => gOb G9 a1 10 fun o12 => bI (f_AB_isLatin1 w G9 a1) fun v15 G14 => if v15 = 0 then (if (nI 1) = 0 then gPut G14 a0 8 1 (.int (nI 1)) fun G16 => bA (f_AR_copyOfRange w G16 v5 (nI 0) (v10 <<< ((nI 1) &&& 31))) fun v19 G18 => gPut G18 a0 8 0 (.ref v19) fun G20 => rV G20
    else gFI G14 a1 10 2 fun v21 => if v21 = 0 then gPut G14 a0 8 1 (.int (nI 1)) fun G22 => bA (f_AR_copyOfRange w G22 v5 (nI 0) (v10 <<< ((nI 1) &&& 31))) fun v25 G24 => gPut G24 a0 8 0 (.ref v25) fun G26 => rV G26
      else none)
  else gPut G14 a0 8 1 (.int (nI 0)) fun G29 => bA (f_AR_copyOfRange w G29 v5 (nI 0) v10) fun v32 G31 => gPut G31 a0 8 0 (.ref v32) fun G33 => rV G33
theorem k_ST_init1 {l : Launch} {D : va_G} {B : Nat} {O : State → Heap → Prop} {w : Nat → Nat} (hV : zGw l D B O w) (G : gH) (a0 : Nat) (a1 : Nat) : gMet (zVm l D B O) m_ST_init1 5 [.ref a0, .ref a1, .null] G (f_ST_init1 w G a0 a1) := by
  refine gMet.of (by decide +kernel) (Nat.le_of_ble_eq_true rfl) [some (.ref a0), some (.ref a1), some (.null), none, none] (fun ls h => zEn_ok (n := 5) h) ?_
  intro o Gf h
  unfold f_ST_init1 at h
  refine Y.blk (pc' := 1) (L' := [some (.ref a0), some (.ref a1), some (.null), none, none]) (st' := [.ref a0]) (sg := [(.aload_n 0, 0)]) (by decide +kernel) rfl ?_
  refine Y.objInit lk_ST_1 in_OJ_init cw_OJ_init (by decide) rfl (Nat.le_of_ble_eq_true rfl) (by decide +kernel) ?_
  refine Y.blk (pc' := 5) (L' := [some (.ref a0), some (.ref a1), some (.null), none, none]) (st' := [.ref a1]) (sg := [(.aload_n 1, 0)]) (by decide +kernel) rfl ?_
  obtain ⟨_, o2, e1, m3, h⟩ := gOb_inv h
  refine Y.callA (yC.Vi (b := a1) (As := []) (st := []) (r := ("java/lang/StringBuilder", T_SB, 4)) hV.1.1 cb_AB_getValue lk_ST_552 in_AB_getValue rfl seSB_AB_getValue (by decide +kernel) rfl rfl (Nat.le_of_ble_eq_true rfl) (by decide) e1 m3) (k_AB_getValue hV.1 G a1) h (fun v5 G4 _ h => ?_)
  refine Y.blk (pc' := 10) (L' := [some (.ref a0), some (.ref a1), some (.null), some (.ref v5), none]) (st' := [.ref a1]) (sg := [(.astore_n 3, 0), (.aload_n 1, 0)]) (by decide +kernel) rfl ?_
  obtain ⟨_, o7, e6, m8, h⟩ := gOb_inv h
  refine Y.callI (yC.U (b := a1) (As := []) (st := []) (r := ("java/lang/StringBuilder", T_SB, 4)) hV.1.1 cb_SB_length lk_ST_549 sm_AB_length in_AB_length cb_AB_length.1 ⟨by decide +kernel, by decide +kernel⟩ (by decide +kernel) in_SB_length rfl sx_SB_length (by decide +kernel) rfl rfl (Nat.le_of_ble_eq_true rfl) (by decide) e6 m8) (k_SB_length hV.1 G4 a1) h (fun v10 G9 _ h => ?_)
  refine Y.blk (pc' := 16) (L' := [some (.ref a0), some (.ref a1), some (.null), some (.ref v5), some (.int v10)]) (st' := [.ref a1]) (sg := [(.istore 4, 0), (.aload_n 1, 0)]) (by decide +kernel) rfl ?_
  obtain ⟨_, o12, e11, m13, h⟩ := gOb_inv h
  refine Y.callI (yC.Vi (b := a1) (As := []) (st := []) (r := ("java/lang/StringBuilder", T_SB, 4)) hV.1.1 cb_AB_isLatin1 lk_ST_1047 in_AB_isLatin1 rfl seSB_AB_isLatin1 (by decide +kernel) rfl rfl (Nat.le_of_ble_eq_true rfl) (by decide) e11 m13) (k_AB_isLatin1 hV G9 a1) h (fun v15 G14 _ h => ?_)
  refine Y.if_eq (off := 22) (tgt := 41) (by decide +kernel) (by decide) h (fun c34 h => ?_) (fun c34 h => ?_)
  · refine Y.gets (v := .int (nI 1)) (fun U H h => (hV.2 U H h).2.2.2.1) sf_ST_38 (by decide +kernel) ?_
    refine Y.if_eq (off := 35) (tgt := 79) (by decide +kernel) (by decide) h (fun c28 h => ?_) (fun c28 h => ?_)
    · refine Y.blk (pc' := 81) (L' := [some (.ref a0), some (.ref a1), some (.null), some (.ref v5), some (.int v10)]) (st' := [.int (nI 1), .ref a0]) (sg := [(.aload_n 0, 0), (.iconst 1, nI 1)]) (by decide +kernel) rfl ?_
      refine Y.putF fl_ST_15 rfl (by decide) rfl rfl (by decide +kernel) h (fun G16 _ _ h => ?_)
      refine Y.blk (pc' := 91) (L' := [some (.ref a0), some (.ref a1), some (.null), some (.ref v5), some (.int v10)]) (st' := [.int (v10 <<< ((nI 1) &&& 31)), .int (nI 0), .ref v5, .ref a0]) (sg := [(.aload_n 0, 0), (.aload_n 3, 0), (.iconst 0, nI 0), (.iload 4, 0), (.iconst 1, nI 1), (.ishl, 0)]) (by decide +kernel) rfl ?_
      refine Y.callA (yC.S (As := [.ref v5, .int (nI 0), .int (v10 <<< ((nI 1) &&& 31))]) (st := [.ref a0]) hV.1.1 cb_AR_copyOfRange lk_ST_54 st_AR_copyOfRange (by decide +kernel) rfl rfl (Nat.le_of_ble_eq_true rfl) (by decide)) (k_AR_copyOfRange hV G16 v5 (nI 0) (v10 <<< ((nI 1) &&& 31))) h (fun v19 G18 _ h => ?_)
      refine Y.putF fl_ST_9 rfl (by decide) rfl rfl (by decide +kernel) h (fun G20 _ _ h => ?_)
      exact Y.vret rfl (by decide +kernel) h
    · refine Y.blk (pc' := 48) (L' := [some (.ref a0), some (.ref a1), some (.null), some (.ref v5), some (.int v10)]) (st' := [.ref a1]) (sg := [(.aload_n 1, 0)]) (by decide +kernel) rfl ?_
      refine Y.getI fl_ST_1048 (by decide +kernel) h (fun v21 h => ?_)
      refine Y.if_eq (off := 28) (tgt := 79) (by decide +kernel) (by decide) h (fun c27 h => ?_) (fun c27 h => ?_)
      · refine Y.blk (pc' := 81) (L' := [some (.ref a0), some (.ref a1), some (.null), some (.ref v5), some (.int v10)]) (st' := [.int (nI 1), .ref a0]) (sg := [(.aload_n 0, 0), (.iconst 1, nI 1)]) (by decide +kernel) rfl ?_
        refine Y.putF fl_ST_15 rfl (by decide) rfl rfl (by decide +kernel) h (fun G22 _ _ h => ?_)
        refine Y.blk (pc' := 91) (L' := [some (.ref a0), some (.ref a1), some (.null), some (.ref v5), some (.int v10)]) (st' := [.int (v10 <<< ((nI 1) &&& 31)), .int (nI 0), .ref v5, .ref a0]) (sg := [(.aload_n 0, 0), (.aload_n 3, 0), (.iconst 0, nI 0), (.iload 4, 0), (.iconst 1, nI 1), (.ishl, 0)]) (by decide +kernel) rfl ?_
        refine Y.callA (yC.S (As := [.ref v5, .int (nI 0), .int (v10 <<< ((nI 1) &&& 31))]) (st := [.ref a0]) hV.1.1 cb_AR_copyOfRange lk_ST_54 st_AR_copyOfRange (by decide +kernel) rfl rfl (Nat.le_of_ble_eq_true rfl) (by decide)) (k_AR_copyOfRange hV G22 v5 (nI 0) (v10 <<< ((nI 1) &&& 31))) h (fun v25 G24 _ h => ?_)
        refine Y.putF fl_ST_9 rfl (by decide) rfl rfl (by decide +kernel) h (fun G26 _ _ h => ?_)
        exact Y.vret rfl (by decide +kernel) h
      · refine Y.blk (pc' := 59) (L' := [some (.ref a0), some (.ref a1), some (.null), some (.ref v5), some (.int v10)]) (st' := [.int v10, .int (nI 0), .ref v5, .ref a0]) (sg := [(.aload_n 0, 0), (.aload_n 3, 0), (.iconst 0, nI 0), (.iload 4, 0)]) (by decide +kernel) rfl ?_
        cases h
  · refine Y.blk (pc' := 24) (L' := [some (.ref a0), some (.ref a1), some (.null), some (.ref v5), some (.int v10)]) (st' := [.int (nI 0), .ref a0]) (sg := [(.aload_n 0, 0), (.iconst 0, nI 0)]) (by decide +kernel) rfl ?_
    refine Y.putF fl_ST_15 rfl (by decide) rfl rfl (by decide +kernel) h (fun G29 _ _ h => ?_)
    refine Y.blk (pc' := 32) (L' := [some (.ref a0), some (.ref a1), some (.null), some (.ref v5), some (.int v10)]) (st' := [.int v10, .int (nI 0), .ref v5, .ref a0]) (sg := [(.aload_n 0, 0), (.aload_n 3, 0), (.iconst 0, nI 0), (.iload 4, 0)]) (by decide +kernel) rfl ?_
    refine Y.callA (yC.S (As := [.ref v5, .int (nI 0), .int v10]) (st := [.ref a0]) hV.1.1 cb_AR_copyOfRange lk_ST_54 st_AR_copyOfRange (by decide +kernel) rfl rfl (Nat.le_of_ble_eq_true rfl) (by decide)) (k_AR_copyOfRange hV G29 v5 (nI 0) v10) h (fun v32 G31 _ h => ?_)
    refine Y.putF fl_ST_9 rfl (by decide) rfl rfl (by decide +kernel) h (fun G33 _ _ h => ?_)
    refine Y.goto (off := 59) (tgt := 97) (by decide +kernel) (by decide) ?_
    exact Y.vret rfl (by decide +kernel) h

def f_ST_init2 (w : Nat → Nat) (G : gH) (a0 : Nat) (a1 : Nat) : gR :=
  bV (f_ST_init1 w G a0 a1) fun G2 => rV G2
theorem k_ST_init2 {l : Launch} {D : va_G} {B : Nat} {O : State → Heap → Prop} {w : Nat → Nat} (hV : zGw l D B O w) (G : gH) (a0 : Nat) (a1 : Nat) : gMet (zVm l D B O) m_ST_init2 6 [.ref a0, .ref a1] G (f_ST_init2 w G a0 a1) := by
  refine gMet.of (by decide +kernel) (Nat.le_of_ble_eq_true rfl) [some (.ref a0), some (.ref a1)] (fun ls h => zEn_ok (n := 2) h) ?_
  intro o Gf h
  unfold f_ST_init2 at h
  refine Y.blk (pc' := 3) (L' := [some (.ref a0), some (.ref a1)]) (st' := [.null, .ref a1, .ref a0]) (sg := [(.aload_n 0, 0), (.aload_n 1, 0), (.aconst_null, 0)]) (by decide +kernel) rfl ?_
  refine Y.callN (yC.I (b := a0) (As := [.ref a1, .null]) (st := []) hV.1.1 cb_ST_init1 lk_ST_489 in_ST_init1 rfl rfl (by decide +kernel) rfl rfl (Nat.le_of_ble_eq_true rfl) (by decide)) (k_ST_init1 hV G a0 a1) h (fun G2 _ h => ?_)
  exact Y.vret rfl (by decide +kernel) h

def f_SB_toString (w : Nat → Nat) (G : gH) (a0 : Nat) : gR :=
  gNewO G 8 4 [.null, .int 0, .int 0, .int 0] fun q1 G2 => bV (f_ST_init2 w G2 q1 a0) fun G4 => rA q1 G4
theorem k_SB_toString {l : Launch} {D : va_G} {B : Nat} {O : State → Heap → Prop} {w : Nat → Nat} (hV : zGw l D B O w) (G : gH) (a0 : Nat) : gMet (zVm l D B O) m_SB_toString 7 [.ref a0] G (f_SB_toString w G a0) := by
  refine gMet.of (by decide +kernel) (Nat.le_of_ble_eq_true rfl) [some (.ref a0)] (fun ls h => zEn_ok (n := 1) h) ?_
  intro o Gf h
  unfold f_SB_toString at h
  refine Y.new nc_SB_18 (by decide) bk_ST (by decide +kernel) h (fun q1 G2 h => ?_)
  refine Y.blk (pc' := 5) (L' := [some (.ref a0)]) (st' := [.ref a0, .ref q1, .ref q1]) (sg := [(.dup, 0), (.aload_n 0, 0)]) (by decide +kernel) rfl ?_
  refine Y.callN (yC.I (b := q1) (As := [.ref a0]) (st := [.ref q1]) hV.1.1 cb_ST_init2 lk_SB_137 in_ST_init2 rfl rfl (by decide +kernel) rfl rfl (Nat.le_of_ble_eq_true rfl) (by decide)) (k_ST_init2 hV G2 q1 a0) h (fun G4 _ h => ?_)
  exact Y.aret rfl (by first | exact Or.inl ⟨_, rfl⟩ | exact Or.inr ⟨_, rfl⟩) (by decide +kernel) h

def f_M_textOf_L10 (w : Nat → Nat) (K70 : gH → Nat → Int32 → Nat → gR) : Nat → gH → Nat → Int32 → Nat → Int32 → gR
  | 0, _, _, _, _, _ => none
  | n + 1, G, x0, x1, x2, x3 =>
    gOb G x0 6 fun o6 => bI (f_M_length G x0 x1) fun v9 G8 => if v9 ≤ x3 then K70 G8 x0 x1 x2
    else if x3 = 0 then gOb G8 x2 10 fun o11 => bA (f_SB_append3 w G8 x2 (w 5)) fun v14 G13 => gOb G13 x0 6 fun o16 => bA (f_M_at G13 x0 x1 x3) fun v19 G18 => gLd G18 v19 100 (nI 0) fun v20 => gOb G18 v14 10 fun o22 => bA (f_SB_append2 w G18 v14 v20) fun v25 G24 => gOb G24 v25 10 fun o27 => bA (f_SB_append1 w G24 v25 (nI 46)) fun v30 G29 => gOb G29 x0 6 fun o32 => bA (f_M_at G29 x0 x1 x3) fun v35 G34 => gLd G34 v35 100 (nI 1) fun v36 => gOb G34 v30 10 fun o38 => bA (f_SB_append2 w G34 v30 v36) fun v41 G40 => f_M_textOf_L10 w K70 n G40 x0 x1 x2 (x3 + (nI 1))
      else gOb G8 x2 10 fun o43 => bA (f_SB_append3 w G8 x2 (w 3)) fun v46 G45 => gOb G45 x0 6 fun o48 => bA (f_M_at G45 x0 x1 x3) fun v51 G50 => gLd G50 v51 100 (nI 0) fun v52 => gOb G50 v46 10 fun o54 => bA (f_SB_append2 w G50 v46 v52) fun v57 G56 => gOb G56 v57 10 fun o59 => bA (f_SB_append1 w G56 v57 (nI 46)) fun v62 G61 => gOb G61 x0 6 fun o64 => bA (f_M_at G61 x0 x1 x3) fun v67 G66 => gLd G66 v67 100 (nI 1) fun v68 => gOb G66 v62 10 fun o70 => bA (f_SB_append2 w G66 v62 v68) fun v73 G72 => f_M_textOf_L10 w K70 n G72 x0 x1 x2 (x3 + (nI 1))
def f_M_textOf (w : Nat → Nat) (G : gH) (a0 : Nat) (a1 : Int32) : gR :=
  gNewO G 10 4 [.null, .int 0, .int 0, .int 0] fun q1 G2 => bV (f_SB_init w G2 q1) fun G4 => f_M_textOf_L10 w (fun G79 x76 x77 x78 => gOb G79 x76 6 fun o81 => bI (f_M_length G79 x76 x77) fun v84 G83 => if v84 = 0 then rA (w 7) G83
    else gOb G83 x78 10 fun o86 => bA (f_SB_toString w G83 x78) fun v89 G88 => rA v89 G88) zFu G4 a0 a1 q1 (nI 0)
theorem k_M_textOf_L10 {l : Launch} {D : va_G} {B : Nat} {O : State → Heap → Prop} {w : Nat → Nat} (hV : zGw l D B O w) {o : gO} {Gf : gH} (K70 : gH → Nat → Int32 → Nat → gR) (hK70 : ∀ (G : gH) (x0 : Nat) (x1 : Int32) (x2 : Nat), K70 G x0 x1 x2 = some (o, Gf) → Y (zVm l D B O) m_M_textOf 13 o Gf 70 [some (.ref x0), some (.int x1), some (.ref x2), none] [] G) : ∀ (n : Nat) (G : gH) (x0 : Nat) (x1 : Int32) (x2 : Nat) (x3 : Int32), f_M_textOf_L10 w K70 n G x0 x1 x2 x3 = some (o, Gf) → Y (zVm l D B O) m_M_textOf 13 o Gf 10 [some (.ref x0), some (.int x1), some (.ref x2), some (.int x3)] [] G := by
  intro n
  induction n with
  | zero => intro G x0 x1 x2 x3 h; cases h
  | succ n ih =>
    intro G x0 x1 x2 x3 h
    unfold f_M_textOf_L10 at h
    refine Y.blk (pc' := 13) (L' := [some (.ref x0), some (.int x1), some (.ref x2), some (.int x3)]) (st' := [.int x1, .ref x0, .int x3]) (sg := [(.iload_n 3, 0), (.aload_n 0, 0), (.iload_n 1, 0)]) (by decide +kernel) rfl ?_
    obtain ⟨_, o6, e5, m7, h⟩ := gOb_inv h
    refine Y.callI (yC.Vi (b := x0) (As := [.int x1]) (st := [.int x3]) (r := ("PartlisterModel", T_M, 9)) hV.1.1 cb_M_length lk_M_74 in_M_length rfl se_M_length (by decide +kernel) rfl rfl (Nat.le_of_ble_eq_true rfl) (by decide) e5 m7) (k_M_length hV.1 G x0 x1) h (fun v9 G8 _ h => ?_)
    refine Y.ic_ge (off := 54) (tgt := 70) (by decide +kernel) (by decide) h (fun c75 h => ?_) (fun c75 h => ?_)
    · refine Y.less (L' := [some (.ref x0), some (.int x1), some (.ref x2), none]) (zLe_some (zLe_some (zLe_some (zLe_none (zLe_nil))))) ?_
      exact hK70 G8 x0 x1 x2 h
    · refine Y.blk (pc' := 21) (L' := [some (.ref x0), some (.int x1), some (.ref x2), some (.int x3)]) (st' := [.int x3, .ref x2]) (sg := [(.aload_n 2, 0), (.iload_n 3, 0)]) (by decide +kernel) rfl ?_
      refine Y.if_ne (off := 9) (tgt := 30) (by decide +kernel) (by decide) h (fun c74 h => ?_) (fun c74 h => ?_)
      · refine Y.ldcSW (fun U H h => (hV.2 U H h).2.2.2.2.2.1) (by decide +kernel) ?_
        refine Y.goto (off := 6) (tgt := 33) (by decide +kernel) (by decide) ?_
        obtain ⟨_, o11, e10, m12, h⟩ := gOb_inv h
        refine Y.callA (yC.Vi (b := x2) (As := [.ref (w 5)]) (st := []) (r := ("java/lang/StringBuilder", T_SB, 4)) hV.1.1 cb_SB_append3 lk_M_267 in_SB_append3 rfl se_SB_append3 (by decide +kernel) rfl rfl (Nat.le_of_ble_eq_true rfl) (by decide) e10 m12) (k_SB_append3 hV G8 x2 (w 5)) h (fun v14 G13 _ h => ?_)
        refine Y.blk (pc' := 39) (L' := [some (.ref x0), some (.int x1), some (.ref x2), some (.int x3)]) (st' := [.int x3, .int x1, .ref x0, .ref v14]) (sg := [(.aload_n 0, 0), (.iload_n 1, 0), (.iload_n 3, 0)]) (by decide +kernel) rfl ?_
        obtain ⟨_, o16, e15, m17, h⟩ := gOb_inv h
        refine Y.callA (yC.Vi (b := x0) (As := [.int x1, .int x3]) (st := [.ref v14]) (r := ("PartlisterModel", T_M, 9)) hV.1.1 cb_M_at lk_M_132 in_M_at rfl se_M_at (by decide +kernel) rfl rfl (Nat.le_of_ble_eq_true rfl) (by decide) e15 m17) (k_M_at hV.1 G13 x0 x1 x3) h (fun v19 G18 _ h => ?_)
        refine Y.blk (pc' := 43) (L' := [some (.ref x0), some (.int x1), some (.ref x2), some (.int x3)]) (st' := [.int (nI 0), .ref v19, .ref v14]) (sg := [(.iconst 0, nI 0)]) (by decide +kernel) rfl ?_
        refine Y.iald (t0 := 0) (by decide +kernel) rfl h (fun v20 h => ?_)
        obtain ⟨_, o22, e21, m23, h⟩ := gOb_inv h
        refine Y.callA (yC.Vi (b := v14) (As := [.int v20]) (st := []) (r := ("java/lang/StringBuilder", T_SB, 4)) hV.1.1 cb_SB_append2 lk_M_271 in_SB_append2 rfl se_SB_append2 (by decide +kernel) rfl rfl (Nat.le_of_ble_eq_true rfl) (by decide) e21 m23) (k_SB_append2 hV G18 v14 v20) h (fun v25 G24 _ h => ?_)
        refine Y.blk (pc' := 49) (L' := [some (.ref x0), some (.int x1), some (.ref x2), some (.int x3)]) (st' := [.int (nI 46), .ref v25]) (sg := [(.bipush 46, nI 46)]) (by decide +kernel) rfl ?_
        obtain ⟨_, o27, e26, m28, h⟩ := gOb_inv h
        refine Y.callA (yC.Vi (b := v25) (As := [.int (nI 46)]) (st := []) (r := ("java/lang/StringBuilder", T_SB, 4)) hV.1.1 cb_SB_append1 lk_M_274 in_SB_append1 rfl se_SB_append1 (by decide +kernel) rfl rfl (Nat.le_of_ble_eq_true rfl) (by decide) e26 m28) (k_SB_append1 hV G24 v25 (nI 46)) h (fun v30 G29 _ h => ?_)
        refine Y.blk (pc' := 55) (L' := [some (.ref x0), some (.int x1), some (.ref x2), some (.int x3)]) (st' := [.int x3, .int x1, .ref x0, .ref v30]) (sg := [(.aload_n 0, 0), (.iload_n 1, 0), (.iload_n 3, 0)]) (by decide +kernel) rfl ?_
        obtain ⟨_, o32, e31, m33, h⟩ := gOb_inv h
        refine Y.callA (yC.Vi (b := x0) (As := [.int x1, .int x3]) (st := [.ref v30]) (r := ("PartlisterModel", T_M, 9)) hV.1.1 cb_M_at lk_M_132 in_M_at rfl se_M_at (by decide +kernel) rfl rfl (Nat.le_of_ble_eq_true rfl) (by decide) e31 m33) (k_M_at hV.1 G29 x0 x1 x3) h (fun v35 G34 _ h => ?_)
        refine Y.blk (pc' := 59) (L' := [some (.ref x0), some (.int x1), some (.ref x2), some (.int x3)]) (st' := [.int (nI 1), .ref v35, .ref v30]) (sg := [(.iconst 1, nI 1)]) (by decide +kernel) rfl ?_
        refine Y.iald (t0 := 0) (by decide +kernel) rfl h (fun v36 h => ?_)
        obtain ⟨_, o38, e37, m39, h⟩ := gOb_inv h
        refine Y.callA (yC.Vi (b := v30) (As := [.int v36]) (st := []) (r := ("java/lang/StringBuilder", T_SB, 4)) hV.1.1 cb_SB_append2 lk_M_271 in_SB_append2 rfl se_SB_append2 (by decide +kernel) rfl rfl (Nat.le_of_ble_eq_true rfl) (by decide) e37 m39) (k_SB_append2 hV G34 v30 v36) h (fun v41 G40 _ h => ?_)
        refine Y.blk (pc' := 67) (L' := [some (.ref x0), some (.int x1), some (.ref x2), some (.int (x3 + (nI 1)))]) (st' := []) (sg := [(.pop, 0), (.iinc 3 1, nI 1)]) (by decide +kernel) rfl ?_
        refine Y.goto (off := -57) (tgt := 10) (by decide +kernel) (by decide) ?_
        exact ih G40 x0 x1 x2 (x3 + (nI 1)) h
      · refine Y.ldcSW (fun U H h => (hV.2 U H h).2.2.2.2.1) (by decide +kernel) ?_
        obtain ⟨_, o43, e42, m44, h⟩ := gOb_inv h
        refine Y.callA (yC.Vi (b := x2) (As := [.ref (w 3)]) (st := []) (r := ("java/lang/StringBuilder", T_SB, 4)) hV.1.1 cb_SB_append3 lk_M_267 in_SB_append3 rfl se_SB_append3 (by decide +kernel) rfl rfl (Nat.le_of_ble_eq_true rfl) (by decide) e42 m44) (k_SB_append3 hV G8 x2 (w 3)) h (fun v46 G45 _ h => ?_)
        refine Y.blk (pc' := 39) (L' := [some (.ref x0), some (.int x1), some (.ref x2), some (.int x3)]) (st' := [.int x3, .int x1, .ref x0, .ref v46]) (sg := [(.aload_n 0, 0), (.iload_n 1, 0), (.iload_n 3, 0)]) (by decide +kernel) rfl ?_
        obtain ⟨_, o48, e47, m49, h⟩ := gOb_inv h
        refine Y.callA (yC.Vi (b := x0) (As := [.int x1, .int x3]) (st := [.ref v46]) (r := ("PartlisterModel", T_M, 9)) hV.1.1 cb_M_at lk_M_132 in_M_at rfl se_M_at (by decide +kernel) rfl rfl (Nat.le_of_ble_eq_true rfl) (by decide) e47 m49) (k_M_at hV.1 G45 x0 x1 x3) h (fun v51 G50 _ h => ?_)
        refine Y.blk (pc' := 43) (L' := [some (.ref x0), some (.int x1), some (.ref x2), some (.int x3)]) (st' := [.int (nI 0), .ref v51, .ref v46]) (sg := [(.iconst 0, nI 0)]) (by decide +kernel) rfl ?_
        refine Y.iald (t0 := 0) (by decide +kernel) rfl h (fun v52 h => ?_)
        obtain ⟨_, o54, e53, m55, h⟩ := gOb_inv h
        refine Y.callA (yC.Vi (b := v46) (As := [.int v52]) (st := []) (r := ("java/lang/StringBuilder", T_SB, 4)) hV.1.1 cb_SB_append2 lk_M_271 in_SB_append2 rfl se_SB_append2 (by decide +kernel) rfl rfl (Nat.le_of_ble_eq_true rfl) (by decide) e53 m55) (k_SB_append2 hV G50 v46 v52) h (fun v57 G56 _ h => ?_)
        refine Y.blk (pc' := 49) (L' := [some (.ref x0), some (.int x1), some (.ref x2), some (.int x3)]) (st' := [.int (nI 46), .ref v57]) (sg := [(.bipush 46, nI 46)]) (by decide +kernel) rfl ?_
        obtain ⟨_, o59, e58, m60, h⟩ := gOb_inv h
        refine Y.callA (yC.Vi (b := v57) (As := [.int (nI 46)]) (st := []) (r := ("java/lang/StringBuilder", T_SB, 4)) hV.1.1 cb_SB_append1 lk_M_274 in_SB_append1 rfl se_SB_append1 (by decide +kernel) rfl rfl (Nat.le_of_ble_eq_true rfl) (by decide) e58 m60) (k_SB_append1 hV G56 v57 (nI 46)) h (fun v62 G61 _ h => ?_)
        refine Y.blk (pc' := 55) (L' := [some (.ref x0), some (.int x1), some (.ref x2), some (.int x3)]) (st' := [.int x3, .int x1, .ref x0, .ref v62]) (sg := [(.aload_n 0, 0), (.iload_n 1, 0), (.iload_n 3, 0)]) (by decide +kernel) rfl ?_
        obtain ⟨_, o64, e63, m65, h⟩ := gOb_inv h
        refine Y.callA (yC.Vi (b := x0) (As := [.int x1, .int x3]) (st := [.ref v62]) (r := ("PartlisterModel", T_M, 9)) hV.1.1 cb_M_at lk_M_132 in_M_at rfl se_M_at (by decide +kernel) rfl rfl (Nat.le_of_ble_eq_true rfl) (by decide) e63 m65) (k_M_at hV.1 G61 x0 x1 x3) h (fun v67 G66 _ h => ?_)
        refine Y.blk (pc' := 59) (L' := [some (.ref x0), some (.int x1), some (.ref x2), some (.int x3)]) (st' := [.int (nI 1), .ref v67, .ref v62]) (sg := [(.iconst 1, nI 1)]) (by decide +kernel) rfl ?_
        refine Y.iald (t0 := 0) (by decide +kernel) rfl h (fun v68 h => ?_)
        obtain ⟨_, o70, e69, m71, h⟩ := gOb_inv h
        refine Y.callA (yC.Vi (b := v62) (As := [.int v68]) (st := []) (r := ("java/lang/StringBuilder", T_SB, 4)) hV.1.1 cb_SB_append2 lk_M_271 in_SB_append2 rfl se_SB_append2 (by decide +kernel) rfl rfl (Nat.le_of_ble_eq_true rfl) (by decide) e69 m71) (k_SB_append2 hV G66 v62 v68) h (fun v73 G72 _ h => ?_)
        refine Y.blk (pc' := 67) (L' := [some (.ref x0), some (.int x1), some (.ref x2), some (.int (x3 + (nI 1)))]) (st' := []) (sg := [(.pop, 0), (.iinc 3 1, nI 1)]) (by decide +kernel) rfl ?_
        refine Y.goto (off := -57) (tgt := 10) (by decide +kernel) (by decide) ?_
        exact ih G72 x0 x1 x2 (x3 + (nI 1)) h
theorem k_M_textOf {l : Launch} {D : va_G} {B : Nat} {O : State → Heap → Prop} {w : Nat → Nat} (hV : zGw l D B O w) (G : gH) (a0 : Nat) (a1 : Int32) : gMet (zVm l D B O) m_M_textOf 13 [.ref a0, .int a1] G (f_M_textOf w G a0 a1) := by
  refine gMet.of (by decide +kernel) (Nat.le_of_ble_eq_true rfl) [some (.ref a0), some (.int a1), none, none] (fun ls h => zEn_ok (n := 4) h) ?_
  intro o Gf h
  unfold f_M_textOf at h
  refine Y.new nc_M_260 (by decide) bk_SB (by decide +kernel) h (fun q1 G2 h => ?_)
  refine Y.blk (pc' := 4) (L' := [some (.ref a0), some (.int a1), none, none]) (st' := [.ref q1, .ref q1]) (sg := [(.dup, 0)]) (by decide +kernel) rfl ?_
  refine Y.callN (yC.I (b := q1) (As := []) (st := [.ref q1]) hV.1.1 cb_SB_init lk_M_262 in_SB_init rfl rfl (by decide +kernel) rfl rfl (Nat.le_of_ble_eq_true rfl) (by decide)) (k_SB_init hV G2 q1) h (fun G4 _ h => ?_)
  refine Y.blk (pc' := 10) (L' := [some (.ref a0), some (.int a1), some (.ref q1), some (.int (nI 0))]) (st' := []) (sg := [(.astore_n 2, 0), (.iconst 0, nI 0), (.istore_n 3, 0)]) (by decide +kernel) rfl ?_
  refine k_M_textOf_L10 hV _ ?_  zFu G4 a0 a1 q1 (nI 0) h
  · intro G79 x76 x77 x78 h
    refine Y.blk (pc' := 72) (L' := [some (.ref x76), some (.int x77), some (.ref x78), none]) (st' := [.int x77, .ref x76]) (sg := [(.aload_n 0, 0), (.iload_n 1, 0)]) (by decide +kernel) rfl ?_
    obtain ⟨_, o81, e80, m82, h⟩ := gOb_inv h
    refine Y.callI (yC.Vi (b := x76) (As := [.int x77]) (st := []) (r := ("PartlisterModel", T_M, 9)) hV.1.1 cb_M_length lk_M_74 in_M_length rfl se_M_length (by decide +kernel) rfl rfl (Nat.le_of_ble_eq_true rfl) (by decide) e80 m82) (k_M_length hV.1 G79 x76 x77) h (fun v84 G83 _ h => ?_)
    refine Y.if_ne (off := 9) (tgt := 84) (by decide +kernel) (by decide) h (fun c90 h => ?_) (fun c90 h => ?_)
    · refine Y.ldcSW (fun U H h => (hV.2 U H h).2.2.2.2.2.2.1) (by decide +kernel) ?_
      refine Y.goto (off := 7) (tgt := 88) (by decide +kernel) (by decide) ?_
      exact Y.aret rfl (by first | exact Or.inl ⟨_, rfl⟩ | exact Or.inr ⟨_, rfl⟩) (by decide +kernel) h
    · refine Y.blk (pc' := 85) (L' := [some (.ref x76), some (.int x77), some (.ref x78), none]) (st' := [.ref x78]) (sg := [(.aload_n 2, 0)]) (by decide +kernel) rfl ?_
      obtain ⟨_, o86, e85, m87, h⟩ := gOb_inv h
      refine Y.callA (yC.Vi (b := x78) (As := []) (st := []) (r := ("java/lang/StringBuilder", T_SB, 4)) hV.1.1 cb_SB_toString lk_M_279 in_SB_toString rfl se_SB_toString (by decide +kernel) rfl rfl (Nat.le_of_ble_eq_true rfl) (by decide) e85 m87) (k_SB_toString hV G83 x78) h (fun v89 G88 _ h => ?_)
      exact Y.aret rfl (by first | exact Or.inl ⟨_, rfl⟩ | exact Or.inr ⟨_, rfl⟩) (by decide +kernel) h

def f_M_digest_L11 (w : Nat → Nat) (K34 : gH → Nat → Int64 → gR) : Nat → gH → Nat → Int64 → Int32 → gR
  | 0, _, _, _, _ => none
  | n + 1, G, x0, x1, x3 =>
    if (nI 8) ≤ x3 then K34 G x0 x1
    else gOb G x0 6 fun o3 => bI (f_M_houseTold G x0 x3) fun v6 G5 => bL (f_M_add2 G5 x1 v6.toInt64) fun v9 G8 => f_M_digest_L11 w K34 n G8 x0 v9 (x3 + (nI 1))
def f_M_digest_L67 (w : Nat → Nat) (K111 : gH → Nat → Int64 → Int32 → gR) : Nat → gH → Nat → Int64 → Int32 → Int32 → gR
  | 0, _, _, _, _, _ => none
  | n + 1, G, x0, x1, x3, x4 =>
    gOb G x0 6 fun o28 => bI (f_M_length G x0 x3) fun v31 G30 => if v31 ≤ x4 then K111 G30 x0 x1 x3
    else gOb G30 x0 6 fun o33 => bA (f_M_at G30 x0 x3 x4) fun v36 G35 => gLd G35 v36 100 (nI 0) fun v37 => bL (f_M_add2 G35 x1 v37.toInt64) fun v40 G39 => gOb G39 x0 6 fun o42 => bA (f_M_at G39 x0 x3 x4) fun v45 G44 => gLd G44 v45 100 (nI 1) fun v46 => bL (f_M_add2 G44 v40 v46.toInt64) fun v49 G48 => f_M_digest_L67 w K111 n G48 x0 v49 x3 (x4 + (nI 1))
def f_M_digest_L194 (w : Nat → Nat) (K224 : gH → Nat → Int64 → Int32 → gR) : Nat → gH → Nat → Int64 → Int32 → Int32 → gR
  | 0, _, _, _, _, _ => none
  | n + 1, G, x0, x1, x3, x4 =>
    if (nI 4) ≤ x4 then K224 G x0 x1 x3
    else if x3 < (nI 2) then K224 G x0 x1 x3
      else gOb G x0 6 fun o117 => bI (f_M_partTold G x0 x3 x4) fun v120 G119 => bL (f_M_add2 G119 x1 v120.toInt64) fun v123 G122 => f_M_digest_L194 w K224 n G122 x0 v123 x3 (x4 + (nI 1))
def f_M_digest_L36 (w : Nat → Nat) (K230 : gH → Nat → Int64 → gR) : Nat → gH → Nat → Int64 → Int32 → gR
  | 0, _, _, _, _ => none
  | n + 1, G, x0, x1, x3 =>
    if (nI 6) ≤ x3 then K230 G x0 x1
    else gOb G x0 6 fun o15 => bI (f_M_sizeOf G x0 x3) fun v18 G17 => bL (f_M_add2 G17 x1 v18.toInt64) fun v21 G20 => gOb G20 x0 6 fun o23 => bI (f_M_isNoList G20 x0 x3) fun v26 G25 => if v26 = 0 then f_M_digest_L67 w (fun G54 x51 x52 x53 => gOb G54 x51 6 fun o56 => bI (f_M_hashOf G54 x51 x53) fun v59 G58 => bL (f_M_add2 G58 x52 v59.toInt64) fun v62 G61 => gOb G61 x51 6 fun o64 => bI (f_M_extremeOf G61 x51 x53 (nI 1)) fun v67 G66 => bL (f_M_add2 G66 v62 v67.toInt64) fun v70 G69 => gOb G69 x51 6 fun o72 => bI (f_M_extremeOf G69 x51 x53 (nI 0)) fun v75 G74 => bL (f_M_add2 G74 v70 v75.toInt64) fun v78 G77 => gOb G77 x51 6 fun o80 => bI (f_M_firstOf G77 x51 x53 (nI 7)) fun v83 G82 => bL (f_M_add2 G82 v78 v83.toInt64) fun v86 G85 => gOb G85 x51 6 fun o88 => bI (f_M_lastOf G85 x51 x53 (nI 7)) fun v91 G90 => bL (f_M_add2 G90 v86 v91.toInt64) fun v94 G93 => gOb G93 x51 6 fun o96 => bI (f_M_manyOf G93 x51 x53 (nI 7)) fun v99 G98 => bL (f_M_add2 G98 v94 v99.toInt64) fun v102 G101 => gOb G101 x51 6 fun o104 => bA (f_M_textOf w G101 x51 x53) fun v107 G106 => gOb G106 v107 8 fun o109 => bI (f_ST_length w G106 v107) fun v112 G111 => bL (f_M_add2 G111 v102 v112.toInt64) fun v115 G114 => f_M_digest_L194 w (fun G129 x126 x127 x128 => f_M_digest_L36 w K230 n G129 x126 x127 (x128 + (nI 1))) zFu G114 x51 v115 x53 (nI 0)) zFu G25 x0 v21 x3 (nI 0)
      else f_M_digest_L36 w K230 n G25 x0 v21 (x3 + (nI 1))
def f_M_digest_L241 (w : Nat → Nat) (K331 : gH → Nat → Int64 → Int32 → gR) : Nat → gH → Nat → Int64 → Int32 → Int32 → gR
  | 0, _, _, _, _, _ => none
  | n + 1, G, x0, x1, x3, x4 =>
    if (nI 6) ≤ x4 then K331 G x0 x1 x3
    else gOb G x0 6 fun o136 => bI (f_M_isNoList G x0 x3) fun v139 G138 => if v139 = 0 then (gOb G138 x0 6 fun o141 => bI (f_M_isNoList G138 x0 x4) fun v144 G143 => if v144 = 0 then gOb G143 x0 6 fun o146 => bI (f_M_same G143 x0 x3 x4) fun v149 G148 => bI (f_M_one G148 v149) fun v152 G151 => bL (f_M_add2 G151 x1 v152.toInt64) fun v155 G154 => gOb G154 x0 6 fun o157 => bI (f_M_hasEach G154 x0 x3 x4) fun v160 G159 => bI (f_M_one G159 v160) fun v163 G162 => bL (f_M_add2 G162 v155 v163.toInt64) fun v166 G165 => gOb G165 x0 6 fun o168 => bI (f_M_hasNoneOf G165 x0 x3 x4) fun v171 G170 => bI (f_M_one G170 v171) fun v174 G173 => bL (f_M_add2 G173 v166 v174.toInt64) fun v177 G176 => gOb G176 x0 6 fun o179 => bI (f_M_found G176 x0 x3 x4) fun v182 G181 => bL (f_M_add2 G181 v177 v182.toInt64) fun v185 G184 => f_M_digest_L241 w K331 n G184 x0 v185 x3 (x4 + (nI 1))
        else f_M_digest_L241 w K331 n G143 x0 x1 x3 (x4 + (nI 1)))
      else f_M_digest_L241 w K331 n G138 x0 x1 x3 (x4 + (nI 1))
def f_M_digest_L232 (w : Nat → Nat) (K337 : gH → Nat → Int64 → gR) : Nat → gH → Nat → Int64 → Int32 → gR
  | 0, _, _, _, _ => none
  | n + 1, G, x0, x1, x3 =>
    if (nI 6) ≤ x3 then K337 G x0 x1
    else f_M_digest_L241 w (fun G192 x189 x190 x191 => f_M_digest_L232 w K337 n G192 x189 x190 (x191 + (nI 1))) zFu G x0 x1 x3 (nI 0)
def f_M_digest_L347 (w : Nat → Nat) (K373 : gH → Nat → Int64 → Int32 → gR) : Nat → gH → Nat → Int64 → Int32 → Int32 → gR
  | 0, _, _, _, _, _ => none
  | n + 1, G, x0, x1, x3, x4 =>
    if (nI 7) ≤ x4 then K373 G x0 x1 x3
    else gOb G x0 6 fun o198 => bI (f_M_cursorTold G x0 x3 x4) fun v201 G200 => bL (f_M_add2 G200 x1 v201.toInt64) fun v204 G203 => f_M_digest_L347 w K373 n G203 x0 v204 x3 (x4 + (nI 1))
def f_M_digest_L339 (w : Nat → Nat) (K379 : gH → Nat → Int64 → gR) : Nat → gH → Nat → Int64 → Int32 → gR
  | 0, _, _, _, _ => none
  | n + 1, G, x0, x1, x3 =>
    if (nI 3) ≤ x3 then K379 G x0 x1
    else f_M_digest_L347 w (fun G209 x206 x207 x208 => f_M_digest_L339 w K379 n G209 x206 x207 (x208 + (nI 1))) zFu G x0 x1 x3 (nI 0)
def f_M_digest (w : Nat → Nat) (G : gH) (a0 : Nat) : gR :=
  gPut G a0 6 0 (.int (nI 0)) fun G1 => f_M_digest_L11 w (fun G13 x11 x12 => f_M_digest_L36 w (fun G134 x132 x133 => f_M_digest_L232 w (fun G196 x194 x195 => f_M_digest_L339 w (fun G213 x211 x212 => gOb G213 x211 6 fun o215 => bI (f_M_isWhole w G213 x211) fun v218 G217 => bI (f_M_one G217 v218) fun v221 G220 => bL (f_M_add2 G220 x212 v221.toInt64) fun v224 G223 => rL v224 G223) zFu G196 x194 x195 (nI 0)) zFu G134 x132 x133 (nI 0)) zFu G13 x11 x12 (nI 0)) zFu G1 a0 (lN 2203) (nI 0)
theorem k_M_digest_L11 {l : Launch} {D : va_G} {B : Nat} {O : State → Heap → Prop} {w : Nat → Nat} (hV : zGw l D B O w) {o : gO} {Gf : gH} (K34 : gH → Nat → Int64 → gR) (hK34 : ∀ (G : gH) (x0 : Nat) (x1 : Int64), K34 G x0 x1 = some (o, Gf) → Y (zVm l D B O) m_M_digest 15 o Gf 34 [some (.ref x0), some (.long x1), none, none, none] [] G) : ∀ (n : Nat) (G : gH) (x0 : Nat) (x1 : Int64) (x3 : Int32), f_M_digest_L11 w K34 n G x0 x1 x3 = some (o, Gf) → Y (zVm l D B O) m_M_digest 15 o Gf 11 [some (.ref x0), some (.long x1), none, some (.int x3), none] [] G := by
  intro n
  induction n with
  | zero => intro G x0 x1 x3 h; cases h
  | succ n ih =>
    intro G x0 x1 x3 h
    unfold f_M_digest_L11 at h
    refine Y.blk (pc' := 14) (L' := [some (.ref x0), some (.long x1), none, some (.int x3), none]) (st' := [.int (nI 8), .int x3]) (sg := [(.iload_n 3, 0), (.bipush 8, nI 8)]) (by decide +kernel) rfl ?_
    refine Y.ic_ge (off := 20) (tgt := 34) (by decide +kernel) (by decide) h (fun c10 h => ?_) (fun c10 h => ?_)
    · refine Y.less (L' := [some (.ref x0), some (.long x1), none, none, none]) (zLe_some (zLe_some (zLe_some (zLe_none (zLe_some (zLe_nil)))))) ?_
      exact hK34 G x0 x1 h
    · refine Y.blk (pc' := 20) (L' := [some (.ref x0), some (.long x1), none, some (.int x3), none]) (st' := [.int x3, .ref x0, .long x1]) (sg := [(.lload_n 1, 0), (.aload_n 0, 0), (.iload_n 3, 0)]) (by decide +kernel) rfl ?_
      obtain ⟨_, o3, e2, m4, h⟩ := gOb_inv h
      refine Y.callI (yC.Vi (b := x0) (As := [.int x3]) (st := [.long x1]) (r := ("PartlisterModel", T_M, 9)) hV.1.1 cb_M_houseTold lk_M_296 in_M_houseTold rfl se_M_houseTold (by decide +kernel) rfl rfl (Nat.le_of_ble_eq_true rfl) (by decide) e2 m4) (k_M_houseTold hV.1 G x0 x3) h (fun v6 G5 _ h => ?_)
      refine Y.blk (pc' := 24) (L' := [some (.ref x0), some (.long x1), none, some (.int x3), none]) (st' := [.long v6.toInt64, .long x1]) (sg := [(.i2l, 0)]) (by decide +kernel) rfl ?_
      refine Y.callL (yC.S (As := [.long x1, .long v6.toInt64]) (st := []) hV.1.1 cb_M_add2 lk_M_307 st_M_add2 (by decide +kernel) rfl rfl (Nat.le_of_ble_eq_true rfl) (by decide)) (k_M_add2 hV.1 G5 x1 v6.toInt64) h (fun v9 G8 _ h => ?_)
      refine Y.blk (pc' := 31) (L' := [some (.ref x0), some (.long v9), none, some (.int (x3 + (nI 1))), none]) (st' := []) (sg := [(.lstore_n 1, 0), (.iinc 3 1, nI 1)]) (by decide +kernel) rfl ?_
      refine Y.goto (off := -20) (tgt := 11) (by decide +kernel) (by decide) ?_
      exact ih G8 x0 v9 (x3 + (nI 1)) h
theorem k_M_digest_L67 {l : Launch} {D : va_G} {B : Nat} {O : State → Heap → Prop} {w : Nat → Nat} (hV : zGw l D B O w) {o : gO} {Gf : gH} (K111 : gH → Nat → Int64 → Int32 → gR) (hK111 : ∀ (G : gH) (x0 : Nat) (x1 : Int64) (x3 : Int32), K111 G x0 x1 x3 = some (o, Gf) → Y (zVm l D B O) m_M_digest 15 o Gf 111 [some (.ref x0), some (.long x1), none, some (.int x3), none] [] G) : ∀ (n : Nat) (G : gH) (x0 : Nat) (x1 : Int64) (x3 : Int32) (x4 : Int32), f_M_digest_L67 w K111 n G x0 x1 x3 x4 = some (o, Gf) → Y (zVm l D B O) m_M_digest 15 o Gf 67 [some (.ref x0), some (.long x1), none, some (.int x3), some (.int x4)] [] G := by
  intro n
  induction n with
  | zero => intro G x0 x1 x3 x4 h; cases h
  | succ n ih =>
    intro G x0 x1 x3 x4 h
    unfold f_M_digest_L67 at h
    refine Y.blk (pc' := 71) (L' := [some (.ref x0), some (.long x1), none, some (.int x3), some (.int x4)]) (st' := [.int x3, .ref x0, .int x4]) (sg := [(.iload 4, 0), (.aload_n 0, 0), (.iload_n 3, 0)]) (by decide +kernel) rfl ?_
    obtain ⟨_, o28, e27, m29, h⟩ := gOb_inv h
    refine Y.callI (yC.Vi (b := x0) (As := [.int x3]) (st := [.int x4]) (r := ("PartlisterModel", T_M, 9)) hV.1.1 cb_M_length lk_M_74 in_M_length rfl se_M_length (by decide +kernel) rfl rfl (Nat.le_of_ble_eq_true rfl) (by decide) e27 m29) (k_M_length hV.1 G x0 x3) h (fun v31 G30 _ h => ?_)
    refine Y.ic_ge (off := 37) (tgt := 111) (by decide +kernel) (by decide) h (fun c50 h => ?_) (fun c50 h => ?_)
    · refine Y.less (L' := [some (.ref x0), some (.long x1), none, some (.int x3), none]) (zLe_some (zLe_some (zLe_some (zLe_some (zLe_none (zLe_nil)))))) ?_
      exact hK111 G30 x0 x1 x3 h
    · refine Y.blk (pc' := 82) (L' := [some (.ref x0), some (.long x1), none, some (.int x3), some (.int x4)]) (st' := [.int x4, .int x3, .ref x0, .long x1]) (sg := [(.lload_n 1, 0), (.aload_n 0, 0), (.iload_n 3, 0), (.iload 4, 0)]) (by decide +kernel) rfl ?_
      obtain ⟨_, o33, e32, m34, h⟩ := gOb_inv h
      refine Y.callA (yC.Vi (b := x0) (As := [.int x3, .int x4]) (st := [.long x1]) (r := ("PartlisterModel", T_M, 9)) hV.1.1 cb_M_at lk_M_132 in_M_at rfl se_M_at (by decide +kernel) rfl rfl (Nat.le_of_ble_eq_true rfl) (by decide) e32 m34) (k_M_at hV.1 G30 x0 x3 x4) h (fun v36 G35 _ h => ?_)
      refine Y.blk (pc' := 86) (L' := [some (.ref x0), some (.long x1), none, some (.int x3), some (.int x4)]) (st' := [.int (nI 0), .ref v36, .long x1]) (sg := [(.iconst 0, nI 0)]) (by decide +kernel) rfl ?_
      refine Y.iald (t0 := 0) (by decide +kernel) rfl h (fun v37 h => ?_)
      refine Y.blk (pc' := 88) (L' := [some (.ref x0), some (.long x1), none, some (.int x3), some (.int x4)]) (st' := [.long v37.toInt64, .long x1]) (sg := [(.i2l, 0)]) (by decide +kernel) rfl ?_
      refine Y.callL (yC.S (As := [.long x1, .long v37.toInt64]) (st := []) hV.1.1 cb_M_add2 lk_M_307 st_M_add2 (by decide +kernel) rfl rfl (Nat.le_of_ble_eq_true rfl) (by decide)) (k_M_add2 hV.1 G35 x1 v37.toInt64) h (fun v40 G39 _ h => ?_)
      refine Y.blk (pc' := 95) (L' := [some (.ref x0), some (.long x1), none, some (.int x3), some (.int x4)]) (st' := [.int x4, .int x3, .ref x0, .long v40]) (sg := [(.aload_n 0, 0), (.iload_n 3, 0), (.iload 4, 0)]) (by decide +kernel) rfl ?_
      obtain ⟨_, o42, e41, m43, h⟩ := gOb_inv h
      refine Y.callA (yC.Vi (b := x0) (As := [.int x3, .int x4]) (st := [.long v40]) (r := ("PartlisterModel", T_M, 9)) hV.1.1 cb_M_at lk_M_132 in_M_at rfl se_M_at (by decide +kernel) rfl rfl (Nat.le_of_ble_eq_true rfl) (by decide) e41 m43) (k_M_at hV.1 G39 x0 x3 x4) h (fun v45 G44 _ h => ?_)
      refine Y.blk (pc' := 99) (L' := [some (.ref x0), some (.long x1), none, some (.int x3), some (.int x4)]) (st' := [.int (nI 1), .ref v45, .long v40]) (sg := [(.iconst 1, nI 1)]) (by decide +kernel) rfl ?_
      refine Y.iald (t0 := 0) (by decide +kernel) rfl h (fun v46 h => ?_)
      refine Y.blk (pc' := 101) (L' := [some (.ref x0), some (.long x1), none, some (.int x3), some (.int x4)]) (st' := [.long v46.toInt64, .long v40]) (sg := [(.i2l, 0)]) (by decide +kernel) rfl ?_
      refine Y.callL (yC.S (As := [.long v40, .long v46.toInt64]) (st := []) hV.1.1 cb_M_add2 lk_M_307 st_M_add2 (by decide +kernel) rfl rfl (Nat.le_of_ble_eq_true rfl) (by decide)) (k_M_add2 hV.1 G44 v40 v46.toInt64) h (fun v49 G48 _ h => ?_)
      refine Y.blk (pc' := 108) (L' := [some (.ref x0), some (.long v49), none, some (.int x3), some (.int (x4 + (nI 1)))]) (st' := []) (sg := [(.lstore_n 1, 0), (.iinc 4 1, nI 1)]) (by decide +kernel) rfl ?_
      refine Y.goto (off := -41) (tgt := 67) (by decide +kernel) (by decide) ?_
      exact ih G48 x0 v49 x3 (x4 + (nI 1)) h
theorem k_M_digest_L194 {l : Launch} {D : va_G} {B : Nat} {O : State → Heap → Prop} {w : Nat → Nat} (hV : zGw l D B O w) {o : gO} {Gf : gH} (K224 : gH → Nat → Int64 → Int32 → gR) (hK224 : ∀ (G : gH) (x0 : Nat) (x1 : Int64) (x3 : Int32), K224 G x0 x1 x3 = some (o, Gf) → Y (zVm l D B O) m_M_digest 15 o Gf 224 [some (.ref x0), some (.long x1), none, some (.int x3), none] [] G) : ∀ (n : Nat) (G : gH) (x0 : Nat) (x1 : Int64) (x3 : Int32) (x4 : Int32), f_M_digest_L194 w K224 n G x0 x1 x3 x4 = some (o, Gf) → Y (zVm l D B O) m_M_digest 15 o Gf 194 [some (.ref x0), some (.long x1), none, some (.int x3), some (.int x4)] [] G := by
  intro n
  induction n with
  | zero => intro G x0 x1 x3 x4 h; cases h
  | succ n ih =>
    intro G x0 x1 x3 x4 h
    unfold f_M_digest_L194 at h
    refine Y.blk (pc' := 197) (L' := [some (.ref x0), some (.long x1), none, some (.int x3), some (.int x4)]) (st' := [.int (nI 4), .int x4]) (sg := [(.iload 4, 0), (.iconst 4, nI 4)]) (by decide +kernel) rfl ?_
    refine Y.ic_ge (off := 27) (tgt := 224) (by decide +kernel) (by decide) h (fun c125 h => ?_) (fun c125 h => ?_)
    · refine Y.less (L' := [some (.ref x0), some (.long x1), none, some (.int x3), none]) (zLe_some (zLe_some (zLe_some (zLe_some (zLe_none (zLe_nil)))))) ?_
      exact hK224 G x0 x1 x3 h
    · refine Y.blk (pc' := 202) (L' := [some (.ref x0), some (.long x1), none, some (.int x3), some (.int x4)]) (st' := [.int (nI 2), .int x3]) (sg := [(.iload_n 3, 0), (.iconst 2, nI 2)]) (by decide +kernel) rfl ?_
      refine Y.ic_lt (off := 22) (tgt := 224) (by decide +kernel) (by decide) h (fun c124 h => ?_) (fun c124 h => ?_)
      · refine Y.less (L' := [some (.ref x0), some (.long x1), none, some (.int x3), none]) (zLe_some (zLe_some (zLe_some (zLe_some (zLe_none (zLe_nil)))))) ?_
        exact hK224 G x0 x1 x3 h
      · refine Y.blk (pc' := 210) (L' := [some (.ref x0), some (.long x1), none, some (.int x3), some (.int x4)]) (st' := [.int x4, .int x3, .ref x0, .long x1]) (sg := [(.lload_n 1, 0), (.aload_n 0, 0), (.iload_n 3, 0), (.iload 4, 0)]) (by decide +kernel) rfl ?_
        obtain ⟨_, o117, e116, m118, h⟩ := gOb_inv h
        refine Y.callI (yC.Vi (b := x0) (As := [.int x3, .int x4]) (st := [.long x1]) (r := ("PartlisterModel", T_M, 9)) hV.1.1 cb_M_partTold lk_M_287 in_M_partTold rfl se_M_partTold (by decide +kernel) rfl rfl (Nat.le_of_ble_eq_true rfl) (by decide) e116 m118) (k_M_partTold hV.1 G x0 x3 x4) h (fun v120 G119 _ h => ?_)
        refine Y.blk (pc' := 214) (L' := [some (.ref x0), some (.long x1), none, some (.int x3), some (.int x4)]) (st' := [.long v120.toInt64, .long x1]) (sg := [(.i2l, 0)]) (by decide +kernel) rfl ?_
        refine Y.callL (yC.S (As := [.long x1, .long v120.toInt64]) (st := []) hV.1.1 cb_M_add2 lk_M_307 st_M_add2 (by decide +kernel) rfl rfl (Nat.le_of_ble_eq_true rfl) (by decide)) (k_M_add2 hV.1 G119 x1 v120.toInt64) h (fun v123 G122 _ h => ?_)
        refine Y.blk (pc' := 221) (L' := [some (.ref x0), some (.long v123), none, some (.int x3), some (.int (x4 + (nI 1)))]) (st' := []) (sg := [(.lstore_n 1, 0), (.iinc 4 1, nI 1)]) (by decide +kernel) rfl ?_
        refine Y.goto (off := -27) (tgt := 194) (by decide +kernel) (by decide) ?_
        exact ih G122 x0 v123 x3 (x4 + (nI 1)) h
theorem k_M_digest_L36 {l : Launch} {D : va_G} {B : Nat} {O : State → Heap → Prop} {w : Nat → Nat} (hV : zGw l D B O w) {o : gO} {Gf : gH} (K230 : gH → Nat → Int64 → gR) (hK230 : ∀ (G : gH) (x0 : Nat) (x1 : Int64), K230 G x0 x1 = some (o, Gf) → Y (zVm l D B O) m_M_digest 15 o Gf 230 [some (.ref x0), some (.long x1), none, none, none] [] G) : ∀ (n : Nat) (G : gH) (x0 : Nat) (x1 : Int64) (x3 : Int32), f_M_digest_L36 w K230 n G x0 x1 x3 = some (o, Gf) → Y (zVm l D B O) m_M_digest 15 o Gf 36 [some (.ref x0), some (.long x1), none, some (.int x3), none] [] G := by
  intro n
  induction n with
  | zero => intro G x0 x1 x3 h; cases h
  | succ n ih =>
    intro G x0 x1 x3 h
    unfold f_M_digest_L36 at h
    refine Y.blk (pc' := 39) (L' := [some (.ref x0), some (.long x1), none, some (.int x3), none]) (st' := [.int (nI 6), .int x3]) (sg := [(.iload_n 3, 0), (.bipush 6, nI 6)]) (by decide +kernel) rfl ?_
    refine Y.ic_ge (off := 191) (tgt := 230) (by decide +kernel) (by decide) h (fun c131 h => ?_) (fun c131 h => ?_)
    · refine Y.less (L' := [some (.ref x0), some (.long x1), none, none, none]) (zLe_some (zLe_some (zLe_some (zLe_none (zLe_some (zLe_nil)))))) ?_
      exact hK230 G x0 x1 h
    · refine Y.blk (pc' := 45) (L' := [some (.ref x0), some (.long x1), none, some (.int x3), none]) (st' := [.int x3, .ref x0, .long x1]) (sg := [(.lload_n 1, 0), (.aload_n 0, 0), (.iload_n 3, 0)]) (by decide +kernel) rfl ?_
      obtain ⟨_, o15, e14, m16, h⟩ := gOb_inv h
      refine Y.callI (yC.Vi (b := x0) (As := [.int x3]) (st := [.long x1]) (r := ("PartlisterModel", T_M, 9)) hV.1.1 cb_M_sizeOf lk_M_223 in_M_sizeOf rfl se_M_sizeOf (by decide +kernel) rfl rfl (Nat.le_of_ble_eq_true rfl) (by decide) e14 m16) (k_M_sizeOf hV.1 G x0 x3) h (fun v18 G17 _ h => ?_)
      refine Y.blk (pc' := 49) (L' := [some (.ref x0), some (.long x1), none, some (.int x3), none]) (st' := [.long v18.toInt64, .long x1]) (sg := [(.i2l, 0)]) (by decide +kernel) rfl ?_
      refine Y.callL (yC.S (As := [.long x1, .long v18.toInt64]) (st := []) hV.1.1 cb_M_add2 lk_M_307 st_M_add2 (by decide +kernel) rfl rfl (Nat.le_of_ble_eq_true rfl) (by decide)) (k_M_add2 hV.1 G17 x1 v18.toInt64) h (fun v21 G20 _ h => ?_)
      refine Y.blk (pc' := 55) (L' := [some (.ref x0), some (.long v21), none, some (.int x3), none]) (st' := [.int x3, .ref x0]) (sg := [(.lstore_n 1, 0), (.aload_n 0, 0), (.iload_n 3, 0)]) (by decide +kernel) rfl ?_
      obtain ⟨_, o23, e22, m24, h⟩ := gOb_inv h
      refine Y.callI (yC.Vi (b := x0) (As := [.int x3]) (st := []) (r := ("PartlisterModel", T_M, 9)) hV.1.1 cb_M_isNoList lk_M_110 in_M_isNoList rfl se_M_isNoList (by decide +kernel) rfl rfl (Nat.le_of_ble_eq_true rfl) (by decide) e22 m24) (k_M_isNoList hV.1 G20 x0 x3) h (fun v26 G25 _ h => ?_)
      refine Y.if_eq (off := 6) (tgt := 64) (by decide +kernel) (by decide) h (fun c130 h => ?_) (fun c130 h => ?_)
      · refine Y.blk (pc' := 67) (L' := [some (.ref x0), some (.long v21), none, some (.int x3), some (.int (nI 0))]) (st' := []) (sg := [(.iconst 0, nI 0), (.istore 4, 0)]) (by decide +kernel) rfl ?_
        refine k_M_digest_L67 hV _ ?_  zFu G25 x0 v21 x3 (nI 0) h
        · intro G54 x51 x52 x53 h
          refine Y.blk (pc' := 114) (L' := [some (.ref x51), some (.long x52), none, some (.int x53), none]) (st' := [.int x53, .ref x51, .long x52]) (sg := [(.lload_n 1, 0), (.aload_n 0, 0), (.iload_n 3, 0)]) (by decide +kernel) rfl ?_
          obtain ⟨_, o56, e55, m57, h⟩ := gOb_inv h
          refine Y.callI (yC.Vi (b := x51) (As := [.int x53]) (st := [.long x52]) (r := ("PartlisterModel", T_M, 9)) hV.1.1 cb_M_hashOf lk_M_257 in_M_hashOf rfl se_M_hashOf (by decide +kernel) rfl rfl (Nat.le_of_ble_eq_true rfl) (by decide) e55 m57) (k_M_hashOf hV.1 G54 x51 x53) h (fun v59 G58 _ h => ?_)
          refine Y.blk (pc' := 118) (L' := [some (.ref x51), some (.long x52), none, some (.int x53), none]) (st' := [.long v59.toInt64, .long x52]) (sg := [(.i2l, 0)]) (by decide +kernel) rfl ?_
          refine Y.callL (yC.S (As := [.long x52, .long v59.toInt64]) (st := []) hV.1.1 cb_M_add2 lk_M_307 st_M_add2 (by decide +kernel) rfl rfl (Nat.le_of_ble_eq_true rfl) (by decide)) (k_M_add2 hV.1 G58 x52 v59.toInt64) h (fun v62 G61 _ h => ?_)
          refine Y.blk (pc' := 124) (L' := [some (.ref x51), some (.long x52), none, some (.int x53), none]) (st' := [.int (nI 1), .int x53, .ref x51, .long v62]) (sg := [(.aload_n 0, 0), (.iload_n 3, 0), (.iconst 1, nI 1)]) (by decide +kernel) rfl ?_
          obtain ⟨_, o64, e63, m65, h⟩ := gOb_inv h
          refine Y.callI (yC.Vi (b := x51) (As := [.int x53, .int (nI 1)]) (st := [.long v62]) (r := ("PartlisterModel", T_M, 9)) hV.1.1 cb_M_extremeOf lk_M_253 in_M_extremeOf rfl se_M_extremeOf (by decide +kernel) rfl rfl (Nat.le_of_ble_eq_true rfl) (by decide) e63 m65) (k_M_extremeOf hV.1 G61 x51 x53 (nI 1)) h (fun v67 G66 _ h => ?_)
          refine Y.blk (pc' := 128) (L' := [some (.ref x51), some (.long x52), none, some (.int x53), none]) (st' := [.long v67.toInt64, .long v62]) (sg := [(.i2l, 0)]) (by decide +kernel) rfl ?_
          refine Y.callL (yC.S (As := [.long v62, .long v67.toInt64]) (st := []) hV.1.1 cb_M_add2 lk_M_307 st_M_add2 (by decide +kernel) rfl rfl (Nat.le_of_ble_eq_true rfl) (by decide)) (k_M_add2 hV.1 G66 v62 v67.toInt64) h (fun v70 G69 _ h => ?_)
          refine Y.blk (pc' := 134) (L' := [some (.ref x51), some (.long x52), none, some (.int x53), none]) (st' := [.int (nI 0), .int x53, .ref x51, .long v70]) (sg := [(.aload_n 0, 0), (.iload_n 3, 0), (.iconst 0, nI 0)]) (by decide +kernel) rfl ?_
          obtain ⟨_, o72, e71, m73, h⟩ := gOb_inv h
          refine Y.callI (yC.Vi (b := x51) (As := [.int x53, .int (nI 0)]) (st := [.long v70]) (r := ("PartlisterModel", T_M, 9)) hV.1.1 cb_M_extremeOf lk_M_253 in_M_extremeOf rfl se_M_extremeOf (by decide +kernel) rfl rfl (Nat.le_of_ble_eq_true rfl) (by decide) e71 m73) (k_M_extremeOf hV.1 G69 x51 x53 (nI 0)) h (fun v75 G74 _ h => ?_)
          refine Y.blk (pc' := 138) (L' := [some (.ref x51), some (.long x52), none, some (.int x53), none]) (st' := [.long v75.toInt64, .long v70]) (sg := [(.i2l, 0)]) (by decide +kernel) rfl ?_
          refine Y.callL (yC.S (As := [.long v70, .long v75.toInt64]) (st := []) hV.1.1 cb_M_add2 lk_M_307 st_M_add2 (by decide +kernel) rfl rfl (Nat.le_of_ble_eq_true rfl) (by decide)) (k_M_add2 hV.1 G74 v70 v75.toInt64) h (fun v78 G77 _ h => ?_)
          refine Y.blk (pc' := 147) (L' := [some (.ref x51), some (.long v78), none, some (.int x53), none]) (st' := [.int (nI 7), .int x53, .ref x51, .long v78]) (sg := [(.lstore_n 1, 0), (.lload_n 1, 0), (.aload_n 0, 0), (.iload_n 3, 0), (.bipush 7, nI 7)]) (by decide +kernel) rfl ?_
          obtain ⟨_, o80, e79, m81, h⟩ := gOb_inv h
          refine Y.callI (yC.Vi (b := x51) (As := [.int x53, .int (nI 7)]) (st := [.long v78]) (r := ("PartlisterModel", T_M, 9)) hV.1.1 cb_M_firstOf lk_M_163 in_M_firstOf rfl se_M_firstOf (by decide +kernel) rfl rfl (Nat.le_of_ble_eq_true rfl) (by decide) e79 m81) (k_M_firstOf hV.1 G77 x51 x53 (nI 7)) h (fun v83 G82 _ h => ?_)
          refine Y.blk (pc' := 151) (L' := [some (.ref x51), some (.long v78), none, some (.int x53), none]) (st' := [.long v83.toInt64, .long v78]) (sg := [(.i2l, 0)]) (by decide +kernel) rfl ?_
          refine Y.callL (yC.S (As := [.long v78, .long v83.toInt64]) (st := []) hV.1.1 cb_M_add2 lk_M_307 st_M_add2 (by decide +kernel) rfl rfl (Nat.le_of_ble_eq_true rfl) (by decide)) (k_M_add2 hV.1 G82 v78 v83.toInt64) h (fun v86 G85 _ h => ?_)
          refine Y.blk (pc' := 158) (L' := [some (.ref x51), some (.long v78), none, some (.int x53), none]) (st' := [.int (nI 7), .int x53, .ref x51, .long v86]) (sg := [(.aload_n 0, 0), (.iload_n 3, 0), (.bipush 7, nI 7)]) (by decide +kernel) rfl ?_
          obtain ⟨_, o88, e87, m89, h⟩ := gOb_inv h
          refine Y.callI (yC.Vi (b := x51) (As := [.int x53, .int (nI 7)]) (st := [.long v86]) (r := ("PartlisterModel", T_M, 9)) hV.1.1 cb_M_lastOf lk_M_226 in_M_lastOf rfl se_M_lastOf (by decide +kernel) rfl rfl (Nat.le_of_ble_eq_true rfl) (by decide) e87 m89) (k_M_lastOf hV.1 G85 x51 x53 (nI 7)) h (fun v91 G90 _ h => ?_)
          refine Y.blk (pc' := 162) (L' := [some (.ref x51), some (.long v78), none, some (.int x53), none]) (st' := [.long v91.toInt64, .long v86]) (sg := [(.i2l, 0)]) (by decide +kernel) rfl ?_
          refine Y.callL (yC.S (As := [.long v86, .long v91.toInt64]) (st := []) hV.1.1 cb_M_add2 lk_M_307 st_M_add2 (by decide +kernel) rfl rfl (Nat.le_of_ble_eq_true rfl) (by decide)) (k_M_add2 hV.1 G90 v86 v91.toInt64) h (fun v94 G93 _ h => ?_)
          refine Y.blk (pc' := 169) (L' := [some (.ref x51), some (.long v78), none, some (.int x53), none]) (st' := [.int (nI 7), .int x53, .ref x51, .long v94]) (sg := [(.aload_n 0, 0), (.iload_n 3, 0), (.bipush 7, nI 7)]) (by decide +kernel) rfl ?_
          obtain ⟨_, o96, e95, m97, h⟩ := gOb_inv h
          refine Y.callI (yC.Vi (b := x51) (As := [.int x53, .int (nI 7)]) (st := [.long v94]) (r := ("PartlisterModel", T_M, 9)) hV.1.1 cb_M_manyOf lk_M_229 in_M_manyOf rfl se_M_manyOf (by decide +kernel) rfl rfl (Nat.le_of_ble_eq_true rfl) (by decide) e95 m97) (k_M_manyOf hV.1 G93 x51 x53 (nI 7)) h (fun v99 G98 _ h => ?_)
          refine Y.blk (pc' := 173) (L' := [some (.ref x51), some (.long v78), none, some (.int x53), none]) (st' := [.long v99.toInt64, .long v94]) (sg := [(.i2l, 0)]) (by decide +kernel) rfl ?_
          refine Y.callL (yC.S (As := [.long v94, .long v99.toInt64]) (st := []) hV.1.1 cb_M_add2 lk_M_307 st_M_add2 (by decide +kernel) rfl rfl (Nat.le_of_ble_eq_true rfl) (by decide)) (k_M_add2 hV.1 G98 v94 v99.toInt64) h (fun v102 G101 _ h => ?_)
          refine Y.blk (pc' := 180) (L' := [some (.ref x51), some (.long v102), none, some (.int x53), none]) (st' := [.int x53, .ref x51, .long v102]) (sg := [(.lstore_n 1, 0), (.lload_n 1, 0), (.aload_n 0, 0), (.iload_n 3, 0)]) (by decide +kernel) rfl ?_
          obtain ⟨_, o104, e103, m105, h⟩ := gOb_inv h
          refine Y.callA (yC.Vi (b := x51) (As := [.int x53]) (st := [.long v102]) (r := ("PartlisterModel", T_M, 9)) hV.1.1 cb_M_textOf lk_M_283 in_M_textOf rfl se_M_textOf (by decide +kernel) rfl rfl (Nat.le_of_ble_eq_true rfl) (by decide) e103 m105) (k_M_textOf hV G101 x51 x53) h (fun v107 G106 _ h => ?_)
          obtain ⟨_, o109, e108, m110, h⟩ := gOb_inv h
          refine Y.callI (yC.Vi (b := v107) (As := []) (st := [.long v102]) (r := ("java/lang/String", T_ST, 4)) hV.1.1 cb_ST_length lk_M_310 in_ST_length rfl se_ST_length (by decide +kernel) rfl rfl (Nat.le_of_ble_eq_true rfl) (by decide) e108 m110) (k_ST_length hV G106 v107) h (fun v112 G111 _ h => ?_)
          refine Y.blk (pc' := 187) (L' := [some (.ref x51), some (.long v102), none, some (.int x53), none]) (st' := [.long v112.toInt64, .long v102]) (sg := [(.i2l, 0)]) (by decide +kernel) rfl ?_
          refine Y.callL (yC.S (As := [.long v102, .long v112.toInt64]) (st := []) hV.1.1 cb_M_add2 lk_M_307 st_M_add2 (by decide +kernel) rfl rfl (Nat.le_of_ble_eq_true rfl) (by decide)) (k_M_add2 hV.1 G111 v102 v112.toInt64) h (fun v115 G114 _ h => ?_)
          refine Y.blk (pc' := 194) (L' := [some (.ref x51), some (.long v115), none, some (.int x53), some (.int (nI 0))]) (st' := []) (sg := [(.lstore_n 1, 0), (.iconst 0, nI 0), (.istore 4, 0)]) (by decide +kernel) rfl ?_
          refine k_M_digest_L194 hV _ ?_  zFu G114 x51 v115 x53 (nI 0) h
          · intro G129 x126 x127 x128 h
            refine Y.blk (pc' := 227) (L' := [some (.ref x126), some (.long x127), none, some (.int (x128 + (nI 1))), none]) (st' := []) (sg := [(.iinc 3 1, nI 1)]) (by decide +kernel) rfl ?_
            refine Y.goto (off := -191) (tgt := 36) (by decide +kernel) (by decide) ?_
            exact ih G129 x126 x127 (x128 + (nI 1)) h
      · refine Y.goto (off := 163) (tgt := 224) (by decide +kernel) (by decide) ?_
        refine Y.blk (pc' := 227) (L' := [some (.ref x0), some (.long v21), none, some (.int (x3 + (nI 1))), none]) (st' := []) (sg := [(.iinc 3 1, nI 1)]) (by decide +kernel) rfl ?_
        refine Y.goto (off := -191) (tgt := 36) (by decide +kernel) (by decide) ?_
        exact ih G25 x0 v21 (x3 + (nI 1)) h
theorem k_M_digest_L241 {l : Launch} {D : va_G} {B : Nat} {O : State → Heap → Prop} {w : Nat → Nat} (hV : zGw l D B O w) {o : gO} {Gf : gH} (K331 : gH → Nat → Int64 → Int32 → gR) (hK331 : ∀ (G : gH) (x0 : Nat) (x1 : Int64) (x3 : Int32), K331 G x0 x1 x3 = some (o, Gf) → Y (zVm l D B O) m_M_digest 15 o Gf 331 [some (.ref x0), some (.long x1), none, some (.int x3), none] [] G) : ∀ (n : Nat) (G : gH) (x0 : Nat) (x1 : Int64) (x3 : Int32) (x4 : Int32), f_M_digest_L241 w K331 n G x0 x1 x3 x4 = some (o, Gf) → Y (zVm l D B O) m_M_digest 15 o Gf 241 [some (.ref x0), some (.long x1), none, some (.int x3), some (.int x4)] [] G := by
  intro n
  induction n with
  | zero => intro G x0 x1 x3 x4 h; cases h
  | succ n ih =>
    intro G x0 x1 x3 x4 h
    unfold f_M_digest_L241 at h
    refine Y.blk (pc' := 245) (L' := [some (.ref x0), some (.long x1), none, some (.int x3), some (.int x4)]) (st' := [.int (nI 6), .int x4]) (sg := [(.iload 4, 0), (.bipush 6, nI 6)]) (by decide +kernel) rfl ?_
    refine Y.ic_ge (off := 86) (tgt := 331) (by decide +kernel) (by decide) h (fun c188 h => ?_) (fun c188 h => ?_)
    · refine Y.less (L' := [some (.ref x0), some (.long x1), none, some (.int x3), none]) (zLe_some (zLe_some (zLe_some (zLe_some (zLe_none (zLe_nil)))))) ?_
      exact hK331 G x0 x1 x3 h
    · refine Y.blk (pc' := 250) (L' := [some (.ref x0), some (.long x1), none, some (.int x3), some (.int x4)]) (st' := [.int x3, .ref x0]) (sg := [(.aload_n 0, 0), (.iload_n 3, 0)]) (by decide +kernel) rfl ?_
      obtain ⟨_, o136, e135, m137, h⟩ := gOb_inv h
      refine Y.callI (yC.Vi (b := x0) (As := [.int x3]) (st := []) (r := ("PartlisterModel", T_M, 9)) hV.1.1 cb_M_isNoList lk_M_110 in_M_isNoList rfl se_M_isNoList (by decide +kernel) rfl rfl (Nat.le_of_ble_eq_true rfl) (by decide) e135 m137) (k_M_isNoList hV.1 G x0 x3) h (fun v139 G138 _ h => ?_)
      refine Y.if_ne (off := 72) (tgt := 325) (by decide +kernel) (by decide) h (fun c187 h => ?_) (fun c187 h => ?_)
      · refine Y.blk (pc' := 259) (L' := [some (.ref x0), some (.long x1), none, some (.int x3), some (.int x4)]) (st' := [.int x4, .ref x0]) (sg := [(.aload_n 0, 0), (.iload 4, 0)]) (by decide +kernel) rfl ?_
        obtain ⟨_, o141, e140, m142, h⟩ := gOb_inv h
        refine Y.callI (yC.Vi (b := x0) (As := [.int x4]) (st := []) (r := ("PartlisterModel", T_M, 9)) hV.1.1 cb_M_isNoList lk_M_110 in_M_isNoList rfl se_M_isNoList (by decide +kernel) rfl rfl (Nat.le_of_ble_eq_true rfl) (by decide) e140 m142) (k_M_isNoList hV.1 G138 x0 x4) h (fun v144 G143 _ h => ?_)
        refine Y.if_eq (off := 6) (tgt := 268) (by decide +kernel) (by decide) h (fun c186 h => ?_) (fun c186 h => ?_)
        · refine Y.blk (pc' := 273) (L' := [some (.ref x0), some (.long x1), none, some (.int x3), some (.int x4)]) (st' := [.int x4, .int x3, .ref x0, .long x1]) (sg := [(.lload_n 1, 0), (.aload_n 0, 0), (.iload_n 3, 0), (.iload 4, 0)]) (by decide +kernel) rfl ?_
          obtain ⟨_, o146, e145, m147, h⟩ := gOb_inv h
          refine Y.callI (yC.Vi (b := x0) (As := [.int x3, .int x4]) (st := [.long x1]) (r := ("PartlisterModel", T_M, 9)) hV.1.1 cb_M_same lk_M_244 in_M_same rfl se_M_same (by decide +kernel) rfl rfl (Nat.le_of_ble_eq_true rfl) (by decide) e145 m147) (k_M_same hV.1 G143 x0 x3 x4) h (fun v149 G148 _ h => ?_)
          refine Y.callI (yC.S (As := [.int v149]) (st := [.long x1]) hV.1.1 cb_M_one lk_M_188 st_M_one (by decide +kernel) rfl rfl (Nat.le_of_ble_eq_true rfl) (by decide)) (k_M_one hV.1 G148 v149) h (fun v152 G151 _ h => ?_)
          refine Y.blk (pc' := 280) (L' := [some (.ref x0), some (.long x1), none, some (.int x3), some (.int x4)]) (st' := [.long v152.toInt64, .long x1]) (sg := [(.i2l, 0)]) (by decide +kernel) rfl ?_
          refine Y.callL (yC.S (As := [.long x1, .long v152.toInt64]) (st := []) hV.1.1 cb_M_add2 lk_M_307 st_M_add2 (by decide +kernel) rfl rfl (Nat.le_of_ble_eq_true rfl) (by decide)) (k_M_add2 hV.1 G151 x1 v152.toInt64) h (fun v155 G154 _ h => ?_)
          refine Y.blk (pc' := 287) (L' := [some (.ref x0), some (.long x1), none, some (.int x3), some (.int x4)]) (st' := [.int x4, .int x3, .ref x0, .long v155]) (sg := [(.aload_n 0, 0), (.iload_n 3, 0), (.iload 4, 0)]) (by decide +kernel) rfl ?_
          obtain ⟨_, o157, e156, m158, h⟩ := gOb_inv h
          refine Y.callI (yC.Vi (b := x0) (As := [.int x3, .int x4]) (st := [.long v155]) (r := ("PartlisterModel", T_M, 9)) hV.1.1 cb_M_hasEach lk_M_238 in_M_hasEach rfl se_M_hasEach (by decide +kernel) rfl rfl (Nat.le_of_ble_eq_true rfl) (by decide) e156 m158) (k_M_hasEach hV.1 G154 x0 x3 x4) h (fun v160 G159 _ h => ?_)
          refine Y.callI (yC.S (As := [.int v160]) (st := [.long v155]) hV.1.1 cb_M_one lk_M_188 st_M_one (by decide +kernel) rfl rfl (Nat.le_of_ble_eq_true rfl) (by decide)) (k_M_one hV.1 G159 v160) h (fun v163 G162 _ h => ?_)
          refine Y.blk (pc' := 294) (L' := [some (.ref x0), some (.long x1), none, some (.int x3), some (.int x4)]) (st' := [.long v163.toInt64, .long v155]) (sg := [(.i2l, 0)]) (by decide +kernel) rfl ?_
          refine Y.callL (yC.S (As := [.long v155, .long v163.toInt64]) (st := []) hV.1.1 cb_M_add2 lk_M_307 st_M_add2 (by decide +kernel) rfl rfl (Nat.le_of_ble_eq_true rfl) (by decide)) (k_M_add2 hV.1 G162 v155 v163.toInt64) h (fun v166 G165 _ h => ?_)
          refine Y.blk (pc' := 301) (L' := [some (.ref x0), some (.long x1), none, some (.int x3), some (.int x4)]) (st' := [.int x4, .int x3, .ref x0, .long v166]) (sg := [(.aload_n 0, 0), (.iload_n 3, 0), (.iload 4, 0)]) (by decide +kernel) rfl ?_
          obtain ⟨_, o168, e167, m169, h⟩ := gOb_inv h
          refine Y.callI (yC.Vi (b := x0) (As := [.int x3, .int x4]) (st := [.long v166]) (r := ("PartlisterModel", T_M, 9)) hV.1.1 cb_M_hasNoneOf lk_M_241 in_M_hasNoneOf rfl se_M_hasNoneOf (by decide +kernel) rfl rfl (Nat.le_of_ble_eq_true rfl) (by decide) e167 m169) (k_M_hasNoneOf hV.1 G165 x0 x3 x4) h (fun v171 G170 _ h => ?_)
          refine Y.callI (yC.S (As := [.int v171]) (st := [.long v166]) hV.1.1 cb_M_one lk_M_188 st_M_one (by decide +kernel) rfl rfl (Nat.le_of_ble_eq_true rfl) (by decide)) (k_M_one hV.1 G170 v171) h (fun v174 G173 _ h => ?_)
          refine Y.blk (pc' := 308) (L' := [some (.ref x0), some (.long x1), none, some (.int x3), some (.int x4)]) (st' := [.long v174.toInt64, .long v166]) (sg := [(.i2l, 0)]) (by decide +kernel) rfl ?_
          refine Y.callL (yC.S (As := [.long v166, .long v174.toInt64]) (st := []) hV.1.1 cb_M_add2 lk_M_307 st_M_add2 (by decide +kernel) rfl rfl (Nat.le_of_ble_eq_true rfl) (by decide)) (k_M_add2 hV.1 G173 v166 v174.toInt64) h (fun v177 G176 _ h => ?_)
          refine Y.blk (pc' := 317) (L' := [some (.ref x0), some (.long v177), none, some (.int x3), some (.int x4)]) (st' := [.int x4, .int x3, .ref x0, .long v177]) (sg := [(.lstore_n 1, 0), (.lload_n 1, 0), (.aload_n 0, 0), (.iload_n 3, 0), (.iload 4, 0)]) (by decide +kernel) rfl ?_
          obtain ⟨_, o179, e178, m180, h⟩ := gOb_inv h
          refine Y.callI (yC.Vi (b := x0) (As := [.int x3, .int x4]) (st := [.long v177]) (r := ("PartlisterModel", T_M, 9)) hV.1.1 cb_M_found lk_M_247 in_M_found rfl se_M_found (by decide +kernel) rfl rfl (Nat.le_of_ble_eq_true rfl) (by decide) e178 m180) (k_M_found hV.1 G176 x0 x3 x4) h (fun v182 G181 _ h => ?_)
          refine Y.blk (pc' := 321) (L' := [some (.ref x0), some (.long v177), none, some (.int x3), some (.int x4)]) (st' := [.long v182.toInt64, .long v177]) (sg := [(.i2l, 0)]) (by decide +kernel) rfl ?_
          refine Y.callL (yC.S (As := [.long v177, .long v182.toInt64]) (st := []) hV.1.1 cb_M_add2 lk_M_307 st_M_add2 (by decide +kernel) rfl rfl (Nat.le_of_ble_eq_true rfl) (by decide)) (k_M_add2 hV.1 G181 v177 v182.toInt64) h (fun v185 G184 _ h => ?_)
          refine Y.blk (pc' := 328) (L' := [some (.ref x0), some (.long v185), none, some (.int x3), some (.int (x4 + (nI 1)))]) (st' := []) (sg := [(.lstore_n 1, 0), (.iinc 4 1, nI 1)]) (by decide +kernel) rfl ?_
          refine Y.goto (off := -87) (tgt := 241) (by decide +kernel) (by decide) ?_
          exact ih G184 x0 v185 x3 (x4 + (nI 1)) h
        · refine Y.goto (off := 60) (tgt := 325) (by decide +kernel) (by decide) ?_
          refine Y.blk (pc' := 328) (L' := [some (.ref x0), some (.long x1), none, some (.int x3), some (.int (x4 + (nI 1)))]) (st' := []) (sg := [(.iinc 4 1, nI 1)]) (by decide +kernel) rfl ?_
          refine Y.goto (off := -87) (tgt := 241) (by decide +kernel) (by decide) ?_
          exact ih G143 x0 x1 x3 (x4 + (nI 1)) h
      · refine Y.blk (pc' := 328) (L' := [some (.ref x0), some (.long x1), none, some (.int x3), some (.int (x4 + (nI 1)))]) (st' := []) (sg := [(.iinc 4 1, nI 1)]) (by decide +kernel) rfl ?_
        refine Y.goto (off := -87) (tgt := 241) (by decide +kernel) (by decide) ?_
        exact ih G138 x0 x1 x3 (x4 + (nI 1)) h
theorem k_M_digest_L232 {l : Launch} {D : va_G} {B : Nat} {O : State → Heap → Prop} {w : Nat → Nat} (hV : zGw l D B O w) {o : gO} {Gf : gH} (K337 : gH → Nat → Int64 → gR) (hK337 : ∀ (G : gH) (x0 : Nat) (x1 : Int64), K337 G x0 x1 = some (o, Gf) → Y (zVm l D B O) m_M_digest 15 o Gf 337 [some (.ref x0), some (.long x1), none, none, none] [] G) : ∀ (n : Nat) (G : gH) (x0 : Nat) (x1 : Int64) (x3 : Int32), f_M_digest_L232 w K337 n G x0 x1 x3 = some (o, Gf) → Y (zVm l D B O) m_M_digest 15 o Gf 232 [some (.ref x0), some (.long x1), none, some (.int x3), none] [] G := by
  intro n
  induction n with
  | zero => intro G x0 x1 x3 h; cases h
  | succ n ih =>
    intro G x0 x1 x3 h
    unfold f_M_digest_L232 at h
    refine Y.blk (pc' := 235) (L' := [some (.ref x0), some (.long x1), none, some (.int x3), none]) (st' := [.int (nI 6), .int x3]) (sg := [(.iload_n 3, 0), (.bipush 6, nI 6)]) (by decide +kernel) rfl ?_
    refine Y.ic_ge (off := 102) (tgt := 337) (by decide +kernel) (by decide) h (fun c193 h => ?_) (fun c193 h => ?_)
    · refine Y.less (L' := [some (.ref x0), some (.long x1), none, none, none]) (zLe_some (zLe_some (zLe_some (zLe_none (zLe_some (zLe_nil)))))) ?_
      exact hK337 G x0 x1 h
    · refine Y.blk (pc' := 241) (L' := [some (.ref x0), some (.long x1), none, some (.int x3), some (.int (nI 0))]) (st' := []) (sg := [(.iconst 0, nI 0), (.istore 4, 0)]) (by decide +kernel) rfl ?_
      refine k_M_digest_L241 hV _ ?_  zFu G x0 x1 x3 (nI 0) h
      · intro G192 x189 x190 x191 h
        refine Y.blk (pc' := 334) (L' := [some (.ref x189), some (.long x190), none, some (.int (x191 + (nI 1))), none]) (st' := []) (sg := [(.iinc 3 1, nI 1)]) (by decide +kernel) rfl ?_
        refine Y.goto (off := -102) (tgt := 232) (by decide +kernel) (by decide) ?_
        exact ih G192 x189 x190 (x191 + (nI 1)) h
theorem k_M_digest_L347 {l : Launch} {D : va_G} {B : Nat} {O : State → Heap → Prop} {w : Nat → Nat} (hV : zGw l D B O w) {o : gO} {Gf : gH} (K373 : gH → Nat → Int64 → Int32 → gR) (hK373 : ∀ (G : gH) (x0 : Nat) (x1 : Int64) (x3 : Int32), K373 G x0 x1 x3 = some (o, Gf) → Y (zVm l D B O) m_M_digest 15 o Gf 373 [some (.ref x0), some (.long x1), none, some (.int x3), none] [] G) : ∀ (n : Nat) (G : gH) (x0 : Nat) (x1 : Int64) (x3 : Int32) (x4 : Int32), f_M_digest_L347 w K373 n G x0 x1 x3 x4 = some (o, Gf) → Y (zVm l D B O) m_M_digest 15 o Gf 347 [some (.ref x0), some (.long x1), none, some (.int x3), some (.int x4)] [] G := by
  intro n
  induction n with
  | zero => intro G x0 x1 x3 x4 h; cases h
  | succ n ih =>
    intro G x0 x1 x3 x4 h
    unfold f_M_digest_L347 at h
    refine Y.blk (pc' := 351) (L' := [some (.ref x0), some (.long x1), none, some (.int x3), some (.int x4)]) (st' := [.int (nI 7), .int x4]) (sg := [(.iload 4, 0), (.bipush 7, nI 7)]) (by decide +kernel) rfl ?_
    refine Y.ic_ge (off := 22) (tgt := 373) (by decide +kernel) (by decide) h (fun c205 h => ?_) (fun c205 h => ?_)
    · refine Y.less (L' := [some (.ref x0), some (.long x1), none, some (.int x3), none]) (zLe_some (zLe_some (zLe_some (zLe_some (zLe_none (zLe_nil)))))) ?_
      exact hK373 G x0 x1 x3 h
    · refine Y.blk (pc' := 359) (L' := [some (.ref x0), some (.long x1), none, some (.int x3), some (.int x4)]) (st' := [.int x4, .int x3, .ref x0, .long x1]) (sg := [(.lload_n 1, 0), (.aload_n 0, 0), (.iload_n 3, 0), (.iload 4, 0)]) (by decide +kernel) rfl ?_
      obtain ⟨_, o198, e197, m199, h⟩ := gOb_inv h
      refine Y.callI (yC.Vi (b := x0) (As := [.int x3, .int x4]) (st := [.long x1]) (r := ("PartlisterModel", T_M, 9)) hV.1.1 cb_M_cursorTold lk_M_290 in_M_cursorTold rfl se_M_cursorTold (by decide +kernel) rfl rfl (Nat.le_of_ble_eq_true rfl) (by decide) e197 m199) (k_M_cursorTold hV.1 G x0 x3 x4) h (fun v201 G200 _ h => ?_)
      refine Y.blk (pc' := 363) (L' := [some (.ref x0), some (.long x1), none, some (.int x3), some (.int x4)]) (st' := [.long v201.toInt64, .long x1]) (sg := [(.i2l, 0)]) (by decide +kernel) rfl ?_
      refine Y.callL (yC.S (As := [.long x1, .long v201.toInt64]) (st := []) hV.1.1 cb_M_add2 lk_M_307 st_M_add2 (by decide +kernel) rfl rfl (Nat.le_of_ble_eq_true rfl) (by decide)) (k_M_add2 hV.1 G200 x1 v201.toInt64) h (fun v204 G203 _ h => ?_)
      refine Y.blk (pc' := 370) (L' := [some (.ref x0), some (.long v204), none, some (.int x3), some (.int (x4 + (nI 1)))]) (st' := []) (sg := [(.lstore_n 1, 0), (.iinc 4 1, nI 1)]) (by decide +kernel) rfl ?_
      refine Y.goto (off := -23) (tgt := 347) (by decide +kernel) (by decide) ?_
      exact ih G203 x0 v204 x3 (x4 + (nI 1)) h
theorem k_M_digest_L339 {l : Launch} {D : va_G} {B : Nat} {O : State → Heap → Prop} {w : Nat → Nat} (hV : zGw l D B O w) {o : gO} {Gf : gH} (K379 : gH → Nat → Int64 → gR) (hK379 : ∀ (G : gH) (x0 : Nat) (x1 : Int64), K379 G x0 x1 = some (o, Gf) → Y (zVm l D B O) m_M_digest 15 o Gf 379 [some (.ref x0), some (.long x1), none, none, none] [] G) : ∀ (n : Nat) (G : gH) (x0 : Nat) (x1 : Int64) (x3 : Int32), f_M_digest_L339 w K379 n G x0 x1 x3 = some (o, Gf) → Y (zVm l D B O) m_M_digest 15 o Gf 339 [some (.ref x0), some (.long x1), none, some (.int x3), none] [] G := by
  intro n
  induction n with
  | zero => intro G x0 x1 x3 h; cases h
  | succ n ih =>
    intro G x0 x1 x3 h
    unfold f_M_digest_L339 at h
    refine Y.blk (pc' := 341) (L' := [some (.ref x0), some (.long x1), none, some (.int x3), none]) (st' := [.int (nI 3), .int x3]) (sg := [(.iload_n 3, 0), (.iconst 3, nI 3)]) (by decide +kernel) rfl ?_
    refine Y.ic_ge (off := 38) (tgt := 379) (by decide +kernel) (by decide) h (fun c210 h => ?_) (fun c210 h => ?_)
    · refine Y.less (L' := [some (.ref x0), some (.long x1), none, none, none]) (zLe_some (zLe_some (zLe_some (zLe_none (zLe_some (zLe_nil)))))) ?_
      exact hK379 G x0 x1 h
    · refine Y.blk (pc' := 347) (L' := [some (.ref x0), some (.long x1), none, some (.int x3), some (.int (nI 0))]) (st' := []) (sg := [(.iconst 0, nI 0), (.istore 4, 0)]) (by decide +kernel) rfl ?_
      refine k_M_digest_L347 hV _ ?_  zFu G x0 x1 x3 (nI 0) h
      · intro G209 x206 x207 x208 h
        refine Y.blk (pc' := 376) (L' := [some (.ref x206), some (.long x207), none, some (.int (x208 + (nI 1))), none]) (st' := []) (sg := [(.iinc 3 1, nI 1)]) (by decide +kernel) rfl ?_
        refine Y.goto (off := -37) (tgt := 339) (by decide +kernel) (by decide) ?_
        exact ih G209 x206 x207 (x208 + (nI 1)) h
theorem k_M_digest {l : Launch} {D : va_G} {B : Nat} {O : State → Heap → Prop} {w : Nat → Nat} (hV : zGw l D B O w) (G : gH) (a0 : Nat) : gMet (zVm l D B O) m_M_digest 15 [.ref a0] G (f_M_digest w G a0) := by
  refine gMet.of (by decide +kernel) (Nat.le_of_ble_eq_true rfl) [some (.ref a0), none, none, none, none] (fun ls h => zEn_ok (n := 5) h) ?_
  intro o Gf h
  unfold f_M_digest at h
  refine Y.blk (pc' := 2) (L' := [some (.ref a0), none, none, none, none]) (st' := [.int (nI 0), .ref a0]) (sg := [(.aload_n 0, 0), (.iconst 0, nI 0)]) (by decide +kernel) rfl ?_
  refine Y.putf fl_M_32 (by decide) rfl rfl (by decide +kernel) h (fun G1 _ _ h => ?_)
  refine Y.ldc2 (v := lN 2203) co_M_305 (by decide +kernel) ?_
  refine Y.blk (pc' := 11) (L' := [some (.ref a0), some (.long (lN 2203)), none, some (.int (nI 0)), none]) (st' := []) (sg := [(.lstore_n 1, 0), (.iconst 0, nI 0), (.istore_n 3, 0)]) (by decide +kernel) rfl ?_
  refine k_M_digest_L11 hV _ ?_  zFu G1 a0 (lN 2203) (nI 0) h
  · intro G13 x11 x12 h
    refine Y.blk (pc' := 36) (L' := [some (.ref x11), some (.long x12), none, some (.int (nI 0)), none]) (st' := []) (sg := [(.iconst 0, nI 0), (.istore_n 3, 0)]) (by decide +kernel) rfl ?_
    refine k_M_digest_L36 hV _ ?_  zFu G13 x11 x12 (nI 0) h
    · intro G134 x132 x133 h
      refine Y.blk (pc' := 232) (L' := [some (.ref x132), some (.long x133), none, some (.int (nI 0)), none]) (st' := []) (sg := [(.iconst 0, nI 0), (.istore_n 3, 0)]) (by decide +kernel) rfl ?_
      refine k_M_digest_L232 hV _ ?_  zFu G134 x132 x133 (nI 0) h
      · intro G196 x194 x195 h
        refine Y.blk (pc' := 339) (L' := [some (.ref x194), some (.long x195), none, some (.int (nI 0)), none]) (st' := []) (sg := [(.iconst 0, nI 0), (.istore_n 3, 0)]) (by decide +kernel) rfl ?_
        refine k_M_digest_L339 hV _ ?_  zFu G196 x194 x195 (nI 0) h
        · intro G213 x211 x212 h
          refine Y.blk (pc' := 381) (L' := [some (.ref x211), some (.long x212), none, none, none]) (st' := [.ref x211, .long x212]) (sg := [(.lload_n 1, 0), (.aload_n 0, 0)]) (by decide +kernel) rfl ?_
          obtain ⟨_, o215, e214, m216, h⟩ := gOb_inv h
          refine Y.callI (yC.Vi (b := x211) (As := []) (st := [.long x212]) (r := ("PartlisterModel", T_M, 9)) hV.1.1 cb_M_isWhole lk_M_299 in_M_isWhole rfl se_M_isWhole (by decide +kernel) rfl rfl (Nat.le_of_ble_eq_true rfl) (by decide) e214 m216) (k_M_isWhole hV G213 x211) h (fun v218 G217 _ h => ?_)
          refine Y.callI (yC.S (As := [.int v218]) (st := [.long x212]) hV.1.1 cb_M_one lk_M_188 st_M_one (by decide +kernel) rfl rfl (Nat.le_of_ble_eq_true rfl) (by decide)) (k_M_one hV.1 G217 v218) h (fun v221 G220 _ h => ?_)
          refine Y.blk (pc' := 388) (L' := [some (.ref x211), some (.long x212), none, none, none]) (st' := [.long v221.toInt64, .long x212]) (sg := [(.i2l, 0)]) (by decide +kernel) rfl ?_
          refine Y.callL (yC.S (As := [.long x212, .long v221.toInt64]) (st := []) hV.1.1 cb_M_add2 lk_M_307 st_M_add2 (by decide +kernel) rfl rfl (Nat.le_of_ble_eq_true rfl) (by decide)) (k_M_add2 hV.1 G220 x212 v221.toInt64) h (fun v224 G223 _ h => ?_)
          exact Y.lret rfl (by decide +kernel) h
