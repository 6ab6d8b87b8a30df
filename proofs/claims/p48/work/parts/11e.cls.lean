def f_I_matchWholly (G : gH) (a0 : Nat) (a1 : Int32) (a2 : Int32) : gR :=
  gOb G a0 1 fun o2 => bI (f_I_lengthOf G a0 a1) fun v4 G3 => gOb G3 a0 1 fun o6 => bI (f_I_lengthOf G3 a0 a2) fun v8 G7 => if v4 = v8 then (gOb G7 a0 1 fun o10 => bI (f_I_matchFrom G7 a0 a1 (nI 0) a2) fun v12 G11 => if v12 = 0 then rZ (nI 0) G11
    else rZ (nI 1) G11)
  else rZ (nI 0) G7
theorem k_I_matchWholly {l : Launch} {D : va_G} {B : Nat} {O : State → Heap → Prop} (hV : zG l D B O) (G : gH) (a0 : Nat) (a1 : Int32) (a2 : Int32) : gMet (zVm l D B O) m_I_matchWholly 5 [.ref a0, .int a1, .int a2] G (f_I_matchWholly G a0 a1 a2) := by
  refine gMet.of (by decide +kernel) (Nat.le_of_ble_eq_true rfl) [some (.ref a0), some (.int a1), some (.int a2)] (fun ls h => zEn_ok (n := 3) h) ?_
  intro o Gf h
  unfold f_I_matchWholly at h
  refine Y.blk (pc' := 2) (L' := [some (.ref a0), some (.int a1), some (.int a2)]) (st' := [.int a1, .ref a0]) (sg := [(.aload_n 0, 0), (.iload_n 1, 0)]) (by decide +kernel) rfl ?_
  obtain ⟨o2, e1, h⟩ := gOb_inv h
  refine Y.callI (yC.Vi (b := a0) (As := [.int a1]) (st := []) (r := ("Partlister$Lists", T_I, 7)) hV.1 cb_I_lengthOf lk_I_59 in_I_lengthOf rfl se_I_lengthOf (by decide +kernel) rfl rfl (Nat.le_of_ble_eq_true rfl) (by decide) e1) (k_I_lengthOf hV G a0 a1) h (fun v4 G3 _ h => ?_)
  refine Y.blk (pc' := 7) (L' := [some (.ref a0), some (.int a1), some (.int a2)]) (st' := [.int a2, .ref a0, .int v4]) (sg := [(.aload_n 0, 0), (.iload_n 2, 0)]) (by decide +kernel) rfl ?_
  obtain ⟨o6, e5, h⟩ := gOb_inv h
  refine Y.callI (yC.Vi (b := a0) (As := [.int a2]) (st := [.int v4]) (r := ("Partlister$Lists", T_I, 7)) hV.1 cb_I_lengthOf lk_I_59 in_I_lengthOf rfl se_I_lengthOf (by decide +kernel) rfl rfl (Nat.le_of_ble_eq_true rfl) (by decide) e5) (k_I_lengthOf hV G3 a0 a2) h (fun v8 G7 _ h => ?_)
  refine Y.ic_ne (off := 17) (tgt := 27) (by decide +kernel) (by decide) h (fun c14 h => ?_) (fun c14 h => ?_)
  · refine Y.blk (pc' := 17) (L' := [some (.ref a0), some (.int a1), some (.int a2)]) (st' := [.int a2, .int (nI 0), .int a1, .ref a0]) (sg := [(.aload_n 0, 0), (.iload_n 1, 0), (.iconst 0, nI 0), (.iload_n 2, 0)]) (by decide +kernel) rfl ?_
    obtain ⟨o10, e9, h⟩ := gOb_inv h
    refine Y.callI (yC.Vi (b := a0) (As := [.int a1, .int (nI 0), .int a2]) (st := []) (r := ("Partlister$Lists", T_I, 7)) hV.1 cb_I_matchFrom lk_I_107 in_I_matchFrom rfl se_I_matchFrom (by decide +kernel) rfl rfl (Nat.le_of_ble_eq_true rfl) (by decide) e9) (k_I_matchFrom hV G7 a0 a1 (nI 0) a2) h (fun v12 G11 _ h => ?_)
    refine Y.if_eq (off := 7) (tgt := 27) (by decide +kernel) (by decide) h (fun c13 h => ?_) (fun c13 h => ?_)
    · refine Y.blk (pc' := 28) (L' := [some (.ref a0), some (.int a1), some (.int a2)]) (st' := [.int (nI 0)]) (sg := [(.iconst 0, nI 0)]) (by decide +kernel) rfl ?_
      exact Y.zret rfl (by decide +kernel) h
    · refine Y.blk (pc' := 24) (L' := [some (.ref a0), some (.int a1), some (.int a2)]) (st' := [.int (nI 1)]) (sg := [(.iconst 1, nI 1)]) (by decide +kernel) rfl ?_
      refine Y.goto (off := 4) (tgt := 28) (by decide +kernel) (by decide) ?_
      exact Y.zret rfl (by decide +kernel) h
  · refine Y.blk (pc' := 28) (L' := [some (.ref a0), some (.int a1), some (.int a2)]) (st' := [.int (nI 0)]) (sg := [(.iconst 0, nI 0)]) (by decide +kernel) rfl ?_
    exact Y.zret rfl (by decide +kernel) h

def f_I_placeOf_L15 (K32 : gH → Int32 → gR) (K41 : gH → gR) : Nat → gH → Nat → Int32 → Int32 → Int32 → Int32 → gR
  | 0, _, _, _, _, _, _ => none
  | n + 1, G, x0, x1, x2, x3, x4 =>
    if x3 < x4 then K41 G
    else gOb G x0 1 fun o10 => bI (f_I_matchFrom G x0 x1 x4 x2) fun v12 G11 => if v12 = 0 then f_I_placeOf_L15 K32 K41 n G11 x0 x1 x2 x3 (x4 + (nI 1))
      else K32 G11 x4
def f_I_placeOf (G : gH) (a0 : Nat) (a1 : Int32) (a2 : Int32) : gR :=
  gOb G a0 1 fun o2 => bI (f_I_lengthOf G a0 a1) fun v4 G3 => gOb G3 a0 1 fun o6 => bI (f_I_lengthOf G3 a0 a2) fun v8 G7 => f_I_placeOf_L15 (fun G16 x15 => rI x15 G16) (fun G17 => rI (-1) G17) zFu G7 a0 a1 a2 (v4 - v8) (nI 0)
theorem k_I_placeOf_L15 {l : Launch} {D : va_G} {B : Nat} {O : State → Heap → Prop} (hV : zG l D B O) {o : gO} {Gf : gH} (K32 : gH → Int32 → gR) (K41 : gH → gR) (hK32 : ∀ (G : gH) (x4 : Int32), K32 G x4 = some (o, Gf) → Y (zVm l D B O) m_I_placeOf 5 o Gf 32 [none, none, none, none, some (.int x4)] [] G) (hK41 : ∀ (G : gH), K41 G  = some (o, Gf) → Y (zVm l D B O) m_I_placeOf 5 o Gf 41 [none, none, none, none, none] [] G) : ∀ (n : Nat) (G : gH) (x0 : Nat) (x1 : Int32) (x2 : Int32) (x3 : Int32) (x4 : Int32), f_I_placeOf_L15 K32 K41 n G x0 x1 x2 x3 x4 = some (o, Gf) → Y (zVm l D B O) m_I_placeOf 5 o Gf 15 [some (.ref x0), some (.int x1), some (.int x2), some (.int x3), some (.int x4)] [] G := by
  intro n
  induction n with
  | zero => intro G x0 x1 x2 x3 x4 h; cases h
  | succ n ih =>
    intro G x0 x1 x2 x3 x4 h
    unfold f_I_placeOf_L15 at h
    refine Y.blk (pc' := 18) (L' := [some (.ref x0), some (.int x1), some (.int x2), some (.int x3), some (.int x4)]) (st' := [.int x3, .int x4]) (sg := [(.iload 4, 0), (.iload_n 3, 0)]) (by decide +kernel) rfl ?_
    refine Y.ic_gt (off := 23) (tgt := 41) (by decide +kernel) (by decide) h (fun c14 h => ?_) (fun c14 h => ?_)
    · refine Y.less (L' := [none, none, none, none, none]) (zLe_none (zLe_none (zLe_none (zLe_none (zLe_none (zLe_nil)))))) ?_
      exact hK41 G  h
    · refine Y.blk (pc' := 26) (L' := [some (.ref x0), some (.int x1), some (.int x2), some (.int x3), some (.int x4)]) (st' := [.int x2, .int x4, .int x1, .ref x0]) (sg := [(.aload_n 0, 0), (.iload_n 1, 0), (.iload 4, 0), (.iload_n 2, 0)]) (by decide +kernel) rfl ?_
      obtain ⟨o10, e9, h⟩ := gOb_inv h
      refine Y.callI (yC.Vi (b := x0) (As := [.int x1, .int x4, .int x2]) (st := []) (r := ("Partlister$Lists", T_I, 7)) hV.1 cb_I_matchFrom lk_I_107 in_I_matchFrom rfl se_I_matchFrom (by decide +kernel) rfl rfl (Nat.le_of_ble_eq_true rfl) (by decide) e9) (k_I_matchFrom hV G x0 x1 x4 x2) h (fun v12 G11 _ h => ?_)
      refine Y.if_eq (off := 6) (tgt := 35) (by decide +kernel) (by decide) h (fun c13 h => ?_) (fun c13 h => ?_)
      · refine Y.blk (pc' := 38) (L' := [some (.ref x0), some (.int x1), some (.int x2), some (.int x3), some (.int (x4 + (nI 1)))]) (st' := []) (sg := [(.iinc 4 1, nI 1)]) (by decide +kernel) rfl ?_
        refine Y.goto (off := -23) (tgt := 15) (by decide +kernel) (by decide) ?_
        exact ih G11 x0 x1 x2 x3 (x4 + (nI 1)) h
      · refine Y.less (L' := [none, none, none, none, some (.int x4)]) (zLe_none (zLe_none (zLe_none (zLe_none (zLe_some (zLe_nil)))))) ?_
        exact hK32 G11 x4 h
theorem k_I_placeOf {l : Launch} {D : va_G} {B : Nat} {O : State → Heap → Prop} (hV : zG l D B O) (G : gH) (a0 : Nat) (a1 : Int32) (a2 : Int32) : gMet (zVm l D B O) m_I_placeOf 5 [.ref a0, .int a1, .int a2] G (f_I_placeOf G a0 a1 a2) := by
  refine gMet.of (by decide +kernel) (Nat.le_of_ble_eq_true rfl) [some (.ref a0), some (.int a1), some (.int a2), none, none] (fun ls h => zEn_ok (n := 5) h) ?_
  intro o Gf h
  unfold f_I_placeOf at h
  refine Y.blk (pc' := 2) (L' := [some (.ref a0), some (.int a1), some (.int a2), none, none]) (st' := [.int a1, .ref a0]) (sg := [(.aload_n 0, 0), (.iload_n 1, 0)]) (by decide +kernel) rfl ?_
  obtain ⟨o2, e1, h⟩ := gOb_inv h
  refine Y.callI (yC.Vi (b := a0) (As := [.int a1]) (st := []) (r := ("Partlister$Lists", T_I, 7)) hV.1 cb_I_lengthOf lk_I_59 in_I_lengthOf rfl se_I_lengthOf (by decide +kernel) rfl rfl (Nat.le_of_ble_eq_true rfl) (by decide) e1) (k_I_lengthOf hV G a0 a1) h (fun v4 G3 _ h => ?_)
  refine Y.blk (pc' := 7) (L' := [some (.ref a0), some (.int a1), some (.int a2), none, none]) (st' := [.int a2, .ref a0, .int v4]) (sg := [(.aload_n 0, 0), (.iload_n 2, 0)]) (by decide +kernel) rfl ?_
  obtain ⟨o6, e5, h⟩ := gOb_inv h
  refine Y.callI (yC.Vi (b := a0) (As := [.int a2]) (st := [.int v4]) (r := ("Partlister$Lists", T_I, 7)) hV.1 cb_I_lengthOf lk_I_59 in_I_lengthOf rfl se_I_lengthOf (by decide +kernel) rfl rfl (Nat.le_of_ble_eq_true rfl) (by decide) e5) (k_I_lengthOf hV G3 a0 a2) h (fun v8 G7 _ h => ?_)
  refine Y.blk (pc' := 15) (L' := [some (.ref a0), some (.int a1), some (.int a2), some (.int (v4 - v8)), some (.int (nI 0))]) (st' := []) (sg := [(.isub, 0), (.istore_n 3, 0), (.iconst 0, nI 0), (.istore 4, 0)]) (by decide +kernel) rfl ?_
  refine k_I_placeOf_L15 hV _ _ ?_ ?_  zFu G7 a0 a1 a2 (v4 - v8) (nI 0) h
  · intro G16 x15 h
    refine Y.blk (pc' := 34) (L' := [none, none, none, none, some (.int x15)]) (st' := [.int x15]) (sg := [(.iload 4, 0)]) (by decide +kernel) rfl ?_
    exact Y.iret rfl (by decide +kernel) h
  · intro G17 h
    refine Y.blk (pc' := 42) (L' := [none, none, none, none, none]) (st' := [.int (-1)]) (sg := [(.iconst (-1), -1)]) (by decide +kernel) rfl ?_
    exact Y.iret rfl (by decide +kernel) h

def f_X_mixPair (G : gH) (a0 : Nat) (a1 : Int64) (a3 : Int32) (a4 : Int32) : gR :=
  gFA G a0 3 0 fun v1 => gOb G v1 1 fun o3 => bI (f_I_matchWholly G v1 a3 a4) fun v5 G4 => if v5 = 0 then (bL (f_X_mix G4 a1 (lN 0)) fun v8 G7 => gFA G7 a0 3 0 fun v9 => gOb G7 v9 1 fun o11 => bI (f_I_holdsKeys G7 v9 a3 a4) fun v13 G12 => if v13 = 0 then (bL (f_X_mix G12 v8 (lN 0)) fun v16 G15 => gFA G15 a0 3 0 fun v17 => gOb G15 v17 1 fun o19 => bI (f_I_shareNoKey G15 v17 a3 a4) fun v21 G20 => if v21 = 0 then bL (f_X_mix G20 v16 (lN 0)) fun v24 G23 => gFA G23 a0 3 0 fun v25 => gOb G23 v25 1 fun o27 => bI (f_I_placeOf G23 v25 a3 a4) fun v29 G28 => bL (f_X_mix G28 v24 v29.toInt64) fun v32 G31 => rL v32 G31
      else bL (f_X_mix G20 v16 (lN 1)) fun v35 G34 => gFA G34 a0 3 0 fun v36 => gOb G34 v36 1 fun o38 => bI (f_I_placeOf G34 v36 a3 a4) fun v40 G39 => bL (f_X_mix G39 v35 v40.toInt64) fun v43 G42 => rL v43 G42)
    else bL (f_X_mix G12 v8 (lN 1)) fun v47 G46 => gFA G46 a0 3 0 fun v48 => gOb G46 v48 1 fun o50 => bI (f_I_shareNoKey G46 v48 a3 a4) fun v52 G51 => if v52 = 0 then bL (f_X_mix G51 v47 (lN 0)) fun v55 G54 => gFA G54 a0 3 0 fun v56 => gOb G54 v56 1 fun o58 => bI (f_I_placeOf G54 v56 a3 a4) fun v60 G59 => bL (f_X_mix G59 v55 v60.toInt64) fun v63 G62 => rL v63 G62
      else bL (f_X_mix G51 v47 (lN 1)) fun v66 G65 => gFA G65 a0 3 0 fun v67 => gOb G65 v67 1 fun o69 => bI (f_I_placeOf G65 v67 a3 a4) fun v71 G70 => bL (f_X_mix G70 v66 v71.toInt64) fun v74 G73 => rL v74 G73)
  else bL (f_X_mix G4 a1 (lN 1)) fun v79 G78 => gFA G78 a0 3 0 fun v80 => gOb G78 v80 1 fun o82 => bI (f_I_holdsKeys G78 v80 a3 a4) fun v84 G83 => if v84 = 0 then (bL (f_X_mix G83 v79 (lN 0)) fun v87 G86 => gFA G86 a0 3 0 fun v88 => gOb G86 v88 1 fun o90 => bI (f_I_shareNoKey G86 v88 a3 a4) fun v92 G91 => if v92 = 0 then bL (f_X_mix G91 v87 (lN 0)) fun v95 G94 => gFA G94 a0 3 0 fun v96 => gOb G94 v96 1 fun o98 => bI (f_I_placeOf G94 v96 a3 a4) fun v100 G99 => bL (f_X_mix G99 v95 v100.toInt64) fun v103 G102 => rL v103 G102
      else bL (f_X_mix G91 v87 (lN 1)) fun v106 G105 => gFA G105 a0 3 0 fun v107 => gOb G105 v107 1 fun o109 => bI (f_I_placeOf G105 v107 a3 a4) fun v111 G110 => bL (f_X_mix G110 v106 v111.toInt64) fun v114 G113 => rL v114 G113)
    else bL (f_X_mix G83 v79 (lN 1)) fun v118 G117 => gFA G117 a0 3 0 fun v119 => gOb G117 v119 1 fun o121 => bI (f_I_shareNoKey G117 v119 a3 a4) fun v123 G122 => if v123 = 0 then bL (f_X_mix G122 v118 (lN 0)) fun v126 G125 => gFA G125 a0 3 0 fun v127 => gOb G125 v127 1 fun o129 => bI (f_I_placeOf G125 v127 a3 a4) fun v131 G130 => bL (f_X_mix G130 v126 v131.toInt64) fun v134 G133 => rL v134 G133
      else bL (f_X_mix G122 v118 (lN 1)) fun v137 G136 => gFA G136 a0 3 0 fun v138 => gOb G136 v138 1 fun o140 => bI (f_I_placeOf G136 v138 a3 a4) fun v142 G141 => bL (f_X_mix G141 v137 v142.toInt64) fun v145 G144 => rL v145 G144
theorem k_X_mixPair {l : Launch} {D : va_G} {B : Nat} {O : State → Heap → Prop} (hV : zG l D B O) (G : gH) (a0 : Nat) (a1 : Int64) (a3 : Int32) (a4 : Int32) : gMet (zVm l D B O) m_X_mixPair 6 [.ref a0, .long a1, .int a3, .int a4] G (f_X_mixPair G a0 a1 a3 a4) := by
  refine gMet.of (by decide +kernel) (Nat.le_of_ble_eq_true rfl) [some (.ref a0), some (.long a1), none, some (.int a3), some (.int a4), none, none] (fun ls h => zEn_ok (n := 7) h) ?_
  intro o Gf h
  unfold f_X_mixPair at h
  refine Y.blk (pc' := 2) (L' := [some (.ref a0), some (.long a1), none, some (.int a3), some (.int a4), none, none]) (st' := [.ref a0, .long a1]) (sg := [(.lload_n 1, 0), (.aload_n 0, 0)]) (by decide +kernel) rfl ?_
  refine Y.getA fl_X_10 (by decide +kernel) h (fun v1 h => ?_)
  refine Y.blk (pc' := 8) (L' := [some (.ref a0), some (.long a1), none, some (.int a3), some (.int a4), none, none]) (st' := [.int a4, .int a3, .ref v1, .long a1]) (sg := [(.iload_n 3, 0), (.iload 4, 0)]) (by decide +kernel) rfl ?_
  obtain ⟨o3, e2, h⟩ := gOb_inv h
  refine Y.callI (yC.Vi (b := v1) (As := [.int a3, .int a4]) (st := [.long a1]) (r := ("Partlister$Lists", T_I, 7)) hV.1 cb_I_matchWholly lk_X_199 in_I_matchWholly rfl se_I_matchWholly (by decide +kernel) rfl rfl (Nat.le_of_ble_eq_true rfl) (by decide) e2) (k_I_matchWholly hV G v1 a3 a4) h (fun v5 G4 _ h => ?_)
  refine Y.if_eq (off := 7) (tgt := 18) (by decide +kernel) (by decide) h (fun c148 h => ?_) (fun c148 h => ?_)
  · refine Y.blk (pc' := 19) (L' := [some (.ref a0), some (.long a1), none, some (.int a3), some (.int a4), none, none]) (st' := [.long (lN 0), .long a1]) (sg := [(.lconst 0, 0)]) (by decide +kernel) rfl ?_
    refine Y.callL (yC.S (As := [.long a1, .long (lN 0)]) (st := []) hV.1 cb_X_mix lk_X_263 st_X_mix (by decide +kernel) rfl rfl (Nat.le_of_ble_eq_true rfl) (by decide)) (k_X_mix hV G4 a1 (lN 0)) h (fun v8 G7 _ h => ?_)
    refine Y.blk (pc' := 27) (L' := [some (.ref a0), some (.long a1), none, some (.int a3), some (.int a4), some (.long v8), none]) (st' := [.ref a0, .long v8]) (sg := [(.lstore 5, 0), (.lload 5, 0), (.aload_n 0, 0)]) (by decide +kernel) rfl ?_
    refine Y.getA fl_X_10 (by decide +kernel) h (fun v9 h => ?_)
    refine Y.blk (pc' := 33) (L' := [some (.ref a0), some (.long a1), none, some (.int a3), some (.int a4), some (.long v8), none]) (st' := [.int a4, .int a3, .ref v9, .long v8]) (sg := [(.iload_n 3, 0), (.iload 4, 0)]) (by decide +kernel) rfl ?_
    obtain ⟨o11, e10, h⟩ := gOb_inv h
    refine Y.callI (yC.Vi (b := v9) (As := [.int a3, .int a4]) (st := [.long v8]) (r := ("Partlister$Lists", T_I, 7)) hV.1 cb_I_holdsKeys lk_X_192 in_I_holdsKeys rfl se_I_holdsKeys (by decide +kernel) rfl rfl (Nat.le_of_ble_eq_true rfl) (by decide) e10) (k_I_holdsKeys hV G7 v9 a3 a4) h (fun v13 G12 _ h => ?_)
    refine Y.if_eq (off := 7) (tgt := 43) (by decide +kernel) (by decide) h (fun c76 h => ?_) (fun c76 h => ?_)
    · refine Y.blk (pc' := 44) (L' := [some (.ref a0), some (.long a1), none, some (.int a3), some (.int a4), some (.long v8), none]) (st' := [.long (lN 0), .long v8]) (sg := [(.lconst 0, 0)]) (by decide +kernel) rfl ?_
      refine Y.callL (yC.S (As := [.long v8, .long (lN 0)]) (st := []) hV.1 cb_X_mix lk_X_263 st_X_mix (by decide +kernel) rfl rfl (Nat.le_of_ble_eq_true rfl) (by decide)) (k_X_mix hV G12 v8 (lN 0)) h (fun v16 G15 _ h => ?_)
      refine Y.blk (pc' := 52) (L' := [some (.ref a0), some (.long a1), none, some (.int a3), some (.int a4), some (.long v16), none]) (st' := [.ref a0, .long v16]) (sg := [(.lstore 5, 0), (.lload 5, 0), (.aload_n 0, 0)]) (by decide +kernel) rfl ?_
      refine Y.getA fl_X_10 (by decide +kernel) h (fun v17 h => ?_)
      refine Y.blk (pc' := 58) (L' := [some (.ref a0), some (.long a1), none, some (.int a3), some (.int a4), some (.long v16), none]) (st' := [.int a4, .int a3, .ref v17, .long v16]) (sg := [(.iload_n 3, 0), (.iload 4, 0)]) (by decide +kernel) rfl ?_
      obtain ⟨o19, e18, h⟩ := gOb_inv h
      refine Y.callI (yC.Vi (b := v17) (As := [.int a3, .int a4]) (st := [.long v16]) (r := ("Partlister$Lists", T_I, 7)) hV.1 cb_I_shareNoKey lk_X_196 in_I_shareNoKey rfl se_I_shareNoKey (by decide +kernel) rfl rfl (Nat.le_of_ble_eq_true rfl) (by decide) e18) (k_I_shareNoKey hV G15 v17 a3 a4) h (fun v21 G20 _ h => ?_)
      refine Y.if_eq (off := 7) (tgt := 68) (by decide +kernel) (by decide) h (fun c44 h => ?_) (fun c44 h => ?_)
      · refine Y.blk (pc' := 69) (L' := [some (.ref a0), some (.long a1), none, some (.int a3), some (.int a4), some (.long v16), none]) (st' := [.long (lN 0), .long v16]) (sg := [(.lconst 0, 0)]) (by decide +kernel) rfl ?_
        refine Y.callL (yC.S (As := [.long v16, .long (lN 0)]) (st := []) hV.1 cb_X_mix lk_X_263 st_X_mix (by decide +kernel) rfl rfl (Nat.le_of_ble_eq_true rfl) (by decide)) (k_X_mix hV G20 v16 (lN 0)) h (fun v24 G23 _ h => ?_)
        refine Y.blk (pc' := 77) (L' := [some (.ref a0), some (.long a1), none, some (.int a3), some (.int a4), some (.long v24), none]) (st' := [.ref a0, .long v24]) (sg := [(.lstore 5, 0), (.lload 5, 0), (.aload_n 0, 0)]) (by decide +kernel) rfl ?_
        refine Y.getA fl_X_10 (by decide +kernel) h (fun v25 h => ?_)
        refine Y.blk (pc' := 83) (L' := [some (.ref a0), some (.long a1), none, some (.int a3), some (.int a4), some (.long v24), none]) (st' := [.int a4, .int a3, .ref v25, .long v24]) (sg := [(.iload_n 3, 0), (.iload 4, 0)]) (by decide +kernel) rfl ?_
        obtain ⟨o27, e26, h⟩ := gOb_inv h
        refine Y.callI (yC.Vi (b := v25) (As := [.int a3, .int a4]) (st := [.long v24]) (r := ("Partlister$Lists", T_I, 7)) hV.1 cb_I_placeOf lk_X_202 in_I_placeOf rfl se_I_placeOf (by decide +kernel) rfl rfl (Nat.le_of_ble_eq_true rfl) (by decide) e26) (k_I_placeOf hV G23 v25 a3 a4) h (fun v29 G28 _ h => ?_)
        refine Y.blk (pc' := 87) (L' := [some (.ref a0), some (.long a1), none, some (.int a3), some (.int a4), some (.long v24), none]) (st' := [.long v29.toInt64, .long v24]) (sg := [(.i2l, 0)]) (by decide +kernel) rfl ?_
        refine Y.callL (yC.S (As := [.long v24, .long v29.toInt64]) (st := []) hV.1 cb_X_mix lk_X_263 st_X_mix (by decide +kernel) rfl rfl (Nat.le_of_ble_eq_true rfl) (by decide)) (k_X_mix hV G28 v24 v29.toInt64) h (fun v32 G31 _ h => ?_)
        exact Y.lret rfl (by decide +kernel) h
      · refine Y.blk (pc' := 65) (L' := [some (.ref a0), some (.long a1), none, some (.int a3), some (.int a4), some (.long v16), none]) (st' := [.long (lN 1), .long v16]) (sg := [(.lconst 1, 0)]) (by decide +kernel) rfl ?_
        refine Y.goto (off := 4) (tgt := 69) (by decide +kernel) (by decide) ?_
        refine Y.callL (yC.S (As := [.long v16, .long (lN 1)]) (st := []) hV.1 cb_X_mix lk_X_263 st_X_mix (by decide +kernel) rfl rfl (Nat.le_of_ble_eq_true rfl) (by decide)) (k_X_mix hV G20 v16 (lN 1)) h (fun v35 G34 _ h => ?_)
        refine Y.blk (pc' := 77) (L' := [some (.ref a0), some (.long a1), none, some (.int a3), some (.int a4), some (.long v35), none]) (st' := [.ref a0, .long v35]) (sg := [(.lstore 5, 0), (.lload 5, 0), (.aload_n 0, 0)]) (by decide +kernel) rfl ?_
        refine Y.getA fl_X_10 (by decide +kernel) h (fun v36 h => ?_)
        refine Y.blk (pc' := 83) (L' := [some (.ref a0), some (.long a1), none, some (.int a3), some (.int a4), some (.long v35), none]) (st' := [.int a4, .int a3, .ref v36, .long v35]) (sg := [(.iload_n 3, 0), (.iload 4, 0)]) (by decide +kernel) rfl ?_
        obtain ⟨o38, e37, h⟩ := gOb_inv h
        refine Y.callI (yC.Vi (b := v36) (As := [.int a3, .int a4]) (st := [.long v35]) (r := ("Partlister$Lists", T_I, 7)) hV.1 cb_I_placeOf lk_X_202 in_I_placeOf rfl se_I_placeOf (by decide +kernel) rfl rfl (Nat.le_of_ble_eq_true rfl) (by decide) e37) (k_I_placeOf hV G34 v36 a3 a4) h (fun v40 G39 _ h => ?_)
        refine Y.blk (pc' := 87) (L' := [some (.ref a0), some (.long a1), none, some (.int a3), some (.int a4), some (.long v35), none]) (st' := [.long v40.toInt64, .long v35]) (sg := [(.i2l, 0)]) (by decide +kernel) rfl ?_
        refine Y.callL (yC.S (As := [.long v35, .long v40.toInt64]) (st := []) hV.1 cb_X_mix lk_X_263 st_X_mix (by decide +kernel) rfl rfl (Nat.le_of_ble_eq_true rfl) (by decide)) (k_X_mix hV G39 v35 v40.toInt64) h (fun v43 G42 _ h => ?_)
        exact Y.lret rfl (by decide +kernel) h
    · refine Y.blk (pc' := 40) (L' := [some (.ref a0), some (.long a1), none, some (.int a3), some (.int a4), some (.long v8), none]) (st' := [.long (lN 1), .long v8]) (sg := [(.lconst 1, 0)]) (by decide +kernel) rfl ?_
      refine Y.goto (off := 4) (tgt := 44) (by decide +kernel) (by decide) ?_
      refine Y.callL (yC.S (As := [.long v8, .long (lN 1)]) (st := []) hV.1 cb_X_mix lk_X_263 st_X_mix (by decide +kernel) rfl rfl (Nat.le_of_ble_eq_true rfl) (by decide)) (k_X_mix hV G12 v8 (lN 1)) h (fun v47 G46 _ h => ?_)
      refine Y.blk (pc' := 52) (L' := [some (.ref a0), some (.long a1), none, some (.int a3), some (.int a4), some (.long v47), none]) (st' := [.ref a0, .long v47]) (sg := [(.lstore 5, 0), (.lload 5, 0), (.aload_n 0, 0)]) (by decide +kernel) rfl ?_
      refine Y.getA fl_X_10 (by decide +kernel) h (fun v48 h => ?_)
      refine Y.blk (pc' := 58) (L' := [some (.ref a0), some (.long a1), none, some (.int a3), some (.int a4), some (.long v47), none]) (st' := [.int a4, .int a3, .ref v48, .long v47]) (sg := [(.iload_n 3, 0), (.iload 4, 0)]) (by decide +kernel) rfl ?_
      obtain ⟨o50, e49, h⟩ := gOb_inv h
      refine Y.callI (yC.Vi (b := v48) (As := [.int a3, .int a4]) (st := [.long v47]) (r := ("Partlister$Lists", T_I, 7)) hV.1 cb_I_shareNoKey lk_X_196 in_I_shareNoKey rfl se_I_shareNoKey (by decide +kernel) rfl rfl (Nat.le_of_ble_eq_true rfl) (by decide) e49) (k_I_shareNoKey hV G46 v48 a3 a4) h (fun v52 G51 _ h => ?_)
      refine Y.if_eq (off := 7) (tgt := 68) (by decide +kernel) (by decide) h (fun c75 h => ?_) (fun c75 h => ?_)
      · refine Y.blk (pc' := 69) (L' := [some (.ref a0), some (.long a1), none, some (.int a3), some (.int a4), some (.long v47), none]) (st' := [.long (lN 0), .long v47]) (sg := [(.lconst 0, 0)]) (by decide +kernel) rfl ?_
        refine Y.callL (yC.S (As := [.long v47, .long (lN 0)]) (st := []) hV.1 cb_X_mix lk_X_263 st_X_mix (by decide +kernel) rfl rfl (Nat.le_of_ble_eq_true rfl) (by decide)) (k_X_mix hV G51 v47 (lN 0)) h (fun v55 G54 _ h => ?_)
        refine Y.blk (pc' := 77) (L' := [some (.ref a0), some (.long a1), none, some (.int a3), some (.int a4), some (.long v55), none]) (st' := [.ref a0, .long v55]) (sg := [(.lstore 5, 0), (.lload 5, 0), (.aload_n 0, 0)]) (by decide +kernel) rfl ?_
        refine Y.getA fl_X_10 (by decide +kernel) h (fun v56 h => ?_)
        refine Y.blk (pc' := 83) (L' := [some (.ref a0), some (.long a1), none, some (.int a3), some (.int a4), some (.long v55), none]) (st' := [.int a4, .int a3, .ref v56, .long v55]) (sg := [(.iload_n 3, 0), (.iload 4, 0)]) (by decide +kernel) rfl ?_
        obtain ⟨o58, e57, h⟩ := gOb_inv h
        refine Y.callI (yC.Vi (b := v56) (As := [.int a3, .int a4]) (st := [.long v55]) (r := ("Partlister$Lists", T_I, 7)) hV.1 cb_I_placeOf lk_X_202 in_I_placeOf rfl se_I_placeOf (by decide +kernel) rfl rfl (Nat.le_of_ble_eq_true rfl) (by decide) e57) (k_I_placeOf hV G54 v56 a3 a4) h (fun v60 G59 _ h => ?_)
        refine Y.blk (pc' := 87) (L' := [some (.ref a0), some (.long a1), none, some (.int a3), some (.int a4), some (.long v55), none]) (st' := [.long v60.toInt64, .long v55]) (sg := [(.i2l, 0)]) (by decide +kernel) rfl ?_
        refine Y.callL (yC.S (As := [.long v55, .long v60.toInt64]) (st := []) hV.1 cb_X_mix lk_X_263 st_X_mix (by decide +kernel) rfl rfl (Nat.le_of_ble_eq_true rfl) (by decide)) (k_X_mix hV G59 v55 v60.toInt64) h (fun v63 G62 _ h => ?_)
        exact Y.lret rfl (by decide +kernel) h
      · refine Y.blk (pc' := 65) (L' := [some (.ref a0), some (.long a1), none, some (.int a3), some (.int a4), some (.long v47), none]) (st' := [.long (lN 1), .long v47]) (sg := [(.lconst 1, 0)]) (by decide +kernel) rfl ?_
        refine Y.goto (off := 4) (tgt := 69) (by decide +kernel) (by decide) ?_
        refine Y.callL (yC.S (As := [.long v47, .long (lN 1)]) (st := []) hV.1 cb_X_mix lk_X_263 st_X_mix (by decide +kernel) rfl rfl (Nat.le_of_ble_eq_true rfl) (by decide)) (k_X_mix hV G51 v47 (lN 1)) h (fun v66 G65 _ h => ?_)
        refine Y.blk (pc' := 77) (L' := [some (.ref a0), some (.long a1), none, some (.int a3), some (.int a4), some (.long v66), none]) (st' := [.ref a0, .long v66]) (sg := [(.lstore 5, 0), (.lload 5, 0), (.aload_n 0, 0)]) (by decide +kernel) rfl ?_
        refine Y.getA fl_X_10 (by decide +kernel) h (fun v67 h => ?_)
        refine Y.blk (pc' := 83) (L' := [some (.ref a0), some (.long a1), none, some (.int a3), some (.int a4), some (.long v66), none]) (st' := [.int a4, .int a3, .ref v67, .long v66]) (sg := [(.iload_n 3, 0), (.iload 4, 0)]) (by decide +kernel) rfl ?_
        obtain ⟨o69, e68, h⟩ := gOb_inv h
        refine Y.callI (yC.Vi (b := v67) (As := [.int a3, .int a4]) (st := [.long v66]) (r := ("Partlister$Lists", T_I, 7)) hV.1 cb_I_placeOf lk_X_202 in_I_placeOf rfl se_I_placeOf (by decide +kernel) rfl rfl (Nat.le_of_ble_eq_true rfl) (by decide) e68) (k_I_placeOf hV G65 v67 a3 a4) h (fun v71 G70 _ h => ?_)
        refine Y.blk (pc' := 87) (L' := [some (.ref a0), some (.long a1), none, some (.int a3), some (.int a4), some (.long v66), none]) (st' := [.long v71.toInt64, .long v66]) (sg := [(.i2l, 0)]) (by decide +kernel) rfl ?_
        refine Y.callL (yC.S (As := [.long v66, .long v71.toInt64]) (st := []) hV.1 cb_X_mix lk_X_263 st_X_mix (by decide +kernel) rfl rfl (Nat.le_of_ble_eq_true rfl) (by decide)) (k_X_mix hV G70 v66 v71.toInt64) h (fun v74 G73 _ h => ?_)
        exact Y.lret rfl (by decide +kernel) h
  · refine Y.blk (pc' := 15) (L' := [some (.ref a0), some (.long a1), none, some (.int a3), some (.int a4), none, none]) (st' := [.long (lN 1), .long a1]) (sg := [(.lconst 1, 0)]) (by decide +kernel) rfl ?_
    refine Y.goto (off := 4) (tgt := 19) (by decide +kernel) (by decide) ?_
    refine Y.callL (yC.S (As := [.long a1, .long (lN 1)]) (st := []) hV.1 cb_X_mix lk_X_263 st_X_mix (by decide +kernel) rfl rfl (Nat.le_of_ble_eq_true rfl) (by decide)) (k_X_mix hV G4 a1 (lN 1)) h (fun v79 G78 _ h => ?_)
    refine Y.blk (pc' := 27) (L' := [some (.ref a0), some (.long a1), none, some (.int a3), some (.int a4), some (.long v79), none]) (st' := [.ref a0, .long v79]) (sg := [(.lstore 5, 0), (.lload 5, 0), (.aload_n 0, 0)]) (by decide +kernel) rfl ?_
    refine Y.getA fl_X_10 (by decide +kernel) h (fun v80 h => ?_)
    refine Y.blk (pc' := 33) (L' := [some (.ref a0), some (.long a1), none, some (.int a3), some (.int a4), some (.long v79), none]) (st' := [.int a4, .int a3, .ref v80, .long v79]) (sg := [(.iload_n 3, 0), (.iload 4, 0)]) (by decide +kernel) rfl ?_
    obtain ⟨o82, e81, h⟩ := gOb_inv h
    refine Y.callI (yC.Vi (b := v80) (As := [.int a3, .int a4]) (st := [.long v79]) (r := ("Partlister$Lists", T_I, 7)) hV.1 cb_I_holdsKeys lk_X_192 in_I_holdsKeys rfl se_I_holdsKeys (by decide +kernel) rfl rfl (Nat.le_of_ble_eq_true rfl) (by decide) e81) (k_I_holdsKeys hV G78 v80 a3 a4) h (fun v84 G83 _ h => ?_)
    refine Y.if_eq (off := 7) (tgt := 43) (by decide +kernel) (by decide) h (fun c147 h => ?_) (fun c147 h => ?_)
    · refine Y.blk (pc' := 44) (L' := [some (.ref a0), some (.long a1), none, some (.int a3), some (.int a4), some (.long v79), none]) (st' := [.long (lN 0), .long v79]) (sg := [(.lconst 0, 0)]) (by decide +kernel) rfl ?_
      refine Y.callL (yC.S (As := [.long v79, .long (lN 0)]) (st := []) hV.1 cb_X_mix lk_X_263 st_X_mix (by decide +kernel) rfl rfl (Nat.le_of_ble_eq_true rfl) (by decide)) (k_X_mix hV G83 v79 (lN 0)) h (fun v87 G86 _ h => ?_)
      refine Y.blk (pc' := 52) (L' := [some (.ref a0), some (.long a1), none, some (.int a3), some (.int a4), some (.long v87), none]) (st' := [.ref a0, .long v87]) (sg := [(.lstore 5, 0), (.lload 5, 0), (.aload_n 0, 0)]) (by decide +kernel) rfl ?_
      refine Y.getA fl_X_10 (by decide +kernel) h (fun v88 h => ?_)
      refine Y.blk (pc' := 58) (L' := [some (.ref a0), some (.long a1), none, some (.int a3), some (.int a4), some (.long v87), none]) (st' := [.int a4, .int a3, .ref v88, .long v87]) (sg := [(.iload_n 3, 0), (.iload 4, 0)]) (by decide +kernel) rfl ?_
      obtain ⟨o90, e89, h⟩ := gOb_inv h
      refine Y.callI (yC.Vi (b := v88) (As := [.int a3, .int a4]) (st := [.long v87]) (r := ("Partlister$Lists", T_I, 7)) hV.1 cb_I_shareNoKey lk_X_196 in_I_shareNoKey rfl se_I_shareNoKey (by decide +kernel) rfl rfl (Nat.le_of_ble_eq_true rfl) (by decide) e89) (k_I_shareNoKey hV G86 v88 a3 a4) h (fun v92 G91 _ h => ?_)
      refine Y.if_eq (off := 7) (tgt := 68) (by decide +kernel) (by decide) h (fun c115 h => ?_) (fun c115 h => ?_)
      · refine Y.blk (pc' := 69) (L' := [some (.ref a0), some (.long a1), none, some (.int a3), some (.int a4), some (.long v87), none]) (st' := [.long (lN 0), .long v87]) (sg := [(.lconst 0, 0)]) (by decide +kernel) rfl ?_
        refine Y.callL (yC.S (As := [.long v87, .long (lN 0)]) (st := []) hV.1 cb_X_mix lk_X_263 st_X_mix (by decide +kernel) rfl rfl (Nat.le_of_ble_eq_true rfl) (by decide)) (k_X_mix hV G91 v87 (lN 0)) h (fun v95 G94 _ h => ?_)
        refine Y.blk (pc' := 77) (L' := [some (.ref a0), some (.long a1), none, some (.int a3), some (.int a4), some (.long v95), none]) (st' := [.ref a0, .long v95]) (sg := [(.lstore 5, 0), (.lload 5, 0), (.aload_n 0, 0)]) (by decide +kernel) rfl ?_
        refine Y.getA fl_X_10 (by decide +kernel) h (fun v96 h => ?_)
        refine Y.blk (pc' := 83) (L' := [some (.ref a0), some (.long a1), none, some (.int a3), some (.int a4), some (.long v95), none]) (st' := [.int a4, .int a3, .ref v96, .long v95]) (sg := [(.iload_n 3, 0), (.iload 4, 0)]) (by decide +kernel) rfl ?_
        obtain ⟨o98, e97, h⟩ := gOb_inv h
        refine Y.callI (yC.Vi (b := v96) (As := [.int a3, .int a4]) (st := [.long v95]) (r := ("Partlister$Lists", T_I, 7)) hV.1 cb_I_placeOf lk_X_202 in_I_placeOf rfl se_I_placeOf (by decide +kernel) rfl rfl (Nat.le_of_ble_eq_true rfl) (by decide) e97) (k_I_placeOf hV G94 v96 a3 a4) h (fun v100 G99 _ h => ?_)
        refine Y.blk (pc' := 87) (L' := [some (.ref a0), some (.long a1), none, some (.int a3), some (.int a4), some (.long v95), none]) (st' := [.long v100.toInt64, .long v95]) (sg := [(.i2l, 0)]) (by decide +kernel) rfl ?_
        refine Y.callL (yC.S (As := [.long v95, .long v100.toInt64]) (st := []) hV.1 cb_X_mix lk_X_263 st_X_mix (by decide +kernel) rfl rfl (Nat.le_of_ble_eq_true rfl) (by decide)) (k_X_mix hV G99 v95 v100.toInt64) h (fun v103 G102 _ h => ?_)
        exact Y.lret rfl (by decide +kernel) h
      · refine Y.blk (pc' := 65) (L' := [some (.ref a0), some (.long a1), none, some (.int a3), some (.int a4), some (.long v87), none]) (st' := [.long (lN 1), .long v87]) (sg := [(.lconst 1, 0)]) (by decide +kernel) rfl ?_
        refine Y.goto (off := 4) (tgt := 69) (by decide +kernel) (by decide) ?_
        refine Y.callL (yC.S (As := [.long v87, .long (lN 1)]) (st := []) hV.1 cb_X_mix lk_X_263 st_X_mix (by decide +kernel) rfl rfl (Nat.le_of_ble_eq_true rfl) (by decide)) (k_X_mix hV G91 v87 (lN 1)) h (fun v106 G105 _ h => ?_)
        refine Y.blk (pc' := 77) (L' := [some (.ref a0), some (.long a1), none, some (.int a3), some (.int a4), some (.long v106), none]) (st' := [.ref a0, .long v106]) (sg := [(.lstore 5, 0), (.lload 5, 0), (.aload_n 0, 0)]) (by decide +kernel) rfl ?_
        refine Y.getA fl_X_10 (by decide +kernel) h (fun v107 h => ?_)
        refine Y.blk (pc' := 83) (L' := [some (.ref a0), some (.long a1), none, some (.int a3), some (.int a4), some (.long v106), none]) (st' := [.int a4, .int a3, .ref v107, .long v106]) (sg := [(.iload_n 3, 0), (.iload 4, 0)]) (by decide +kernel) rfl ?_
        obtain ⟨o109, e108, h⟩ := gOb_inv h
        refine Y.callI (yC.Vi (b := v107) (As := [.int a3, .int a4]) (st := [.long v106]) (r := ("Partlister$Lists", T_I, 7)) hV.1 cb_I_placeOf lk_X_202 in_I_placeOf rfl se_I_placeOf (by decide +kernel) rfl rfl (Nat.le_of_ble_eq_true rfl) (by decide) e108) (k_I_placeOf hV G105 v107 a3 a4) h (fun v111 G110 _ h => ?_)
        refine Y.blk (pc' := 87) (L' := [some (.ref a0), some (.long a1), none, some (.int a3), some (.int a4), some (.long v106), none]) (st' := [.long v111.toInt64, .long v106]) (sg := [(.i2l, 0)]) (by decide +kernel) rfl ?_
        refine Y.callL (yC.S (As := [.long v106, .long v111.toInt64]) (st := []) hV.1 cb_X_mix lk_X_263 st_X_mix (by decide +kernel) rfl rfl (Nat.le_of_ble_eq_true rfl) (by decide)) (k_X_mix hV G110 v106 v111.toInt64) h (fun v114 G113 _ h => ?_)
        exact Y.lret rfl (by decide +kernel) h
    · refine Y.blk (pc' := 40) (L' := [some (.ref a0), some (.long a1), none, some (.int a3), some (.int a4), some (.long v79), none]) (st' := [.long (lN 1), .long v79]) (sg := [(.lconst 1, 0)]) (by decide +kernel) rfl ?_
      refine Y.goto (off := 4) (tgt := 44) (by decide +kernel) (by decide) ?_
      refine Y.callL (yC.S (As := [.long v79, .long (lN 1)]) (st := []) hV.1 cb_X_mix lk_X_263 st_X_mix (by decide +kernel) rfl rfl (Nat.le_of_ble_eq_true rfl) (by decide)) (k_X_mix hV G83 v79 (lN 1)) h (fun v118 G117 _ h => ?_)
      refine Y.blk (pc' := 52) (L' := [some (.ref a0), some (.long a1), none, some (.int a3), some (.int a4), some (.long v118), none]) (st' := [.ref a0, .long v118]) (sg := [(.lstore 5, 0), (.lload 5, 0), (.aload_n 0, 0)]) (by decide +kernel) rfl ?_
      refine Y.getA fl_X_10 (by decide +kernel) h (fun v119 h => ?_)
      refine Y.blk (pc' := 58) (L' := [some (.ref a0), some (.long a1), none, some (.int a3), some (.int a4), some (.long v118), none]) (st' := [.int a4, .int a3, .ref v119, .long v118]) (sg := [(.iload_n 3, 0), (.iload 4, 0)]) (by decide +kernel) rfl ?_
      obtain ⟨o121, e120, h⟩ := gOb_inv h
      refine Y.callI (yC.Vi (b := v119) (As := [.int a3, .int a4]) (st := [.long v118]) (r := ("Partlister$Lists", T_I, 7)) hV.1 cb_I_shareNoKey lk_X_196 in_I_shareNoKey rfl se_I_shareNoKey (by decide +kernel) rfl rfl (Nat.le_of_ble_eq_true rfl) (by decide) e120) (k_I_shareNoKey hV G117 v119 a3 a4) h (fun v123 G122 _ h => ?_)
      refine Y.if_eq (off := 7) (tgt := 68) (by decide +kernel) (by decide) h (fun c146 h => ?_) (fun c146 h => ?_)
      · refine Y.blk (pc' := 69) (L' := [some (.ref a0), some (.long a1), none, some (.int a3), some (.int a4), some (.long v118), none]) (st' := [.long (lN 0), .long v118]) (sg := [(.lconst 0, 0)]) (by decide +kernel) rfl ?_
        refine Y.callL (yC.S (As := [.long v118, .long (lN 0)]) (st := []) hV.1 cb_X_mix lk_X_263 st_X_mix (by decide +kernel) rfl rfl (Nat.le_of_ble_eq_true rfl) (by decide)) (k_X_mix hV G122 v118 (lN 0)) h (fun v126 G125 _ h => ?_)
        refine Y.blk (pc' := 77) (L' := [some (.ref a0), some (.long a1), none, some (.int a3), some (.int a4), some (.long v126), none]) (st' := [.ref a0, .long v126]) (sg := [(.lstore 5, 0), (.lload 5, 0), (.aload_n 0, 0)]) (by decide +kernel) rfl ?_
        refine Y.getA fl_X_10 (by decide +kernel) h (fun v127 h => ?_)
        refine Y.blk (pc' := 83) (L' := [some (.ref a0), some (.long a1), none, some (.int a3), some (.int a4), some (.long v126), none]) (st' := [.int a4, .int a3, .ref v127, .long v126]) (sg := [(.iload_n 3, 0), (.iload 4, 0)]) (by decide +kernel) rfl ?_
        obtain ⟨o129, e128, h⟩ := gOb_inv h
        refine Y.callI (yC.Vi (b := v127) (As := [.int a3, .int a4]) (st := [.long v126]) (r := ("Partlister$Lists", T_I, 7)) hV.1 cb_I_placeOf lk_X_202 in_I_placeOf rfl se_I_placeOf (by decide +kernel) rfl rfl (Nat.le_of_ble_eq_true rfl) (by decide) e128) (k_I_placeOf hV G125 v127 a3 a4) h (fun v131 G130 _ h => ?_)
        refine Y.blk (pc' := 87) (L' := [some (.ref a0), some (.long a1), none, some (.int a3), some (.int a4), some (.long v126), none]) (st' := [.long v131.toInt64, .long v126]) (sg := [(.i2l, 0)]) (by decide +kernel) rfl ?_
        refine Y.callL (yC.S (As := [.long v126, .long v131.toInt64]) (st := []) hV.1 cb_X_mix lk_X_263 st_X_mix (by decide +kernel) rfl rfl (Nat.le_of_ble_eq_true rfl) (by decide)) (k_X_mix hV G130 v126 v131.toInt64) h (fun v134 G133 _ h => ?_)
        exact Y.lret rfl (by decide +kernel) h
      · refine Y.blk (pc' := 65) (L' := [some (.ref a0), some (.long a1), none, some (.int a3), some (.int a4), some (.long v118), none]) (st' := [.long (lN 1), .long v118]) (sg := [(.lconst 1, 0)]) (by decide +kernel) rfl ?_
        refine Y.goto (off := 4) (tgt := 69) (by decide +kernel) (by decide) ?_
        refine Y.callL (yC.S (As := [.long v118, .long (lN 1)]) (st := []) hV.1 cb_X_mix lk_X_263 st_X_mix (by decide +kernel) rfl rfl (Nat.le_of_ble_eq_true rfl) (by decide)) (k_X_mix hV G122 v118 (lN 1)) h (fun v137 G136 _ h => ?_)
        refine Y.blk (pc' := 77) (L' := [some (.ref a0), some (.long a1), none, some (.int a3), some (.int a4), some (.long v137), none]) (st' := [.ref a0, .long v137]) (sg := [(.lstore 5, 0), (.lload 5, 0), (.aload_n 0, 0)]) (by decide +kernel) rfl ?_
        refine Y.getA fl_X_10 (by decide +kernel) h (fun v138 h => ?_)
        refine Y.blk (pc' := 83) (L' := [some (.ref a0), some (.long a1), none, some (.int a3), some (.int a4), some (.long v137), none]) (st' := [.int a4, .int a3, .ref v138, .long v137]) (sg := [(.iload_n 3, 0), (.iload 4, 0)]) (by decide +kernel) rfl ?_
        obtain ⟨o140, e139, h⟩ := gOb_inv h
        refine Y.callI (yC.Vi (b := v138) (As := [.int a3, .int a4]) (st := [.long v137]) (r := ("Partlister$Lists", T_I, 7)) hV.1 cb_I_placeOf lk_X_202 in_I_placeOf rfl se_I_placeOf (by decide +kernel) rfl rfl (Nat.le_of_ble_eq_true rfl) (by decide) e139) (k_I_placeOf hV G136 v138 a3 a4) h (fun v142 G141 _ h => ?_)
        refine Y.blk (pc' := 87) (L' := [some (.ref a0), some (.long a1), none, some (.int a3), some (.int a4), some (.long v137), none]) (st' := [.long v142.toInt64, .long v137]) (sg := [(.i2l, 0)]) (by decide +kernel) rfl ?_
        refine Y.callL (yC.S (As := [.long v137, .long v142.toInt64]) (st := []) hV.1 cb_X_mix lk_X_263 st_X_mix (by decide +kernel) rfl rfl (Nat.le_of_ble_eq_true rfl) (by decide)) (k_X_mix hV G141 v137 v142.toInt64) h (fun v145 G144 _ h => ?_)
        exact Y.lret rfl (by decide +kernel) h

def f_U_lastOf (G : gH) (a0 : Nat) (a1 : Int32) : gR :=
  gFA G a0 0 3 fun v1 => gOb G v1 2 fun o3 => bI (f_N_read G v1 a1) fun v5 G4 => rI v5 G4
theorem k_U_lastOf {l : Launch} {D : va_G} {B : Nat} {O : State → Heap → Prop} (hV : zG l D B O) (G : gH) (a0 : Nat) (a1 : Int32) : gMet (zVm l D B O) m_U_lastOf 2 [.ref a0, .int a1] G (f_U_lastOf G a0 a1) := by
  refine gMet.of (by decide +kernel) (Nat.le_of_ble_eq_true rfl) [some (.ref a0), some (.int a1)] (fun ls h => zEn_ok (n := 2) h) ?_
  intro o Gf h
  unfold f_U_lastOf at h
  refine Y.blk (pc' := 1) (L' := [some (.ref a0), some (.int a1)]) (st' := [.ref a0]) (sg := [(.aload_n 0, 0)]) (by decide +kernel) rfl ?_
  refine Y.getA fl_U_26 (by decide +kernel) h (fun v1 h => ?_)
  refine Y.blk (pc' := 5) (L' := [some (.ref a0), some (.int a1)]) (st' := [.int a1, .ref v1]) (sg := [(.iload_n 1, 0)]) (by decide +kernel) rfl ?_
  obtain ⟨o3, e2, h⟩ := gOb_inv h
  refine Y.callI (yC.Vi (b := v1) (As := [.int a1]) (st := []) (r := ("Partlister$Numbers", T_N, 1)) hV.1 cb_N_read lk_U_33 in_N_read rfl se_N_read (by decide +kernel) rfl rfl (Nat.le_of_ble_eq_true rfl) (by decide) e2) (k_N_read hV G v1 a1) h (fun v5 G4 _ h => ?_)
  exact Y.iret rfl (by decide +kernel) h

def f_U_nextOf (G : gH) (a0 : Nat) (a1 : Int32) : gR :=
  gFA G a0 0 2 fun v1 => gOb G v1 2 fun o3 => bI (f_N_read G v1 a1) fun v5 G4 => rI v5 G4
theorem k_U_nextOf {l : Launch} {D : va_G} {B : Nat} {O : State → Heap → Prop} (hV : zG l D B O) (G : gH) (a0 : Nat) (a1 : Int32) : gMet (zVm l D B O) m_U_nextOf 2 [.ref a0, .int a1] G (f_U_nextOf G a0 a1) := by
  refine gMet.of (by decide +kernel) (Nat.le_of_ble_eq_true rfl) [some (.ref a0), some (.int a1)] (fun ls h => zEn_ok (n := 2) h) ?_
  intro o Gf h
  unfold f_U_nextOf at h
  refine Y.blk (pc' := 1) (L' := [some (.ref a0), some (.int a1)]) (st' := [.ref a0]) (sg := [(.aload_n 0, 0)]) (by decide +kernel) rfl ?_
  refine Y.getA fl_U_23 (by decide +kernel) h (fun v1 h => ?_)
  refine Y.blk (pc' := 5) (L' := [some (.ref a0), some (.int a1)]) (st' := [.int a1, .ref v1]) (sg := [(.iload_n 1, 0)]) (by decide +kernel) rfl ?_
  obtain ⟨o3, e2, h⟩ := gOb_inv h
  refine Y.callI (yC.Vi (b := v1) (As := [.int a1]) (st := []) (r := ("Partlister$Numbers", T_N, 1)) hV.1 cb_N_read lk_U_33 in_N_read rfl se_N_read (by decide +kernel) rfl rfl (Nat.le_of_ble_eq_true rfl) (by decide) e2) (k_N_read hV G v1 a1) h (fun v5 G4 _ h => ?_)
  exact Y.iret rfl (by decide +kernel) h

def f_U_stateOf (G : gH) (a0 : Nat) (a1 : Int32) : gR :=
  gFA G a0 0 0 fun v1 => gOb G v1 2 fun o3 => bI (f_N_read G v1 a1) fun v5 G4 => rI v5 G4
theorem k_U_stateOf {l : Launch} {D : va_G} {B : Nat} {O : State → Heap → Prop} (hV : zG l D B O) (G : gH) (a0 : Nat) (a1 : Int32) : gMet (zVm l D B O) m_U_stateOf 2 [.ref a0, .int a1] G (f_U_stateOf G a0 a1) := by
  refine gMet.of (by decide +kernel) (Nat.le_of_ble_eq_true rfl) [some (.ref a0), some (.int a1)] (fun ls h => zEn_ok (n := 2) h) ?_
  intro o Gf h
  unfold f_U_stateOf at h
  refine Y.blk (pc' := 1) (L' := [some (.ref a0), some (.int a1)]) (st' := [.ref a0]) (sg := [(.aload_n 0, 0)]) (by decide +kernel) rfl ?_
  refine Y.getA fl_U_14 (by decide +kernel) h (fun v1 h => ?_)
  refine Y.blk (pc' := 5) (L' := [some (.ref a0), some (.int a1)]) (st' := [.int a1, .ref v1]) (sg := [(.iload_n 1, 0)]) (by decide +kernel) rfl ?_
  obtain ⟨o3, e2, h⟩ := gOb_inv h
  refine Y.callI (yC.Vi (b := v1) (As := [.int a1]) (st := []) (r := ("Partlister$Numbers", T_N, 1)) hV.1 cb_N_read lk_U_33 in_N_read rfl se_N_read (by decide +kernel) rfl rfl (Nat.le_of_ble_eq_true rfl) (by decide) e2) (k_N_read hV G v1 a1) h (fun v5 G4 _ h => ?_)
  exact Y.iret rfl (by decide +kernel) h

def f_X_worthOfCursor (G : gH) (a0 : Nat) (a1 : Int32) (a2 : Int32) : gR :=
  if a2 = 0 then gFA G a0 3 1 fun v1 => gOb G v1 0 fun o3 => bI (f_U_stateOf G v1 a1) fun v5 G4 => rI v5 G4
  else gFA G a0 3 1 fun v6 => gOb G v6 0 fun o8 => bI (f_U_isThere G v6 a1) fun v10 G9 => if v10 = 0 then rI (-1) G9
    else gFA G9 a0 3 1 fun v11 => gOb G9 v11 0 fun o13 => bI (f_U_listOf G9 v11 a1) fun v15 G14 => if a2 = (nI 1) then rI v15 G14
      else gFA G14 a0 3 1 fun v16 => gOb G14 v16 0 fun o18 => bI (f_U_isStale G14 v16 a1) fun v20 G19 => if v20 = 0 then (gFA G19 a0 3 1 fun v21 => gOb G19 v21 0 fun o23 => bI (f_U_nextOf G19 v21 a1) fun v25 G24 => if a2.toInt = 2 then (rI v25 G24)
          else if a2.toInt = 3 then (if v25 ≤ 0 then rI (-1) G24
            else rI (v25 - (nI 1)) G24)
          else if a2.toInt = 4 then (gFA G24 a0 3 0 fun v29 => gOb G24 v29 1 fun o31 => bI (f_I_lengthOf G24 v29 v15) fun v33 G32 => if v33 ≤ v25 then rI (nI 0) G32
            else rI (nI 1) G32)
          else if a2.toInt = 5 then (if v25 ≤ 0 then rI (nI 0) G24
            else rI (nI 1) G24)
          else gFA G24 a0 3 1 fun v38 => gOb G24 v38 0 fun o40 => bI (f_U_lastOf G24 v38 a1) fun v42 G41 => rI v42 G41)
        else rI (-1) G19
theorem k_X_worthOfCursor {l : Launch} {D : va_G} {B : Nat} {O : State → Heap → Prop} (hV : zG l D B O) (G : gH) (a0 : Nat) (a1 : Int32) (a2 : Int32) : gMet (zVm l D B O) m_X_worthOfCursor 4 [.ref a0, .int a1, .int a2] G (f_X_worthOfCursor G a0 a1 a2) := by
  refine gMet.of (by decide +kernel) (Nat.le_of_ble_eq_true rfl) [some (.ref a0), some (.int a1), some (.int a2), none, none] (fun ls h => zEn_ok (n := 5) h) ?_
  intro o Gf h
  unfold f_X_worthOfCursor at h
  refine Y.blk (pc' := 1) (L' := [some (.ref a0), some (.int a1), some (.int a2), none, none]) (st' := [.int a2]) (sg := [(.iload_n 2, 0)]) (by decide +kernel) rfl ?_
  refine Y.if_ne (off := 12) (tgt := 13) (by decide +kernel) (by decide) h (fun c46 h => ?_) (fun c46 h => ?_)
  · refine Y.blk (pc' := 5) (L' := [some (.ref a0), some (.int a1), some (.int a2), none, none]) (st' := [.ref a0]) (sg := [(.aload_n 0, 0)]) (by decide +kernel) rfl ?_
    refine Y.getA fl_X_19 (by decide +kernel) h (fun v1 h => ?_)
    refine Y.blk (pc' := 9) (L' := [some (.ref a0), some (.int a1), some (.int a2), none, none]) (st' := [.int a1, .ref v1]) (sg := [(.iload_n 1, 0)]) (by decide +kernel) rfl ?_
    obtain ⟨o3, e2, h⟩ := gOb_inv h
    refine Y.callI (yC.Vi (b := v1) (As := [.int a1]) (st := []) (r := ("Partlister$Cursors", T_U, 5)) hV.1 cb_U_stateOf lk_X_305 in_U_stateOf rfl se_U_stateOf (by decide +kernel) rfl rfl (Nat.le_of_ble_eq_true rfl) (by decide) e2) (k_U_stateOf hV G v1 a1) h (fun v5 G4 _ h => ?_)
    exact Y.iret rfl (by decide +kernel) h
  · refine Y.blk (pc' := 14) (L' := [some (.ref a0), some (.int a1), some (.int a2), none, none]) (st' := [.ref a0]) (sg := [(.aload_n 0, 0)]) (by decide +kernel) rfl ?_
    refine Y.getA fl_X_19 (by decide +kernel) h (fun v6 h => ?_)
    refine Y.blk (pc' := 18) (L' := [some (.ref a0), some (.int a1), some (.int a2), none, none]) (st' := [.int a1, .ref v6]) (sg := [(.iload_n 1, 0)]) (by decide +kernel) rfl ?_
    obtain ⟨o8, e7, h⟩ := gOb_inv h
    refine Y.callI (yC.Vi (b := v6) (As := [.int a1]) (st := []) (r := ("Partlister$Cursors", T_U, 5)) hV.1 cb_U_isThere lk_X_148 in_U_isThere rfl se_U_isThere (by decide +kernel) rfl rfl (Nat.le_of_ble_eq_true rfl) (by decide) e7) (k_U_isThere hV G v6 a1) h (fun v10 G9 _ h => ?_)
    refine Y.if_ne (off := 5) (tgt := 26) (by decide +kernel) (by decide) h (fun c45 h => ?_) (fun c45 h => ?_)
    · refine Y.blk (pc' := 25) (L' := [some (.ref a0), some (.int a1), some (.int a2), none, none]) (st' := [.int (-1)]) (sg := [(.iconst (-1), -1)]) (by decide +kernel) rfl ?_
      exact Y.iret rfl (by decide +kernel) h
    · refine Y.blk (pc' := 27) (L' := [some (.ref a0), some (.int a1), some (.int a2), none, none]) (st' := [.ref a0]) (sg := [(.aload_n 0, 0)]) (by decide +kernel) rfl ?_
      refine Y.getA fl_X_19 (by decide +kernel) h (fun v11 h => ?_)
      refine Y.blk (pc' := 31) (L' := [some (.ref a0), some (.int a1), some (.int a2), none, none]) (st' := [.int a1, .ref v11]) (sg := [(.iload_n 1, 0)]) (by decide +kernel) rfl ?_
      obtain ⟨o13, e12, h⟩ := gOb_inv h
      refine Y.callI (yC.Vi (b := v11) (As := [.int a1]) (st := []) (r := ("Partlister$Cursors", T_U, 5)) hV.1 cb_U_listOf lk_X_152 in_U_listOf rfl se_U_listOf (by decide +kernel) rfl rfl (Nat.le_of_ble_eq_true rfl) (by decide) e12) (k_U_listOf hV G9 v11 a1) h (fun v15 G14 _ h => ?_)
      refine Y.blk (pc' := 37) (L' := [some (.ref a0), some (.int a1), some (.int a2), some (.int v15), none]) (st' := [.int (nI 1), .int a2]) (sg := [(.istore_n 3, 0), (.iload_n 2, 0), (.iconst 1, nI 1)]) (by decide +kernel) rfl ?_
      refine Y.ic_ne (off := 5) (tgt := 42) (by decide +kernel) (by decide) h (fun c44 h => ?_) (fun c44 h => ?_)
      · refine Y.blk (pc' := 41) (L' := [some (.ref a0), some (.int a1), some (.int a2), some (.int v15), none]) (st' := [.int v15]) (sg := [(.iload_n 3, 0)]) (by decide +kernel) rfl ?_
        exact Y.iret rfl (by decide +kernel) h
      · refine Y.blk (pc' := 43) (L' := [some (.ref a0), some (.int a1), some (.int a2), some (.int v15), none]) (st' := [.ref a0]) (sg := [(.aload_n 0, 0)]) (by decide +kernel) rfl ?_
        refine Y.getA fl_X_19 (by decide +kernel) h (fun v16 h => ?_)
        refine Y.blk (pc' := 47) (L' := [some (.ref a0), some (.int a1), some (.int a2), some (.int v15), none]) (st' := [.int a1, .ref v16]) (sg := [(.iload_n 1, 0)]) (by decide +kernel) rfl ?_
        obtain ⟨o18, e17, h⟩ := gOb_inv h
        refine Y.callI (yC.Vi (b := v16) (As := [.int a1]) (st := []) (r := ("Partlister$Cursors", T_U, 5)) hV.1 cb_U_isStale lk_X_170 in_U_isStale rfl se_U_isStale (by decide +kernel) rfl rfl (Nat.le_of_ble_eq_true rfl) (by decide) e17) (k_U_isStale hV G14 v16 a1) h (fun v20 G19 _ h => ?_)
        refine Y.if_eq (off := 5) (tgt := 55) (by decide +kernel) (by decide) h (fun c43 h => ?_) (fun c43 h => ?_)
        · refine Y.blk (pc' := 56) (L' := [some (.ref a0), some (.int a1), some (.int a2), some (.int v15), none]) (st' := [.ref a0]) (sg := [(.aload_n 0, 0)]) (by decide +kernel) rfl ?_
          refine Y.getA fl_X_19 (by decide +kernel) h (fun v21 h => ?_)
          refine Y.blk (pc' := 60) (L' := [some (.ref a0), some (.int a1), some (.int a2), some (.int v15), none]) (st' := [.int a1, .ref v21]) (sg := [(.iload_n 1, 0)]) (by decide +kernel) rfl ?_
          obtain ⟨o23, e22, h⟩ := gOb_inv h
          refine Y.callI (yC.Vi (b := v21) (As := [.int a1]) (st := []) (r := ("Partlister$Cursors", T_U, 5)) hV.1 cb_U_nextOf lk_X_176 in_U_nextOf rfl se_U_nextOf (by decide +kernel) rfl rfl (Nat.le_of_ble_eq_true rfl) (by decide) e22) (k_U_nextOf hV G19 v21 a1) h (fun v25 G24 _ h => ?_)
          refine Y.blk (pc' := 66) (L' := [some (.ref a0), some (.int a1), some (.int a2), some (.int v15), some (.int v25)]) (st' := [.int a2]) (sg := [(.istore 4, 0), (.iload_n 2, 0)]) (by decide +kernel) rfl ?_
          refine Y.swC (j := 2) (off := 30) (tgt := 96) (dflt := 77) (lo := 2) (hi := 5) (offs := #[30, 33, 47, 66]) (len := 30) (by decide +kernel) (by decide) (by decide) (by decide) h (fun c26 h => ?_) (fun c26 h => ?_)
          · refine Y.blk (pc' := 98) (L' := [some (.ref a0), some (.int a1), some (.int a2), some (.int v15), some (.int v25)]) (st' := [.int v25]) (sg := [(.iload 4, 0)]) (by decide +kernel) rfl ?_
            exact Y.iret rfl (by decide +kernel) h
          refine Y.swC (j := 3) (off := 33) (tgt := 99) (dflt := 77) (lo := 2) (hi := 5) (offs := #[30, 33, 47, 66]) (len := 30) (by decide +kernel) (by decide) (by decide) (by decide) h (fun c28 h => ?_) (fun c28 h => ?_)
          · refine Y.blk (pc' := 101) (L' := [some (.ref a0), some (.int a1), some (.int a2), some (.int v15), some (.int v25)]) (st' := [.int v25]) (sg := [(.iload 4, 0)]) (by decide +kernel) rfl ?_
            refine Y.if_le (off := 10) (tgt := 111) (by decide +kernel) (by decide) h (fun c27 h => ?_) (fun c27 h => ?_)
            · refine Y.blk (pc' := 112) (L' := [some (.ref a0), some (.int a1), some (.int a2), some (.int v15), some (.int v25)]) (st' := [.int (-1)]) (sg := [(.iconst (-1), -1)]) (by decide +kernel) rfl ?_
              exact Y.iret rfl (by decide +kernel) h
            · refine Y.blk (pc' := 108) (L' := [some (.ref a0), some (.int a1), some (.int a2), some (.int v15), some (.int v25)]) (st' := [.int (v25 - (nI 1))]) (sg := [(.iload 4, 0), (.iconst 1, nI 1), (.isub, 0)]) (by decide +kernel) rfl ?_
              refine Y.goto (off := 4) (tgt := 112) (by decide +kernel) (by decide) ?_
              exact Y.iret rfl (by decide +kernel) h
          refine Y.swC (j := 4) (off := 47) (tgt := 113) (dflt := 77) (lo := 2) (hi := 5) (offs := #[30, 33, 47, 66]) (len := 30) (by decide +kernel) (by decide) (by decide) (by decide) h (fun c35 h => ?_) (fun c35 h => ?_)
          · refine Y.blk (pc' := 116) (L' := [some (.ref a0), some (.int a1), some (.int a2), some (.int v15), some (.int v25)]) (st' := [.ref a0, .int v25]) (sg := [(.iload 4, 0), (.aload_n 0, 0)]) (by decide +kernel) rfl ?_
            refine Y.getA fl_X_10 (by decide +kernel) h (fun v29 h => ?_)
            refine Y.blk (pc' := 120) (L' := [some (.ref a0), some (.int a1), some (.int a2), some (.int v15), some (.int v25)]) (st' := [.int v15, .ref v29, .int v25]) (sg := [(.iload_n 3, 0)]) (by decide +kernel) rfl ?_
            obtain ⟨o31, e30, h⟩ := gOb_inv h
            refine Y.callI (yC.Vi (b := v29) (As := [.int v15]) (st := [.int v25]) (r := ("Partlister$Lists", T_I, 7)) hV.1 cb_I_lengthOf lk_X_34 in_I_lengthOf rfl se_I_lengthOf (by decide +kernel) rfl rfl (Nat.le_of_ble_eq_true rfl) (by decide) e30) (k_I_lengthOf hV G24 v29 v15) h (fun v33 G32 _ h => ?_)
            refine Y.ic_ge (off := 7) (tgt := 130) (by decide +kernel) (by decide) h (fun c34 h => ?_) (fun c34 h => ?_)
            · refine Y.blk (pc' := 131) (L' := [some (.ref a0), some (.int a1), some (.int a2), some (.int v15), some (.int v25)]) (st' := [.int (nI 0)]) (sg := [(.iconst 0, nI 0)]) (by decide +kernel) rfl ?_
              exact Y.iret rfl (by decide +kernel) h
            · refine Y.blk (pc' := 127) (L' := [some (.ref a0), some (.int a1), some (.int a2), some (.int v15), some (.int v25)]) (st' := [.int (nI 1)]) (sg := [(.iconst 1, nI 1)]) (by decide +kernel) rfl ?_
              refine Y.goto (off := 4) (tgt := 131) (by decide +kernel) (by decide) ?_
              exact Y.iret rfl (by decide +kernel) h
          refine Y.swC (j := 5) (off := 66) (tgt := 132) (dflt := 77) (lo := 2) (hi := 5) (offs := #[30, 33, 47, 66]) (len := 30) (by decide +kernel) (by decide) (by decide) (by decide) h (fun c37 h => ?_) (fun c37 h => ?_)
          · refine Y.blk (pc' := 134) (L' := [some (.ref a0), some (.int a1), some (.int a2), some (.int v15), some (.int v25)]) (st' := [.int v25]) (sg := [(.iload 4, 0)]) (by decide +kernel) rfl ?_
            refine Y.if_le (off := 7) (tgt := 141) (by decide +kernel) (by decide) h (fun c36 h => ?_) (fun c36 h => ?_)
            · refine Y.blk (pc' := 142) (L' := [some (.ref a0), some (.int a1), some (.int a2), some (.int v15), some (.int v25)]) (st' := [.int (nI 0)]) (sg := [(.iconst 0, nI 0)]) (by decide +kernel) rfl ?_
              exact Y.iret rfl (by decide +kernel) h
            · refine Y.blk (pc' := 138) (L' := [some (.ref a0), some (.int a1), some (.int a2), some (.int v15), some (.int v25)]) (st' := [.int (nI 1)]) (sg := [(.iconst 1, nI 1)]) (by decide +kernel) rfl ?_
              refine Y.goto (off := 4) (tgt := 142) (by decide +kernel) (by decide) ?_
              exact Y.iret rfl (by decide +kernel) h
          refine Y.swOut (dflt := 77) (lo := 2) (hi := 5) (offs := #[30, 33, 47, 66]) (len := 30) (tgt := 143) (by decide +kernel) (by omega) (by decide) ?_
          refine Y.blk (pc' := 144) (L' := [some (.ref a0), some (.int a1), some (.int a2), some (.int v15), some (.int v25)]) (st' := [.ref a0]) (sg := [(.aload_n 0, 0)]) (by decide +kernel) rfl ?_
          refine Y.getA fl_X_19 (by decide +kernel) h (fun v38 h => ?_)
          refine Y.blk (pc' := 148) (L' := [some (.ref a0), some (.int a1), some (.int a2), some (.int v15), some (.int v25)]) (st' := [.int a1, .ref v38]) (sg := [(.iload_n 1, 0)]) (by decide +kernel) rfl ?_
          obtain ⟨o40, e39, h⟩ := gOb_inv h
          refine Y.callI (yC.Vi (b := v38) (As := [.int a1]) (st := []) (r := ("Partlister$Cursors", T_U, 5)) hV.1 cb_U_lastOf lk_X_182 in_U_lastOf rfl se_U_lastOf (by decide +kernel) rfl rfl (Nat.le_of_ble_eq_true rfl) (by decide) e39) (k_U_lastOf hV G24 v38 a1) h (fun v42 G41 _ h => ?_)
          exact Y.iret rfl (by decide +kernel) h
        · refine Y.blk (pc' := 54) (L' := [some (.ref a0), some (.int a1), some (.int a2), some (.int v15), none]) (st' := [.int (-1)]) (sg := [(.iconst (-1), -1)]) (by decide +kernel) rfl ?_
          exact Y.iret rfl (by decide +kernel) h

def f_U_countEnded (G : gH) (a0 : Nat) : gR :=
  gFI G a0 0 4 fun v1 => rI v1 G
theorem k_U_countEnded {l : Launch} {D : va_G} {B : Nat} {O : State → Heap → Prop} (hV : zG l D B O) (G : gH) (a0 : Nat) : gMet (zVm l D B O) m_U_countEnded 1 [.ref a0] G (f_U_countEnded G a0) := by
  refine gMet.of (by decide +kernel) (Nat.le_of_ble_eq_true rfl) [some (.ref a0)] (fun ls h => zEn_ok (n := 1) h) ?_
  intro o Gf h
  unfold f_U_countEnded at h
  refine Y.blk (pc' := 1) (L' := [some (.ref a0)]) (st' := [.ref a0]) (sg := [(.aload_n 0, 0)]) (by decide +kernel) rfl ?_
  refine Y.getI fl_U_54 (by decide +kernel) h (fun v1 h => ?_)
  exact Y.iret rfl (by decide +kernel) h

def f_U_countStale_L4 (K26 : gH → Int32 → gR) : Nat → gH → Nat → Int32 → Int32 → gR
  | 0, _, _, _, _ => none
  | n + 1, G, x0, x1, x2 =>
    if (nI 3) ≤ x2 then K26 G x1
    else gOb G x0 0 fun o2 => bI (f_U_isStale G x0 x2) fun v4 G3 => if v4 = 0 then f_U_countStale_L4 K26 n G3 x0 x1 (x2 + (nI 1))
      else f_U_countStale_L4 K26 n G3 x0 (x1 + (nI 1)) (x2 + (nI 1))
def f_U_countStale (G : gH) (a0 : Nat) : gR :=
  f_U_countStale_L4 (fun G8 x7 => rI x7 G8) zFu G a0 (nI 0) (nI 0)
theorem k_U_countStale_L4 {l : Launch} {D : va_G} {B : Nat} {O : State → Heap → Prop} (hV : zG l D B O) {o : gO} {Gf : gH} (K26 : gH → Int32 → gR) (hK26 : ∀ (G : gH) (x1 : Int32), K26 G x1 = some (o, Gf) → Y (zVm l D B O) m_U_countStale 3 o Gf 26 [none, some (.int x1), none] [] G) : ∀ (n : Nat) (G : gH) (x0 : Nat) (x1 : Int32) (x2 : Int32), f_U_countStale_L4 K26 n G x0 x1 x2 = some (o, Gf) → Y (zVm l D B O) m_U_countStale 3 o Gf 4 [some (.ref x0), some (.int x1), some (.int x2)] [] G := by
  intro n
  induction n with
  | zero => intro G x0 x1 x2 h; cases h
  | succ n ih =>
    intro G x0 x1 x2 h
    unfold f_U_countStale_L4 at h
    refine Y.blk (pc' := 6) (L' := [some (.ref x0), some (.int x1), some (.int x2)]) (st' := [.int (nI 3), .int x2]) (sg := [(.iload_n 2, 0), (.iconst 3, nI 3)]) (by decide +kernel) rfl ?_
    refine Y.ic_ge (off := 20) (tgt := 26) (by decide +kernel) (by decide) h (fun c6 h => ?_) (fun c6 h => ?_)
    · refine Y.less (L' := [none, some (.int x1), none]) (zLe_none (zLe_some (zLe_none (zLe_nil)))) ?_
      exact hK26 G x1 h
    · refine Y.blk (pc' := 11) (L' := [some (.ref x0), some (.int x1), some (.int x2)]) (st' := [.int x2, .ref x0]) (sg := [(.aload_n 0, 0), (.iload_n 2, 0)]) (by decide +kernel) rfl ?_
      obtain ⟨o2, e1, h⟩ := gOb_inv h
      refine Y.callI (yC.Vi (b := x0) (As := [.int x2]) (st := []) (r := ("Partlister$Cursors", T_U, 5)) hV.1 cb_U_isStale lk_U_29 in_U_isStale rfl se_U_isStale (by decide +kernel) rfl rfl (Nat.le_of_ble_eq_true rfl) (by decide) e1) (k_U_isStale hV G x0 x2) h (fun v4 G3 _ h => ?_)
      refine Y.if_eq (off := 6) (tgt := 20) (by decide +kernel) (by decide) h (fun c5 h => ?_) (fun c5 h => ?_)
      · refine Y.blk (pc' := 23) (L' := [some (.ref x0), some (.int x1), some (.int (x2 + (nI 1)))]) (st' := []) (sg := [(.iinc 2 1, nI 1)]) (by decide +kernel) rfl ?_
        refine Y.goto (off := -19) (tgt := 4) (by decide +kernel) (by decide) ?_
        exact ih G3 x0 x1 (x2 + (nI 1)) h
      · refine Y.blk (pc' := 23) (L' := [some (.ref x0), some (.int (x1 + (nI 1))), some (.int (x2 + (nI 1)))]) (st' := []) (sg := [(.iinc 1 1, nI 1), (.iinc 2 1, nI 1)]) (by decide +kernel) rfl ?_
        refine Y.goto (off := -19) (tgt := 4) (by decide +kernel) (by decide) ?_
        exact ih G3 x0 (x1 + (nI 1)) (x2 + (nI 1)) h
theorem k_U_countStale {l : Launch} {D : va_G} {B : Nat} {O : State → Heap → Prop} (hV : zG l D B O) (G : gH) (a0 : Nat) : gMet (zVm l D B O) m_U_countStale 3 [.ref a0] G (f_U_countStale G a0) := by
  refine gMet.of (by decide +kernel) (Nat.le_of_ble_eq_true rfl) [some (.ref a0), none, none] (fun ls h => zEn_ok (n := 3) h) ?_
  intro o Gf h
  unfold f_U_countStale at h
  refine Y.blk (pc' := 4) (L' := [some (.ref a0), some (.int (nI 0)), some (.int (nI 0))]) (st' := []) (sg := [(.iconst 0, nI 0), (.istore_n 1, 0), (.iconst 0, nI 0), (.istore_n 2, 0)]) (by decide +kernel) rfl ?_
  refine k_U_countStale_L4 hV _ ?_  zFu G a0 (nI 0) (nI 0) h
  · intro G8 x7 h
    refine Y.blk (pc' := 27) (L' := [none, some (.int x7), none]) (st' := [.int x7]) (sg := [(.iload_n 1, 0)]) (by decide +kernel) rfl ?_
    exact Y.iret rfl (by decide +kernel) h

def f_U_countThere_L4 (K26 : gH → Int32 → gR) : Nat → gH → Nat → Int32 → Int32 → gR
  | 0, _, _, _, _ => none
  | n + 1, G, x0, x1, x2 =>
    if (nI 3) ≤ x2 then K26 G x1
    else gOb G x0 0 fun o2 => bI (f_U_isThere G x0 x2) fun v4 G3 => if v4 = 0 then f_U_countThere_L4 K26 n G3 x0 x1 (x2 + (nI 1))
      else f_U_countThere_L4 K26 n G3 x0 (x1 + (nI 1)) (x2 + (nI 1))
def f_U_countThere (G : gH) (a0 : Nat) : gR :=
  f_U_countThere_L4 (fun G8 x7 => rI x7 G8) zFu G a0 (nI 0) (nI 0)
theorem k_U_countThere_L4 {l : Launch} {D : va_G} {B : Nat} {O : State → Heap → Prop} (hV : zG l D B O) {o : gO} {Gf : gH} (K26 : gH → Int32 → gR) (hK26 : ∀ (G : gH) (x1 : Int32), K26 G x1 = some (o, Gf) → Y (zVm l D B O) m_U_countThere 4 o Gf 26 [none, some (.int x1), none] [] G) : ∀ (n : Nat) (G : gH) (x0 : Nat) (x1 : Int32) (x2 : Int32), f_U_countThere_L4 K26 n G x0 x1 x2 = some (o, Gf) → Y (zVm l D B O) m_U_countThere 4 o Gf 4 [some (.ref x0), some (.int x1), some (.int x2)] [] G := by
  intro n
  induction n with
  | zero => intro G x0 x1 x2 h; cases h
  | succ n ih =>
    intro G x0 x1 x2 h
    unfold f_U_countThere_L4 at h
    refine Y.blk (pc' := 6) (L' := [some (.ref x0), some (.int x1), some (.int x2)]) (st' := [.int (nI 3), .int x2]) (sg := [(.iload_n 2, 0), (.iconst 3, nI 3)]) (by decide +kernel) rfl ?_
    refine Y.ic_ge (off := 20) (tgt := 26) (by decide +kernel) (by decide) h (fun c6 h => ?_) (fun c6 h => ?_)
    · refine Y.less (L' := [none, some (.int x1), none]) (zLe_none (zLe_some (zLe_none (zLe_nil)))) ?_
      exact hK26 G x1 h
    · refine Y.blk (pc' := 11) (L' := [some (.ref x0), some (.int x1), some (.int x2)]) (st' := [.int x2, .ref x0]) (sg := [(.aload_n 0, 0), (.iload_n 2, 0)]) (by decide +kernel) rfl ?_
      obtain ⟨o2, e1, h⟩ := gOb_inv h
      refine Y.callI (yC.Vi (b := x0) (As := [.int x2]) (st := []) (r := ("Partlister$Cursors", T_U, 5)) hV.1 cb_U_isThere lk_U_37 in_U_isThere rfl se_U_isThere (by decide +kernel) rfl rfl (Nat.le_of_ble_eq_true rfl) (by decide) e1) (k_U_isThere hV G x0 x2) h (fun v4 G3 _ h => ?_)
      refine Y.if_eq (off := 6) (tgt := 20) (by decide +kernel) (by decide) h (fun c5 h => ?_) (fun c5 h => ?_)
      · refine Y.blk (pc' := 23) (L' := [some (.ref x0), some (.int x1), some (.int (x2 + (nI 1)))]) (st' := []) (sg := [(.iinc 2 1, nI 1)]) (by decide +kernel) rfl ?_
        refine Y.goto (off := -19) (tgt := 4) (by decide +kernel) (by decide) ?_
        exact ih G3 x0 x1 (x2 + (nI 1)) h
      · refine Y.blk (pc' := 23) (L' := [some (.ref x0), some (.int (x1 + (nI 1))), some (.int (x2 + (nI 1)))]) (st' := []) (sg := [(.iinc 1 1, nI 1), (.iinc 2 1, nI 1)]) (by decide +kernel) rfl ?_
        refine Y.goto (off := -19) (tgt := 4) (by decide +kernel) (by decide) ?_
        exact ih G3 x0 (x1 + (nI 1)) (x2 + (nI 1)) h
theorem k_U_countThere {l : Launch} {D : va_G} {B : Nat} {O : State → Heap → Prop} (hV : zG l D B O) (G : gH) (a0 : Nat) : gMet (zVm l D B O) m_U_countThere 4 [.ref a0] G (f_U_countThere G a0) := by
  refine gMet.of (by decide +kernel) (Nat.le_of_ble_eq_true rfl) [some (.ref a0), none, none] (fun ls h => zEn_ok (n := 3) h) ?_
  intro o Gf h
  unfold f_U_countThere at h
  refine Y.blk (pc' := 4) (L' := [some (.ref a0), some (.int (nI 0)), some (.int (nI 0))]) (st' := []) (sg := [(.iconst 0, nI 0), (.istore_n 1, 0), (.iconst 0, nI 0), (.istore_n 2, 0)]) (by decide +kernel) rfl ?_
  refine k_U_countThere_L4 hV _ ?_  zFu G a0 (nI 0) (nI 0) h
  · intro G8 x7 h
    refine Y.blk (pc' := 27) (L' := [none, some (.int x7), none]) (st' := [.int x7]) (sg := [(.iload_n 1, 0)]) (by decide +kernel) rfl ?_
    exact Y.iret rfl (by decide +kernel) h

def f_I_countEnded (G : gH) (a0 : Nat) : gR :=
  gFI G a0 1 6 fun v1 => rI v1 G
theorem k_I_countEnded {l : Launch} {D : va_G} {B : Nat} {O : State → Heap → Prop} (hV : zG l D B O) (G : gH) (a0 : Nat) : gMet (zVm l D B O) m_I_countEnded 1 [.ref a0] G (f_I_countEnded G a0) := by
  refine gMet.of (by decide +kernel) (Nat.le_of_ble_eq_true rfl) [some (.ref a0)] (fun ls h => zEn_ok (n := 1) h) ?_
  intro o Gf h
  unfold f_I_countEnded at h
  refine Y.blk (pc' := 1) (L' := [some (.ref a0)]) (st' := [.ref a0]) (sg := [(.aload_n 0, 0)]) (by decide +kernel) rfl ?_
  refine Y.getI fl_I_97 (by decide +kernel) h (fun v1 h => ?_)
  exact Y.iret rfl (by decide +kernel) h

def f_I_countParts_L4 (K27 : gH → Int32 → gR) : Nat → gH → Nat → Int32 → Int32 → gR
  | 0, _, _, _, _ => none
  | n + 1, G, x0, x1, x2 =>
    if (nI 6) ≤ x2 then K27 G x1
    else gOb G x0 1 fun o2 => bI (f_I_isThere G x0 x2) fun v4 G3 => if v4 = 0 then f_I_countParts_L4 K27 n G3 x0 x1 (x2 + (nI 1))
      else f_I_countParts_L4 K27 n G3 x0 (x1 + (nI 1)) (x2 + (nI 1))
def f_I_countParts (G : gH) (a0 : Nat) : gR :=
  f_I_countParts_L4 (fun G8 x7 => rI x7 G8) zFu G a0 (nI 0) (nI 2)
theorem k_I_countParts_L4 {l : Launch} {D : va_G} {B : Nat} {O : State → Heap → Prop} (hV : zG l D B O) {o : gO} {Gf : gH} (K27 : gH → Int32 → gR) (hK27 : ∀ (G : gH) (x1 : Int32), K27 G x1 = some (o, Gf) → Y (zVm l D B O) m_I_countParts 3 o Gf 27 [none, some (.int x1), none] [] G) : ∀ (n : Nat) (G : gH) (x0 : Nat) (x1 : Int32) (x2 : Int32), f_I_countParts_L4 K27 n G x0 x1 x2 = some (o, Gf) → Y (zVm l D B O) m_I_countParts 3 o Gf 4 [some (.ref x0), some (.int x1), some (.int x2)] [] G := by
  intro n
  induction n with
  | zero => intro G x0 x1 x2 h; cases h
  | succ n ih =>
    intro G x0 x1 x2 h
    unfold f_I_countParts_L4 at h
    refine Y.blk (pc' := 7) (L' := [some (.ref x0), some (.int x1), some (.int x2)]) (st' := [.int (nI 6), .int x2]) (sg := [(.iload_n 2, 0), (.bipush 6, nI 6)]) (by decide +kernel) rfl ?_
    refine Y.ic_ge (off := 20) (tgt := 27) (by decide +kernel) (by decide) h (fun c6 h => ?_) (fun c6 h => ?_)
    · refine Y.less (L' := [none, some (.int x1), none]) (zLe_none (zLe_some (zLe_none (zLe_nil)))) ?_
      exact hK27 G x1 h
    · refine Y.blk (pc' := 12) (L' := [some (.ref x0), some (.int x1), some (.int x2)]) (st' := [.int x2, .ref x0]) (sg := [(.aload_n 0, 0), (.iload_n 2, 0)]) (by decide +kernel) rfl ?_
      obtain ⟨o2, e1, h⟩ := gOb_inv h
      refine Y.callI (yC.Vi (b := x0) (As := [.int x2]) (st := []) (r := ("Partlister$Lists", T_I, 7)) hV.1 cb_I_isThere lk_I_86 in_I_isThere rfl se_I_isThere (by decide +kernel) rfl rfl (Nat.le_of_ble_eq_true rfl) (by decide) e1) (k_I_isThere hV G x0 x2) h (fun v4 G3 _ h => ?_)
      refine Y.if_eq (off := 6) (tgt := 21) (by decide +kernel) (by decide) h (fun c5 h => ?_) (fun c5 h => ?_)
      · refine Y.blk (pc' := 24) (L' := [some (.ref x0), some (.int x1), some (.int (x2 + (nI 1)))]) (st' := []) (sg := [(.iinc 2 1, nI 1)]) (by decide +kernel) rfl ?_
        refine Y.goto (off := -20) (tgt := 4) (by decide +kernel) (by decide) ?_
        exact ih G3 x0 x1 (x2 + (nI 1)) h
      · refine Y.blk (pc' := 24) (L' := [some (.ref x0), some (.int (x1 + (nI 1))), some (.int (x2 + (nI 1)))]) (st' := []) (sg := [(.iinc 1 1, nI 1), (.iinc 2 1, nI 1)]) (by decide +kernel) rfl ?_
        refine Y.goto (off := -20) (tgt := 4) (by decide +kernel) (by decide) ?_
        exact ih G3 x0 (x1 + (nI 1)) (x2 + (nI 1)) h
theorem k_I_countParts {l : Launch} {D : va_G} {B : Nat} {O : State → Heap → Prop} (hV : zG l D B O) (G : gH) (a0 : Nat) : gMet (zVm l D B O) m_I_countParts 3 [.ref a0] G (f_I_countParts G a0) := by
  refine gMet.of (by decide +kernel) (Nat.le_of_ble_eq_true rfl) [some (.ref a0), none, none] (fun ls h => zEn_ok (n := 3) h) ?_
  intro o Gf h
  unfold f_I_countParts at h
  refine Y.blk (pc' := 4) (L' := [some (.ref a0), some (.int (nI 0)), some (.int (nI 2))]) (st' := []) (sg := [(.iconst 0, nI 0), (.istore_n 1, 0), (.iconst 2, nI 2), (.istore_n 2, 0)]) (by decide +kernel) rfl ?_
  refine k_I_countParts_L4 hV _ ?_  zFu G a0 (nI 0) (nI 2) h
  · intro G8 x7 h
    refine Y.blk (pc' := 28) (L' := [none, some (.int x7), none]) (st' := [.int x7]) (sg := [(.iload_n 1, 0)]) (by decide +kernel) rfl ?_
    exact Y.iret rfl (by decide +kernel) h

def f_X_worthOfHouse (G : gH) (a0 : Nat) (a1 : Int32) : gR :=
  if a1.toInt = 0 then (gFI G a0 3 2 fun v1 => rI v1 G)
  else if a1.toInt = 1 then (gFA G a0 3 0 fun v3 => gOb G v3 1 fun o5 => bI (f_I_countParts G v3) fun v7 G6 => rI v7 G6)
  else if a1.toInt = 2 then (gFA G a0 3 1 fun v9 => gOb G v9 0 fun o11 => bI (f_U_countThere G v9) fun v13 G12 => rI v13 G12)
  else if a1.toInt = 3 then (gFA G a0 3 1 fun v15 => gOb G v15 0 fun o17 => bI (f_U_countStale G v15) fun v19 G18 => rI v19 G18)
  else if a1.toInt = 4 then (gFA G a0 3 0 fun v21 => gOb G v21 1 fun o23 => bI (f_I_countEnded G v21) fun v25 G24 => rI v25 G24)
  else if a1.toInt = 5 then (gFA G a0 3 1 fun v27 => gOb G v27 0 fun o29 => bI (f_U_countEnded G v27) fun v31 G30 => rI v31 G30)
  else if a1.toInt = 6 then (gFI G a0 3 3 fun v33 => rI v33 G)
  else gFI G a0 3 4 fun v35 => rI v35 G
theorem k_X_worthOfHouse {l : Launch} {D : va_G} {B : Nat} {O : State → Heap → Prop} (hV : zG l D B O) (G : gH) (a0 : Nat) (a1 : Int32) : gMet (zVm l D B O) m_X_worthOfHouse 5 [.ref a0, .int a1] G (f_X_worthOfHouse G a0 a1) := by
  refine gMet.of (by decide +kernel) (Nat.le_of_ble_eq_true rfl) [some (.ref a0), some (.int a1)] (fun ls h => zEn_ok (n := 2) h) ?_
  intro o Gf h
  unfold f_X_worthOfHouse at h
  refine Y.blk (pc' := 1) (L' := [some (.ref a0), some (.int a1)]) (st' := [.int a1]) (sg := [(.iload_n 1, 0)]) (by decide +kernel) rfl ?_
  refine Y.swC (j := 0) (off := 43) (tgt := 44) (dflt := 93) (lo := 0) (hi := 6) (offs := #[43, 48, 56, 64, 72, 80, 88]) (len := 43) (by decide +kernel) (by decide) (by decide) (by decide) h (fun c2 h => ?_) (fun c2 h => ?_)
  · refine Y.blk (pc' := 45) (L' := [some (.ref a0), some (.int a1)]) (st' := [.ref a0]) (sg := [(.aload_n 0, 0)]) (by decide +kernel) rfl ?_
    refine Y.getI fl_X_275 (by decide +kernel) h (fun v1 h => ?_)
    exact Y.iret rfl (by decide +kernel) h
  refine Y.swC (j := 1) (off := 48) (tgt := 49) (dflt := 93) (lo := 0) (hi := 6) (offs := #[43, 48, 56, 64, 72, 80, 88]) (len := 43) (by decide +kernel) (by decide) (by decide) (by decide) h (fun c8 h => ?_) (fun c8 h => ?_)
  · refine Y.blk (pc' := 50) (L' := [some (.ref a0), some (.int a1)]) (st' := [.ref a0]) (sg := [(.aload_n 0, 0)]) (by decide +kernel) rfl ?_
    refine Y.getA fl_X_10 (by decide +kernel) h (fun v3 h => ?_)
    obtain ⟨o5, e4, h⟩ := gOb_inv h
    refine Y.callI (yC.Vi (b := v3) (As := []) (st := []) (r := ("Partlister$Lists", T_I, 7)) hV.1 cb_I_countParts lk_X_308 in_I_countParts rfl se_I_countParts (by decide +kernel) rfl rfl (Nat.le_of_ble_eq_true rfl) (by decide) e4) (k_I_countParts hV G v3) h (fun v7 G6 _ h => ?_)
    exact Y.iret rfl (by decide +kernel) h
  refine Y.swC (j := 2) (off := 56) (tgt := 57) (dflt := 93) (lo := 0) (hi := 6) (offs := #[43, 48, 56, 64, 72, 80, 88]) (len := 43) (by decide +kernel) (by decide) (by decide) (by decide) h (fun c14 h => ?_) (fun c14 h => ?_)
  · refine Y.blk (pc' := 58) (L' := [some (.ref a0), some (.int a1)]) (st' := [.ref a0]) (sg := [(.aload_n 0, 0)]) (by decide +kernel) rfl ?_
    refine Y.getA fl_X_19 (by decide +kernel) h (fun v9 h => ?_)
    obtain ⟨o11, e10, h⟩ := gOb_inv h
    refine Y.callI (yC.Vi (b := v9) (As := []) (st := []) (r := ("Partlister$Cursors", T_U, 5)) hV.1 cb_U_countThere lk_X_311 in_U_countThere rfl se_U_countThere (by decide +kernel) rfl rfl (Nat.le_of_ble_eq_true rfl) (by decide) e10) (k_U_countThere hV G v9) h (fun v13 G12 _ h => ?_)
    exact Y.iret rfl (by decide +kernel) h
  refine Y.swC (j := 3) (off := 64) (tgt := 65) (dflt := 93) (lo := 0) (hi := 6) (offs := #[43, 48, 56, 64, 72, 80, 88]) (len := 43) (by decide +kernel) (by decide) (by decide) (by decide) h (fun c20 h => ?_) (fun c20 h => ?_)
  · refine Y.blk (pc' := 66) (L' := [some (.ref a0), some (.int a1)]) (st' := [.ref a0]) (sg := [(.aload_n 0, 0)]) (by decide +kernel) rfl ?_
    refine Y.getA fl_X_19 (by decide +kernel) h (fun v15 h => ?_)
    obtain ⟨o17, e16, h⟩ := gOb_inv h
    refine Y.callI (yC.Vi (b := v15) (As := []) (st := []) (r := ("Partlister$Cursors", T_U, 5)) hV.1 cb_U_countStale lk_X_314 in_U_countStale rfl se_U_countStale (by decide +kernel) rfl rfl (Nat.le_of_ble_eq_true rfl) (by decide) e16) (k_U_countStale hV G v15) h (fun v19 G18 _ h => ?_)
    exact Y.iret rfl (by decide +kernel) h
  refine Y.swC (j := 4) (off := 72) (tgt := 73) (dflt := 93) (lo := 0) (hi := 6) (offs := #[43, 48, 56, 64, 72, 80, 88]) (len := 43) (by decide +kernel) (by decide) (by decide) (by decide) h (fun c26 h => ?_) (fun c26 h => ?_)
  · refine Y.blk (pc' := 74) (L' := [some (.ref a0), some (.int a1)]) (st' := [.ref a0]) (sg := [(.aload_n 0, 0)]) (by decide +kernel) rfl ?_
    refine Y.getA fl_X_10 (by decide +kernel) h (fun v21 h => ?_)
    obtain ⟨o23, e22, h⟩ := gOb_inv h
    refine Y.callI (yC.Vi (b := v21) (As := []) (st := []) (r := ("Partlister$Lists", T_I, 7)) hV.1 cb_I_countEnded lk_X_317 in_I_countEnded rfl se_I_countEnded (by decide +kernel) rfl rfl (Nat.le_of_ble_eq_true rfl) (by decide) e22) (k_I_countEnded hV G v21) h (fun v25 G24 _ h => ?_)
    exact Y.iret rfl (by decide +kernel) h
  refine Y.swC (j := 5) (off := 80) (tgt := 81) (dflt := 93) (lo := 0) (hi := 6) (offs := #[43, 48, 56, 64, 72, 80, 88]) (len := 43) (by decide +kernel) (by decide) (by decide) (by decide) h (fun c32 h => ?_) (fun c32 h => ?_)
  · refine Y.blk (pc' := 82) (L' := [some (.ref a0), some (.int a1)]) (st' := [.ref a0]) (sg := [(.aload_n 0, 0)]) (by decide +kernel) rfl ?_
    refine Y.getA fl_X_19 (by decide +kernel) h (fun v27 h => ?_)
    obtain ⟨o29, e28, h⟩ := gOb_inv h
    refine Y.callI (yC.Vi (b := v27) (As := []) (st := []) (r := ("Partlister$Cursors", T_U, 5)) hV.1 cb_U_countEnded lk_X_320 in_U_countEnded rfl se_U_countEnded (by decide +kernel) rfl rfl (Nat.le_of_ble_eq_true rfl) (by decide) e28) (k_U_countEnded hV G v27) h (fun v31 G30 _ h => ?_)
    exact Y.iret rfl (by decide +kernel) h
  refine Y.swC (j := 6) (off := 88) (tgt := 89) (dflt := 93) (lo := 0) (hi := 6) (offs := #[43, 48, 56, 64, 72, 80, 88]) (len := 43) (by decide +kernel) (by decide) (by decide) (by decide) h (fun c34 h => ?_) (fun c34 h => ?_)
  · refine Y.blk (pc' := 90) (L' := [some (.ref a0), some (.int a1)]) (st' := [.ref a0]) (sg := [(.aload_n 0, 0)]) (by decide +kernel) rfl ?_
    refine Y.getI fl_X_302 (by decide +kernel) h (fun v33 h => ?_)
    exact Y.iret rfl (by decide +kernel) h
  refine Y.swOut (dflt := 93) (lo := 0) (hi := 6) (offs := #[43, 48, 56, 64, 72, 80, 88]) (len := 43) (tgt := 94) (by decide +kernel) (by omega) (by decide) ?_
  refine Y.blk (pc' := 95) (L' := [some (.ref a0), some (.int a1)]) (st' := [.ref a0]) (sg := [(.aload_n 0, 0)]) (by decide +kernel) rfl ?_
  refine Y.getI fl_X_257 (by decide +kernel) h (fun v35 h => ?_)
  exact Y.iret rfl (by decide +kernel) h
