def f_X_mixPair (G : gH) (a0 : Nat) (a1 : Int64) (a3 : Int32) (a4 : Int32) : gR :=
  gFA G a0 3 0 fun v1 => gOb G v1 1 fun o3 => bI (f_I_matchWholly G v1 a3 a4) fun v6 G5 => if v6 = 0 then (bL (f_X_mix G5 a1 (lN 0)) fun v9 G8 => gFA G8 a0 3 0 fun v10 => gOb G8 v10 1 fun o12 => bI (f_I_holdsKeys G8 v10 a3 a4) fun v15 G14 => if v15 = 0 then (bL (f_X_mix G14 v9 (lN 0)) fun v18 G17 => gFA G17 a0 3 0 fun v19 => gOb G17 v19 1 fun o21 => bI (f_I_shareNoKey G17 v19 a3 a4) fun v24 G23 => if v24 = 0 then bL (f_X_mix G23 v18 (lN 0)) fun v27 G26 => gFA G26 a0 3 0 fun v28 => gOb G26 v28 1 fun o30 => bI (f_I_placeOf G26 v28 a3 a4) fun v33 G32 => bL (f_X_mix G32 v27 v33.toInt64) fun v36 G35 => rL v36 G35
      else bL (f_X_mix G23 v18 (lN 1)) fun v39 G38 => gFA G38 a0 3 0 fun v40 => gOb G38 v40 1 fun o42 => bI (f_I_placeOf G38 v40 a3 a4) fun v45 G44 => bL (f_X_mix G44 v39 v45.toInt64) fun v48 G47 => rL v48 G47)
    else bL (f_X_mix G14 v9 (lN 1)) fun v52 G51 => gFA G51 a0 3 0 fun v53 => gOb G51 v53 1 fun o55 => bI (f_I_shareNoKey G51 v53 a3 a4) fun v58 G57 => if v58 = 0 then bL (f_X_mix G57 v52 (lN 0)) fun v61 G60 => gFA G60 a0 3 0 fun v62 => gOb G60 v62 1 fun o64 => bI (f_I_placeOf G60 v62 a3 a4) fun v67 G66 => bL (f_X_mix G66 v61 v67.toInt64) fun v70 G69 => rL v70 G69
      else bL (f_X_mix G57 v52 (lN 1)) fun v73 G72 => gFA G72 a0 3 0 fun v74 => gOb G72 v74 1 fun o76 => bI (f_I_placeOf G72 v74 a3 a4) fun v79 G78 => bL (f_X_mix G78 v73 v79.toInt64) fun v82 G81 => rL v82 G81)
  else bL (f_X_mix G5 a1 (lN 1)) fun v87 G86 => gFA G86 a0 3 0 fun v88 => gOb G86 v88 1 fun o90 => bI (f_I_holdsKeys G86 v88 a3 a4) fun v93 G92 => if v93 = 0 then (bL (f_X_mix G92 v87 (lN 0)) fun v96 G95 => gFA G95 a0 3 0 fun v97 => gOb G95 v97 1 fun o99 => bI (f_I_shareNoKey G95 v97 a3 a4) fun v102 G101 => if v102 = 0 then bL (f_X_mix G101 v96 (lN 0)) fun v105 G104 => gFA G104 a0 3 0 fun v106 => gOb G104 v106 1 fun o108 => bI (f_I_placeOf G104 v106 a3 a4) fun v111 G110 => bL (f_X_mix G110 v105 v111.toInt64) fun v114 G113 => rL v114 G113
      else bL (f_X_mix G101 v96 (lN 1)) fun v117 G116 => gFA G116 a0 3 0 fun v118 => gOb G116 v118 1 fun o120 => bI (f_I_placeOf G116 v118 a3 a4) fun v123 G122 => bL (f_X_mix G122 v117 v123.toInt64) fun v126 G125 => rL v126 G125)
    else bL (f_X_mix G92 v87 (lN 1)) fun v130 G129 => gFA G129 a0 3 0 fun v131 => gOb G129 v131 1 fun o133 => bI (f_I_shareNoKey G129 v131 a3 a4) fun v136 G135 => if v136 = 0 then bL (f_X_mix G135 v130 (lN 0)) fun v139 G138 => gFA G138 a0 3 0 fun v140 => gOb G138 v140 1 fun o142 => bI (f_I_placeOf G138 v140 a3 a4) fun v145 G144 => bL (f_X_mix G144 v139 v145.toInt64) fun v148 G147 => rL v148 G147
      else bL (f_X_mix G135 v130 (lN 1)) fun v151 G150 => gFA G150 a0 3 0 fun v152 => gOb G150 v152 1 fun o154 => bI (f_I_placeOf G150 v152 a3 a4) fun v157 G156 => bL (f_X_mix G156 v151 v157.toInt64) fun v160 G159 => rL v160 G159
theorem k_X_mixPair {l : Launch} {D : va_G} {B : Nat} {O : State → Heap → Prop} (hV : zG l D B O) (G : gH) (a0 : Nat) (a1 : Int64) (a3 : Int32) (a4 : Int32) : gMet (zVm l D B O) m_X_mixPair 6 [.ref a0, .long a1, .int a3, .int a4] G (f_X_mixPair G a0 a1 a3 a4) := by
  have hdd : lSa m_X_mixPair 0 [(.lload_n 1, 0), (.aload_n 0, 0)] = true ∧ lIa m_X_mixPair 2 (.getfield 10) 3 = true ∧ lSa m_X_mixPair 5 [(.iload_n 3, 0), (.iload 4, 0)] = true ∧ lIa m_X_mixPair 8 (.invokevirtual 199) 3 = true ∧ lIa m_X_mixPair 11 (.ifCond .eq 7) 3 = true ∧ lSa m_X_mixPair 18 [(.lconst 0, 0)] = true ∧ lIa m_X_mixPair 19 (.invokestatic 263) 3 = true ∧ lSa m_X_mixPair 22 [(.lstore 5, 0), (.lload 5, 0), (.aload_n 0, 0)] = true ∧ lIa m_X_mixPair 27 (.getfield 10) 3 = true ∧ lSa m_X_mixPair 30 [(.iload_n 3, 0), (.iload 4, 0)] = true ∧ lIa m_X_mixPair 33 (.invokevirtual 192) 3 = true ∧ lIa m_X_mixPair 36 (.ifCond .eq 7) 3 = true ∧ lSa m_X_mixPair 43 [(.lconst 0, 0)] = true ∧ lIa m_X_mixPair 44 (.invokestatic 263) 3 = true ∧ lSa m_X_mixPair 47 [(.lstore 5, 0), (.lload 5, 0), (.aload_n 0, 0)] = true ∧ lIa m_X_mixPair 52 (.getfield 10) 3 = true ∧ lSa m_X_mixPair 55 [(.iload_n 3, 0), (.iload 4, 0)] = true ∧ lIa m_X_mixPair 58 (.invokevirtual 196) 3 = true ∧ lIa m_X_mixPair 61 (.ifCond .eq 7) 3 = true ∧ lSa m_X_mixPair 68 [(.lconst 0, 0)] = true ∧ lIa m_X_mixPair 69 (.invokestatic 263) 3 = true ∧ lSa m_X_mixPair 72 [(.lstore 5, 0), (.lload 5, 0), (.aload_n 0, 0)] = true ∧ lIa m_X_mixPair 77 (.getfield 10) 3 = true ∧ lSa m_X_mixPair 80 [(.iload_n 3, 0), (.iload 4, 0)] = true ∧ lIa m_X_mixPair 83 (.invokevirtual 202) 3 = true ∧ lSa m_X_mixPair 86 [(.i2l, 0)] = true ∧ lIa m_X_mixPair 87 (.invokestatic 263) 3 = true ∧ lIa m_X_mixPair 90 (.lreturn) 1 = true ∧ lSa m_X_mixPair 64 [(.lconst 1, 0)] = true ∧ lIa m_X_mixPair 65 (.goto 4) 3 = true ∧ lSa m_X_mixPair 39 [(.lconst 1, 0)] = true ∧ lIa m_X_mixPair 40 (.goto 4) 3 = true ∧ lSa m_X_mixPair 14 [(.lconst 1, 0)] = true ∧ lIa m_X_mixPair 15 (.goto 4) 3 = true := by decide +kernel
  refine lA8 hdd (fun dd0 dd1 dd2 dd3 dd4 dd5 dd6 dd7 hdd => ?_)
  refine lA8 hdd (fun dd8 dd9 dd10 dd11 dd12 dd13 dd14 dd15 hdd => ?_)
  refine lA8 hdd (fun dd16 dd17 dd18 dd19 dd20 dd21 dd22 dd23 hdd => ?_)
  refine lA8 hdd (fun dd24 dd25 dd26 dd27 dd28 dd29 dd30 dd31 hdd => ?_)
  obtain ⟨dd32, dd33⟩ := hdd
  refine gMet.of (by decide +kernel) (Nat.le_of_ble_eq_true rfl) [some (.ref a0), some (.long a1), none, some (.int a3), some (.int a4), none, none] (fun ls h => zEn_ok (n := 7) h) ?_
  intro o Gf h
  unfold f_X_mixPair at h
  refine Y.blk (pc' := 2) (L' := [some (.ref a0), some (.long a1), none, some (.int a3), some (.int a4), none, none]) (st' := [.ref a0, .long a1]) (sg := [(.lload_n 1, 0), (.aload_n 0, 0)]) (lSa_ok dd0) rfl ?_
  refine Y.getA fl_X_10 (lIa_ok dd1) h (fun v1 h => ?_)
  refine Y.blk (pc' := 8) (L' := [some (.ref a0), some (.long a1), none, some (.int a3), some (.int a4), none, none]) (st' := [.int a4, .int a3, .ref v1, .long a1]) (sg := [(.iload_n 3, 0), (.iload 4, 0)]) (lSa_ok dd2) rfl ?_
  obtain ⟨_, o3, e2, m4, h⟩ := gOb_inv h
  refine Y.callI (yC.Vi (b := v1) (As := [.int a3, .int a4]) (st := [.long a1]) (r := ("Partlister$Lists", T_I, 7)) hV.1 cb_I_matchWholly lk_X_199 in_I_matchWholly rfl se_I_matchWholly (lIa_ok dd3) rfl rfl (Nat.le_of_ble_eq_true rfl) (by decide) e2 m4) (k_I_matchWholly hV G v1 a3 a4) h (fun v6 G5 _ h => ?_)
  refine Y.if_eq (off := 7) (tgt := 18) (lIa_ok dd4) (by decide) h (fun c163 h => ?_) (fun c163 h => ?_)
  · refine Y.blk (pc' := 19) (L' := [some (.ref a0), some (.long a1), none, some (.int a3), some (.int a4), none, none]) (st' := [.long (lN 0), .long a1]) (sg := [(.lconst 0, 0)]) (lSa_ok dd5) rfl ?_
    refine Y.callL (yC.S (As := [.long a1, .long (lN 0)]) (st := []) hV.1 cb_X_mix lk_X_263 st_X_mix (lIa_ok dd6) rfl rfl (Nat.le_of_ble_eq_true rfl) (by decide)) (k_X_mix hV G5 a1 (lN 0)) h (fun v9 G8 _ h => ?_)
    refine Y.blk (pc' := 27) (L' := [some (.ref a0), some (.long a1), none, some (.int a3), some (.int a4), some (.long v9), none]) (st' := [.ref a0, .long v9]) (sg := [(.lstore 5, 0), (.lload 5, 0), (.aload_n 0, 0)]) (lSa_ok dd7) rfl ?_
    refine Y.getA fl_X_10 (lIa_ok dd8) h (fun v10 h => ?_)
    refine Y.blk (pc' := 33) (L' := [some (.ref a0), some (.long a1), none, some (.int a3), some (.int a4), some (.long v9), none]) (st' := [.int a4, .int a3, .ref v10, .long v9]) (sg := [(.iload_n 3, 0), (.iload 4, 0)]) (lSa_ok dd9) rfl ?_
    obtain ⟨_, o12, e11, m13, h⟩ := gOb_inv h
    refine Y.callI (yC.Vi (b := v10) (As := [.int a3, .int a4]) (st := [.long v9]) (r := ("Partlister$Lists", T_I, 7)) hV.1 cb_I_holdsKeys lk_X_192 in_I_holdsKeys rfl se_I_holdsKeys (lIa_ok dd10) rfl rfl (Nat.le_of_ble_eq_true rfl) (by decide) e11 m13) (k_I_holdsKeys hV G8 v10 a3 a4) h (fun v15 G14 _ h => ?_)
    refine Y.if_eq (off := 7) (tgt := 43) (lIa_ok dd11) (by decide) h (fun c84 h => ?_) (fun c84 h => ?_)
    · refine Y.blk (pc' := 44) (L' := [some (.ref a0), some (.long a1), none, some (.int a3), some (.int a4), some (.long v9), none]) (st' := [.long (lN 0), .long v9]) (sg := [(.lconst 0, 0)]) (lSa_ok dd12) rfl ?_
      refine Y.callL (yC.S (As := [.long v9, .long (lN 0)]) (st := []) hV.1 cb_X_mix lk_X_263 st_X_mix (lIa_ok dd13) rfl rfl (Nat.le_of_ble_eq_true rfl) (by decide)) (k_X_mix hV G14 v9 (lN 0)) h (fun v18 G17 _ h => ?_)
      refine Y.blk (pc' := 52) (L' := [some (.ref a0), some (.long a1), none, some (.int a3), some (.int a4), some (.long v18), none]) (st' := [.ref a0, .long v18]) (sg := [(.lstore 5, 0), (.lload 5, 0), (.aload_n 0, 0)]) (lSa_ok dd14) rfl ?_
      refine Y.getA fl_X_10 (lIa_ok dd15) h (fun v19 h => ?_)
      refine Y.blk (pc' := 58) (L' := [some (.ref a0), some (.long a1), none, some (.int a3), some (.int a4), some (.long v18), none]) (st' := [.int a4, .int a3, .ref v19, .long v18]) (sg := [(.iload_n 3, 0), (.iload 4, 0)]) (lSa_ok dd16) rfl ?_
      obtain ⟨_, o21, e20, m22, h⟩ := gOb_inv h
      refine Y.callI (yC.Vi (b := v19) (As := [.int a3, .int a4]) (st := [.long v18]) (r := ("Partlister$Lists", T_I, 7)) hV.1 cb_I_shareNoKey lk_X_196 in_I_shareNoKey rfl se_I_shareNoKey (lIa_ok dd17) rfl rfl (Nat.le_of_ble_eq_true rfl) (by decide) e20 m22) (k_I_shareNoKey hV G17 v19 a3 a4) h (fun v24 G23 _ h => ?_)
      refine Y.if_eq (off := 7) (tgt := 68) (lIa_ok dd18) (by decide) h (fun c49 h => ?_) (fun c49 h => ?_)
      · refine Y.blk (pc' := 69) (L' := [some (.ref a0), some (.long a1), none, some (.int a3), some (.int a4), some (.long v18), none]) (st' := [.long (lN 0), .long v18]) (sg := [(.lconst 0, 0)]) (lSa_ok dd19) rfl ?_
        refine Y.callL (yC.S (As := [.long v18, .long (lN 0)]) (st := []) hV.1 cb_X_mix lk_X_263 st_X_mix (lIa_ok dd20) rfl rfl (Nat.le_of_ble_eq_true rfl) (by decide)) (k_X_mix hV G23 v18 (lN 0)) h (fun v27 G26 _ h => ?_)
        refine Y.blk (pc' := 77) (L' := [some (.ref a0), some (.long a1), none, some (.int a3), some (.int a4), some (.long v27), none]) (st' := [.ref a0, .long v27]) (sg := [(.lstore 5, 0), (.lload 5, 0), (.aload_n 0, 0)]) (lSa_ok dd21) rfl ?_
        refine Y.getA fl_X_10 (lIa_ok dd22) h (fun v28 h => ?_)
        refine Y.blk (pc' := 83) (L' := [some (.ref a0), some (.long a1), none, some (.int a3), some (.int a4), some (.long v27), none]) (st' := [.int a4, .int a3, .ref v28, .long v27]) (sg := [(.iload_n 3, 0), (.iload 4, 0)]) (lSa_ok dd23) rfl ?_
        obtain ⟨_, o30, e29, m31, h⟩ := gOb_inv h
        refine Y.callI (yC.Vi (b := v28) (As := [.int a3, .int a4]) (st := [.long v27]) (r := ("Partlister$Lists", T_I, 7)) hV.1 cb_I_placeOf lk_X_202 in_I_placeOf rfl se_I_placeOf (lIa_ok dd24) rfl rfl (Nat.le_of_ble_eq_true rfl) (by decide) e29 m31) (k_I_placeOf hV G26 v28 a3 a4) h (fun v33 G32 _ h => ?_)
        refine Y.blk (pc' := 87) (L' := [some (.ref a0), some (.long a1), none, some (.int a3), some (.int a4), some (.long v27), none]) (st' := [.long v33.toInt64, .long v27]) (sg := [(.i2l, 0)]) (lSa_ok dd25) rfl ?_
        refine Y.callL (yC.S (As := [.long v27, .long v33.toInt64]) (st := []) hV.1 cb_X_mix lk_X_263 st_X_mix (lIa_ok dd26) rfl rfl (Nat.le_of_ble_eq_true rfl) (by decide)) (k_X_mix hV G32 v27 v33.toInt64) h (fun v36 G35 _ h => ?_)
        exact Y.lret rfl (lIa_ok dd27) h
      · refine Y.blk (pc' := 65) (L' := [some (.ref a0), some (.long a1), none, some (.int a3), some (.int a4), some (.long v18), none]) (st' := [.long (lN 1), .long v18]) (sg := [(.lconst 1, 0)]) (lSa_ok dd28) rfl ?_
        refine Y.goto (off := 4) (tgt := 69) (lIa_ok dd29) (by decide) ?_
        refine Y.callL (yC.S (As := [.long v18, .long (lN 1)]) (st := []) hV.1 cb_X_mix lk_X_263 st_X_mix (lIa_ok dd20) rfl rfl (Nat.le_of_ble_eq_true rfl) (by decide)) (k_X_mix hV G23 v18 (lN 1)) h (fun v39 G38 _ h => ?_)
        refine Y.blk (pc' := 77) (L' := [some (.ref a0), some (.long a1), none, some (.int a3), some (.int a4), some (.long v39), none]) (st' := [.ref a0, .long v39]) (sg := [(.lstore 5, 0), (.lload 5, 0), (.aload_n 0, 0)]) (lSa_ok dd21) rfl ?_
        refine Y.getA fl_X_10 (lIa_ok dd22) h (fun v40 h => ?_)
        refine Y.blk (pc' := 83) (L' := [some (.ref a0), some (.long a1), none, some (.int a3), some (.int a4), some (.long v39), none]) (st' := [.int a4, .int a3, .ref v40, .long v39]) (sg := [(.iload_n 3, 0), (.iload 4, 0)]) (lSa_ok dd23) rfl ?_
        obtain ⟨_, o42, e41, m43, h⟩ := gOb_inv h
        refine Y.callI (yC.Vi (b := v40) (As := [.int a3, .int a4]) (st := [.long v39]) (r := ("Partlister$Lists", T_I, 7)) hV.1 cb_I_placeOf lk_X_202 in_I_placeOf rfl se_I_placeOf (lIa_ok dd24) rfl rfl (Nat.le_of_ble_eq_true rfl) (by decide) e41 m43) (k_I_placeOf hV G38 v40 a3 a4) h (fun v45 G44 _ h => ?_)
        refine Y.blk (pc' := 87) (L' := [some (.ref a0), some (.long a1), none, some (.int a3), some (.int a4), some (.long v39), none]) (st' := [.long v45.toInt64, .long v39]) (sg := [(.i2l, 0)]) (lSa_ok dd25) rfl ?_
        refine Y.callL (yC.S (As := [.long v39, .long v45.toInt64]) (st := []) hV.1 cb_X_mix lk_X_263 st_X_mix (lIa_ok dd26) rfl rfl (Nat.le_of_ble_eq_true rfl) (by decide)) (k_X_mix hV G44 v39 v45.toInt64) h (fun v48 G47 _ h => ?_)
        exact Y.lret rfl (lIa_ok dd27) h
    · refine Y.blk (pc' := 40) (L' := [some (.ref a0), some (.long a1), none, some (.int a3), some (.int a4), some (.long v9), none]) (st' := [.long (lN 1), .long v9]) (sg := [(.lconst 1, 0)]) (lSa_ok dd30) rfl ?_
      refine Y.goto (off := 4) (tgt := 44) (lIa_ok dd31) (by decide) ?_
      refine Y.callL (yC.S (As := [.long v9, .long (lN 1)]) (st := []) hV.1 cb_X_mix lk_X_263 st_X_mix (lIa_ok dd13) rfl rfl (Nat.le_of_ble_eq_true rfl) (by decide)) (k_X_mix hV G14 v9 (lN 1)) h (fun v52 G51 _ h => ?_)
      refine Y.blk (pc' := 52) (L' := [some (.ref a0), some (.long a1), none, some (.int a3), some (.int a4), some (.long v52), none]) (st' := [.ref a0, .long v52]) (sg := [(.lstore 5, 0), (.lload 5, 0), (.aload_n 0, 0)]) (lSa_ok dd14) rfl ?_
      refine Y.getA fl_X_10 (lIa_ok dd15) h (fun v53 h => ?_)
      refine Y.blk (pc' := 58) (L' := [some (.ref a0), some (.long a1), none, some (.int a3), some (.int a4), some (.long v52), none]) (st' := [.int a4, .int a3, .ref v53, .long v52]) (sg := [(.iload_n 3, 0), (.iload 4, 0)]) (lSa_ok dd16) rfl ?_
      obtain ⟨_, o55, e54, m56, h⟩ := gOb_inv h
      refine Y.callI (yC.Vi (b := v53) (As := [.int a3, .int a4]) (st := [.long v52]) (r := ("Partlister$Lists", T_I, 7)) hV.1 cb_I_shareNoKey lk_X_196 in_I_shareNoKey rfl se_I_shareNoKey (lIa_ok dd17) rfl rfl (Nat.le_of_ble_eq_true rfl) (by decide) e54 m56) (k_I_shareNoKey hV G51 v53 a3 a4) h (fun v58 G57 _ h => ?_)
      refine Y.if_eq (off := 7) (tgt := 68) (lIa_ok dd18) (by decide) h (fun c83 h => ?_) (fun c83 h => ?_)
      · refine Y.blk (pc' := 69) (L' := [some (.ref a0), some (.long a1), none, some (.int a3), some (.int a4), some (.long v52), none]) (st' := [.long (lN 0), .long v52]) (sg := [(.lconst 0, 0)]) (lSa_ok dd19) rfl ?_
        refine Y.callL (yC.S (As := [.long v52, .long (lN 0)]) (st := []) hV.1 cb_X_mix lk_X_263 st_X_mix (lIa_ok dd20) rfl rfl (Nat.le_of_ble_eq_true rfl) (by decide)) (k_X_mix hV G57 v52 (lN 0)) h (fun v61 G60 _ h => ?_)
        refine Y.blk (pc' := 77) (L' := [some (.ref a0), some (.long a1), none, some (.int a3), some (.int a4), some (.long v61), none]) (st' := [.ref a0, .long v61]) (sg := [(.lstore 5, 0), (.lload 5, 0), (.aload_n 0, 0)]) (lSa_ok dd21) rfl ?_
        refine Y.getA fl_X_10 (lIa_ok dd22) h (fun v62 h => ?_)
        refine Y.blk (pc' := 83) (L' := [some (.ref a0), some (.long a1), none, some (.int a3), some (.int a4), some (.long v61), none]) (st' := [.int a4, .int a3, .ref v62, .long v61]) (sg := [(.iload_n 3, 0), (.iload 4, 0)]) (lSa_ok dd23) rfl ?_
        obtain ⟨_, o64, e63, m65, h⟩ := gOb_inv h
        refine Y.callI (yC.Vi (b := v62) (As := [.int a3, .int a4]) (st := [.long v61]) (r := ("Partlister$Lists", T_I, 7)) hV.1 cb_I_placeOf lk_X_202 in_I_placeOf rfl se_I_placeOf (lIa_ok dd24) rfl rfl (Nat.le_of_ble_eq_true rfl) (by decide) e63 m65) (k_I_placeOf hV G60 v62 a3 a4) h (fun v67 G66 _ h => ?_)
        refine Y.blk (pc' := 87) (L' := [some (.ref a0), some (.long a1), none, some (.int a3), some (.int a4), some (.long v61), none]) (st' := [.long v67.toInt64, .long v61]) (sg := [(.i2l, 0)]) (lSa_ok dd25) rfl ?_
        refine Y.callL (yC.S (As := [.long v61, .long v67.toInt64]) (st := []) hV.1 cb_X_mix lk_X_263 st_X_mix (lIa_ok dd26) rfl rfl (Nat.le_of_ble_eq_true rfl) (by decide)) (k_X_mix hV G66 v61 v67.toInt64) h (fun v70 G69 _ h => ?_)
        exact Y.lret rfl (lIa_ok dd27) h
      · refine Y.blk (pc' := 65) (L' := [some (.ref a0), some (.long a1), none, some (.int a3), some (.int a4), some (.long v52), none]) (st' := [.long (lN 1), .long v52]) (sg := [(.lconst 1, 0)]) (lSa_ok dd28) rfl ?_
        refine Y.goto (off := 4) (tgt := 69) (lIa_ok dd29) (by decide) ?_
        refine Y.callL (yC.S (As := [.long v52, .long (lN 1)]) (st := []) hV.1 cb_X_mix lk_X_263 st_X_mix (lIa_ok dd20) rfl rfl (Nat.le_of_ble_eq_true rfl) (by decide)) (k_X_mix hV G57 v52 (lN 1)) h (fun v73 G72 _ h => ?_)
        refine Y.blk (pc' := 77) (L' := [some (.ref a0), some (.long a1), none, some (.int a3), some (.int a4), some (.long v73), none]) (st' := [.ref a0, .long v73]) (sg := [(.lstore 5, 0), (.lload 5, 0), (.aload_n 0, 0)]) (lSa_ok dd21) rfl ?_
        refine Y.getA fl_X_10 (lIa_ok dd22) h (fun v74 h => ?_)
        refine Y.blk (pc' := 83) (L' := [some (.ref a0), some (.long a1), none, some (.int a3), some (.int a4), some (.long v73), none]) (st' := [.int a4, .int a3, .ref v74, .long v73]) (sg := [(.iload_n 3, 0), (.iload 4, 0)]) (lSa_ok dd23) rfl ?_
        obtain ⟨_, o76, e75, m77, h⟩ := gOb_inv h
        refine Y.callI (yC.Vi (b := v74) (As := [.int a3, .int a4]) (st := [.long v73]) (r := ("Partlister$Lists", T_I, 7)) hV.1 cb_I_placeOf lk_X_202 in_I_placeOf rfl se_I_placeOf (lIa_ok dd24) rfl rfl (Nat.le_of_ble_eq_true rfl) (by decide) e75 m77) (k_I_placeOf hV G72 v74 a3 a4) h (fun v79 G78 _ h => ?_)
        refine Y.blk (pc' := 87) (L' := [some (.ref a0), some (.long a1), none, some (.int a3), some (.int a4), some (.long v73), none]) (st' := [.long v79.toInt64, .long v73]) (sg := [(.i2l, 0)]) (lSa_ok dd25) rfl ?_
        refine Y.callL (yC.S (As := [.long v73, .long v79.toInt64]) (st := []) hV.1 cb_X_mix lk_X_263 st_X_mix (lIa_ok dd26) rfl rfl (Nat.le_of_ble_eq_true rfl) (by decide)) (k_X_mix hV G78 v73 v79.toInt64) h (fun v82 G81 _ h => ?_)
        exact Y.lret rfl (lIa_ok dd27) h
  · refine Y.blk (pc' := 15) (L' := [some (.ref a0), some (.long a1), none, some (.int a3), some (.int a4), none, none]) (st' := [.long (lN 1), .long a1]) (sg := [(.lconst 1, 0)]) (lSa_ok dd32) rfl ?_
    refine Y.goto (off := 4) (tgt := 19) (lIa_ok dd33) (by decide) ?_
    refine Y.callL (yC.S (As := [.long a1, .long (lN 1)]) (st := []) hV.1 cb_X_mix lk_X_263 st_X_mix (lIa_ok dd6) rfl rfl (Nat.le_of_ble_eq_true rfl) (by decide)) (k_X_mix hV G5 a1 (lN 1)) h (fun v87 G86 _ h => ?_)
    refine Y.blk (pc' := 27) (L' := [some (.ref a0), some (.long a1), none, some (.int a3), some (.int a4), some (.long v87), none]) (st' := [.ref a0, .long v87]) (sg := [(.lstore 5, 0), (.lload 5, 0), (.aload_n 0, 0)]) (lSa_ok dd7) rfl ?_
    refine Y.getA fl_X_10 (lIa_ok dd8) h (fun v88 h => ?_)
    refine Y.blk (pc' := 33) (L' := [some (.ref a0), some (.long a1), none, some (.int a3), some (.int a4), some (.long v87), none]) (st' := [.int a4, .int a3, .ref v88, .long v87]) (sg := [(.iload_n 3, 0), (.iload 4, 0)]) (lSa_ok dd9) rfl ?_
    obtain ⟨_, o90, e89, m91, h⟩ := gOb_inv h
    refine Y.callI (yC.Vi (b := v88) (As := [.int a3, .int a4]) (st := [.long v87]) (r := ("Partlister$Lists", T_I, 7)) hV.1 cb_I_holdsKeys lk_X_192 in_I_holdsKeys rfl se_I_holdsKeys (lIa_ok dd10) rfl rfl (Nat.le_of_ble_eq_true rfl) (by decide) e89 m91) (k_I_holdsKeys hV G86 v88 a3 a4) h (fun v93 G92 _ h => ?_)
    refine Y.if_eq (off := 7) (tgt := 43) (lIa_ok dd11) (by decide) h (fun c162 h => ?_) (fun c162 h => ?_)
    · refine Y.blk (pc' := 44) (L' := [some (.ref a0), some (.long a1), none, some (.int a3), some (.int a4), some (.long v87), none]) (st' := [.long (lN 0), .long v87]) (sg := [(.lconst 0, 0)]) (lSa_ok dd12) rfl ?_
      refine Y.callL (yC.S (As := [.long v87, .long (lN 0)]) (st := []) hV.1 cb_X_mix lk_X_263 st_X_mix (lIa_ok dd13) rfl rfl (Nat.le_of_ble_eq_true rfl) (by decide)) (k_X_mix hV G92 v87 (lN 0)) h (fun v96 G95 _ h => ?_)
      refine Y.blk (pc' := 52) (L' := [some (.ref a0), some (.long a1), none, some (.int a3), some (.int a4), some (.long v96), none]) (st' := [.ref a0, .long v96]) (sg := [(.lstore 5, 0), (.lload 5, 0), (.aload_n 0, 0)]) (lSa_ok dd14) rfl ?_
      refine Y.getA fl_X_10 (lIa_ok dd15) h (fun v97 h => ?_)
      refine Y.blk (pc' := 58) (L' := [some (.ref a0), some (.long a1), none, some (.int a3), some (.int a4), some (.long v96), none]) (st' := [.int a4, .int a3, .ref v97, .long v96]) (sg := [(.iload_n 3, 0), (.iload 4, 0)]) (lSa_ok dd16) rfl ?_
      obtain ⟨_, o99, e98, m100, h⟩ := gOb_inv h
      refine Y.callI (yC.Vi (b := v97) (As := [.int a3, .int a4]) (st := [.long v96]) (r := ("Partlister$Lists", T_I, 7)) hV.1 cb_I_shareNoKey lk_X_196 in_I_shareNoKey rfl se_I_shareNoKey (lIa_ok dd17) rfl rfl (Nat.le_of_ble_eq_true rfl) (by decide) e98 m100) (k_I_shareNoKey hV G95 v97 a3 a4) h (fun v102 G101 _ h => ?_)
      refine Y.if_eq (off := 7) (tgt := 68) (lIa_ok dd18) (by decide) h (fun c127 h => ?_) (fun c127 h => ?_)
      · refine Y.blk (pc' := 69) (L' := [some (.ref a0), some (.long a1), none, some (.int a3), some (.int a4), some (.long v96), none]) (st' := [.long (lN 0), .long v96]) (sg := [(.lconst 0, 0)]) (lSa_ok dd19) rfl ?_
        refine Y.callL (yC.S (As := [.long v96, .long (lN 0)]) (st := []) hV.1 cb_X_mix lk_X_263 st_X_mix (lIa_ok dd20) rfl rfl (Nat.le_of_ble_eq_true rfl) (by decide)) (k_X_mix hV G101 v96 (lN 0)) h (fun v105 G104 _ h => ?_)
        refine Y.blk (pc' := 77) (L' := [some (.ref a0), some (.long a1), none, some (.int a3), some (.int a4), some (.long v105), none]) (st' := [.ref a0, .long v105]) (sg := [(.lstore 5, 0), (.lload 5, 0), (.aload_n 0, 0)]) (lSa_ok dd21) rfl ?_
        refine Y.getA fl_X_10 (lIa_ok dd22) h (fun v106 h => ?_)
        refine Y.blk (pc' := 83) (L' := [some (.ref a0), some (.long a1), none, some (.int a3), some (.int a4), some (.long v105), none]) (st' := [.int a4, .int a3, .ref v106, .long v105]) (sg := [(.iload_n 3, 0), (.iload 4, 0)]) (lSa_ok dd23) rfl ?_
        obtain ⟨_, o108, e107, m109, h⟩ := gOb_inv h
        refine Y.callI (yC.Vi (b := v106) (As := [.int a3, .int a4]) (st := [.long v105]) (r := ("Partlister$Lists", T_I, 7)) hV.1 cb_I_placeOf lk_X_202 in_I_placeOf rfl se_I_placeOf (lIa_ok dd24) rfl rfl (Nat.le_of_ble_eq_true rfl) (by decide) e107 m109) (k_I_placeOf hV G104 v106 a3 a4) h (fun v111 G110 _ h => ?_)
        refine Y.blk (pc' := 87) (L' := [some (.ref a0), some (.long a1), none, some (.int a3), some (.int a4), some (.long v105), none]) (st' := [.long v111.toInt64, .long v105]) (sg := [(.i2l, 0)]) (lSa_ok dd25) rfl ?_
        refine Y.callL (yC.S (As := [.long v105, .long v111.toInt64]) (st := []) hV.1 cb_X_mix lk_X_263 st_X_mix (lIa_ok dd26) rfl rfl (Nat.le_of_ble_eq_true rfl) (by decide)) (k_X_mix hV G110 v105 v111.toInt64) h (fun v114 G113 _ h => ?_)
        exact Y.lret rfl (lIa_ok dd27) h
      · refine Y.blk (pc' := 65) (L' := [some (.ref a0), some (.long a1), none, some (.int a3), some (.int a4), some (.long v96), none]) (st' := [.long (lN 1), .long v96]) (sg := [(.lconst 1, 0)]) (lSa_ok dd28) rfl ?_
        refine Y.goto (off := 4) (tgt := 69) (lIa_ok dd29) (by decide) ?_
        refine Y.callL (yC.S (As := [.long v96, .long (lN 1)]) (st := []) hV.1 cb_X_mix lk_X_263 st_X_mix (lIa_ok dd20) rfl rfl (Nat.le_of_ble_eq_true rfl) (by decide)) (k_X_mix hV G101 v96 (lN 1)) h (fun v117 G116 _ h => ?_)
        refine Y.blk (pc' := 77) (L' := [some (.ref a0), some (.long a1), none, some (.int a3), some (.int a4), some (.long v117), none]) (st' := [.ref a0, .long v117]) (sg := [(.lstore 5, 0), (.lload 5, 0), (.aload_n 0, 0)]) (lSa_ok dd21) rfl ?_
        refine Y.getA fl_X_10 (lIa_ok dd22) h (fun v118 h => ?_)
        refine Y.blk (pc' := 83) (L' := [some (.ref a0), some (.long a1), none, some (.int a3), some (.int a4), some (.long v117), none]) (st' := [.int a4, .int a3, .ref v118, .long v117]) (sg := [(.iload_n 3, 0), (.iload 4, 0)]) (lSa_ok dd23) rfl ?_
        obtain ⟨_, o120, e119, m121, h⟩ := gOb_inv h
        refine Y.callI (yC.Vi (b := v118) (As := [.int a3, .int a4]) (st := [.long v117]) (r := ("Partlister$Lists", T_I, 7)) hV.1 cb_I_placeOf lk_X_202 in_I_placeOf rfl se_I_placeOf (lIa_ok dd24) rfl rfl (Nat.le_of_ble_eq_true rfl) (by decide) e119 m121) (k_I_placeOf hV G116 v118 a3 a4) h (fun v123 G122 _ h => ?_)
        refine Y.blk (pc' := 87) (L' := [some (.ref a0), some (.long a1), none, some (.int a3), some (.int a4), some (.long v117), none]) (st' := [.long v123.toInt64, .long v117]) (sg := [(.i2l, 0)]) (lSa_ok dd25) rfl ?_
        refine Y.callL (yC.S (As := [.long v117, .long v123.toInt64]) (st := []) hV.1 cb_X_mix lk_X_263 st_X_mix (lIa_ok dd26) rfl rfl (Nat.le_of_ble_eq_true rfl) (by decide)) (k_X_mix hV G122 v117 v123.toInt64) h (fun v126 G125 _ h => ?_)
        exact Y.lret rfl (lIa_ok dd27) h
    · refine Y.blk (pc' := 40) (L' := [some (.ref a0), some (.long a1), none, some (.int a3), some (.int a4), some (.long v87), none]) (st' := [.long (lN 1), .long v87]) (sg := [(.lconst 1, 0)]) (lSa_ok dd30) rfl ?_
      refine Y.goto (off := 4) (tgt := 44) (lIa_ok dd31) (by decide) ?_
      refine Y.callL (yC.S (As := [.long v87, .long (lN 1)]) (st := []) hV.1 cb_X_mix lk_X_263 st_X_mix (lIa_ok dd13) rfl rfl (Nat.le_of_ble_eq_true rfl) (by decide)) (k_X_mix hV G92 v87 (lN 1)) h (fun v130 G129 _ h => ?_)
      refine Y.blk (pc' := 52) (L' := [some (.ref a0), some (.long a1), none, some (.int a3), some (.int a4), some (.long v130), none]) (st' := [.ref a0, .long v130]) (sg := [(.lstore 5, 0), (.lload 5, 0), (.aload_n 0, 0)]) (lSa_ok dd14) rfl ?_
      refine Y.getA fl_X_10 (lIa_ok dd15) h (fun v131 h => ?_)
      refine Y.blk (pc' := 58) (L' := [some (.ref a0), some (.long a1), none, some (.int a3), some (.int a4), some (.long v130), none]) (st' := [.int a4, .int a3, .ref v131, .long v130]) (sg := [(.iload_n 3, 0), (.iload 4, 0)]) (lSa_ok dd16) rfl ?_
      obtain ⟨_, o133, e132, m134, h⟩ := gOb_inv h
      refine Y.callI (yC.Vi (b := v131) (As := [.int a3, .int a4]) (st := [.long v130]) (r := ("Partlister$Lists", T_I, 7)) hV.1 cb_I_shareNoKey lk_X_196 in_I_shareNoKey rfl se_I_shareNoKey (lIa_ok dd17) rfl rfl (Nat.le_of_ble_eq_true rfl) (by decide) e132 m134) (k_I_shareNoKey hV G129 v131 a3 a4) h (fun v136 G135 _ h => ?_)
      refine Y.if_eq (off := 7) (tgt := 68) (lIa_ok dd18) (by decide) h (fun c161 h => ?_) (fun c161 h => ?_)
      · refine Y.blk (pc' := 69) (L' := [some (.ref a0), some (.long a1), none, some (.int a3), some (.int a4), some (.long v130), none]) (st' := [.long (lN 0), .long v130]) (sg := [(.lconst 0, 0)]) (lSa_ok dd19) rfl ?_
        refine Y.callL (yC.S (As := [.long v130, .long (lN 0)]) (st := []) hV.1 cb_X_mix lk_X_263 st_X_mix (lIa_ok dd20) rfl rfl (Nat.le_of_ble_eq_true rfl) (by decide)) (k_X_mix hV G135 v130 (lN 0)) h (fun v139 G138 _ h => ?_)
        refine Y.blk (pc' := 77) (L' := [some (.ref a0), some (.long a1), none, some (.int a3), some (.int a4), some (.long v139), none]) (st' := [.ref a0, .long v139]) (sg := [(.lstore 5, 0), (.lload 5, 0), (.aload_n 0, 0)]) (lSa_ok dd21) rfl ?_
        refine Y.getA fl_X_10 (lIa_ok dd22) h (fun v140 h => ?_)
        refine Y.blk (pc' := 83) (L' := [some (.ref a0), some (.long a1), none, some (.int a3), some (.int a4), some (.long v139), none]) (st' := [.int a4, .int a3, .ref v140, .long v139]) (sg := [(.iload_n 3, 0), (.iload 4, 0)]) (lSa_ok dd23) rfl ?_
        obtain ⟨_, o142, e141, m143, h⟩ := gOb_inv h
        refine Y.callI (yC.Vi (b := v140) (As := [.int a3, .int a4]) (st := [.long v139]) (r := ("Partlister$Lists", T_I, 7)) hV.1 cb_I_placeOf lk_X_202 in_I_placeOf rfl se_I_placeOf (lIa_ok dd24) rfl rfl (Nat.le_of_ble_eq_true rfl) (by decide) e141 m143) (k_I_placeOf hV G138 v140 a3 a4) h (fun v145 G144 _ h => ?_)
        refine Y.blk (pc' := 87) (L' := [some (.ref a0), some (.long a1), none, some (.int a3), some (.int a4), some (.long v139), none]) (st' := [.long v145.toInt64, .long v139]) (sg := [(.i2l, 0)]) (lSa_ok dd25) rfl ?_
        refine Y.callL (yC.S (As := [.long v139, .long v145.toInt64]) (st := []) hV.1 cb_X_mix lk_X_263 st_X_mix (lIa_ok dd26) rfl rfl (Nat.le_of_ble_eq_true rfl) (by decide)) (k_X_mix hV G144 v139 v145.toInt64) h (fun v148 G147 _ h => ?_)
        exact Y.lret rfl (lIa_ok dd27) h
      · refine Y.blk (pc' := 65) (L' := [some (.ref a0), some (.long a1), none, some (.int a3), some (.int a4), some (.long v130), none]) (st' := [.long (lN 1), .long v130]) (sg := [(.lconst 1, 0)]) (lSa_ok dd28) rfl ?_
        refine Y.goto (off := 4) (tgt := 69) (lIa_ok dd29) (by decide) ?_
        refine Y.callL (yC.S (As := [.long v130, .long (lN 1)]) (st := []) hV.1 cb_X_mix lk_X_263 st_X_mix (lIa_ok dd20) rfl rfl (Nat.le_of_ble_eq_true rfl) (by decide)) (k_X_mix hV G135 v130 (lN 1)) h (fun v151 G150 _ h => ?_)
        refine Y.blk (pc' := 77) (L' := [some (.ref a0), some (.long a1), none, some (.int a3), some (.int a4), some (.long v151), none]) (st' := [.ref a0, .long v151]) (sg := [(.lstore 5, 0), (.lload 5, 0), (.aload_n 0, 0)]) (lSa_ok dd21) rfl ?_
        refine Y.getA fl_X_10 (lIa_ok dd22) h (fun v152 h => ?_)
        refine Y.blk (pc' := 83) (L' := [some (.ref a0), some (.long a1), none, some (.int a3), some (.int a4), some (.long v151), none]) (st' := [.int a4, .int a3, .ref v152, .long v151]) (sg := [(.iload_n 3, 0), (.iload 4, 0)]) (lSa_ok dd23) rfl ?_
        obtain ⟨_, o154, e153, m155, h⟩ := gOb_inv h
        refine Y.callI (yC.Vi (b := v152) (As := [.int a3, .int a4]) (st := [.long v151]) (r := ("Partlister$Lists", T_I, 7)) hV.1 cb_I_placeOf lk_X_202 in_I_placeOf rfl se_I_placeOf (lIa_ok dd24) rfl rfl (Nat.le_of_ble_eq_true rfl) (by decide) e153 m155) (k_I_placeOf hV G150 v152 a3 a4) h (fun v157 G156 _ h => ?_)
        refine Y.blk (pc' := 87) (L' := [some (.ref a0), some (.long a1), none, some (.int a3), some (.int a4), some (.long v151), none]) (st' := [.long v157.toInt64, .long v151]) (sg := [(.i2l, 0)]) (lSa_ok dd25) rfl ?_
        refine Y.callL (yC.S (As := [.long v151, .long v157.toInt64]) (st := []) hV.1 cb_X_mix lk_X_263 st_X_mix (lIa_ok dd26) rfl rfl (Nat.le_of_ble_eq_true rfl) (by decide)) (k_X_mix hV G156 v151 v157.toInt64) h (fun v160 G159 _ h => ?_)
        exact Y.lret rfl (lIa_ok dd27) h

def f_U_lastOf (G : gH) (a0 : Nat) (a1 : Int32) : gR :=
  gFA G a0 0 3 fun v1 => gOb G v1 2 fun o3 => bI (f_N_read G v1 a1) fun v6 G5 => rI v6 G5
theorem k_U_lastOf {l : Launch} {D : va_G} {B : Nat} {O : State → Heap → Prop} (hV : zG l D B O) (G : gH) (a0 : Nat) (a1 : Int32) : gMet (zVm l D B O) m_U_lastOf 2 [.ref a0, .int a1] G (f_U_lastOf G a0 a1) := by
  have hdd : lSa m_U_lastOf 0 [(.aload_n 0, 0)] = true ∧ lIa m_U_lastOf 1 (.getfield 26) 3 = true ∧ lSa m_U_lastOf 4 [(.iload_n 1, 0)] = true ∧ lIa m_U_lastOf 5 (.invokevirtual 33) 3 = true ∧ lIa m_U_lastOf 8 (.ireturn) 1 = true := by decide +kernel
  obtain ⟨dd0, dd1, dd2, dd3, dd4⟩ := hdd
  refine gMet.of (by decide +kernel) (Nat.le_of_ble_eq_true rfl) [some (.ref a0), some (.int a1)] (fun ls h => zEn_ok (n := 2) h) ?_
  intro o Gf h
  unfold f_U_lastOf at h
  refine Y.blk (pc' := 1) (L' := [some (.ref a0), some (.int a1)]) (st' := [.ref a0]) (sg := [(.aload_n 0, 0)]) (lSa_ok dd0) rfl ?_
  refine Y.getA fl_U_26 (lIa_ok dd1) h (fun v1 h => ?_)
  refine Y.blk (pc' := 5) (L' := [some (.ref a0), some (.int a1)]) (st' := [.int a1, .ref v1]) (sg := [(.iload_n 1, 0)]) (lSa_ok dd2) rfl ?_
  obtain ⟨_, o3, e2, m4, h⟩ := gOb_inv h
  refine Y.callI (yC.Vi (b := v1) (As := [.int a1]) (st := []) (r := ("Partlister$Numbers", T_N, 1)) hV.1 cb_N_read lk_U_33 in_N_read rfl se_N_read (lIa_ok dd3) rfl rfl (Nat.le_of_ble_eq_true rfl) (by decide) e2 m4) (k_N_read hV G v1 a1) h (fun v6 G5 _ h => ?_)
  exact Y.iret rfl (lIa_ok dd4) h

def f_U_nextOf (G : gH) (a0 : Nat) (a1 : Int32) : gR :=
  gFA G a0 0 2 fun v1 => gOb G v1 2 fun o3 => bI (f_N_read G v1 a1) fun v6 G5 => rI v6 G5
theorem k_U_nextOf {l : Launch} {D : va_G} {B : Nat} {O : State → Heap → Prop} (hV : zG l D B O) (G : gH) (a0 : Nat) (a1 : Int32) : gMet (zVm l D B O) m_U_nextOf 2 [.ref a0, .int a1] G (f_U_nextOf G a0 a1) := by
  have hdd : lSa m_U_nextOf 0 [(.aload_n 0, 0)] = true ∧ lIa m_U_nextOf 1 (.getfield 23) 3 = true ∧ lSa m_U_nextOf 4 [(.iload_n 1, 0)] = true ∧ lIa m_U_nextOf 5 (.invokevirtual 33) 3 = true ∧ lIa m_U_nextOf 8 (.ireturn) 1 = true := by decide +kernel
  obtain ⟨dd0, dd1, dd2, dd3, dd4⟩ := hdd
  refine gMet.of (by decide +kernel) (Nat.le_of_ble_eq_true rfl) [some (.ref a0), some (.int a1)] (fun ls h => zEn_ok (n := 2) h) ?_
  intro o Gf h
  unfold f_U_nextOf at h
  refine Y.blk (pc' := 1) (L' := [some (.ref a0), some (.int a1)]) (st' := [.ref a0]) (sg := [(.aload_n 0, 0)]) (lSa_ok dd0) rfl ?_
  refine Y.getA fl_U_23 (lIa_ok dd1) h (fun v1 h => ?_)
  refine Y.blk (pc' := 5) (L' := [some (.ref a0), some (.int a1)]) (st' := [.int a1, .ref v1]) (sg := [(.iload_n 1, 0)]) (lSa_ok dd2) rfl ?_
  obtain ⟨_, o3, e2, m4, h⟩ := gOb_inv h
  refine Y.callI (yC.Vi (b := v1) (As := [.int a1]) (st := []) (r := ("Partlister$Numbers", T_N, 1)) hV.1 cb_N_read lk_U_33 in_N_read rfl se_N_read (lIa_ok dd3) rfl rfl (Nat.le_of_ble_eq_true rfl) (by decide) e2 m4) (k_N_read hV G v1 a1) h (fun v6 G5 _ h => ?_)
  exact Y.iret rfl (lIa_ok dd4) h

def f_U_stateOf (G : gH) (a0 : Nat) (a1 : Int32) : gR :=
  gFA G a0 0 0 fun v1 => gOb G v1 2 fun o3 => bI (f_N_read G v1 a1) fun v6 G5 => rI v6 G5
theorem k_U_stateOf {l : Launch} {D : va_G} {B : Nat} {O : State → Heap → Prop} (hV : zG l D B O) (G : gH) (a0 : Nat) (a1 : Int32) : gMet (zVm l D B O) m_U_stateOf 2 [.ref a0, .int a1] G (f_U_stateOf G a0 a1) := by
  have hdd : lSa m_U_stateOf 0 [(.aload_n 0, 0)] = true ∧ lIa m_U_stateOf 1 (.getfield 14) 3 = true ∧ lSa m_U_stateOf 4 [(.iload_n 1, 0)] = true ∧ lIa m_U_stateOf 5 (.invokevirtual 33) 3 = true ∧ lIa m_U_stateOf 8 (.ireturn) 1 = true := by decide +kernel
  obtain ⟨dd0, dd1, dd2, dd3, dd4⟩ := hdd
  refine gMet.of (by decide +kernel) (Nat.le_of_ble_eq_true rfl) [some (.ref a0), some (.int a1)] (fun ls h => zEn_ok (n := 2) h) ?_
  intro o Gf h
  unfold f_U_stateOf at h
  refine Y.blk (pc' := 1) (L' := [some (.ref a0), some (.int a1)]) (st' := [.ref a0]) (sg := [(.aload_n 0, 0)]) (lSa_ok dd0) rfl ?_
  refine Y.getA fl_U_14 (lIa_ok dd1) h (fun v1 h => ?_)
  refine Y.blk (pc' := 5) (L' := [some (.ref a0), some (.int a1)]) (st' := [.int a1, .ref v1]) (sg := [(.iload_n 1, 0)]) (lSa_ok dd2) rfl ?_
  obtain ⟨_, o3, e2, m4, h⟩ := gOb_inv h
  refine Y.callI (yC.Vi (b := v1) (As := [.int a1]) (st := []) (r := ("Partlister$Numbers", T_N, 1)) hV.1 cb_N_read lk_U_33 in_N_read rfl se_N_read (lIa_ok dd3) rfl rfl (Nat.le_of_ble_eq_true rfl) (by decide) e2 m4) (k_N_read hV G v1 a1) h (fun v6 G5 _ h => ?_)
  exact Y.iret rfl (lIa_ok dd4) h

def f_X_worthOfCursor (G : gH) (a0 : Nat) (a1 : Int32) (a2 : Int32) : gR :=
  if a2 = 0 then gFA G a0 3 1 fun v1 => gOb G v1 0 fun o3 => bI (f_U_stateOf G v1 a1) fun v6 G5 => rI v6 G5
  else gFA G a0 3 1 fun v7 => gOb G v7 0 fun o9 => bI (f_U_isThere G v7 a1) fun v12 G11 => if v12 = 0 then rI (-1) G11
    else gFA G11 a0 3 1 fun v13 => gOb G11 v13 0 fun o15 => bI (f_U_listOf G11 v13 a1) fun v18 G17 => if a2 = (nI 1) then rI v18 G17
      else gFA G17 a0 3 1 fun v19 => gOb G17 v19 0 fun o21 => bI (f_U_isStale G17 v19 a1) fun v24 G23 => if v24 = 0 then (gFA G23 a0 3 1 fun v25 => gOb G23 v25 0 fun o27 => bI (f_U_nextOf G23 v25 a1) fun v30 G29 => if a2.toInt = 2 then (rI v30 G29)
          else if a2.toInt = 3 then (if v30 ≤ 0 then rI (-1) G29
            else rI (v30 - (nI 1)) G29)
          else if a2.toInt = 4 then (gFA G29 a0 3 0 fun v34 => gOb G29 v34 1 fun o36 => bI (f_I_lengthOf G29 v34 v18) fun v39 G38 => if v39 ≤ v30 then rI (nI 0) G38
            else rI (nI 1) G38)
          else if a2.toInt = 5 then (if v30 ≤ 0 then rI (nI 0) G29
            else rI (nI 1) G29)
          else gFA G29 a0 3 1 fun v44 => gOb G29 v44 0 fun o46 => bI (f_U_lastOf G29 v44 a1) fun v49 G48 => rI v49 G48)
        else rI (-1) G23
theorem k_X_worthOfCursor {l : Launch} {D : va_G} {B : Nat} {O : State → Heap → Prop} (hV : zG l D B O) (G : gH) (a0 : Nat) (a1 : Int32) (a2 : Int32) : gMet (zVm l D B O) m_X_worthOfCursor 4 [.ref a0, .int a1, .int a2] G (f_X_worthOfCursor G a0 a1 a2) := by
  have hdd : lSa m_X_worthOfCursor 0 [(.iload_n 2, 0)] = true ∧ lIa m_X_worthOfCursor 1 (.ifCond .ne 12) 3 = true ∧ lSa m_X_worthOfCursor 4 [(.aload_n 0, 0)] = true ∧ lIa m_X_worthOfCursor 5 (.getfield 19) 3 = true ∧ lSa m_X_worthOfCursor 8 [(.iload_n 1, 0)] = true ∧ lIa m_X_worthOfCursor 9 (.invokevirtual 305) 3 = true ∧ lIa m_X_worthOfCursor 12 (.ireturn) 1 = true ∧ lSa m_X_worthOfCursor 13 [(.aload_n 0, 0)] = true ∧ lIa m_X_worthOfCursor 14 (.getfield 19) 3 = true ∧ lSa m_X_worthOfCursor 17 [(.iload_n 1, 0)] = true ∧ lIa m_X_worthOfCursor 18 (.invokevirtual 148) 3 = true ∧ lIa m_X_worthOfCursor 21 (.ifCond .ne 5) 3 = true ∧ lSa m_X_worthOfCursor 24 [(.iconst (-1), -1)] = true ∧ lIa m_X_worthOfCursor 25 (.ireturn) 1 = true ∧ lSa m_X_worthOfCursor 26 [(.aload_n 0, 0)] = true ∧ lIa m_X_worthOfCursor 27 (.getfield 19) 3 = true ∧ lSa m_X_worthOfCursor 30 [(.iload_n 1, 0)] = true ∧ lIa m_X_worthOfCursor 31 (.invokevirtual 152) 3 = true ∧ lSa m_X_worthOfCursor 34 [(.istore_n 3, 0), (.iload_n 2, 0), (.iconst 1, nI 1)] = true ∧ lIa m_X_worthOfCursor 37 (.if_icmp .ne 5) 3 = true ∧ lSa m_X_worthOfCursor 40 [(.iload_n 3, 0)] = true ∧ lIa m_X_worthOfCursor 41 (.ireturn) 1 = true ∧ lSa m_X_worthOfCursor 42 [(.aload_n 0, 0)] = true ∧ lIa m_X_worthOfCursor 43 (.getfield 19) 3 = true ∧ lSa m_X_worthOfCursor 46 [(.iload_n 1, 0)] = true ∧ lIa m_X_worthOfCursor 47 (.invokevirtual 170) 3 = true ∧ lIa m_X_worthOfCursor 50 (.ifCond .eq 5) 3 = true ∧ lSa m_X_worthOfCursor 55 [(.aload_n 0, 0)] = true ∧ lIa m_X_worthOfCursor 56 (.getfield 19) 3 = true ∧ lSa m_X_worthOfCursor 59 [(.iload_n 1, 0)] = true ∧ lIa m_X_worthOfCursor 60 (.invokevirtual 176) 3 = true ∧ lSa m_X_worthOfCursor 63 [(.istore 4, 0), (.iload_n 2, 0)] = true ∧ lSa m_X_worthOfCursor 96 [(.iload 4, 0)] = true ∧ lIa m_X_worthOfCursor 98 (.ireturn) 1 = true ∧ lSa m_X_worthOfCursor 99 [(.iload 4, 0)] = true ∧ lIa m_X_worthOfCursor 101 (.ifCond .le 10) 3 = true ∧ lSa m_X_worthOfCursor 111 [(.iconst (-1), -1)] = true ∧ lIa m_X_worthOfCursor 112 (.ireturn) 1 = true ∧ lSa m_X_worthOfCursor 104 [(.iload 4, 0), (.iconst 1, nI 1), (.isub, 0)] = true ∧ lIa m_X_worthOfCursor 108 (.goto 4) 3 = true ∧ lSa m_X_worthOfCursor 113 [(.iload 4, 0), (.aload_n 0, 0)] = true ∧ lIa m_X_worthOfCursor 116 (.getfield 10) 3 = true ∧ lSa m_X_worthOfCursor 119 [(.iload_n 3, 0)] = true ∧ lIa m_X_worthOfCursor 120 (.invokevirtual 34) 3 = true ∧ lIa m_X_worthOfCursor 123 (.if_icmp .ge 7) 3 = true ∧ lSa m_X_worthOfCursor 130 [(.iconst 0, nI 0)] = true ∧ lIa m_X_worthOfCursor 131 (.ireturn) 1 = true ∧ lSa m_X_worthOfCursor 126 [(.iconst 1, nI 1)] = true ∧ lIa m_X_worthOfCursor 127 (.goto 4) 3 = true ∧ lSa m_X_worthOfCursor 132 [(.iload 4, 0)] = true ∧ lIa m_X_worthOfCursor 134 (.ifCond .le 7) 3 = true ∧ lSa m_X_worthOfCursor 141 [(.iconst 0, nI 0)] = true ∧ lIa m_X_worthOfCursor 142 (.ireturn) 1 = true ∧ lSa m_X_worthOfCursor 137 [(.iconst 1, nI 1)] = true ∧ lIa m_X_worthOfCursor 138 (.goto 4) 3 = true ∧ lSa m_X_worthOfCursor 143 [(.aload_n 0, 0)] = true ∧ lIa m_X_worthOfCursor 144 (.getfield 19) 3 = true ∧ lSa m_X_worthOfCursor 147 [(.iload_n 1, 0)] = true ∧ lIa m_X_worthOfCursor 148 (.invokevirtual 182) 3 = true ∧ lIa m_X_worthOfCursor 151 (.ireturn) 1 = true ∧ lSa m_X_worthOfCursor 53 [(.iconst (-1), -1)] = true ∧ lIa m_X_worthOfCursor 54 (.ireturn) 1 = true := by decide +kernel
  refine lA8 hdd (fun dd0 dd1 dd2 dd3 dd4 dd5 dd6 dd7 hdd => ?_)
  refine lA8 hdd (fun dd8 dd9 dd10 dd11 dd12 dd13 dd14 dd15 hdd => ?_)
  refine lA8 hdd (fun dd16 dd17 dd18 dd19 dd20 dd21 dd22 dd23 hdd => ?_)
  refine lA8 hdd (fun dd24 dd25 dd26 dd27 dd28 dd29 dd30 dd31 hdd => ?_)
  refine lA8 hdd (fun dd32 dd33 dd34 dd35 dd36 dd37 dd38 dd39 hdd => ?_)
  refine lA8 hdd (fun dd40 dd41 dd42 dd43 dd44 dd45 dd46 dd47 hdd => ?_)
  refine lA8 hdd (fun dd48 dd49 dd50 dd51 dd52 dd53 dd54 dd55 hdd => ?_)
  obtain ⟨dd56, dd57, dd58, dd59, dd60, dd61⟩ := hdd
  refine gMet.of (by decide +kernel) (Nat.le_of_ble_eq_true rfl) [some (.ref a0), some (.int a1), some (.int a2), none, none] (fun ls h => zEn_ok (n := 5) h) ?_
  intro o Gf h
  unfold f_X_worthOfCursor at h
  refine Y.blk (pc' := 1) (L' := [some (.ref a0), some (.int a1), some (.int a2), none, none]) (st' := [.int a2]) (sg := [(.iload_n 2, 0)]) (lSa_ok dd0) rfl ?_
  refine Y.if_ne (off := 12) (tgt := 13) (lIa_ok dd1) (by decide) h (fun c53 h => ?_) (fun c53 h => ?_)
  · refine Y.blk (pc' := 5) (L' := [some (.ref a0), some (.int a1), some (.int a2), none, none]) (st' := [.ref a0]) (sg := [(.aload_n 0, 0)]) (lSa_ok dd2) rfl ?_
    refine Y.getA fl_X_19 (lIa_ok dd3) h (fun v1 h => ?_)
    refine Y.blk (pc' := 9) (L' := [some (.ref a0), some (.int a1), some (.int a2), none, none]) (st' := [.int a1, .ref v1]) (sg := [(.iload_n 1, 0)]) (lSa_ok dd4) rfl ?_
    obtain ⟨_, o3, e2, m4, h⟩ := gOb_inv h
    refine Y.callI (yC.Vi (b := v1) (As := [.int a1]) (st := []) (r := ("Partlister$Cursors", T_U, 5)) hV.1 cb_U_stateOf lk_X_305 in_U_stateOf rfl se_U_stateOf (lIa_ok dd5) rfl rfl (Nat.le_of_ble_eq_true rfl) (by decide) e2 m4) (k_U_stateOf hV G v1 a1) h (fun v6 G5 _ h => ?_)
    exact Y.iret rfl (lIa_ok dd6) h
  · refine Y.blk (pc' := 14) (L' := [some (.ref a0), some (.int a1), some (.int a2), none, none]) (st' := [.ref a0]) (sg := [(.aload_n 0, 0)]) (lSa_ok dd7) rfl ?_
    refine Y.getA fl_X_19 (lIa_ok dd8) h (fun v7 h => ?_)
    refine Y.blk (pc' := 18) (L' := [some (.ref a0), some (.int a1), some (.int a2), none, none]) (st' := [.int a1, .ref v7]) (sg := [(.iload_n 1, 0)]) (lSa_ok dd9) rfl ?_
    obtain ⟨_, o9, e8, m10, h⟩ := gOb_inv h
    refine Y.callI (yC.Vi (b := v7) (As := [.int a1]) (st := []) (r := ("Partlister$Cursors", T_U, 5)) hV.1 cb_U_isThere lk_X_148 in_U_isThere rfl se_U_isThere (lIa_ok dd10) rfl rfl (Nat.le_of_ble_eq_true rfl) (by decide) e8 m10) (k_U_isThere hV G v7 a1) h (fun v12 G11 _ h => ?_)
    refine Y.if_ne (off := 5) (tgt := 26) (lIa_ok dd11) (by decide) h (fun c52 h => ?_) (fun c52 h => ?_)
    · refine Y.blk (pc' := 25) (L' := [some (.ref a0), some (.int a1), some (.int a2), none, none]) (st' := [.int (-1)]) (sg := [(.iconst (-1), -1)]) (lSa_ok dd12) rfl ?_
      exact Y.iret rfl (lIa_ok dd13) h
    · refine Y.blk (pc' := 27) (L' := [some (.ref a0), some (.int a1), some (.int a2), none, none]) (st' := [.ref a0]) (sg := [(.aload_n 0, 0)]) (lSa_ok dd14) rfl ?_
      refine Y.getA fl_X_19 (lIa_ok dd15) h (fun v13 h => ?_)
      refine Y.blk (pc' := 31) (L' := [some (.ref a0), some (.int a1), some (.int a2), none, none]) (st' := [.int a1, .ref v13]) (sg := [(.iload_n 1, 0)]) (lSa_ok dd16) rfl ?_
      obtain ⟨_, o15, e14, m16, h⟩ := gOb_inv h
      refine Y.callI (yC.Vi (b := v13) (As := [.int a1]) (st := []) (r := ("Partlister$Cursors", T_U, 5)) hV.1 cb_U_listOf lk_X_152 in_U_listOf rfl se_U_listOf (lIa_ok dd17) rfl rfl (Nat.le_of_ble_eq_true rfl) (by decide) e14 m16) (k_U_listOf hV G11 v13 a1) h (fun v18 G17 _ h => ?_)
      refine Y.blk (pc' := 37) (L' := [some (.ref a0), some (.int a1), some (.int a2), some (.int v18), none]) (st' := [.int (nI 1), .int a2]) (sg := [(.istore_n 3, 0), (.iload_n 2, 0), (.iconst 1, nI 1)]) (lSa_ok dd18) rfl ?_
      refine Y.ic_ne (off := 5) (tgt := 42) (lIa_ok dd19) (by decide) h (fun c51 h => ?_) (fun c51 h => ?_)
      · refine Y.blk (pc' := 41) (L' := [some (.ref a0), some (.int a1), some (.int a2), some (.int v18), none]) (st' := [.int v18]) (sg := [(.iload_n 3, 0)]) (lSa_ok dd20) rfl ?_
        exact Y.iret rfl (lIa_ok dd21) h
      · refine Y.blk (pc' := 43) (L' := [some (.ref a0), some (.int a1), some (.int a2), some (.int v18), none]) (st' := [.ref a0]) (sg := [(.aload_n 0, 0)]) (lSa_ok dd22) rfl ?_
        refine Y.getA fl_X_19 (lIa_ok dd23) h (fun v19 h => ?_)
        refine Y.blk (pc' := 47) (L' := [some (.ref a0), some (.int a1), some (.int a2), some (.int v18), none]) (st' := [.int a1, .ref v19]) (sg := [(.iload_n 1, 0)]) (lSa_ok dd24) rfl ?_
        obtain ⟨_, o21, e20, m22, h⟩ := gOb_inv h
        refine Y.callI (yC.Vi (b := v19) (As := [.int a1]) (st := []) (r := ("Partlister$Cursors", T_U, 5)) hV.1 cb_U_isStale lk_X_170 in_U_isStale rfl se_U_isStale (lIa_ok dd25) rfl rfl (Nat.le_of_ble_eq_true rfl) (by decide) e20 m22) (k_U_isStale hV G17 v19 a1) h (fun v24 G23 _ h => ?_)
        refine Y.if_eq (off := 5) (tgt := 55) (lIa_ok dd26) (by decide) h (fun c50 h => ?_) (fun c50 h => ?_)
        · refine Y.blk (pc' := 56) (L' := [some (.ref a0), some (.int a1), some (.int a2), some (.int v18), none]) (st' := [.ref a0]) (sg := [(.aload_n 0, 0)]) (lSa_ok dd27) rfl ?_
          refine Y.getA fl_X_19 (lIa_ok dd28) h (fun v25 h => ?_)
          refine Y.blk (pc' := 60) (L' := [some (.ref a0), some (.int a1), some (.int a2), some (.int v18), none]) (st' := [.int a1, .ref v25]) (sg := [(.iload_n 1, 0)]) (lSa_ok dd29) rfl ?_
          obtain ⟨_, o27, e26, m28, h⟩ := gOb_inv h
          refine Y.callI (yC.Vi (b := v25) (As := [.int a1]) (st := []) (r := ("Partlister$Cursors", T_U, 5)) hV.1 cb_U_nextOf lk_X_176 in_U_nextOf rfl se_U_nextOf (lIa_ok dd30) rfl rfl (Nat.le_of_ble_eq_true rfl) (by decide) e26 m28) (k_U_nextOf hV G23 v25 a1) h (fun v30 G29 _ h => ?_)
          refine Y.blk (pc' := 66) (L' := [some (.ref a0), some (.int a1), some (.int a2), some (.int v18), some (.int v30)]) (st' := [.int a2]) (sg := [(.istore 4, 0), (.iload_n 2, 0)]) (lSa_ok dd31) rfl ?_
          refine Y.swC (j := 2) (off := 30) (tgt := 96) (dflt := 77) (lo := 2) (hi := 5) (offs := #[30, 33, 47, 66]) (len := 30) (by decide +kernel) (by decide) (by decide) (by decide) h (fun c31 h => ?_) (fun c31 h => ?_)
          · refine Y.blk (pc' := 98) (L' := [some (.ref a0), some (.int a1), some (.int a2), some (.int v18), some (.int v30)]) (st' := [.int v30]) (sg := [(.iload 4, 0)]) (lSa_ok dd32) rfl ?_
            exact Y.iret rfl (lIa_ok dd33) h
          refine Y.swC (j := 3) (off := 33) (tgt := 99) (dflt := 77) (lo := 2) (hi := 5) (offs := #[30, 33, 47, 66]) (len := 30) (by decide +kernel) (by decide) (by decide) (by decide) h (fun c33 h => ?_) (fun c33 h => ?_)
          · refine Y.blk (pc' := 101) (L' := [some (.ref a0), some (.int a1), some (.int a2), some (.int v18), some (.int v30)]) (st' := [.int v30]) (sg := [(.iload 4, 0)]) (lSa_ok dd34) rfl ?_
            refine Y.if_le (off := 10) (tgt := 111) (lIa_ok dd35) (by decide) h (fun c32 h => ?_) (fun c32 h => ?_)
            · refine Y.blk (pc' := 112) (L' := [some (.ref a0), some (.int a1), some (.int a2), some (.int v18), some (.int v30)]) (st' := [.int (-1)]) (sg := [(.iconst (-1), -1)]) (lSa_ok dd36) rfl ?_
              exact Y.iret rfl (lIa_ok dd37) h
            · refine Y.blk (pc' := 108) (L' := [some (.ref a0), some (.int a1), some (.int a2), some (.int v18), some (.int v30)]) (st' := [.int (v30 - (nI 1))]) (sg := [(.iload 4, 0), (.iconst 1, nI 1), (.isub, 0)]) (lSa_ok dd38) rfl ?_
              refine Y.goto (off := 4) (tgt := 112) (lIa_ok dd39) (by decide) ?_
              exact Y.iret rfl (lIa_ok dd37) h
          refine Y.swC (j := 4) (off := 47) (tgt := 113) (dflt := 77) (lo := 2) (hi := 5) (offs := #[30, 33, 47, 66]) (len := 30) (by decide +kernel) (by decide) (by decide) (by decide) h (fun c41 h => ?_) (fun c41 h => ?_)
          · refine Y.blk (pc' := 116) (L' := [some (.ref a0), some (.int a1), some (.int a2), some (.int v18), some (.int v30)]) (st' := [.ref a0, .int v30]) (sg := [(.iload 4, 0), (.aload_n 0, 0)]) (lSa_ok dd40) rfl ?_
            refine Y.getA fl_X_10 (lIa_ok dd41) h (fun v34 h => ?_)
            refine Y.blk (pc' := 120) (L' := [some (.ref a0), some (.int a1), some (.int a2), some (.int v18), some (.int v30)]) (st' := [.int v18, .ref v34, .int v30]) (sg := [(.iload_n 3, 0)]) (lSa_ok dd42) rfl ?_
            obtain ⟨_, o36, e35, m37, h⟩ := gOb_inv h
            refine Y.callI (yC.Vi (b := v34) (As := [.int v18]) (st := [.int v30]) (r := ("Partlister$Lists", T_I, 7)) hV.1 cb_I_lengthOf lk_X_34 in_I_lengthOf rfl se_I_lengthOf (lIa_ok dd43) rfl rfl (Nat.le_of_ble_eq_true rfl) (by decide) e35 m37) (k_I_lengthOf hV G29 v34 v18) h (fun v39 G38 _ h => ?_)
            refine Y.ic_ge (off := 7) (tgt := 130) (lIa_ok dd44) (by decide) h (fun c40 h => ?_) (fun c40 h => ?_)
            · refine Y.blk (pc' := 131) (L' := [some (.ref a0), some (.int a1), some (.int a2), some (.int v18), some (.int v30)]) (st' := [.int (nI 0)]) (sg := [(.iconst 0, nI 0)]) (lSa_ok dd45) rfl ?_
              exact Y.iret rfl (lIa_ok dd46) h
            · refine Y.blk (pc' := 127) (L' := [some (.ref a0), some (.int a1), some (.int a2), some (.int v18), some (.int v30)]) (st' := [.int (nI 1)]) (sg := [(.iconst 1, nI 1)]) (lSa_ok dd47) rfl ?_
              refine Y.goto (off := 4) (tgt := 131) (lIa_ok dd48) (by decide) ?_
              exact Y.iret rfl (lIa_ok dd46) h
          refine Y.swC (j := 5) (off := 66) (tgt := 132) (dflt := 77) (lo := 2) (hi := 5) (offs := #[30, 33, 47, 66]) (len := 30) (by decide +kernel) (by decide) (by decide) (by decide) h (fun c43 h => ?_) (fun c43 h => ?_)
          · refine Y.blk (pc' := 134) (L' := [some (.ref a0), some (.int a1), some (.int a2), some (.int v18), some (.int v30)]) (st' := [.int v30]) (sg := [(.iload 4, 0)]) (lSa_ok dd49) rfl ?_
            refine Y.if_le (off := 7) (tgt := 141) (lIa_ok dd50) (by decide) h (fun c42 h => ?_) (fun c42 h => ?_)
            · refine Y.blk (pc' := 142) (L' := [some (.ref a0), some (.int a1), some (.int a2), some (.int v18), some (.int v30)]) (st' := [.int (nI 0)]) (sg := [(.iconst 0, nI 0)]) (lSa_ok dd51) rfl ?_
              exact Y.iret rfl (lIa_ok dd52) h
            · refine Y.blk (pc' := 138) (L' := [some (.ref a0), some (.int a1), some (.int a2), some (.int v18), some (.int v30)]) (st' := [.int (nI 1)]) (sg := [(.iconst 1, nI 1)]) (lSa_ok dd53) rfl ?_
              refine Y.goto (off := 4) (tgt := 142) (lIa_ok dd54) (by decide) ?_
              exact Y.iret rfl (lIa_ok dd52) h
          refine Y.swOut (dflt := 77) (lo := 2) (hi := 5) (offs := #[30, 33, 47, 66]) (len := 30) (tgt := 143) (by decide +kernel) (by omega) (by decide) ?_
          refine Y.blk (pc' := 144) (L' := [some (.ref a0), some (.int a1), some (.int a2), some (.int v18), some (.int v30)]) (st' := [.ref a0]) (sg := [(.aload_n 0, 0)]) (lSa_ok dd55) rfl ?_
          refine Y.getA fl_X_19 (lIa_ok dd56) h (fun v44 h => ?_)
          refine Y.blk (pc' := 148) (L' := [some (.ref a0), some (.int a1), some (.int a2), some (.int v18), some (.int v30)]) (st' := [.int a1, .ref v44]) (sg := [(.iload_n 1, 0)]) (lSa_ok dd57) rfl ?_
          obtain ⟨_, o46, e45, m47, h⟩ := gOb_inv h
          refine Y.callI (yC.Vi (b := v44) (As := [.int a1]) (st := []) (r := ("Partlister$Cursors", T_U, 5)) hV.1 cb_U_lastOf lk_X_182 in_U_lastOf rfl se_U_lastOf (lIa_ok dd58) rfl rfl (Nat.le_of_ble_eq_true rfl) (by decide) e45 m47) (k_U_lastOf hV G29 v44 a1) h (fun v49 G48 _ h => ?_)
          exact Y.iret rfl (lIa_ok dd59) h
        · refine Y.blk (pc' := 54) (L' := [some (.ref a0), some (.int a1), some (.int a2), some (.int v18), none]) (st' := [.int (-1)]) (sg := [(.iconst (-1), -1)]) (lSa_ok dd60) rfl ?_
          exact Y.iret rfl (lIa_ok dd61) h

def f_U_countEnded (G : gH) (a0 : Nat) : gR :=
  gFI G a0 0 4 fun v1 => rI v1 G
theorem k_U_countEnded {l : Launch} {D : va_G} {B : Nat} {O : State → Heap → Prop} (hV : zG l D B O) (G : gH) (a0 : Nat) : gMet (zVm l D B O) m_U_countEnded 1 [.ref a0] G (f_U_countEnded G a0) := by
  have hdd : lSa m_U_countEnded 0 [(.aload_n 0, 0)] = true ∧ lIa m_U_countEnded 1 (.getfield 54) 3 = true ∧ lIa m_U_countEnded 4 (.ireturn) 1 = true := by decide +kernel
  obtain ⟨dd0, dd1, dd2⟩ := hdd
  refine gMet.of (by decide +kernel) (Nat.le_of_ble_eq_true rfl) [some (.ref a0)] (fun ls h => zEn_ok (n := 1) h) ?_
  intro o Gf h
  unfold f_U_countEnded at h
  refine Y.blk (pc' := 1) (L' := [some (.ref a0)]) (st' := [.ref a0]) (sg := [(.aload_n 0, 0)]) (lSa_ok dd0) rfl ?_
  refine Y.getI fl_U_54 (lIa_ok dd1) h (fun v1 h => ?_)
  exact Y.iret rfl (lIa_ok dd2) h

def f_U_countStale_L4 (K26 : gH → Int32 → gR) : Nat → gH → Nat → Int32 → Int32 → gR
  | 0, _, _, _, _ => none
  | n + 1, G, x0, x1, x2 =>
    if (nI 3) ≤ x2 then K26 G x1
    else gOb G x0 0 fun o2 => bI (f_U_isStale G x0 x2) fun v5 G4 => if v5 = 0 then f_U_countStale_L4 K26 n G4 x0 x1 (x2 + (nI 1))
      else f_U_countStale_L4 K26 n G4 x0 (x1 + (nI 1)) (x2 + (nI 1))
def f_U_countStale (G : gH) (a0 : Nat) : gR :=
  f_U_countStale_L4 (fun G9 x8 => rI x8 G9) zFu G a0 (nI 0) (nI 0)
theorem k_U_countStale_L4 {l : Launch} {D : va_G} {B : Nat} {O : State → Heap → Prop} (hV : zG l D B O) {o : gO} {Gf : gH} (K26 : gH → Int32 → gR) (hK26 : ∀ (G : gH) (x1 : Int32), K26 G x1 = some (o, Gf) → Y (zVm l D B O) m_U_countStale 3 o Gf 26 [none, some (.int x1), none] [] G) : ∀ (n : Nat) (G : gH) (x0 : Nat) (x1 : Int32) (x2 : Int32), f_U_countStale_L4 K26 n G x0 x1 x2 = some (o, Gf) → Y (zVm l D B O) m_U_countStale 3 o Gf 4 [some (.ref x0), some (.int x1), some (.int x2)] [] G := by
  have hdd : lSa m_U_countStale 4 [(.iload_n 2, 0), (.iconst 3, nI 3)] = true ∧ lIa m_U_countStale 6 (.if_icmp .ge 20) 3 = true ∧ lSa m_U_countStale 9 [(.aload_n 0, 0), (.iload_n 2, 0)] = true ∧ lIa m_U_countStale 11 (.invokevirtual 29) 3 = true ∧ lIa m_U_countStale 14 (.ifCond .eq 6) 3 = true ∧ lSa m_U_countStale 20 [(.iinc 2 1, nI 1)] = true ∧ lIa m_U_countStale 23 (.goto (-19)) 3 = true ∧ lSa m_U_countStale 17 [(.iinc 1 1, nI 1), (.iinc 2 1, nI 1)] = true := by decide +kernel
  obtain ⟨dd0, dd1, dd2, dd3, dd4, dd5, dd6, dd7⟩ := hdd
  intro n
  induction n with
  | zero => intro G x0 x1 x2 h; cases h
  | succ n ih =>
    intro G x0 x1 x2 h
    unfold f_U_countStale_L4 at h
    refine Y.blk (pc' := 6) (L' := [some (.ref x0), some (.int x1), some (.int x2)]) (st' := [.int (nI 3), .int x2]) (sg := [(.iload_n 2, 0), (.iconst 3, nI 3)]) (lSa_ok dd0) rfl ?_
    refine Y.ic_ge (off := 20) (tgt := 26) (lIa_ok dd1) (by decide) h (fun c7 h => ?_) (fun c7 h => ?_)
    · refine Y.less (L' := [none, some (.int x1), none]) (zLe_none (zLe_some (zLe_none (zLe_nil)))) ?_
      exact hK26 G x1 h
    · refine Y.blk (pc' := 11) (L' := [some (.ref x0), some (.int x1), some (.int x2)]) (st' := [.int x2, .ref x0]) (sg := [(.aload_n 0, 0), (.iload_n 2, 0)]) (lSa_ok dd2) rfl ?_
      obtain ⟨_, o2, e1, m3, h⟩ := gOb_inv h
      refine Y.callI (yC.Vi (b := x0) (As := [.int x2]) (st := []) (r := ("Partlister$Cursors", T_U, 5)) hV.1 cb_U_isStale lk_U_29 in_U_isStale rfl se_U_isStale (lIa_ok dd3) rfl rfl (Nat.le_of_ble_eq_true rfl) (by decide) e1 m3) (k_U_isStale hV G x0 x2) h (fun v5 G4 _ h => ?_)
      refine Y.if_eq (off := 6) (tgt := 20) (lIa_ok dd4) (by decide) h (fun c6 h => ?_) (fun c6 h => ?_)
      · refine Y.blk (pc' := 23) (L' := [some (.ref x0), some (.int x1), some (.int (x2 + (nI 1)))]) (st' := []) (sg := [(.iinc 2 1, nI 1)]) (lSa_ok dd5) rfl ?_
        refine Y.goto (off := -19) (tgt := 4) (lIa_ok dd6) (by decide) ?_
        exact ih G4 x0 x1 (x2 + (nI 1)) h
      · refine Y.blk (pc' := 23) (L' := [some (.ref x0), some (.int (x1 + (nI 1))), some (.int (x2 + (nI 1)))]) (st' := []) (sg := [(.iinc 1 1, nI 1), (.iinc 2 1, nI 1)]) (lSa_ok dd7) rfl ?_
        refine Y.goto (off := -19) (tgt := 4) (lIa_ok dd6) (by decide) ?_
        exact ih G4 x0 (x1 + (nI 1)) (x2 + (nI 1)) h
theorem k_U_countStale {l : Launch} {D : va_G} {B : Nat} {O : State → Heap → Prop} (hV : zG l D B O) (G : gH) (a0 : Nat) : gMet (zVm l D B O) m_U_countStale 3 [.ref a0] G (f_U_countStale G a0) := by
  have hdd : lSa m_U_countStale 0 [(.iconst 0, nI 0), (.istore_n 1, 0), (.iconst 0, nI 0), (.istore_n 2, 0)] = true ∧ lSa m_U_countStale 26 [(.iload_n 1, 0)] = true ∧ lIa m_U_countStale 27 (.ireturn) 1 = true := by decide +kernel
  obtain ⟨dd0, dd1, dd2⟩ := hdd
  refine gMet.of (by decide +kernel) (Nat.le_of_ble_eq_true rfl) [some (.ref a0), none, none] (fun ls h => zEn_ok (n := 3) h) ?_
  intro o Gf h
  unfold f_U_countStale at h
  refine Y.blk (pc' := 4) (L' := [some (.ref a0), some (.int (nI 0)), some (.int (nI 0))]) (st' := []) (sg := [(.iconst 0, nI 0), (.istore_n 1, 0), (.iconst 0, nI 0), (.istore_n 2, 0)]) (lSa_ok dd0) rfl ?_
  refine k_U_countStale_L4 hV _ ?_  zFu G a0 (nI 0) (nI 0) h
  · intro G9 x8 h
    refine Y.blk (pc' := 27) (L' := [none, some (.int x8), none]) (st' := [.int x8]) (sg := [(.iload_n 1, 0)]) (lSa_ok dd1) rfl ?_
    exact Y.iret rfl (lIa_ok dd2) h

def f_U_countThere_L4 (K26 : gH → Int32 → gR) : Nat → gH → Nat → Int32 → Int32 → gR
  | 0, _, _, _, _ => none
  | n + 1, G, x0, x1, x2 =>
    if (nI 3) ≤ x2 then K26 G x1
    else gOb G x0 0 fun o2 => bI (f_U_isThere G x0 x2) fun v5 G4 => if v5 = 0 then f_U_countThere_L4 K26 n G4 x0 x1 (x2 + (nI 1))
      else f_U_countThere_L4 K26 n G4 x0 (x1 + (nI 1)) (x2 + (nI 1))
def f_U_countThere (G : gH) (a0 : Nat) : gR :=
  f_U_countThere_L4 (fun G9 x8 => rI x8 G9) zFu G a0 (nI 0) (nI 0)
theorem k_U_countThere_L4 {l : Launch} {D : va_G} {B : Nat} {O : State → Heap → Prop} (hV : zG l D B O) {o : gO} {Gf : gH} (K26 : gH → Int32 → gR) (hK26 : ∀ (G : gH) (x1 : Int32), K26 G x1 = some (o, Gf) → Y (zVm l D B O) m_U_countThere 4 o Gf 26 [none, some (.int x1), none] [] G) : ∀ (n : Nat) (G : gH) (x0 : Nat) (x1 : Int32) (x2 : Int32), f_U_countThere_L4 K26 n G x0 x1 x2 = some (o, Gf) → Y (zVm l D B O) m_U_countThere 4 o Gf 4 [some (.ref x0), some (.int x1), some (.int x2)] [] G := by
  have hdd : lSa m_U_countThere 4 [(.iload_n 2, 0), (.iconst 3, nI 3)] = true ∧ lIa m_U_countThere 6 (.if_icmp .ge 20) 3 = true ∧ lSa m_U_countThere 9 [(.aload_n 0, 0), (.iload_n 2, 0)] = true ∧ lIa m_U_countThere 11 (.invokevirtual 37) 3 = true ∧ lIa m_U_countThere 14 (.ifCond .eq 6) 3 = true ∧ lSa m_U_countThere 20 [(.iinc 2 1, nI 1)] = true ∧ lIa m_U_countThere 23 (.goto (-19)) 3 = true ∧ lSa m_U_countThere 17 [(.iinc 1 1, nI 1), (.iinc 2 1, nI 1)] = true := by decide +kernel
  obtain ⟨dd0, dd1, dd2, dd3, dd4, dd5, dd6, dd7⟩ := hdd
  intro n
  induction n with
  | zero => intro G x0 x1 x2 h; cases h
  | succ n ih =>
    intro G x0 x1 x2 h
    unfold f_U_countThere_L4 at h
    refine Y.blk (pc' := 6) (L' := [some (.ref x0), some (.int x1), some (.int x2)]) (st' := [.int (nI 3), .int x2]) (sg := [(.iload_n 2, 0), (.iconst 3, nI 3)]) (lSa_ok dd0) rfl ?_
    refine Y.ic_ge (off := 20) (tgt := 26) (lIa_ok dd1) (by decide) h (fun c7 h => ?_) (fun c7 h => ?_)
    · refine Y.less (L' := [none, some (.int x1), none]) (zLe_none (zLe_some (zLe_none (zLe_nil)))) ?_
      exact hK26 G x1 h
    · refine Y.blk (pc' := 11) (L' := [some (.ref x0), some (.int x1), some (.int x2)]) (st' := [.int x2, .ref x0]) (sg := [(.aload_n 0, 0), (.iload_n 2, 0)]) (lSa_ok dd2) rfl ?_
      obtain ⟨_, o2, e1, m3, h⟩ := gOb_inv h
      refine Y.callI (yC.Vi (b := x0) (As := [.int x2]) (st := []) (r := ("Partlister$Cursors", T_U, 5)) hV.1 cb_U_isThere lk_U_37 in_U_isThere rfl se_U_isThere (lIa_ok dd3) rfl rfl (Nat.le_of_ble_eq_true rfl) (by decide) e1 m3) (k_U_isThere hV G x0 x2) h (fun v5 G4 _ h => ?_)
      refine Y.if_eq (off := 6) (tgt := 20) (lIa_ok dd4) (by decide) h (fun c6 h => ?_) (fun c6 h => ?_)
      · refine Y.blk (pc' := 23) (L' := [some (.ref x0), some (.int x1), some (.int (x2 + (nI 1)))]) (st' := []) (sg := [(.iinc 2 1, nI 1)]) (lSa_ok dd5) rfl ?_
        refine Y.goto (off := -19) (tgt := 4) (lIa_ok dd6) (by decide) ?_
        exact ih G4 x0 x1 (x2 + (nI 1)) h
      · refine Y.blk (pc' := 23) (L' := [some (.ref x0), some (.int (x1 + (nI 1))), some (.int (x2 + (nI 1)))]) (st' := []) (sg := [(.iinc 1 1, nI 1), (.iinc 2 1, nI 1)]) (lSa_ok dd7) rfl ?_
        refine Y.goto (off := -19) (tgt := 4) (lIa_ok dd6) (by decide) ?_
        exact ih G4 x0 (x1 + (nI 1)) (x2 + (nI 1)) h
theorem k_U_countThere {l : Launch} {D : va_G} {B : Nat} {O : State → Heap → Prop} (hV : zG l D B O) (G : gH) (a0 : Nat) : gMet (zVm l D B O) m_U_countThere 4 [.ref a0] G (f_U_countThere G a0) := by
  have hdd : lSa m_U_countThere 0 [(.iconst 0, nI 0), (.istore_n 1, 0), (.iconst 0, nI 0), (.istore_n 2, 0)] = true ∧ lSa m_U_countThere 26 [(.iload_n 1, 0)] = true ∧ lIa m_U_countThere 27 (.ireturn) 1 = true := by decide +kernel
  obtain ⟨dd0, dd1, dd2⟩ := hdd
  refine gMet.of (by decide +kernel) (Nat.le_of_ble_eq_true rfl) [some (.ref a0), none, none] (fun ls h => zEn_ok (n := 3) h) ?_
  intro o Gf h
  unfold f_U_countThere at h
  refine Y.blk (pc' := 4) (L' := [some (.ref a0), some (.int (nI 0)), some (.int (nI 0))]) (st' := []) (sg := [(.iconst 0, nI 0), (.istore_n 1, 0), (.iconst 0, nI 0), (.istore_n 2, 0)]) (lSa_ok dd0) rfl ?_
  refine k_U_countThere_L4 hV _ ?_  zFu G a0 (nI 0) (nI 0) h
  · intro G9 x8 h
    refine Y.blk (pc' := 27) (L' := [none, some (.int x8), none]) (st' := [.int x8]) (sg := [(.iload_n 1, 0)]) (lSa_ok dd1) rfl ?_
    exact Y.iret rfl (lIa_ok dd2) h

def f_I_countEnded (G : gH) (a0 : Nat) : gR :=
  gFI G a0 1 6 fun v1 => rI v1 G
theorem k_I_countEnded {l : Launch} {D : va_G} {B : Nat} {O : State → Heap → Prop} (hV : zG l D B O) (G : gH) (a0 : Nat) : gMet (zVm l D B O) m_I_countEnded 1 [.ref a0] G (f_I_countEnded G a0) := by
  have hdd : lSa m_I_countEnded 0 [(.aload_n 0, 0)] = true ∧ lIa m_I_countEnded 1 (.getfield 97) 3 = true ∧ lIa m_I_countEnded 4 (.ireturn) 1 = true := by decide +kernel
  obtain ⟨dd0, dd1, dd2⟩ := hdd
  refine gMet.of (by decide +kernel) (Nat.le_of_ble_eq_true rfl) [some (.ref a0)] (fun ls h => zEn_ok (n := 1) h) ?_
  intro o Gf h
  unfold f_I_countEnded at h
  refine Y.blk (pc' := 1) (L' := [some (.ref a0)]) (st' := [.ref a0]) (sg := [(.aload_n 0, 0)]) (lSa_ok dd0) rfl ?_
  refine Y.getI fl_I_97 (lIa_ok dd1) h (fun v1 h => ?_)
  exact Y.iret rfl (lIa_ok dd2) h

def f_I_countParts_L4 (K27 : gH → Int32 → gR) : Nat → gH → Nat → Int32 → Int32 → gR
  | 0, _, _, _, _ => none
  | n + 1, G, x0, x1, x2 =>
    if (nI 6) ≤ x2 then K27 G x1
    else gOb G x0 1 fun o2 => bI (f_I_isThere G x0 x2) fun v5 G4 => if v5 = 0 then f_I_countParts_L4 K27 n G4 x0 x1 (x2 + (nI 1))
      else f_I_countParts_L4 K27 n G4 x0 (x1 + (nI 1)) (x2 + (nI 1))
def f_I_countParts (G : gH) (a0 : Nat) : gR :=
  f_I_countParts_L4 (fun G9 x8 => rI x8 G9) zFu G a0 (nI 0) (nI 2)
theorem k_I_countParts_L4 {l : Launch} {D : va_G} {B : Nat} {O : State → Heap → Prop} (hV : zG l D B O) {o : gO} {Gf : gH} (K27 : gH → Int32 → gR) (hK27 : ∀ (G : gH) (x1 : Int32), K27 G x1 = some (o, Gf) → Y (zVm l D B O) m_I_countParts 3 o Gf 27 [none, some (.int x1), none] [] G) : ∀ (n : Nat) (G : gH) (x0 : Nat) (x1 : Int32) (x2 : Int32), f_I_countParts_L4 K27 n G x0 x1 x2 = some (o, Gf) → Y (zVm l D B O) m_I_countParts 3 o Gf 4 [some (.ref x0), some (.int x1), some (.int x2)] [] G := by
  have hdd : lSa m_I_countParts 4 [(.iload_n 2, 0), (.bipush 6, nI 6)] = true ∧ lIa m_I_countParts 7 (.if_icmp .ge 20) 3 = true ∧ lSa m_I_countParts 10 [(.aload_n 0, 0), (.iload_n 2, 0)] = true ∧ lIa m_I_countParts 12 (.invokevirtual 86) 3 = true ∧ lIa m_I_countParts 15 (.ifCond .eq 6) 3 = true ∧ lSa m_I_countParts 21 [(.iinc 2 1, nI 1)] = true ∧ lIa m_I_countParts 24 (.goto (-20)) 3 = true ∧ lSa m_I_countParts 18 [(.iinc 1 1, nI 1), (.iinc 2 1, nI 1)] = true := by decide +kernel
  obtain ⟨dd0, dd1, dd2, dd3, dd4, dd5, dd6, dd7⟩ := hdd
  intro n
  induction n with
  | zero => intro G x0 x1 x2 h; cases h
  | succ n ih =>
    intro G x0 x1 x2 h
    unfold f_I_countParts_L4 at h
    refine Y.blk (pc' := 7) (L' := [some (.ref x0), some (.int x1), some (.int x2)]) (st' := [.int (nI 6), .int x2]) (sg := [(.iload_n 2, 0), (.bipush 6, nI 6)]) (lSa_ok dd0) rfl ?_
    refine Y.ic_ge (off := 20) (tgt := 27) (lIa_ok dd1) (by decide) h (fun c7 h => ?_) (fun c7 h => ?_)
    · refine Y.less (L' := [none, some (.int x1), none]) (zLe_none (zLe_some (zLe_none (zLe_nil)))) ?_
      exact hK27 G x1 h
    · refine Y.blk (pc' := 12) (L' := [some (.ref x0), some (.int x1), some (.int x2)]) (st' := [.int x2, .ref x0]) (sg := [(.aload_n 0, 0), (.iload_n 2, 0)]) (lSa_ok dd2) rfl ?_
      obtain ⟨_, o2, e1, m3, h⟩ := gOb_inv h
      refine Y.callI (yC.Vi (b := x0) (As := [.int x2]) (st := []) (r := ("Partlister$Lists", T_I, 7)) hV.1 cb_I_isThere lk_I_86 in_I_isThere rfl se_I_isThere (lIa_ok dd3) rfl rfl (Nat.le_of_ble_eq_true rfl) (by decide) e1 m3) (k_I_isThere hV G x0 x2) h (fun v5 G4 _ h => ?_)
      refine Y.if_eq (off := 6) (tgt := 21) (lIa_ok dd4) (by decide) h (fun c6 h => ?_) (fun c6 h => ?_)
      · refine Y.blk (pc' := 24) (L' := [some (.ref x0), some (.int x1), some (.int (x2 + (nI 1)))]) (st' := []) (sg := [(.iinc 2 1, nI 1)]) (lSa_ok dd5) rfl ?_
        refine Y.goto (off := -20) (tgt := 4) (lIa_ok dd6) (by decide) ?_
        exact ih G4 x0 x1 (x2 + (nI 1)) h
      · refine Y.blk (pc' := 24) (L' := [some (.ref x0), some (.int (x1 + (nI 1))), some (.int (x2 + (nI 1)))]) (st' := []) (sg := [(.iinc 1 1, nI 1), (.iinc 2 1, nI 1)]) (lSa_ok dd7) rfl ?_
        refine Y.goto (off := -20) (tgt := 4) (lIa_ok dd6) (by decide) ?_
        exact ih G4 x0 (x1 + (nI 1)) (x2 + (nI 1)) h
theorem k_I_countParts {l : Launch} {D : va_G} {B : Nat} {O : State → Heap → Prop} (hV : zG l D B O) (G : gH) (a0 : Nat) : gMet (zVm l D B O) m_I_countParts 3 [.ref a0] G (f_I_countParts G a0) := by
  have hdd : lSa m_I_countParts 0 [(.iconst 0, nI 0), (.istore_n 1, 0), (.iconst 2, nI 2), (.istore_n 2, 0)] = true ∧ lSa m_I_countParts 27 [(.iload_n 1, 0)] = true ∧ lIa m_I_countParts 28 (.ireturn) 1 = true := by decide +kernel
  obtain ⟨dd0, dd1, dd2⟩ := hdd
  refine gMet.of (by decide +kernel) (Nat.le_of_ble_eq_true rfl) [some (.ref a0), none, none] (fun ls h => zEn_ok (n := 3) h) ?_
  intro o Gf h
  unfold f_I_countParts at h
  refine Y.blk (pc' := 4) (L' := [some (.ref a0), some (.int (nI 0)), some (.int (nI 2))]) (st' := []) (sg := [(.iconst 0, nI 0), (.istore_n 1, 0), (.iconst 2, nI 2), (.istore_n 2, 0)]) (lSa_ok dd0) rfl ?_
  refine k_I_countParts_L4 hV _ ?_  zFu G a0 (nI 0) (nI 2) h
  · intro G9 x8 h
    refine Y.blk (pc' := 28) (L' := [none, some (.int x8), none]) (st' := [.int x8]) (sg := [(.iload_n 1, 0)]) (lSa_ok dd1) rfl ?_
    exact Y.iret rfl (lIa_ok dd2) h

def f_X_worthOfHouse (G : gH) (a0 : Nat) (a1 : Int32) : gR :=
  if a1.toInt = 0 then (gFI G a0 3 2 fun v1 => rI v1 G)
  else if a1.toInt = 1 then (gFA G a0 3 0 fun v3 => gOb G v3 1 fun o5 => bI (f_I_countParts G v3) fun v8 G7 => rI v8 G7)
  else if a1.toInt = 2 then (gFA G a0 3 1 fun v10 => gOb G v10 0 fun o12 => bI (f_U_countThere G v10) fun v15 G14 => rI v15 G14)
  else if a1.toInt = 3 then (gFA G a0 3 1 fun v17 => gOb G v17 0 fun o19 => bI (f_U_countStale G v17) fun v22 G21 => rI v22 G21)
  else if a1.toInt = 4 then (gFA G a0 3 0 fun v24 => gOb G v24 1 fun o26 => bI (f_I_countEnded G v24) fun v29 G28 => rI v29 G28)
  else if a1.toInt = 5 then (gFA G a0 3 1 fun v31 => gOb G v31 0 fun o33 => bI (f_U_countEnded G v31) fun v36 G35 => rI v36 G35)
  else if a1.toInt = 6 then (gFI G a0 3 3 fun v38 => rI v38 G)
  else gFI G a0 3 4 fun v40 => rI v40 G
theorem k_X_worthOfHouse {l : Launch} {D : va_G} {B : Nat} {O : State → Heap → Prop} (hV : zG l D B O) (G : gH) (a0 : Nat) (a1 : Int32) : gMet (zVm l D B O) m_X_worthOfHouse 5 [.ref a0, .int a1] G (f_X_worthOfHouse G a0 a1) := by
  have hdd : lSa m_X_worthOfHouse 0 [(.iload_n 1, 0)] = true ∧ lSa m_X_worthOfHouse 44 [(.aload_n 0, 0)] = true ∧ lIa m_X_worthOfHouse 45 (.getfield 275) 3 = true ∧ lIa m_X_worthOfHouse 48 (.ireturn) 1 = true ∧ lSa m_X_worthOfHouse 49 [(.aload_n 0, 0)] = true ∧ lIa m_X_worthOfHouse 50 (.getfield 10) 3 = true ∧ lIa m_X_worthOfHouse 53 (.invokevirtual 308) 3 = true ∧ lIa m_X_worthOfHouse 56 (.ireturn) 1 = true ∧ lSa m_X_worthOfHouse 57 [(.aload_n 0, 0)] = true ∧ lIa m_X_worthOfHouse 58 (.getfield 19) 3 = true ∧ lIa m_X_worthOfHouse 61 (.invokevirtual 311) 3 = true ∧ lIa m_X_worthOfHouse 64 (.ireturn) 1 = true ∧ lSa m_X_worthOfHouse 65 [(.aload_n 0, 0)] = true ∧ lIa m_X_worthOfHouse 66 (.getfield 19) 3 = true ∧ lIa m_X_worthOfHouse 69 (.invokevirtual 314) 3 = true ∧ lIa m_X_worthOfHouse 72 (.ireturn) 1 = true ∧ lSa m_X_worthOfHouse 73 [(.aload_n 0, 0)] = true ∧ lIa m_X_worthOfHouse 74 (.getfield 10) 3 = true ∧ lIa m_X_worthOfHouse 77 (.invokevirtual 317) 3 = true ∧ lIa m_X_worthOfHouse 80 (.ireturn) 1 = true ∧ lSa m_X_worthOfHouse 81 [(.aload_n 0, 0)] = true ∧ lIa m_X_worthOfHouse 82 (.getfield 19) 3 = true ∧ lIa m_X_worthOfHouse 85 (.invokevirtual 320) 3 = true ∧ lIa m_X_worthOfHouse 88 (.ireturn) 1 = true ∧ lSa m_X_worthOfHouse 89 [(.aload_n 0, 0)] = true ∧ lIa m_X_worthOfHouse 90 (.getfield 302) 3 = true ∧ lIa m_X_worthOfHouse 93 (.ireturn) 1 = true ∧ lSa m_X_worthOfHouse 94 [(.aload_n 0, 0)] = true ∧ lIa m_X_worthOfHouse 95 (.getfield 257) 3 = true ∧ lIa m_X_worthOfHouse 98 (.ireturn) 1 = true := by decide +kernel
  refine lA8 hdd (fun dd0 dd1 dd2 dd3 dd4 dd5 dd6 dd7 hdd => ?_)
  refine lA8 hdd (fun dd8 dd9 dd10 dd11 dd12 dd13 dd14 dd15 hdd => ?_)
  refine lA8 hdd (fun dd16 dd17 dd18 dd19 dd20 dd21 dd22 dd23 hdd => ?_)
  obtain ⟨dd24, dd25, dd26, dd27, dd28, dd29⟩ := hdd
  refine gMet.of (by decide +kernel) (Nat.le_of_ble_eq_true rfl) [some (.ref a0), some (.int a1)] (fun ls h => zEn_ok (n := 2) h) ?_
  intro o Gf h
  unfold f_X_worthOfHouse at h
  refine Y.blk (pc' := 1) (L' := [some (.ref a0), some (.int a1)]) (st' := [.int a1]) (sg := [(.iload_n 1, 0)]) (lSa_ok dd0) rfl ?_
  refine Y.swC (j := 0) (off := 43) (tgt := 44) (dflt := 93) (lo := 0) (hi := 6) (offs := #[43, 48, 56, 64, 72, 80, 88]) (len := 43) (by decide +kernel) (by decide) (by decide) (by decide) h (fun c2 h => ?_) (fun c2 h => ?_)
  · refine Y.blk (pc' := 45) (L' := [some (.ref a0), some (.int a1)]) (st' := [.ref a0]) (sg := [(.aload_n 0, 0)]) (lSa_ok dd1) rfl ?_
    refine Y.getI fl_X_275 (lIa_ok dd2) h (fun v1 h => ?_)
    exact Y.iret rfl (lIa_ok dd3) h
  refine Y.swC (j := 1) (off := 48) (tgt := 49) (dflt := 93) (lo := 0) (hi := 6) (offs := #[43, 48, 56, 64, 72, 80, 88]) (len := 43) (by decide +kernel) (by decide) (by decide) (by decide) h (fun c9 h => ?_) (fun c9 h => ?_)
  · refine Y.blk (pc' := 50) (L' := [some (.ref a0), some (.int a1)]) (st' := [.ref a0]) (sg := [(.aload_n 0, 0)]) (lSa_ok dd4) rfl ?_
    refine Y.getA fl_X_10 (lIa_ok dd5) h (fun v3 h => ?_)
    obtain ⟨_, o5, e4, m6, h⟩ := gOb_inv h
    refine Y.callI (yC.Vi (b := v3) (As := []) (st := []) (r := ("Partlister$Lists", T_I, 7)) hV.1 cb_I_countParts lk_X_308 in_I_countParts rfl se_I_countParts (lIa_ok dd6) rfl rfl (Nat.le_of_ble_eq_true rfl) (by decide) e4 m6) (k_I_countParts hV G v3) h (fun v8 G7 _ h => ?_)
    exact Y.iret rfl (lIa_ok dd7) h
  refine Y.swC (j := 2) (off := 56) (tgt := 57) (dflt := 93) (lo := 0) (hi := 6) (offs := #[43, 48, 56, 64, 72, 80, 88]) (len := 43) (by decide +kernel) (by decide) (by decide) (by decide) h (fun c16 h => ?_) (fun c16 h => ?_)
  · refine Y.blk (pc' := 58) (L' := [some (.ref a0), some (.int a1)]) (st' := [.ref a0]) (sg := [(.aload_n 0, 0)]) (lSa_ok dd8) rfl ?_
    refine Y.getA fl_X_19 (lIa_ok dd9) h (fun v10 h => ?_)
    obtain ⟨_, o12, e11, m13, h⟩ := gOb_inv h
    refine Y.callI (yC.Vi (b := v10) (As := []) (st := []) (r := ("Partlister$Cursors", T_U, 5)) hV.1 cb_U_countThere lk_X_311 in_U_countThere rfl se_U_countThere (lIa_ok dd10) rfl rfl (Nat.le_of_ble_eq_true rfl) (by decide) e11 m13) (k_U_countThere hV G v10) h (fun v15 G14 _ h => ?_)
    exact Y.iret rfl (lIa_ok dd11) h
  refine Y.swC (j := 3) (off := 64) (tgt := 65) (dflt := 93) (lo := 0) (hi := 6) (offs := #[43, 48, 56, 64, 72, 80, 88]) (len := 43) (by decide +kernel) (by decide) (by decide) (by decide) h (fun c23 h => ?_) (fun c23 h => ?_)
  · refine Y.blk (pc' := 66) (L' := [some (.ref a0), some (.int a1)]) (st' := [.ref a0]) (sg := [(.aload_n 0, 0)]) (lSa_ok dd12) rfl ?_
    refine Y.getA fl_X_19 (lIa_ok dd13) h (fun v17 h => ?_)
    obtain ⟨_, o19, e18, m20, h⟩ := gOb_inv h
    refine Y.callI (yC.Vi (b := v17) (As := []) (st := []) (r := ("Partlister$Cursors", T_U, 5)) hV.1 cb_U_countStale lk_X_314 in_U_countStale rfl se_U_countStale (lIa_ok dd14) rfl rfl (Nat.le_of_ble_eq_true rfl) (by decide) e18 m20) (k_U_countStale hV G v17) h (fun v22 G21 _ h => ?_)
    exact Y.iret rfl (lIa_ok dd15) h
  refine Y.swC (j := 4) (off := 72) (tgt := 73) (dflt := 93) (lo := 0) (hi := 6) (offs := #[43, 48, 56, 64, 72, 80, 88]) (len := 43) (by decide +kernel) (by decide) (by decide) (by decide) h (fun c30 h => ?_) (fun c30 h => ?_)
  · refine Y.blk (pc' := 74) (L' := [some (.ref a0), some (.int a1)]) (st' := [.ref a0]) (sg := [(.aload_n 0, 0)]) (lSa_ok dd16) rfl ?_
    refine Y.getA fl_X_10 (lIa_ok dd17) h (fun v24 h => ?_)
    obtain ⟨_, o26, e25, m27, h⟩ := gOb_inv h
    refine Y.callI (yC.Vi (b := v24) (As := []) (st := []) (r := ("Partlister$Lists", T_I, 7)) hV.1 cb_I_countEnded lk_X_317 in_I_countEnded rfl se_I_countEnded (lIa_ok dd18) rfl rfl (Nat.le_of_ble_eq_true rfl) (by decide) e25 m27) (k_I_countEnded hV G v24) h (fun v29 G28 _ h => ?_)
    exact Y.iret rfl (lIa_ok dd19) h
  refine Y.swC (j := 5) (off := 80) (tgt := 81) (dflt := 93) (lo := 0) (hi := 6) (offs := #[43, 48, 56, 64, 72, 80, 88]) (len := 43) (by decide +kernel) (by decide) (by decide) (by decide) h (fun c37 h => ?_) (fun c37 h => ?_)
  · refine Y.blk (pc' := 82) (L' := [some (.ref a0), some (.int a1)]) (st' := [.ref a0]) (sg := [(.aload_n 0, 0)]) (lSa_ok dd20) rfl ?_
    refine Y.getA fl_X_19 (lIa_ok dd21) h (fun v31 h => ?_)
    obtain ⟨_, o33, e32, m34, h⟩ := gOb_inv h
    refine Y.callI (yC.Vi (b := v31) (As := []) (st := []) (r := ("Partlister$Cursors", T_U, 5)) hV.1 cb_U_countEnded lk_X_320 in_U_countEnded rfl se_U_countEnded (lIa_ok dd22) rfl rfl (Nat.le_of_ble_eq_true rfl) (by decide) e32 m34) (k_U_countEnded hV G v31) h (fun v36 G35 _ h => ?_)
    exact Y.iret rfl (lIa_ok dd23) h
  refine Y.swC (j := 6) (off := 88) (tgt := 89) (dflt := 93) (lo := 0) (hi := 6) (offs := #[43, 48, 56, 64, 72, 80, 88]) (len := 43) (by decide +kernel) (by decide) (by decide) (by decide) h (fun c39 h => ?_) (fun c39 h => ?_)
  · refine Y.blk (pc' := 90) (L' := [some (.ref a0), some (.int a1)]) (st' := [.ref a0]) (sg := [(.aload_n 0, 0)]) (lSa_ok dd24) rfl ?_
    refine Y.getI fl_X_302 (lIa_ok dd25) h (fun v38 h => ?_)
    exact Y.iret rfl (lIa_ok dd26) h
  refine Y.swOut (dflt := 93) (lo := 0) (hi := 6) (offs := #[43, 48, 56, 64, 72, 80, 88]) (len := 43) (tgt := 94) (by decide +kernel) (by omega) (by decide) ?_
  refine Y.blk (pc' := 95) (L' := [some (.ref a0), some (.int a1)]) (st' := [.ref a0]) (sg := [(.aload_n 0, 0)]) (lSa_ok dd27) rfl ?_
  refine Y.getI fl_X_257 (lIa_ok dd28) h (fun v40 h => ?_)
  exact Y.iret rfl (lIa_ok dd29) h
