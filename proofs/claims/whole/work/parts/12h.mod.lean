def f_M_isWhole_L94 (w : Nat → Nat) (K130 : gH → gR) (K138 : gH → Nat → Int32 → Int32 → gR) : Nat → gH → Nat → Int32 → Int32 → Nat → Int32 → gR
  | 0, _, _, _, _, _, _ => none
  | n + 1, G, x0, x1, x2, x3, x4 =>
    gOb G x3 9 fun o14 => bI (f_AL_size G x3) fun v17 G16 => if v17 ≤ x4 then K138 G16 x0 x1 x2
    else gOb G16 x3 9 fun o19 => bA (f_AL_get G16 x3 x4) fun v22 G21 => gCaA G21 v22 100 (gOb G21 x3 9 fun o24 => bA (f_AL_get G21 x3 (x4 - (nI 1))) fun v27 G26 => gCaA G26 v27 100 (bI (f_M_ahead G26 v22 v27 x2) fun v30 G29 => if 0 ≤ v30 then f_M_isWhole_L94 w K130 K138 n G29 x0 x1 x2 x3 (x4 + (nI 1))
      else K130 G29))
def f_M_isWhole_L75 (w : Nat → Nat) (K130 : gH → gR) (K144 : gH → Nat → Int32 → gR) : Nat → gH → Nat → Int32 → Int32 → gR
  | 0, _, _, _, _ => none
  | n + 1, G, x0, x1, x2 =>
    if (nI 5) ≤ x2 then K144 G x0 x1
    else gOb G x0 6 fun o7 => bA (f_M_copy w G x0 x1) fun v10 G9 => bV (f_M_order G9 v10 x2) fun G12 => f_M_isWhole_L94 w (fun G33 => K130 G33) (fun G37 x34 x35 x36 => f_M_isWhole_L75 w K130 K144 n G37 x34 x35 (x36 + (nI 1))) zFu G12 x0 x1 x2 v10 (nI 1)
def f_M_isWhole_L2 (w : Nat → Nat) (K71 : gH → gR) (K130 : gH → gR) (K150 : gH → Nat → gR) : Nat → gH → Nat → Int32 → gR
  | 0, _, _, _ => none
  | n + 1, G, x0, x1 =>
    if (nI 6) ≤ x1 then K150 G x0
    else gOb G x0 6 fun o2 => bI (f_M_isNoList G x0 x1) fun v5 G4 => if v5 = 0 then (if x1 < (nI 2) then f_M_isWhole_L75 w (fun G39 => K130 G39) (fun G42 x40 x41 => f_M_isWhole_L2 w K71 K130 K150 n G42 x40 (x41 + (nI 1))) zFu G4 x0 x1 (nI 0)
        else gFA G4 x0 6 2 fun v43 => gLdq G4 v43 104 x1 (none) fun v44 => gFI G4 v44 5 1 fun v45 => if v45 < 0 then K71 G4
            else gFA G4 x0 6 2 fun v46 => gLdq G4 v46 104 x1 (none) fun v47 => gFI G4 v47 5 1 fun v48 => gFA G4 x0 6 2 fun v49 => gLdq G4 v49 104 x1 (none) fun v50 => gFI G4 v50 5 2 fun v51 => gFA G4 x0 6 2 fun v52 => gLdq G4 v52 104 x1 (none) fun v53 => gFI G4 v53 5 0 fun v54 => gOb G4 x0 6 fun o56 => bI (f_M_length G4 x0 v54) fun v59 G58 => if (v48 + v51) ≤ v59 then f_M_isWhole_L75 w (fun G60 => K130 G60) (fun G63 x61 x62 => f_M_isWhole_L2 w K71 K130 K150 n G63 x61 (x62 + (nI 1))) zFu G58 x0 x1 (nI 0)
                    else K71 G58)
      else f_M_isWhole_L2 w K71 K130 K150 n G4 x0 (x1 + (nI 1))
def f_M_isWhole (w : Nat → Nat) (G : gH) (a0 : Nat) : gR :=
  f_M_isWhole_L2 w (fun G69 => rZ (nI 0) G69) (fun G70 => rZ (nI 0) G70) (fun G72 x71 => gFA G72 x71 6 1 fun v73 => gOb G72 v73 9 fun o75 => bA (f_AL_get G72 v73 (nI 0)) fun v78 G77 => gCaO G77 v78 9 (gOb G77 v78 9 fun o80 => bI (f_AL_size G77 v78) fun v83 G82 => if (nI 31) < v83 then rZ (nI 0) G82
    else gFA G82 x71 6 1 fun v84 => gOb G82 v84 9 fun o86 => bA (f_AL_get G82 v84 (nI 1)) fun v89 G88 => gCaO G88 v89 9 (gOb G88 v89 9 fun o91 => bI (f_AL_size G88 v89) fun v94 G93 => if (nI 31) < v94 then rZ (nI 0) G93
      else rZ (nI 1) G93))) zFu G a0 (nI 0)
theorem k_M_isWhole_L94 {l : Launch} {D : va_G} {B : Nat} {O : State → Heap → Prop} {w : Nat → Nat} (hV : zGw l D B O w) {o : gO} {Gf : gH} (K130 : gH → gR) (K138 : gH → Nat → Int32 → Int32 → gR) (hK130 : ∀ (G : gH), K130 G  = some (o, Gf) → Y (zVm l D B O) m_M_isWhole 14 o Gf 130 [none, none, none, none, none] [] G) (hK138 : ∀ (G : gH) (x0 : Nat) (x1 : Int32) (x2 : Int32), K138 G x0 x1 x2 = some (o, Gf) → Y (zVm l D B O) m_M_isWhole 14 o Gf 138 [some (.ref x0), some (.int x1), some (.int x2), none, none] [] G) : ∀ (n : Nat) (G : gH) (x0 : Nat) (x1 : Int32) (x2 : Int32) (x3 : Nat) (x4 : Int32), f_M_isWhole_L94 w K130 K138 n G x0 x1 x2 x3 x4 = some (o, Gf) → Y (zVm l D B O) m_M_isWhole 14 o Gf 94 [some (.ref x0), some (.int x1), some (.int x2), some (.ref x3), some (.int x4)] [] G := by
  have hdd : lSa m_M_isWhole 94 [(.iload 4, 0), (.aload_n 3, 0)] = true ∧ lIa m_M_isWhole 97 (.invokevirtual 61) 3 = true ∧ lIa m_M_isWhole 100 (.if_icmp .ge 38) 3 = true ∧ lSa m_M_isWhole 103 [(.aload_n 3, 0), (.iload 4, 0)] = true ∧ lIa m_M_isWhole 106 (.invokevirtual 57) 3 = true ∧ lIa m_M_isWhole 109 (.checkcast 72) 3 = true ∧ lSa m_M_isWhole 112 [(.aload_n 3, 0), (.iload 4, 0), (.iconst 1, nI 1), (.isub, 0)] = true ∧ lIa m_M_isWhole 117 (.invokevirtual 57) 3 = true ∧ lIa m_M_isWhole 120 (.checkcast 72) 3 = true ∧ lSa m_M_isWhole 123 [(.iload_n 2, 0)] = true ∧ lIa m_M_isWhole 124 (.invokestatic 180) 3 = true ∧ lIa m_M_isWhole 127 (.ifCond .ge 5) 3 = true ∧ lSa m_M_isWhole 132 [(.iinc 4 1, nI 1)] = true ∧ lIa m_M_isWhole 135 (.goto (-41)) 3 = true := by decide +kernel
  refine lA8 hdd (fun dd0 dd1 dd2 dd3 dd4 dd5 dd6 dd7 hdd => ?_)
  obtain ⟨dd8, dd9, dd10, dd11, dd12, dd13⟩ := hdd
  intro n
  induction n with
  | zero => intro G x0 x1 x2 x3 x4 h; cases h
  | succ n ih =>
    intro G x0 x1 x2 x3 x4 h
    unfold f_M_isWhole_L94 at h
    refine Y.blk (pc' := 97) (L' := [some (.ref x0), some (.int x1), some (.int x2), some (.ref x3), some (.int x4)]) (st' := [.ref x3, .int x4]) (sg := [(.iload 4, 0), (.aload_n 3, 0)]) (lSa_ok dd0) rfl ?_
    obtain ⟨_, o14, e13, m15, h⟩ := gOb_inv h
    refine Y.callI (yC.Vi (b := x3) (As := []) (st := [.int x4]) (r := ("java/util/ArrayList", T_AL, 3)) hV.1.1 cb_AL_size lk_M_61 in_AL_size rfl se_AL_size (lIa_ok dd1) rfl rfl (Nat.le_of_ble_eq_true rfl) (by decide) e13 m15) (k_AL_size hV.1 G x3) h (fun v17 G16 _ h => ?_)
    refine Y.ic_ge (off := 38) (tgt := 138) (lIa_ok dd2) (by decide) h (fun c32 h => ?_) (fun c32 h => ?_)
    · refine Y.less (L' := [some (.ref x0), some (.int x1), some (.int x2), none, none]) (zLe_some (zLe_some (zLe_some (zLe_none (zLe_none (zLe_nil)))))) ?_
      exact hK138 G16 x0 x1 x2 h
    · refine Y.blk (pc' := 106) (L' := [some (.ref x0), some (.int x1), some (.int x2), some (.ref x3), some (.int x4)]) (st' := [.int x4, .ref x3]) (sg := [(.aload_n 3, 0), (.iload 4, 0)]) (lSa_ok dd3) rfl ?_
      obtain ⟨_, o19, e18, m20, h⟩ := gOb_inv h
      refine Y.callA (yC.Vi (b := x3) (As := [.int x4]) (st := []) (r := ("java/util/ArrayList", T_AL, 3)) hV.1.1 cb_AL_get lk_M_57 in_AL_get rfl se_AL_get (lIa_ok dd4) rfl rfl (Nat.le_of_ble_eq_true rfl) (by decide) e18 m20) (k_AL_get hV.1 G16 x3 x4) h (fun v22 G21 _ h => ?_)
      refine Y.castA (t0 := 0) (nm := "[I") (lIa_ok dd5) rfl (by decide) ck_M_72 h (fun h => ?_)
      refine Y.blk (pc' := 117) (L' := [some (.ref x0), some (.int x1), some (.int x2), some (.ref x3), some (.int x4)]) (st' := [.int (x4 - (nI 1)), .ref x3, .ref v22]) (sg := [(.aload_n 3, 0), (.iload 4, 0), (.iconst 1, nI 1), (.isub, 0)]) (lSa_ok dd6) rfl ?_
      obtain ⟨_, o24, e23, m25, h⟩ := gOb_inv h
      refine Y.callA (yC.Vi (b := x3) (As := [.int (x4 - (nI 1))]) (st := [.ref v22]) (r := ("java/util/ArrayList", T_AL, 3)) hV.1.1 cb_AL_get lk_M_57 in_AL_get rfl se_AL_get (lIa_ok dd7) rfl rfl (Nat.le_of_ble_eq_true rfl) (by decide) e23 m25) (k_AL_get hV.1 G21 x3 (x4 - (nI 1))) h (fun v27 G26 _ h => ?_)
      refine Y.castA (t0 := 0) (nm := "[I") (lIa_ok dd8) rfl (by decide) ck_M_72 h (fun h => ?_)
      refine Y.blk (pc' := 124) (L' := [some (.ref x0), some (.int x1), some (.int x2), some (.ref x3), some (.int x4)]) (st' := [.int x2, .ref v27, .ref v22]) (sg := [(.iload_n 2, 0)]) (lSa_ok dd9) rfl ?_
      refine Y.callI (yC.S (As := [.ref v22, .ref v27, .int x2]) (st := []) hV.1.1 cb_M_ahead lk_M_180 st_M_ahead (lIa_ok dd10) rfl rfl (Nat.le_of_ble_eq_true rfl) (by decide)) (k_M_ahead hV.1 G26 v22 v27 x2) h (fun v30 G29 _ h => ?_)
      refine Y.if_ge (off := 5) (tgt := 132) (lIa_ok dd11) (by decide) h (fun c31 h => ?_) (fun c31 h => ?_)
      · refine Y.blk (pc' := 135) (L' := [some (.ref x0), some (.int x1), some (.int x2), some (.ref x3), some (.int (x4 + (nI 1)))]) (st' := []) (sg := [(.iinc 4 1, nI 1)]) (lSa_ok dd12) rfl ?_
        refine Y.goto (off := -41) (tgt := 94) (lIa_ok dd13) (by decide) ?_
        exact ih G29 x0 x1 x2 x3 (x4 + (nI 1)) h
      · refine Y.less (L' := [none, none, none, none, none]) (zLe_none (zLe_none (zLe_none (zLe_none (zLe_none (zLe_nil)))))) ?_
        exact hK130 G29  h
theorem k_M_isWhole_L75 {l : Launch} {D : va_G} {B : Nat} {O : State → Heap → Prop} {w : Nat → Nat} (hV : zGw l D B O w) {o : gO} {Gf : gH} (K130 : gH → gR) (K144 : gH → Nat → Int32 → gR) (hK130 : ∀ (G : gH), K130 G  = some (o, Gf) → Y (zVm l D B O) m_M_isWhole 14 o Gf 130 [none, none, none, none, none] [] G) (hK144 : ∀ (G : gH) (x0 : Nat) (x1 : Int32), K144 G x0 x1 = some (o, Gf) → Y (zVm l D B O) m_M_isWhole 14 o Gf 144 [some (.ref x0), some (.int x1), none, none, none] [] G) : ∀ (n : Nat) (G : gH) (x0 : Nat) (x1 : Int32) (x2 : Int32), f_M_isWhole_L75 w K130 K144 n G x0 x1 x2 = some (o, Gf) → Y (zVm l D B O) m_M_isWhole 14 o Gf 75 [some (.ref x0), some (.int x1), some (.int x2), none, none] [] G := by
  have hdd : lSa m_M_isWhole 75 [(.iload_n 2, 0), (.iconst 5, nI 5)] = true ∧ lIa m_M_isWhole 77 (.if_icmp .ge 67) 3 = true ∧ lSa m_M_isWhole 80 [(.aload_n 0, 0), (.iload_n 1, 0)] = true ∧ lIa m_M_isWhole 82 (.invokevirtual 136) 3 = true ∧ lSa m_M_isWhole 85 [(.astore_n 3, 0), (.aload_n 3, 0), (.iload_n 2, 0)] = true ∧ lIa m_M_isWhole 88 (.invokestatic 184) 3 = true ∧ lSa m_M_isWhole 91 [(.iconst 1, nI 1), (.istore 4, 0)] = true ∧ lSa m_M_isWhole 138 [(.iinc 2 1, nI 1)] = true ∧ lIa m_M_isWhole 141 (.goto (-66)) 3 = true := by decide +kernel
  refine lA8 hdd (fun dd0 dd1 dd2 dd3 dd4 dd5 dd6 dd7 hdd => ?_)
  have dd8 := hdd
  intro n
  induction n with
  | zero => intro G x0 x1 x2 h; cases h
  | succ n ih =>
    intro G x0 x1 x2 h
    unfold f_M_isWhole_L75 at h
    refine Y.blk (pc' := 77) (L' := [some (.ref x0), some (.int x1), some (.int x2), none, none]) (st' := [.int (nI 5), .int x2]) (sg := [(.iload_n 2, 0), (.iconst 5, nI 5)]) (lSa_ok dd0) rfl ?_
    refine Y.ic_ge (off := 67) (tgt := 144) (lIa_ok dd1) (by decide) h (fun c38 h => ?_) (fun c38 h => ?_)
    · refine Y.less (L' := [some (.ref x0), some (.int x1), none, none, none]) (zLe_some (zLe_some (zLe_none (zLe_some (zLe_some (zLe_nil)))))) ?_
      exact hK144 G x0 x1 h
    · refine Y.blk (pc' := 82) (L' := [some (.ref x0), some (.int x1), some (.int x2), none, none]) (st' := [.int x1, .ref x0]) (sg := [(.aload_n 0, 0), (.iload_n 1, 0)]) (lSa_ok dd2) rfl ?_
      obtain ⟨_, o7, e6, m8, h⟩ := gOb_inv h
      refine Y.callA (yC.Vi (b := x0) (As := [.int x1]) (st := []) (r := ("PartlisterModel", T_M, 9)) hV.1.1 cb_M_copy lk_M_136 in_M_copy rfl se_M_copy (lIa_ok dd3) rfl rfl (Nat.le_of_ble_eq_true rfl) (by decide) e6 m8) (k_M_copy hV G x0 x1) h (fun v10 G9 _ h => ?_)
      refine Y.blk (pc' := 88) (L' := [some (.ref x0), some (.int x1), some (.int x2), some (.ref v10), none]) (st' := [.int x2, .ref v10]) (sg := [(.astore_n 3, 0), (.aload_n 3, 0), (.iload_n 2, 0)]) (lSa_ok dd4) rfl ?_
      refine Y.callN (yC.S (As := [.ref v10, .int x2]) (st := []) hV.1.1 cb_M_order lk_M_184 st_M_order (lIa_ok dd5) rfl rfl (Nat.le_of_ble_eq_true rfl) (by decide)) (k_M_order hV.1 G9 v10 x2) h (fun G12 _ h => ?_)
      refine Y.blk (pc' := 94) (L' := [some (.ref x0), some (.int x1), some (.int x2), some (.ref v10), some (.int (nI 1))]) (st' := []) (sg := [(.iconst 1, nI 1), (.istore 4, 0)]) (lSa_ok dd6) rfl ?_
      refine k_M_isWhole_L94 hV _ _ ?_ ?_  zFu G12 x0 x1 x2 v10 (nI 1) h
      · intro G33 h
        exact hK130 G33  h
      · intro G37 x34 x35 x36 h
        refine Y.blk (pc' := 141) (L' := [some (.ref x34), some (.int x35), some (.int (x36 + (nI 1))), none, none]) (st' := []) (sg := [(.iinc 2 1, nI 1)]) (lSa_ok dd7) rfl ?_
        refine Y.goto (off := -66) (tgt := 75) (lIa_ok dd8) (by decide) ?_
        exact ih G37 x34 x35 (x36 + (nI 1)) h
theorem k_M_isWhole_L2 {l : Launch} {D : va_G} {B : Nat} {O : State → Heap → Prop} {w : Nat → Nat} (hV : zGw l D B O w) {o : gO} {Gf : gH} (K71 : gH → gR) (K130 : gH → gR) (K150 : gH → Nat → gR) (hK71 : ∀ (G : gH), K71 G  = some (o, Gf) → Y (zVm l D B O) m_M_isWhole 14 o Gf 71 [none, none, none, none, none] [] G) (hK130 : ∀ (G : gH), K130 G  = some (o, Gf) → Y (zVm l D B O) m_M_isWhole 14 o Gf 130 [none, none, none, none, none] [] G) (hK150 : ∀ (G : gH) (x0 : Nat), K150 G x0 = some (o, Gf) → Y (zVm l D B O) m_M_isWhole 14 o Gf 150 [some (.ref x0), none, none, none, none] [] G) : ∀ (n : Nat) (G : gH) (x0 : Nat) (x1 : Int32), f_M_isWhole_L2 w K71 K130 K150 n G x0 x1 = some (o, Gf) → Y (zVm l D B O) m_M_isWhole 14 o Gf 2 [some (.ref x0), some (.int x1), none, none, none] [] G := by
  have hdd : lSa m_M_isWhole 2 [(.iload_n 1, 0), (.bipush 6, nI 6)] = true ∧ lIa m_M_isWhole 5 (.if_icmp .ge 145) 3 = true ∧ lSa m_M_isWhole 8 [(.aload_n 0, 0), (.iload_n 1, 0)] = true ∧ lIa m_M_isWhole 10 (.invokevirtual 110) 3 = true ∧ lIa m_M_isWhole 13 (.ifCond .eq 6) 3 = true ∧ lSa m_M_isWhole 19 [(.iload_n 1, 0), (.iconst 2, nI 2)] = true ∧ lIa m_M_isWhole 21 (.if_icmp .lt 52) 3 = true ∧ lSa m_M_isWhole 73 [(.iconst 0, nI 0), (.istore_n 2, 0)] = true ∧ lSa m_M_isWhole 144 [(.iinc 1 1, nI 1)] = true ∧ lIa m_M_isWhole 147 (.goto (-145)) 3 = true ∧ lSa m_M_isWhole 24 [(.aload_n 0, 0)] = true ∧ lIa m_M_isWhole 25 (.getfield 18) 3 = true ∧ lSa m_M_isWhole 28 [(.iload_n 1, 0)] = true ∧ lIa m_M_isWhole 29 (.aaload) 1 = true ∧ lIa m_M_isWhole 30 (.getfield 51) 3 = true ∧ lIa m_M_isWhole 33 (.ifCond .lt 38) 3 = true ∧ lSa m_M_isWhole 36 [(.aload_n 0, 0)] = true ∧ lIa m_M_isWhole 37 (.getfield 18) 3 = true ∧ lSa m_M_isWhole 40 [(.iload_n 1, 0)] = true ∧ lIa m_M_isWhole 41 (.aaload) 1 = true ∧ lIa m_M_isWhole 42 (.getfield 51) 3 = true ∧ lSa m_M_isWhole 45 [(.aload_n 0, 0)] = true ∧ lIa m_M_isWhole 46 (.getfield 18) 3 = true ∧ lSa m_M_isWhole 49 [(.iload_n 1, 0)] = true ∧ lIa m_M_isWhole 50 (.aaload) 1 = true ∧ lIa m_M_isWhole 51 (.getfield 65) 3 = true ∧ lSa m_M_isWhole 54 [(.iadd, 0), (.aload_n 0, 0), (.aload_n 0, 0)] = true ∧ lIa m_M_isWhole 57 (.getfield 18) 3 = true ∧ lSa m_M_isWhole 60 [(.iload_n 1, 0)] = true ∧ lIa m_M_isWhole 61 (.aaload) 1 = true ∧ lIa m_M_isWhole 62 (.getfield 44) 3 = true ∧ lIa m_M_isWhole 65 (.invokevirtual 74) 3 = true ∧ lIa m_M_isWhole 68 (.if_icmp .le 5) 3 = true ∧ lIa m_M_isWhole 16 (.goto 128) 3 = true := by decide +kernel
  refine lA8 hdd (fun dd0 dd1 dd2 dd3 dd4 dd5 dd6 dd7 hdd => ?_)
  refine lA8 hdd (fun dd8 dd9 dd10 dd11 dd12 dd13 dd14 dd15 hdd => ?_)
  refine lA8 hdd (fun dd16 dd17 dd18 dd19 dd20 dd21 dd22 dd23 hdd => ?_)
  refine lA8 hdd (fun dd24 dd25 dd26 dd27 dd28 dd29 dd30 dd31 hdd => ?_)
  obtain ⟨dd32, dd33⟩ := hdd
  intro n
  induction n with
  | zero => intro G x0 x1 h; cases h
  | succ n ih =>
    intro G x0 x1 h
    unfold f_M_isWhole_L2 at h
    refine Y.blk (pc' := 5) (L' := [some (.ref x0), some (.int x1), none, none, none]) (st' := [.int (nI 6), .int x1]) (sg := [(.iload_n 1, 0), (.bipush 6, nI 6)]) (lSa_ok dd0) rfl ?_
    refine Y.ic_ge (off := 145) (tgt := 150) (lIa_ok dd1) (by decide) h (fun c68 h => ?_) (fun c68 h => ?_)
    · refine Y.less (L' := [some (.ref x0), none, none, none, none]) (zLe_some (zLe_none (zLe_some (zLe_some (zLe_some (zLe_nil)))))) ?_
      exact hK150 G x0 h
    · refine Y.blk (pc' := 10) (L' := [some (.ref x0), some (.int x1), none, none, none]) (st' := [.int x1, .ref x0]) (sg := [(.aload_n 0, 0), (.iload_n 1, 0)]) (lSa_ok dd2) rfl ?_
      obtain ⟨_, o2, e1, m3, h⟩ := gOb_inv h
      refine Y.callI (yC.Vi (b := x0) (As := [.int x1]) (st := []) (r := ("PartlisterModel", T_M, 9)) hV.1.1 cb_M_isNoList lk_M_110 in_M_isNoList rfl se_M_isNoList (lIa_ok dd3) rfl rfl (Nat.le_of_ble_eq_true rfl) (by decide) e1 m3) (k_M_isNoList hV.1 G x0 x1) h (fun v5 G4 _ h => ?_)
      refine Y.if_eq (off := 6) (tgt := 19) (lIa_ok dd4) (by decide) h (fun c67 h => ?_) (fun c67 h => ?_)
      · refine Y.blk (pc' := 21) (L' := [some (.ref x0), some (.int x1), none, none, none]) (st' := [.int (nI 2), .int x1]) (sg := [(.iload_n 1, 0), (.iconst 2, nI 2)]) (lSa_ok dd5) rfl ?_
        refine Y.ic_lt (off := 52) (tgt := 73) (lIa_ok dd6) (by decide) h (fun c66 h => ?_) (fun c66 h => ?_)
        · refine Y.blk (pc' := 75) (L' := [some (.ref x0), some (.int x1), some (.int (nI 0)), none, none]) (st' := []) (sg := [(.iconst 0, nI 0), (.istore_n 2, 0)]) (lSa_ok dd7) rfl ?_
          refine k_M_isWhole_L75 hV _ _ ?_ ?_  zFu G4 x0 x1 (nI 0) h
          · intro G39 h
            exact hK130 G39  h
          · intro G42 x40 x41 h
            refine Y.blk (pc' := 147) (L' := [some (.ref x40), some (.int (x41 + (nI 1))), none, none, none]) (st' := []) (sg := [(.iinc 1 1, nI 1)]) (lSa_ok dd8) rfl ?_
            refine Y.goto (off := -145) (tgt := 2) (lIa_ok dd9) (by decide) ?_
            exact ih G42 x40 (x41 + (nI 1)) h
        · refine Y.blk (pc' := 25) (L' := [some (.ref x0), some (.int x1), none, none, none]) (st' := [.ref x0]) (sg := [(.aload_n 0, 0)]) (lSa_ok dd10) rfl ?_
          refine Y.getA fl_M_18 (lIa_ok dd11) h (fun v43 h => ?_)
          refine Y.blk (pc' := 29) (L' := [some (.ref x0), some (.int x1), none, none, none]) (st' := [.int x1, .ref v43]) (sg := [(.iload_n 1, 0)]) (lSa_ok dd12) rfl ?_
          refine Y.aald (t0 := 4) (lIa_ok dd13) rfl h (fun h => ?_) (fun v44 h => ?_)
          · cases h
          · refine Y.getI fl_M_51 (lIa_ok dd14) h (fun v45 h => ?_)
            refine Y.if_lt (off := 38) (tgt := 71) (lIa_ok dd15) (by decide) h (fun c65 h => ?_) (fun c65 h => ?_)
            · refine Y.less (L' := [none, none, none, none, none]) (zLe_none (zLe_none (zLe_some (zLe_some (zLe_some (zLe_nil)))))) ?_
              exact hK71 G4  h
            · refine Y.blk (pc' := 37) (L' := [some (.ref x0), some (.int x1), none, none, none]) (st' := [.ref x0]) (sg := [(.aload_n 0, 0)]) (lSa_ok dd16) rfl ?_
              refine Y.getA fl_M_18 (lIa_ok dd17) h (fun v46 h => ?_)
              refine Y.blk (pc' := 41) (L' := [some (.ref x0), some (.int x1), none, none, none]) (st' := [.int x1, .ref v46]) (sg := [(.iload_n 1, 0)]) (lSa_ok dd18) rfl ?_
              refine Y.aald (t0 := 4) (lIa_ok dd19) rfl h (fun h => ?_) (fun v47 h => ?_)
              · cases h
              · refine Y.getI fl_M_51 (lIa_ok dd20) h (fun v48 h => ?_)
                refine Y.blk (pc' := 46) (L' := [some (.ref x0), some (.int x1), none, none, none]) (st' := [.ref x0, .int v48]) (sg := [(.aload_n 0, 0)]) (lSa_ok dd21) rfl ?_
                refine Y.getA fl_M_18 (lIa_ok dd22) h (fun v49 h => ?_)
                refine Y.blk (pc' := 50) (L' := [some (.ref x0), some (.int x1), none, none, none]) (st' := [.int x1, .ref v49, .int v48]) (sg := [(.iload_n 1, 0)]) (lSa_ok dd23) rfl ?_
                refine Y.aald (t0 := 4) (lIa_ok dd24) rfl h (fun h => ?_) (fun v50 h => ?_)
                · cases h
                · refine Y.getI fl_M_65 (lIa_ok dd25) h (fun v51 h => ?_)
                  refine Y.blk (pc' := 57) (L' := [some (.ref x0), some (.int x1), none, none, none]) (st' := [.ref x0, .ref x0, .int (v48 + v51)]) (sg := [(.iadd, 0), (.aload_n 0, 0), (.aload_n 0, 0)]) (lSa_ok dd26) rfl ?_
                  refine Y.getA fl_M_18 (lIa_ok dd27) h (fun v52 h => ?_)
                  refine Y.blk (pc' := 61) (L' := [some (.ref x0), some (.int x1), none, none, none]) (st' := [.int x1, .ref v52, .ref x0, .int (v48 + v51)]) (sg := [(.iload_n 1, 0)]) (lSa_ok dd28) rfl ?_
                  refine Y.aald (t0 := 4) (lIa_ok dd29) rfl h (fun h => ?_) (fun v53 h => ?_)
                  · cases h
                  · refine Y.getI fl_M_44 (lIa_ok dd30) h (fun v54 h => ?_)
                    obtain ⟨_, o56, e55, m57, h⟩ := gOb_inv h
                    refine Y.callI (yC.Vi (b := x0) (As := [.int v54]) (st := [.int (v48 + v51)]) (r := ("PartlisterModel", T_M, 9)) hV.1.1 cb_M_length lk_M_74 in_M_length rfl se_M_length (lIa_ok dd31) rfl rfl (Nat.le_of_ble_eq_true rfl) (by decide) e55 m57) (k_M_length hV.1 G4 x0 v54) h (fun v59 G58 _ h => ?_)
                    refine Y.ic_le (off := 5) (tgt := 73) (lIa_ok dd32) (by decide) h (fun c64 h => ?_) (fun c64 h => ?_)
                    · refine Y.blk (pc' := 75) (L' := [some (.ref x0), some (.int x1), some (.int (nI 0)), none, none]) (st' := []) (sg := [(.iconst 0, nI 0), (.istore_n 2, 0)]) (lSa_ok dd7) rfl ?_
                      refine k_M_isWhole_L75 hV _ _ ?_ ?_  zFu G58 x0 x1 (nI 0) h
                      · intro G60 h
                        exact hK130 G60  h
                      · intro G63 x61 x62 h
                        refine Y.blk (pc' := 147) (L' := [some (.ref x61), some (.int (x62 + (nI 1))), none, none, none]) (st' := []) (sg := [(.iinc 1 1, nI 1)]) (lSa_ok dd8) rfl ?_
                        refine Y.goto (off := -145) (tgt := 2) (lIa_ok dd9) (by decide) ?_
                        exact ih G63 x61 (x62 + (nI 1)) h
                    · refine Y.less (L' := [none, none, none, none, none]) (zLe_none (zLe_none (zLe_some (zLe_some (zLe_some (zLe_nil)))))) ?_
                      exact hK71 G58  h
      · refine Y.goto (off := 128) (tgt := 144) (lIa_ok dd33) (by decide) ?_
        refine Y.blk (pc' := 147) (L' := [some (.ref x0), some (.int (x1 + (nI 1))), none, none, none]) (st' := []) (sg := [(.iinc 1 1, nI 1)]) (lSa_ok dd8) rfl ?_
        refine Y.goto (off := -145) (tgt := 2) (lIa_ok dd9) (by decide) ?_
        exact ih G4 x0 (x1 + (nI 1)) h
theorem k_M_isWhole {l : Launch} {D : va_G} {B : Nat} {O : State → Heap → Prop} {w : Nat → Nat} (hV : zGw l D B O w) (G : gH) (a0 : Nat) : gMet (zVm l D B O) m_M_isWhole 14 [.ref a0] G (f_M_isWhole w G a0) := by
  have hdd : lSa m_M_isWhole 0 [(.iconst 0, nI 0), (.istore_n 1, 0)] = true ∧ lSa m_M_isWhole 71 [(.iconst 0, nI 0)] = true ∧ lIa m_M_isWhole 72 (.ireturn) 1 = true ∧ lSa m_M_isWhole 130 [(.iconst 0, nI 0)] = true ∧ lIa m_M_isWhole 131 (.ireturn) 1 = true ∧ lSa m_M_isWhole 150 [(.aload_n 0, 0)] = true ∧ lIa m_M_isWhole 151 (.getfield 10) 3 = true ∧ lSa m_M_isWhole 154 [(.iconst 0, nI 0)] = true ∧ lIa m_M_isWhole 155 (.invokevirtual 57) 3 = true ∧ lIa m_M_isWhole 158 (.checkcast 7) 3 = true ∧ lIa m_M_isWhole 161 (.invokevirtual 61) 3 = true ∧ lSa m_M_isWhole 164 [(.bipush 31, nI 31)] = true ∧ lIa m_M_isWhole 166 (.if_icmp .gt 26) 3 = true ∧ lSa m_M_isWhole 192 [(.iconst 0, nI 0)] = true ∧ lIa m_M_isWhole 193 (.ireturn) 1 = true ∧ lSa m_M_isWhole 169 [(.aload_n 0, 0)] = true ∧ lIa m_M_isWhole 170 (.getfield 10) 3 = true ∧ lSa m_M_isWhole 173 [(.iconst 1, nI 1)] = true ∧ lIa m_M_isWhole 174 (.invokevirtual 57) 3 = true ∧ lIa m_M_isWhole 177 (.checkcast 7) 3 = true ∧ lIa m_M_isWhole 180 (.invokevirtual 61) 3 = true ∧ lSa m_M_isWhole 183 [(.bipush 31, nI 31)] = true ∧ lIa m_M_isWhole 185 (.if_icmp .gt 7) 3 = true ∧ lSa m_M_isWhole 188 [(.iconst 1, nI 1)] = true ∧ lIa m_M_isWhole 189 (.goto 4) 3 = true := by decide +kernel
  refine lA8 hdd (fun dd0 dd1 dd2 dd3 dd4 dd5 dd6 dd7 hdd => ?_)
  refine lA8 hdd (fun dd8 dd9 dd10 dd11 dd12 dd13 dd14 dd15 hdd => ?_)
  refine lA8 hdd (fun dd16 dd17 dd18 dd19 dd20 dd21 dd22 dd23 hdd => ?_)
  have dd24 := hdd
  refine gMet.of (by decide +kernel) (Nat.le_of_ble_eq_true rfl) [some (.ref a0), none, none, none, none] (fun ls h => zEn_ok (n := 5) h) ?_
  intro o Gf h
  unfold f_M_isWhole at h
  refine Y.blk (pc' := 2) (L' := [some (.ref a0), some (.int (nI 0)), none, none, none]) (st' := []) (sg := [(.iconst 0, nI 0), (.istore_n 1, 0)]) (lSa_ok dd0) rfl ?_
  refine k_M_isWhole_L2 hV _ _ _ ?_ ?_ ?_  zFu G a0 (nI 0) h
  · intro G69 h
    refine Y.blk (pc' := 72) (L' := [none, none, none, none, none]) (st' := [.int (nI 0)]) (sg := [(.iconst 0, nI 0)]) (lSa_ok dd1) rfl ?_
    exact Y.zret rfl (lIa_ok dd2) h
  · intro G70 h
    refine Y.blk (pc' := 131) (L' := [none, none, none, none, none]) (st' := [.int (nI 0)]) (sg := [(.iconst 0, nI 0)]) (lSa_ok dd3) rfl ?_
    exact Y.zret rfl (lIa_ok dd4) h
  · intro G72 x71 h
    refine Y.blk (pc' := 151) (L' := [some (.ref x71), none, none, none, none]) (st' := [.ref x71]) (sg := [(.aload_n 0, 0)]) (lSa_ok dd5) rfl ?_
    refine Y.getA fl_M_10 (lIa_ok dd6) h (fun v73 h => ?_)
    refine Y.blk (pc' := 155) (L' := [some (.ref x71), none, none, none, none]) (st' := [.int (nI 0), .ref v73]) (sg := [(.iconst 0, nI 0)]) (lSa_ok dd7) rfl ?_
    obtain ⟨_, o75, e74, m76, h⟩ := gOb_inv h
    refine Y.callA (yC.Vi (b := v73) (As := [.int (nI 0)]) (st := []) (r := ("java/util/ArrayList", T_AL, 3)) hV.1.1 cb_AL_get lk_M_57 in_AL_get rfl se_AL_get (lIa_ok dd8) rfl rfl (Nat.le_of_ble_eq_true rfl) (by decide) e74 m76) (k_AL_get hV.1 G72 v73 (nI 0)) h (fun v78 G77 _ h => ?_)
    refine Y.castO (r := ("java/util/ArrayList", T_AL, 3)) (lIa_ok dd9) rfl ck_M_7 h (fun h => ?_)
    obtain ⟨_, o80, e79, m81, h⟩ := gOb_inv h
    refine Y.callI (yC.Vi (b := v78) (As := []) (st := []) (r := ("java/util/ArrayList", T_AL, 3)) hV.1.1 cb_AL_size lk_M_61 in_AL_size rfl se_AL_size (lIa_ok dd10) rfl rfl (Nat.le_of_ble_eq_true rfl) (by decide) e79 m81) (k_AL_size hV.1 G77 v78) h (fun v83 G82 _ h => ?_)
    refine Y.blk (pc' := 166) (L' := [some (.ref x71), none, none, none, none]) (st' := [.int (nI 31), .int v83]) (sg := [(.bipush 31, nI 31)]) (lSa_ok dd11) rfl ?_
    refine Y.ic_gt (off := 26) (tgt := 192) (lIa_ok dd12) (by decide) h (fun c96 h => ?_) (fun c96 h => ?_)
    · refine Y.blk (pc' := 193) (L' := [some (.ref x71), none, none, none, none]) (st' := [.int (nI 0)]) (sg := [(.iconst 0, nI 0)]) (lSa_ok dd13) rfl ?_
      exact Y.zret rfl (lIa_ok dd14) h
    · refine Y.blk (pc' := 170) (L' := [some (.ref x71), none, none, none, none]) (st' := [.ref x71]) (sg := [(.aload_n 0, 0)]) (lSa_ok dd15) rfl ?_
      refine Y.getA fl_M_10 (lIa_ok dd16) h (fun v84 h => ?_)
      refine Y.blk (pc' := 174) (L' := [some (.ref x71), none, none, none, none]) (st' := [.int (nI 1), .ref v84]) (sg := [(.iconst 1, nI 1)]) (lSa_ok dd17) rfl ?_
      obtain ⟨_, o86, e85, m87, h⟩ := gOb_inv h
      refine Y.callA (yC.Vi (b := v84) (As := [.int (nI 1)]) (st := []) (r := ("java/util/ArrayList", T_AL, 3)) hV.1.1 cb_AL_get lk_M_57 in_AL_get rfl se_AL_get (lIa_ok dd18) rfl rfl (Nat.le_of_ble_eq_true rfl) (by decide) e85 m87) (k_AL_get hV.1 G82 v84 (nI 1)) h (fun v89 G88 _ h => ?_)
      refine Y.castO (r := ("java/util/ArrayList", T_AL, 3)) (lIa_ok dd19) rfl ck_M_7 h (fun h => ?_)
      obtain ⟨_, o91, e90, m92, h⟩ := gOb_inv h
      refine Y.callI (yC.Vi (b := v89) (As := []) (st := []) (r := ("java/util/ArrayList", T_AL, 3)) hV.1.1 cb_AL_size lk_M_61 in_AL_size rfl se_AL_size (lIa_ok dd20) rfl rfl (Nat.le_of_ble_eq_true rfl) (by decide) e90 m92) (k_AL_size hV.1 G88 v89) h (fun v94 G93 _ h => ?_)
      refine Y.blk (pc' := 185) (L' := [some (.ref x71), none, none, none, none]) (st' := [.int (nI 31), .int v94]) (sg := [(.bipush 31, nI 31)]) (lSa_ok dd21) rfl ?_
      refine Y.ic_gt (off := 7) (tgt := 192) (lIa_ok dd22) (by decide) h (fun c95 h => ?_) (fun c95 h => ?_)
      · refine Y.blk (pc' := 193) (L' := [some (.ref x71), none, none, none, none]) (st' := [.int (nI 0)]) (sg := [(.iconst 0, nI 0)]) (lSa_ok dd13) rfl ?_
        exact Y.zret rfl (lIa_ok dd14) h
      · refine Y.blk (pc' := 189) (L' := [some (.ref x71), none, none, none, none]) (st' := [.int (nI 1)]) (sg := [(.iconst 1, nI 1)]) (lSa_ok dd23) rfl ?_
        refine Y.goto (off := 4) (tgt := 193) (lIa_ok dd24) (by decide) ?_
        exact Y.zret rfl (lIa_ok dd14) h

def f_M_lastOf_L8 (K24 : gH → Int32 → gR) (K32 : gH → gR) : Nat → gH → Nat → Int32 → Int32 → Int32 → gR
  | 0, _, _, _, _, _ => none
  | n + 1, G, x0, x1, x2, x3 =>
    if x3 < 0 then K32 G
    else gOb G x0 6 fun o7 => bA (f_M_at G x0 x1 x3) fun v10 G9 => gLd G9 v10 100 (nI 0) fun v11 => if v11 = x2 then K24 G9 x3
      else f_M_lastOf_L8 K24 K32 n G9 x0 x1 x2 (x3 + (-1))
def f_M_lastOf (G : gH) (a0 : Nat) (a1 : Int32) (a2 : Int32) : gR :=
  gOb G a0 6 fun o2 => bI (f_M_length G a0 a1) fun v5 G4 => f_M_lastOf_L8 (fun G15 x14 => rI x14 G15) (fun G16 => rI (-1) G16) zFu G4 a0 a1 a2 (v5 - (nI 1))
theorem k_M_lastOf_L8 {l : Launch} {D : va_G} {B : Nat} {O : State → Heap → Prop} (hV : zG l D B O) {o : gO} {Gf : gH} (K24 : gH → Int32 → gR) (K32 : gH → gR) (hK24 : ∀ (G : gH) (x3 : Int32), K24 G x3 = some (o, Gf) → Y (zVm l D B O) m_M_lastOf 13 o Gf 24 [none, none, none, some (.int x3)] [] G) (hK32 : ∀ (G : gH), K32 G  = some (o, Gf) → Y (zVm l D B O) m_M_lastOf 13 o Gf 32 [none, none, none, none] [] G) : ∀ (n : Nat) (G : gH) (x0 : Nat) (x1 : Int32) (x2 : Int32) (x3 : Int32), f_M_lastOf_L8 K24 K32 n G x0 x1 x2 x3 = some (o, Gf) → Y (zVm l D B O) m_M_lastOf 13 o Gf 8 [some (.ref x0), some (.int x1), some (.int x2), some (.int x3)] [] G := by
  have hdd : lSa m_M_lastOf 8 [(.iload_n 3, 0)] = true ∧ lIa m_M_lastOf 9 (.ifCond .lt 23) 3 = true ∧ lSa m_M_lastOf 12 [(.aload_n 0, 0), (.iload_n 1, 0), (.iload_n 3, 0)] = true ∧ lIa m_M_lastOf 15 (.invokevirtual 132) 3 = true ∧ lSa m_M_lastOf 18 [(.iconst 0, nI 0)] = true ∧ lIa m_M_lastOf 19 (.iaload) 1 = true ∧ lSa m_M_lastOf 20 [(.iload_n 2, 0)] = true ∧ lIa m_M_lastOf 21 (.if_icmp .ne 5) 3 = true ∧ lSa m_M_lastOf 26 [(.iinc 3 (-1), -1)] = true ∧ lIa m_M_lastOf 29 (.goto (-21)) 3 = true := by decide +kernel
  refine lA8 hdd (fun dd0 dd1 dd2 dd3 dd4 dd5 dd6 dd7 hdd => ?_)
  obtain ⟨dd8, dd9⟩ := hdd
  intro n
  induction n with
  | zero => intro G x0 x1 x2 x3 h; cases h
  | succ n ih =>
    intro G x0 x1 x2 x3 h
    unfold f_M_lastOf_L8 at h
    refine Y.blk (pc' := 9) (L' := [some (.ref x0), some (.int x1), some (.int x2), some (.int x3)]) (st' := [.int x3]) (sg := [(.iload_n 3, 0)]) (lSa_ok dd0) rfl ?_
    refine Y.if_lt (off := 23) (tgt := 32) (lIa_ok dd1) (by decide) h (fun c13 h => ?_) (fun c13 h => ?_)
    · refine Y.less (L' := [none, none, none, none]) (zLe_none (zLe_none (zLe_none (zLe_none (zLe_nil))))) ?_
      exact hK32 G  h
    · refine Y.blk (pc' := 15) (L' := [some (.ref x0), some (.int x1), some (.int x2), some (.int x3)]) (st' := [.int x3, .int x1, .ref x0]) (sg := [(.aload_n 0, 0), (.iload_n 1, 0), (.iload_n 3, 0)]) (lSa_ok dd2) rfl ?_
      obtain ⟨_, o7, e6, m8, h⟩ := gOb_inv h
      refine Y.callA (yC.Vi (b := x0) (As := [.int x1, .int x3]) (st := []) (r := ("PartlisterModel", T_M, 9)) hV.1 cb_M_at lk_M_132 in_M_at rfl se_M_at (lIa_ok dd3) rfl rfl (Nat.le_of_ble_eq_true rfl) (by decide) e6 m8) (k_M_at hV G x0 x1 x3) h (fun v10 G9 _ h => ?_)
      refine Y.blk (pc' := 19) (L' := [some (.ref x0), some (.int x1), some (.int x2), some (.int x3)]) (st' := [.int (nI 0), .ref v10]) (sg := [(.iconst 0, nI 0)]) (lSa_ok dd4) rfl ?_
      refine Y.iald (t0 := 0) (lIa_ok dd5) rfl h (fun v11 h => ?_)
      refine Y.blk (pc' := 21) (L' := [some (.ref x0), some (.int x1), some (.int x2), some (.int x3)]) (st' := [.int x2, .int v11]) (sg := [(.iload_n 2, 0)]) (lSa_ok dd6) rfl ?_
      refine Y.ic_ne (off := 5) (tgt := 26) (lIa_ok dd7) (by decide) h (fun c12 h => ?_) (fun c12 h => ?_)
      · refine Y.less (L' := [none, none, none, some (.int x3)]) (zLe_none (zLe_none (zLe_none (zLe_some (zLe_nil))))) ?_
        exact hK24 G9 x3 h
      · refine Y.blk (pc' := 29) (L' := [some (.ref x0), some (.int x1), some (.int x2), some (.int (x3 + (-1)))]) (st' := []) (sg := [(.iinc 3 (-1), -1)]) (lSa_ok dd8) rfl ?_
        refine Y.goto (off := -21) (tgt := 8) (lIa_ok dd9) (by decide) ?_
        exact ih G9 x0 x1 x2 (x3 + (-1)) h
theorem k_M_lastOf {l : Launch} {D : va_G} {B : Nat} {O : State → Heap → Prop} (hV : zG l D B O) (G : gH) (a0 : Nat) (a1 : Int32) (a2 : Int32) : gMet (zVm l D B O) m_M_lastOf 13 [.ref a0, .int a1, .int a2] G (f_M_lastOf G a0 a1 a2) := by
  have hdd : lSa m_M_lastOf 0 [(.aload_n 0, 0), (.iload_n 1, 0)] = true ∧ lIa m_M_lastOf 2 (.invokevirtual 74) 3 = true ∧ lSa m_M_lastOf 5 [(.iconst 1, nI 1), (.isub, 0), (.istore_n 3, 0)] = true ∧ lSa m_M_lastOf 24 [(.iload_n 3, 0)] = true ∧ lIa m_M_lastOf 25 (.ireturn) 1 = true ∧ lSa m_M_lastOf 32 [(.iconst (-1), -1)] = true ∧ lIa m_M_lastOf 33 (.ireturn) 1 = true := by decide +kernel
  obtain ⟨dd0, dd1, dd2, dd3, dd4, dd5, dd6⟩ := hdd
  refine gMet.of (by decide +kernel) (Nat.le_of_ble_eq_true rfl) [some (.ref a0), some (.int a1), some (.int a2), none] (fun ls h => zEn_ok (n := 4) h) ?_
  intro o Gf h
  unfold f_M_lastOf at h
  refine Y.blk (pc' := 2) (L' := [some (.ref a0), some (.int a1), some (.int a2), none]) (st' := [.int a1, .ref a0]) (sg := [(.aload_n 0, 0), (.iload_n 1, 0)]) (lSa_ok dd0) rfl ?_
  obtain ⟨_, o2, e1, m3, h⟩ := gOb_inv h
  refine Y.callI (yC.Vi (b := a0) (As := [.int a1]) (st := []) (r := ("PartlisterModel", T_M, 9)) hV.1 cb_M_length lk_M_74 in_M_length rfl se_M_length (lIa_ok dd1) rfl rfl (Nat.le_of_ble_eq_true rfl) (by decide) e1 m3) (k_M_length hV G a0 a1) h (fun v5 G4 _ h => ?_)
  refine Y.blk (pc' := 8) (L' := [some (.ref a0), some (.int a1), some (.int a2), some (.int (v5 - (nI 1)))]) (st' := []) (sg := [(.iconst 1, nI 1), (.isub, 0), (.istore_n 3, 0)]) (lSa_ok dd2) rfl ?_
  refine k_M_lastOf_L8 hV _ _ ?_ ?_  zFu G4 a0 a1 a2 (v5 - (nI 1)) h
  · intro G15 x14 h
    refine Y.blk (pc' := 25) (L' := [none, none, none, some (.int x14)]) (st' := [.int x14]) (sg := [(.iload_n 3, 0)]) (lSa_ok dd3) rfl ?_
    exact Y.iret rfl (lIa_ok dd4) h
  · intro G16 h
    refine Y.blk (pc' := 33) (L' := [none, none, none, none]) (st' := [.int (-1)]) (sg := [(.iconst (-1), -1)]) (lSa_ok dd5) rfl ?_
    exact Y.iret rfl (lIa_ok dd6) h

def f_M_manyOf_L5 (K45 : gH → Int32 → gR) : Nat → gH → Nat → Int32 → Int32 → Int32 → Int32 → gR
  | 0, _, _, _, _, _, _ => none
  | n + 1, G, x0, x1, x2, x3, x4 =>
    gOb G x0 6 fun o2 => bI (f_M_length G x0 x1) fun v5 G4 => if v5 ≤ x4 then K45 G4 x3
    else gOb G4 x0 6 fun o7 => bA (f_M_at G4 x0 x1 x4) fun v10 G9 => gLd G9 v10 100 (nI 0) fun v11 => if v11 = x2 then bI (f_M_one G9 (nI 1)) fun v14 G13 => f_M_manyOf_L5 K45 n G13 x0 x1 x2 (x3 + v14) (x4 + (nI 1))
      else bI (f_M_one G9 (nI 0)) fun v17 G16 => f_M_manyOf_L5 K45 n G16 x0 x1 x2 (x3 + v17) (x4 + (nI 1))
def f_M_manyOf (G : gH) (a0 : Nat) (a1 : Int32) (a2 : Int32) : gR :=
  f_M_manyOf_L5 (fun G21 x20 => rI x20 G21) zFu G a0 a1 a2 (nI 0) (nI 0)
theorem k_M_manyOf_L5 {l : Launch} {D : va_G} {B : Nat} {O : State → Heap → Prop} (hV : zG l D B O) {o : gO} {Gf : gH} (K45 : gH → Int32 → gR) (hK45 : ∀ (G : gH) (x3 : Int32), K45 G x3 = some (o, Gf) → Y (zVm l D B O) m_M_manyOf 13 o Gf 45 [none, none, none, some (.int x3), none] [] G) : ∀ (n : Nat) (G : gH) (x0 : Nat) (x1 : Int32) (x2 : Int32) (x3 : Int32) (x4 : Int32), f_M_manyOf_L5 K45 n G x0 x1 x2 x3 x4 = some (o, Gf) → Y (zVm l D B O) m_M_manyOf 13 o Gf 5 [some (.ref x0), some (.int x1), some (.int x2), some (.int x3), some (.int x4)] [] G := by
  have hdd : lSa m_M_manyOf 5 [(.iload 4, 0), (.aload_n 0, 0), (.iload_n 1, 0)] = true ∧ lIa m_M_manyOf 9 (.invokevirtual 74) 3 = true ∧ lIa m_M_manyOf 12 (.if_icmp .ge 33) 3 = true ∧ lSa m_M_manyOf 15 [(.iload_n 3, 0), (.aload_n 0, 0), (.iload_n 1, 0), (.iload 4, 0)] = true ∧ lIa m_M_manyOf 20 (.invokevirtual 132) 3 = true ∧ lSa m_M_manyOf 23 [(.iconst 0, nI 0)] = true ∧ lIa m_M_manyOf 24 (.iaload) 1 = true ∧ lSa m_M_manyOf 25 [(.iload_n 2, 0)] = true ∧ lIa m_M_manyOf 26 (.if_icmp .ne 7) 3 = true ∧ lSa m_M_manyOf 29 [(.iconst 1, nI 1)] = true ∧ lIa m_M_manyOf 30 (.goto 4) 3 = true ∧ lIa m_M_manyOf 34 (.invokestatic 188) 3 = true ∧ lSa m_M_manyOf 37 [(.iadd, 0), (.istore_n 3, 0), (.iinc 4 1, nI 1)] = true ∧ lIa m_M_manyOf 42 (.goto (-37)) 3 = true ∧ lSa m_M_manyOf 33 [(.iconst 0, nI 0)] = true := by decide +kernel
  refine lA8 hdd (fun dd0 dd1 dd2 dd3 dd4 dd5 dd6 dd7 hdd => ?_)
  obtain ⟨dd8, dd9, dd10, dd11, dd12, dd13, dd14⟩ := hdd
  intro n
  induction n with
  | zero => intro G x0 x1 x2 x3 x4 h; cases h
  | succ n ih =>
    intro G x0 x1 x2 x3 x4 h
    unfold f_M_manyOf_L5 at h
    refine Y.blk (pc' := 9) (L' := [some (.ref x0), some (.int x1), some (.int x2), some (.int x3), some (.int x4)]) (st' := [.int x1, .ref x0, .int x4]) (sg := [(.iload 4, 0), (.aload_n 0, 0), (.iload_n 1, 0)]) (lSa_ok dd0) rfl ?_
    obtain ⟨_, o2, e1, m3, h⟩ := gOb_inv h
    refine Y.callI (yC.Vi (b := x0) (As := [.int x1]) (st := [.int x4]) (r := ("PartlisterModel", T_M, 9)) hV.1 cb_M_length lk_M_74 in_M_length rfl se_M_length (lIa_ok dd1) rfl rfl (Nat.le_of_ble_eq_true rfl) (by decide) e1 m3) (k_M_length hV G x0 x1) h (fun v5 G4 _ h => ?_)
    refine Y.ic_ge (off := 33) (tgt := 45) (lIa_ok dd2) (by decide) h (fun c19 h => ?_) (fun c19 h => ?_)
    · refine Y.less (L' := [none, none, none, some (.int x3), none]) (zLe_none (zLe_none (zLe_none (zLe_some (zLe_none (zLe_nil)))))) ?_
      exact hK45 G4 x3 h
    · refine Y.blk (pc' := 20) (L' := [some (.ref x0), some (.int x1), some (.int x2), some (.int x3), some (.int x4)]) (st' := [.int x4, .int x1, .ref x0, .int x3]) (sg := [(.iload_n 3, 0), (.aload_n 0, 0), (.iload_n 1, 0), (.iload 4, 0)]) (lSa_ok dd3) rfl ?_
      obtain ⟨_, o7, e6, m8, h⟩ := gOb_inv h
      refine Y.callA (yC.Vi (b := x0) (As := [.int x1, .int x4]) (st := [.int x3]) (r := ("PartlisterModel", T_M, 9)) hV.1 cb_M_at lk_M_132 in_M_at rfl se_M_at (lIa_ok dd4) rfl rfl (Nat.le_of_ble_eq_true rfl) (by decide) e6 m8) (k_M_at hV G4 x0 x1 x4) h (fun v10 G9 _ h => ?_)
      refine Y.blk (pc' := 24) (L' := [some (.ref x0), some (.int x1), some (.int x2), some (.int x3), some (.int x4)]) (st' := [.int (nI 0), .ref v10, .int x3]) (sg := [(.iconst 0, nI 0)]) (lSa_ok dd5) rfl ?_
      refine Y.iald (t0 := 0) (lIa_ok dd6) rfl h (fun v11 h => ?_)
      refine Y.blk (pc' := 26) (L' := [some (.ref x0), some (.int x1), some (.int x2), some (.int x3), some (.int x4)]) (st' := [.int x2, .int v11, .int x3]) (sg := [(.iload_n 2, 0)]) (lSa_ok dd7) rfl ?_
      refine Y.ic_ne (off := 7) (tgt := 33) (lIa_ok dd8) (by decide) h (fun c18 h => ?_) (fun c18 h => ?_)
      · refine Y.blk (pc' := 30) (L' := [some (.ref x0), some (.int x1), some (.int x2), some (.int x3), some (.int x4)]) (st' := [.int (nI 1), .int x3]) (sg := [(.iconst 1, nI 1)]) (lSa_ok dd9) rfl ?_
        refine Y.goto (off := 4) (tgt := 34) (lIa_ok dd10) (by decide) ?_
        refine Y.callI (yC.S (As := [.int (nI 1)]) (st := [.int x3]) hV.1 cb_M_one lk_M_188 st_M_one (lIa_ok dd11) rfl rfl (Nat.le_of_ble_eq_true rfl) (by decide)) (k_M_one hV G9 (nI 1)) h (fun v14 G13 _ h => ?_)
        refine Y.blk (pc' := 42) (L' := [some (.ref x0), some (.int x1), some (.int x2), some (.int (x3 + v14)), some (.int (x4 + (nI 1)))]) (st' := []) (sg := [(.iadd, 0), (.istore_n 3, 0), (.iinc 4 1, nI 1)]) (lSa_ok dd12) rfl ?_
        refine Y.goto (off := -37) (tgt := 5) (lIa_ok dd13) (by decide) ?_
        exact ih G13 x0 x1 x2 (x3 + v14) (x4 + (nI 1)) h
      · refine Y.blk (pc' := 34) (L' := [some (.ref x0), some (.int x1), some (.int x2), some (.int x3), some (.int x4)]) (st' := [.int (nI 0), .int x3]) (sg := [(.iconst 0, nI 0)]) (lSa_ok dd14) rfl ?_
        refine Y.callI (yC.S (As := [.int (nI 0)]) (st := [.int x3]) hV.1 cb_M_one lk_M_188 st_M_one (lIa_ok dd11) rfl rfl (Nat.le_of_ble_eq_true rfl) (by decide)) (k_M_one hV G9 (nI 0)) h (fun v17 G16 _ h => ?_)
        refine Y.blk (pc' := 42) (L' := [some (.ref x0), some (.int x1), some (.int x2), some (.int (x3 + v17)), some (.int (x4 + (nI 1)))]) (st' := []) (sg := [(.iadd, 0), (.istore_n 3, 0), (.iinc 4 1, nI 1)]) (lSa_ok dd12) rfl ?_
        refine Y.goto (off := -37) (tgt := 5) (lIa_ok dd13) (by decide) ?_
        exact ih G16 x0 x1 x2 (x3 + v17) (x4 + (nI 1)) h
theorem k_M_manyOf {l : Launch} {D : va_G} {B : Nat} {O : State → Heap → Prop} (hV : zG l D B O) (G : gH) (a0 : Nat) (a1 : Int32) (a2 : Int32) : gMet (zVm l D B O) m_M_manyOf 13 [.ref a0, .int a1, .int a2] G (f_M_manyOf G a0 a1 a2) := by
  have hdd : lSa m_M_manyOf 0 [(.iconst 0, nI 0), (.istore_n 3, 0), (.iconst 0, nI 0), (.istore 4, 0)] = true ∧ lSa m_M_manyOf 45 [(.iload_n 3, 0)] = true ∧ lIa m_M_manyOf 46 (.ireturn) 1 = true := by decide +kernel
  obtain ⟨dd0, dd1, dd2⟩ := hdd
  refine gMet.of (by decide +kernel) (Nat.le_of_ble_eq_true rfl) [some (.ref a0), some (.int a1), some (.int a2), none, none] (fun ls h => zEn_ok (n := 5) h) ?_
  intro o Gf h
  unfold f_M_manyOf at h
  refine Y.blk (pc' := 5) (L' := [some (.ref a0), some (.int a1), some (.int a2), some (.int (nI 0)), some (.int (nI 0))]) (st' := []) (sg := [(.iconst 0, nI 0), (.istore_n 3, 0), (.iconst 0, nI 0), (.istore 4, 0)]) (lSa_ok dd0) rfl ?_
  refine k_M_manyOf_L5 hV _ ?_  zFu G a0 a1 a2 (nI 0) (nI 0) h
  · intro G21 x20 h
    refine Y.blk (pc' := 46) (L' := [none, none, none, some (.int x20), none]) (st' := [.int x20]) (sg := [(.iload_n 3, 0)]) (lSa_ok dd1) rfl ?_
    exact Y.iret rfl (lIa_ok dd2) h

def f_M_partTold (G : gH) (a0 : Nat) (a1 : Int32) (a2 : Int32) : gR :=
  gNewA G 100 (nI 4) fun q1 G2 => gFA G2 a0 6 2 fun v3 => gLdq G2 v3 104 a1 (none) fun v4 => gFI G2 v4 5 0 fun v5 => gSt G2 q1 100 (nI 0) v5 fun G6 => gFA G6 a0 6 2 fun v7 => gLdq G6 v7 104 a1 (none) fun v8 => gFI G6 v8 5 1 fun v9 => gSt G6 q1 100 (nI 1) v9 fun G10 => gOb G10 a0 6 fun o12 => bI (f_M_rowOf zDp G10 a0 a1) fun v15 G14 => gSt G14 q1 100 (nI 2) v15 fun G16 => gOb G16 a0 6 fun o18 => bI (f_M_base zDp G16 a0 a1) fun v21 G20 => gSt G20 q1 100 (nI 3) v21 fun G22 => gLd G22 q1 100 a2 fun v23 => rI v23 G22
theorem k_M_partTold {l : Launch} {D : va_G} {B : Nat} {O : State → Heap → Prop} (hV : zG l D B O) (G : gH) (a0 : Nat) (a1 : Int32) (a2 : Int32) : gMet (zVm l D B O) m_M_partTold 11 [.ref a0, .int a1, .int a2] G (f_M_partTold G a0 a1 a2) := by
  have hdd : lSa m_M_partTold 0 [(.iconst 4, nI 4)] = true ∧ lSa m_M_partTold 3 [(.dup, 0), (.iconst 0, nI 0), (.aload_n 0, 0)] = true ∧ lIa m_M_partTold 6 (.getfield 18) 3 = true ∧ lSa m_M_partTold 9 [(.iload_n 1, 0)] = true ∧ lIa m_M_partTold 10 (.aaload) 1 = true ∧ lIa m_M_partTold 11 (.getfield 44) 3 = true ∧ lIa m_M_partTold 14 (.iastore) 1 = true ∧ lSa m_M_partTold 15 [(.dup, 0), (.iconst 1, nI 1), (.aload_n 0, 0)] = true ∧ lIa m_M_partTold 18 (.getfield 18) 3 = true ∧ lSa m_M_partTold 21 [(.iload_n 1, 0)] = true ∧ lIa m_M_partTold 22 (.aaload) 1 = true ∧ lIa m_M_partTold 23 (.getfield 51) 3 = true ∧ lIa m_M_partTold 26 (.iastore) 1 = true ∧ lSa m_M_partTold 27 [(.dup, 0), (.iconst 2, nI 2), (.aload_n 0, 0), (.iload_n 1, 0)] = true ∧ lIa m_M_partTold 31 (.invokevirtual 47) 3 = true ∧ lIa m_M_partTold 34 (.iastore) 1 = true ∧ lSa m_M_partTold 35 [(.dup, 0), (.iconst 3, nI 3), (.aload_n 0, 0), (.iload_n 1, 0)] = true ∧ lIa m_M_partTold 39 (.invokevirtual 54) 3 = true ∧ lIa m_M_partTold 42 (.iastore) 1 = true ∧ lSa m_M_partTold 43 [(.astore_n 3, 0), (.aload_n 3, 0), (.iload_n 2, 0)] = true ∧ lIa m_M_partTold 46 (.iaload) 1 = true ∧ lIa m_M_partTold 47 (.ireturn) 1 = true := by decide +kernel
  refine lA8 hdd (fun dd0 dd1 dd2 dd3 dd4 dd5 dd6 dd7 hdd => ?_)
  refine lA8 hdd (fun dd8 dd9 dd10 dd11 dd12 dd13 dd14 dd15 hdd => ?_)
  obtain ⟨dd16, dd17, dd18, dd19, dd20, dd21⟩ := hdd
  refine gMet.of (by decide +kernel) (Nat.le_of_ble_eq_true rfl) [some (.ref a0), some (.int a1), some (.int a2), none] (fun ls h => zEn_ok (n := 4) h) ?_
  intro o Gf h
  unfold f_M_partTold at h
  refine Y.blk (pc' := 1) (L' := [some (.ref a0), some (.int a1), some (.int a2), none]) (st' := [.int (nI 4)]) (sg := [(.iconst 4, nI 4)]) (lSa_ok dd0) rfl ?_
  refine Y.newa (at_ := .int) (t0 := 0) ac_i rfl (by decide) rfl (by decide) (by decide +kernel) h (fun q1 G2 h => ?_)
  refine Y.blk (pc' := 6) (L' := [some (.ref a0), some (.int a1), some (.int a2), none]) (st' := [.ref a0, .int (nI 0), .ref q1, .ref q1]) (sg := [(.dup, 0), (.iconst 0, nI 0), (.aload_n 0, 0)]) (lSa_ok dd1) rfl ?_
  refine Y.getA fl_M_18 (lIa_ok dd2) h (fun v3 h => ?_)
  refine Y.blk (pc' := 10) (L' := [some (.ref a0), some (.int a1), some (.int a2), none]) (st' := [.int a1, .ref v3, .int (nI 0), .ref q1, .ref q1]) (sg := [(.iload_n 1, 0)]) (lSa_ok dd3) rfl ?_
  refine Y.aald (t0 := 4) (lIa_ok dd4) rfl h (fun h => ?_) (fun v4 h => ?_)
  · cases h
  · refine Y.getI fl_M_44 (lIa_ok dd5) h (fun v5 h => ?_)
    refine Y.iast (t0 := 0) (lIa_ok dd6) rfl (by decide) h (fun G6 _ _ h => ?_)
    refine Y.blk (pc' := 18) (L' := [some (.ref a0), some (.int a1), some (.int a2), none]) (st' := [.ref a0, .int (nI 1), .ref q1, .ref q1]) (sg := [(.dup, 0), (.iconst 1, nI 1), (.aload_n 0, 0)]) (lSa_ok dd7) rfl ?_
    refine Y.getA fl_M_18 (lIa_ok dd8) h (fun v7 h => ?_)
    refine Y.blk (pc' := 22) (L' := [some (.ref a0), some (.int a1), some (.int a2), none]) (st' := [.int a1, .ref v7, .int (nI 1), .ref q1, .ref q1]) (sg := [(.iload_n 1, 0)]) (lSa_ok dd9) rfl ?_
    refine Y.aald (t0 := 4) (lIa_ok dd10) rfl h (fun h => ?_) (fun v8 h => ?_)
    · cases h
    · refine Y.getI fl_M_51 (lIa_ok dd11) h (fun v9 h => ?_)
      refine Y.iast (t0 := 0) (lIa_ok dd12) rfl (by decide) h (fun G10 _ _ h => ?_)
      refine Y.blk (pc' := 31) (L' := [some (.ref a0), some (.int a1), some (.int a2), none]) (st' := [.int a1, .ref a0, .int (nI 2), .ref q1, .ref q1]) (sg := [(.dup, 0), (.iconst 2, nI 2), (.aload_n 0, 0), (.iload_n 1, 0)]) (lSa_ok dd13) rfl ?_
      obtain ⟨_, o12, e11, m13, h⟩ := gOb_inv h
      refine Y.callI (yC.Vi (b := a0) (As := [.int a1]) (st := [.int (nI 2), .ref q1, .ref q1]) (r := ("PartlisterModel", T_M, 9)) hV.1 cb_M_rowOf lk_M_47 in_M_rowOf rfl se_M_rowOf (lIa_ok dd14) rfl rfl (Nat.le_of_ble_eq_true rfl) (by decide) e11 m13) (k_M_rowOf zDp hV G10 a0 a1) h (fun v15 G14 _ h => ?_)
      refine Y.iast (t0 := 0) (lIa_ok dd15) rfl (by decide) h (fun G16 _ _ h => ?_)
      refine Y.blk (pc' := 39) (L' := [some (.ref a0), some (.int a1), some (.int a2), none]) (st' := [.int a1, .ref a0, .int (nI 3), .ref q1, .ref q1]) (sg := [(.dup, 0), (.iconst 3, nI 3), (.aload_n 0, 0), (.iload_n 1, 0)]) (lSa_ok dd16) rfl ?_
      obtain ⟨_, o18, e17, m19, h⟩ := gOb_inv h
      refine Y.callI (yC.Vi (b := a0) (As := [.int a1]) (st := [.int (nI 3), .ref q1, .ref q1]) (r := ("PartlisterModel", T_M, 9)) hV.1 cb_M_base lk_M_54 in_M_base rfl se_M_base (lIa_ok dd17) rfl rfl (Nat.le_of_ble_eq_true rfl) (by decide) e17 m19) (k_M_base zDp hV G16 a0 a1) h (fun v21 G20 _ h => ?_)
      refine Y.iast (t0 := 0) (lIa_ok dd18) rfl (by decide) h (fun G22 _ _ h => ?_)
      refine Y.blk (pc' := 46) (L' := [some (.ref a0), some (.int a1), some (.int a2), some (.ref q1)]) (st' := [.int a2, .ref q1]) (sg := [(.astore_n 3, 0), (.aload_n 3, 0), (.iload_n 2, 0)]) (lSa_ok dd19) rfl ?_
      refine Y.iald (t0 := 0) (lIa_ok dd20) rfl h (fun v23 h => ?_)
      exact Y.iret rfl (lIa_ok dd21) h

def f_M_same (G : gH) (a0 : Nat) (a1 : Int32) (a2 : Int32) : gR :=
  gOb G a0 6 fun o2 => bI (f_M_length G a0 a1) fun v5 G4 => gOb G4 a0 6 fun o7 => bI (f_M_length G4 a0 a2) fun v10 G9 => if v5 = v10 then (gOb G9 a0 6 fun o12 => bI (f_M_liesAt G9 a0 a1 (nI 0) a2) fun v15 G14 => if v15 = 0 then rZ (nI 0) G14
    else rZ (nI 1) G14)
  else rZ (nI 0) G9
theorem k_M_same {l : Launch} {D : va_G} {B : Nat} {O : State → Heap → Prop} (hV : zG l D B O) (G : gH) (a0 : Nat) (a1 : Int32) (a2 : Int32) : gMet (zVm l D B O) m_M_same 14 [.ref a0, .int a1, .int a2] G (f_M_same G a0 a1 a2) := by
  have hdd : lSa m_M_same 0 [(.aload_n 0, 0), (.iload_n 1, 0)] = true ∧ lIa m_M_same 2 (.invokevirtual 74) 3 = true ∧ lSa m_M_same 5 [(.aload_n 0, 0), (.iload_n 2, 0)] = true ∧ lIa m_M_same 7 (.invokevirtual 74) 3 = true ∧ lIa m_M_same 10 (.if_icmp .ne 17) 3 = true ∧ lSa m_M_same 13 [(.aload_n 0, 0), (.iload_n 1, 0), (.iconst 0, nI 0), (.iload_n 2, 0)] = true ∧ lIa m_M_same 17 (.invokevirtual 232) 3 = true ∧ lIa m_M_same 20 (.ifCond .eq 7) 3 = true ∧ lSa m_M_same 27 [(.iconst 0, nI 0)] = true ∧ lIa m_M_same 28 (.ireturn) 1 = true ∧ lSa m_M_same 23 [(.iconst 1, nI 1)] = true ∧ lIa m_M_same 24 (.goto 4) 3 = true := by decide +kernel
  refine lA8 hdd (fun dd0 dd1 dd2 dd3 dd4 dd5 dd6 dd7 hdd => ?_)
  obtain ⟨dd8, dd9, dd10, dd11⟩ := hdd
  refine gMet.of (by decide +kernel) (Nat.le_of_ble_eq_true rfl) [some (.ref a0), some (.int a1), some (.int a2)] (fun ls h => zEn_ok (n := 3) h) ?_
  intro o Gf h
  unfold f_M_same at h
  refine Y.blk (pc' := 2) (L' := [some (.ref a0), some (.int a1), some (.int a2)]) (st' := [.int a1, .ref a0]) (sg := [(.aload_n 0, 0), (.iload_n 1, 0)]) (lSa_ok dd0) rfl ?_
  obtain ⟨_, o2, e1, m3, h⟩ := gOb_inv h
  refine Y.callI (yC.Vi (b := a0) (As := [.int a1]) (st := []) (r := ("PartlisterModel", T_M, 9)) hV.1 cb_M_length lk_M_74 in_M_length rfl se_M_length (lIa_ok dd1) rfl rfl (Nat.le_of_ble_eq_true rfl) (by decide) e1 m3) (k_M_length hV G a0 a1) h (fun v5 G4 _ h => ?_)
  refine Y.blk (pc' := 7) (L' := [some (.ref a0), some (.int a1), some (.int a2)]) (st' := [.int a2, .ref a0, .int v5]) (sg := [(.aload_n 0, 0), (.iload_n 2, 0)]) (lSa_ok dd2) rfl ?_
  obtain ⟨_, o7, e6, m8, h⟩ := gOb_inv h
  refine Y.callI (yC.Vi (b := a0) (As := [.int a2]) (st := [.int v5]) (r := ("PartlisterModel", T_M, 9)) hV.1 cb_M_length lk_M_74 in_M_length rfl se_M_length (lIa_ok dd3) rfl rfl (Nat.le_of_ble_eq_true rfl) (by decide) e6 m8) (k_M_length hV G4 a0 a2) h (fun v10 G9 _ h => ?_)
  refine Y.ic_ne (off := 17) (tgt := 27) (lIa_ok dd4) (by decide) h (fun c17 h => ?_) (fun c17 h => ?_)
  · refine Y.blk (pc' := 17) (L' := [some (.ref a0), some (.int a1), some (.int a2)]) (st' := [.int a2, .int (nI 0), .int a1, .ref a0]) (sg := [(.aload_n 0, 0), (.iload_n 1, 0), (.iconst 0, nI 0), (.iload_n 2, 0)]) (lSa_ok dd5) rfl ?_
    obtain ⟨_, o12, e11, m13, h⟩ := gOb_inv h
    refine Y.callI (yC.Vi (b := a0) (As := [.int a1, .int (nI 0), .int a2]) (st := []) (r := ("PartlisterModel", T_M, 9)) hV.1 cb_M_liesAt lk_M_232 in_M_liesAt rfl se_M_liesAt (lIa_ok dd6) rfl rfl (Nat.le_of_ble_eq_true rfl) (by decide) e11 m13) (k_M_liesAt hV G9 a0 a1 (nI 0) a2) h (fun v15 G14 _ h => ?_)
    refine Y.if_eq (off := 7) (tgt := 27) (lIa_ok dd7) (by decide) h (fun c16 h => ?_) (fun c16 h => ?_)
    · refine Y.blk (pc' := 28) (L' := [some (.ref a0), some (.int a1), some (.int a2)]) (st' := [.int (nI 0)]) (sg := [(.iconst 0, nI 0)]) (lSa_ok dd8) rfl ?_
      exact Y.zret rfl (lIa_ok dd9) h
    · refine Y.blk (pc' := 24) (L' := [some (.ref a0), some (.int a1), some (.int a2)]) (st' := [.int (nI 1)]) (sg := [(.iconst 1, nI 1)]) (lSa_ok dd10) rfl ?_
      refine Y.goto (off := 4) (tgt := 28) (lIa_ok dd11) (by decide) ?_
      exact Y.zret rfl (lIa_ok dd9) h
  · refine Y.blk (pc' := 28) (L' := [some (.ref a0), some (.int a1), some (.int a2)]) (st' := [.int (nI 0)]) (sg := [(.iconst 0, nI 0)]) (lSa_ok dd8) rfl ?_
    exact Y.zret rfl (lIa_ok dd9) h

def f_M_sizeOf (G : gH) (a0 : Nat) (a1 : Int32) : gR :=
  gOb G a0 6 fun o2 => bI (f_M_isNoList G a0 a1) fun v5 G4 => if v5 = 0 then gOb G4 a0 6 fun o7 => bI (f_M_length G4 a0 a1) fun v10 G9 => rI v10 G9
  else rI (-1) G4
theorem k_M_sizeOf {l : Launch} {D : va_G} {B : Nat} {O : State → Heap → Prop} (hV : zG l D B O) (G : gH) (a0 : Nat) (a1 : Int32) : gMet (zVm l D B O) m_M_sizeOf 6 [.ref a0, .int a1] G (f_M_sizeOf G a0 a1) := by
  have hdd : lSa m_M_sizeOf 0 [(.aload_n 0, 0), (.iload_n 1, 0)] = true ∧ lIa m_M_sizeOf 2 (.invokevirtual 110) 3 = true ∧ lIa m_M_sizeOf 5 (.ifCond .eq 7) 3 = true ∧ lSa m_M_sizeOf 12 [(.aload_n 0, 0), (.iload_n 1, 0)] = true ∧ lIa m_M_sizeOf 14 (.invokevirtual 74) 3 = true ∧ lIa m_M_sizeOf 17 (.ireturn) 1 = true ∧ lSa m_M_sizeOf 8 [(.iconst (-1), -1)] = true ∧ lIa m_M_sizeOf 9 (.goto 8) 3 = true := by decide +kernel
  obtain ⟨dd0, dd1, dd2, dd3, dd4, dd5, dd6, dd7⟩ := hdd
  refine gMet.of (by decide +kernel) (Nat.le_of_ble_eq_true rfl) [some (.ref a0), some (.int a1)] (fun ls h => zEn_ok (n := 2) h) ?_
  intro o Gf h
  unfold f_M_sizeOf at h
  refine Y.blk (pc' := 2) (L' := [some (.ref a0), some (.int a1)]) (st' := [.int a1, .ref a0]) (sg := [(.aload_n 0, 0), (.iload_n 1, 0)]) (lSa_ok dd0) rfl ?_
  obtain ⟨_, o2, e1, m3, h⟩ := gOb_inv h
  refine Y.callI (yC.Vi (b := a0) (As := [.int a1]) (st := []) (r := ("PartlisterModel", T_M, 9)) hV.1 cb_M_isNoList lk_M_110 in_M_isNoList rfl se_M_isNoList (lIa_ok dd1) rfl rfl (Nat.le_of_ble_eq_true rfl) (by decide) e1 m3) (k_M_isNoList hV G a0 a1) h (fun v5 G4 _ h => ?_)
  refine Y.if_eq (off := 7) (tgt := 12) (lIa_ok dd2) (by decide) h (fun c11 h => ?_) (fun c11 h => ?_)
  · refine Y.blk (pc' := 14) (L' := [some (.ref a0), some (.int a1)]) (st' := [.int a1, .ref a0]) (sg := [(.aload_n 0, 0), (.iload_n 1, 0)]) (lSa_ok dd3) rfl ?_
    obtain ⟨_, o7, e6, m8, h⟩ := gOb_inv h
    refine Y.callI (yC.Vi (b := a0) (As := [.int a1]) (st := []) (r := ("PartlisterModel", T_M, 9)) hV.1 cb_M_length lk_M_74 in_M_length rfl se_M_length (lIa_ok dd4) rfl rfl (Nat.le_of_ble_eq_true rfl) (by decide) e6 m8) (k_M_length hV G4 a0 a1) h (fun v10 G9 _ h => ?_)
    exact Y.iret rfl (lIa_ok dd5) h
  · refine Y.blk (pc' := 9) (L' := [some (.ref a0), some (.int a1)]) (st' := [.int (-1)]) (sg := [(.iconst (-1), -1)]) (lSa_ok dd6) rfl ?_
    refine Y.goto (off := 8) (tgt := 17) (lIa_ok dd7) (by decide) ?_
    exact Y.iret rfl (lIa_ok dd5) h

def f_AB_init (w : Nat → Nat) (G : gH) (a0 : Nat) (a1 : Int32) : gR :=
  if (nI 1) = 0 then none
  else gNewA G 101 a1 fun q1 G2 => gPut G2 a0 10 0 (.ref q1) fun G3 => gPut G3 a0 10 1 (.int (nI 0)) fun G4 => rV G4
theorem k_AB_init {l : Launch} {D : va_G} {B : Nat} {O : State → Heap → Prop} {w : Nat → Nat} (hV : zGw l D B O w) (G : gH) (a0 : Nat) (a1 : Int32) : gMet (zVm l D B O) m_AB_init 2 [.ref a0, .int a1] G (f_AB_init w G a0 a1) := by
  have hdd : lSa m_AB_init 0 [(.aload_n 0, 0)] = true ∧ lIa m_AB_init 1 (.invokespecial 3) 3 = true ∧ lIa m_AB_init 4 (.getstatic 18) 3 = true ∧ lIa m_AB_init 7 (.ifCond .eq 18) 3 = true ∧ lSa m_AB_init 25 [(.aload_n 0, 0), (.iload_n 1, 0)] = true ∧ lSa m_AB_init 10 [(.aload_n 0, 0), (.iload_n 1, 0)] = true ∧ lIa m_AB_init 14 (.putfield 15) 3 = true ∧ lSa m_AB_init 17 [(.aload_n 0, 0), (.iconst 0, nI 0)] = true ∧ lIa m_AB_init 19 (.putfield 22) 3 = true ∧ lIa m_AB_init 22 (.goto 16) 3 = true ∧ lIa m_AB_init 38 (.return_) 1 = true := by decide +kernel
  refine lA8 hdd (fun dd0 dd1 dd2 dd3 dd4 dd5 dd6 dd7 hdd => ?_)
  obtain ⟨dd8, dd9, dd10⟩ := hdd
  refine gMet.of (by decide +kernel) (Nat.le_of_ble_eq_true rfl) [some (.ref a0), some (.int a1)] (fun ls h => zEn_ok (n := 2) h) ?_
  intro o Gf h
  unfold f_AB_init at h
  refine Y.blk (pc' := 1) (L' := [some (.ref a0), some (.int a1)]) (st' := [.ref a0]) (sg := [(.aload_n 0, 0)]) (lSa_ok dd0) rfl ?_
  refine Y.objInit lk_AB_3 in_OJ_init cw_OJ_init (by decide) rfl (Nat.le_of_ble_eq_true rfl) (lIa_ok dd1) ?_
  refine Y.gets (v := .int (nI 1)) (fun U H h => (hV.2 U H h).2.2.2.1) sf_AB_18 (lIa_ok dd2) ?_
  refine Y.if_eq (off := 18) (tgt := 25) (lIa_ok dd3) (by decide) h (fun c5 h => ?_) (fun c5 h => ?_)
  · refine Y.blk (pc' := 27) (L' := [some (.ref a0), some (.int a1)]) (st' := [.int a1, .ref a0]) (sg := [(.aload_n 0, 0), (.iload_n 1, 0)]) (lSa_ok dd4) rfl ?_
    cases h
  · refine Y.blk (pc' := 12) (L' := [some (.ref a0), some (.int a1)]) (st' := [.int a1, .ref a0]) (sg := [(.aload_n 0, 0), (.iload_n 1, 0)]) (lSa_ok dd5) rfl ?_
    refine Y.newa (at_ := .byte) (t0 := 1) ac_b rfl (by decide) rfl (by decide) (by decide +kernel) h (fun q1 G2 h => ?_)
    refine Y.putf fl_AB_15 (by decide) rfl rfl (lIa_ok dd6) h (fun G3 _ _ h => ?_)
    refine Y.blk (pc' := 19) (L' := [some (.ref a0), some (.int a1)]) (st' := [.int (nI 0), .ref a0]) (sg := [(.aload_n 0, 0), (.iconst 0, nI 0)]) (lSa_ok dd7) rfl ?_
    refine Y.putf fl_AB_22 (by decide) rfl rfl (lIa_ok dd8) h (fun G4 _ _ h => ?_)
    refine Y.goto (off := 16) (tgt := 38) (lIa_ok dd9) (by decide) ?_
    exact Y.vret rfl (lIa_ok dd10) h

def f_SB_init (w : Nat → Nat) (G : gH) (a0 : Nat) : gR :=
  bV (f_AB_init w G a0 (nI 16)) fun G2 => rV G2
theorem k_SB_init {l : Launch} {D : va_G} {B : Nat} {O : State → Heap → Prop} {w : Nat → Nat} (hV : zGw l D B O w) (G : gH) (a0 : Nat) : gMet (zVm l D B O) m_SB_init 3 [.ref a0] G (f_SB_init w G a0) := by
  have hdd : lSa m_SB_init 0 [(.aload_n 0, 0), (.bipush 16, nI 16)] = true ∧ lIa m_SB_init 3 (.invokespecial 1) 3 = true ∧ lIa m_SB_init 6 (.return_) 1 = true := by decide +kernel
  obtain ⟨dd0, dd1, dd2⟩ := hdd
  refine gMet.of (by decide +kernel) (Nat.le_of_ble_eq_true rfl) [some (.ref a0)] (fun ls h => zEn_ok (n := 1) h) ?_
  intro o Gf h
  unfold f_SB_init at h
  refine Y.blk (pc' := 3) (L' := [some (.ref a0)]) (st' := [.int (nI 16), .ref a0]) (sg := [(.aload_n 0, 0), (.bipush 16, nI 16)]) (lSa_ok dd0) rfl ?_
  refine Y.callN (yC.I (b := a0) (As := [.int (nI 16)]) (st := []) hV.1.1 cb_AB_init lk_SB_1 in_AB_init rfl rfl (lIa_ok dd1) rfl rfl (Nat.le_of_ble_eq_true rfl) (by decide)) (k_AB_init hV G a0 (nI 16)) h (fun G2 _ h => ?_)
  exact Y.vret rfl (lIa_ok dd2) h

def f_AB_newCapacity (G : gH) (a0 : Nat) (a1 : Int32) : gR :=
  gFA G a0 10 0 fun v1 => gLen G v1 101 fun v2 => gFI G a0 10 1 fun v3 => gFI G a0 10 1 fun v4 => bI (f_AS_newLength G v2 ((a1 <<< (v3 &&& 31)) - v2) (v2 + ((nI 2) <<< (v4 &&& 31)))) fun v7 G6 => if v7 = (nI 2147483647) then none
  else gFI G6 a0 10 1 fun v8 => rI (v7 >>> (v8 &&& 31)) G6
theorem k_AB_newCapacity {l : Launch} {D : va_G} {B : Nat} {O : State → Heap → Prop} (hV : zG l D B O) (G : gH) (a0 : Nat) (a1 : Int32) : gMet (zVm l D B O) m_AB_newCapacity 3 [.ref a0, .int a1] G (f_AB_newCapacity G a0 a1) := by
  have hdd : lSa m_AB_newCapacity 0 [(.aload_n 0, 0)] = true ∧ lIa m_AB_newCapacity 1 (.getfield 15) 3 = true ∧ lIa m_AB_newCapacity 4 (.arraylength) 1 = true ∧ lSa m_AB_newCapacity 5 [(.istore_n 2, 0), (.iload_n 1, 0), (.aload_n 0, 0)] = true ∧ lIa m_AB_newCapacity 8 (.getfield 22) 3 = true ∧ lSa m_AB_newCapacity 11 [(.ishl, 0), (.istore_n 3, 0), (.iload_n 3, 0), (.iload_n 2, 0), (.isub, 0), (.istore 4, 0), (.iload_n 2, 0), (.iload 4, 0), (.iload_n 2, 0), (.iconst 2, nI 2), (.aload_n 0, 0)] = true ∧ lIa m_AB_newCapacity 24 (.getfield 22) 3 = true ∧ lSa m_AB_newCapacity 27 [(.ishl, 0), (.iadd, 0)] = true ∧ lIa m_AB_newCapacity 29 (.invokestatic 114) 3 = true ∧ lSa m_AB_newCapacity 32 [(.istore 5, 0), (.iload 5, 0)] = true ∧ lIa m_AB_newCapacity 36 (.ldc 39) 2 = true ∧ lIa m_AB_newCapacity 38 (.if_icmp .ne 13) 3 = true ∧ lSa m_AB_newCapacity 51 [(.iload 5, 0), (.aload_n 0, 0)] = true ∧ lIa m_AB_newCapacity 54 (.getfield 22) 3 = true ∧ lSa m_AB_newCapacity 57 [(.ishr, 0)] = true ∧ lIa m_AB_newCapacity 58 (.ireturn) 1 = true := by decide +kernel
  refine lA8 hdd (fun dd0 dd1 dd2 dd3 dd4 dd5 dd6 dd7 hdd => ?_)
  obtain ⟨dd8, dd9, dd10, dd11, dd12, dd13, dd14, dd15⟩ := hdd
  refine gMet.of (by decide +kernel) (Nat.le_of_ble_eq_true rfl) [some (.ref a0), some (.int a1), none, none, none, none] (fun ls h => zEn_ok (n := 6) h) ?_
  intro o Gf h
  unfold f_AB_newCapacity at h
  refine Y.blk (pc' := 1) (L' := [some (.ref a0), some (.int a1), none, none, none, none]) (st' := [.ref a0]) (sg := [(.aload_n 0, 0)]) (lSa_ok dd0) rfl ?_
  refine Y.getA fl_AB_15 (lIa_ok dd1) h (fun v1 h => ?_)
  refine Y.alen (t0 := 1) (lIa_ok dd2) rfl h (fun v2 h => ?_)
  refine Y.blk (pc' := 8) (L' := [some (.ref a0), some (.int a1), some (.int v2), none, none, none]) (st' := [.ref a0, .int a1]) (sg := [(.istore_n 2, 0), (.iload_n 1, 0), (.aload_n 0, 0)]) (lSa_ok dd3) rfl ?_
  refine Y.getI fl_AB_22 (lIa_ok dd4) h (fun v3 h => ?_)
  refine Y.blk (pc' := 24) (L' := [some (.ref a0), some (.int a1), some (.int v2), some (.int (a1 <<< (v3 &&& 31))), some (.int ((a1 <<< (v3 &&& 31)) - v2)), none]) (st' := [.ref a0, .int (nI 2), .int v2, .int ((a1 <<< (v3 &&& 31)) - v2), .int v2]) (sg := [(.ishl, 0), (.istore_n 3, 0), (.iload_n 3, 0), (.iload_n 2, 0), (.isub, 0), (.istore 4, 0), (.iload_n 2, 0), (.iload 4, 0), (.iload_n 2, 0), (.iconst 2, nI 2), (.aload_n 0, 0)]) (lSa_ok dd5) rfl ?_
  refine Y.getI fl_AB_22 (lIa_ok dd6) h (fun v4 h => ?_)
  refine Y.blk (pc' := 29) (L' := [some (.ref a0), some (.int a1), some (.int v2), some (.int (a1 <<< (v3 &&& 31))), some (.int ((a1 <<< (v3 &&& 31)) - v2)), none]) (st' := [.int (v2 + ((nI 2) <<< (v4 &&& 31))), .int ((a1 <<< (v3 &&& 31)) - v2), .int v2]) (sg := [(.ishl, 0), (.iadd, 0)]) (lSa_ok dd7) rfl ?_
  refine Y.callI (yC.S (As := [.int v2, .int ((a1 <<< (v3 &&& 31)) - v2), .int (v2 + ((nI 2) <<< (v4 &&& 31)))]) (st := []) hV.1 cb_AS_newLength lk_AB_114 st_AS_newLength (lIa_ok dd8) rfl rfl (Nat.le_of_ble_eq_true rfl) (by decide)) (k_AS_newLength hV G v2 ((a1 <<< (v3 &&& 31)) - v2) (v2 + ((nI 2) <<< (v4 &&& 31)))) h (fun v7 G6 _ h => ?_)
  refine Y.blk (pc' := 36) (L' := [some (.ref a0), some (.int a1), some (.int v2), some (.int (a1 <<< (v3 &&& 31))), some (.int ((a1 <<< (v3 &&& 31)) - v2)), some (.int v7)]) (st' := [.int v7]) (sg := [(.istore 5, 0), (.iload 5, 0)]) (lSa_ok dd9) rfl ?_
  refine Y.ldc (v := nI 2147483647) co_AB_39 (lIa_ok dd10) ?_
  refine Y.ic_ne (off := 13) (tgt := 51) (lIa_ok dd11) (by decide) h (fun c9 h => ?_) (fun c9 h => ?_)
  · cases h
  · refine Y.blk (pc' := 54) (L' := [some (.ref a0), some (.int a1), some (.int v2), some (.int (a1 <<< (v3 &&& 31))), some (.int ((a1 <<< (v3 &&& 31)) - v2)), some (.int v7)]) (st' := [.ref a0, .int v7]) (sg := [(.iload 5, 0), (.aload_n 0, 0)]) (lSa_ok dd12) rfl ?_
    refine Y.getI fl_AB_22 (lIa_ok dd13) h (fun v8 h => ?_)
    refine Y.blk (pc' := 58) (L' := [some (.ref a0), some (.int a1), some (.int v2), some (.int (a1 <<< (v3 &&& 31))), some (.int ((a1 <<< (v3 &&& 31)) - v2)), some (.int v7)]) (st' := [.int (v7 >>> (v8 &&& 31))]) (sg := [(.ishr, 0)]) (lSa_ok dd14) rfl ?_
    exact Y.iret rfl (lIa_ok dd15) h

def f_AR_copyOf1 (G : gH) (a0 : Nat) (a1 : Int32) : gR :=
  gLen G a0 101 fun v1 => if a1 = v1 then gClB G a0 fun q2 G3 => gCaA G3 q2 101 (rA q2 G3)
  else gNewA G 101 a1 fun q4 G5 => gLen G5 a0 101 fun v6 => gCpB G5 a0 (nI 0) q4 (nI 0) (if a1 < v6 then a1 else v6) fun G7 => rA q4 G7
theorem k_AR_copyOf1 {l : Launch} {D : va_G} {B : Nat} {O : State → Heap → Prop} (hV : zG l D B O) (G : gH) (a0 : Nat) (a1 : Int32) : gMet (zVm l D B O) m_AR_copyOf1 2 [.ref a0, .int a1] G (f_AR_copyOf1 G a0 a1) := by
  have hdd : lSa m_AR_copyOf1 0 [(.iload_n 1, 0), (.aload_n 0, 0)] = true ∧ lIa m_AR_copyOf1 2 (.arraylength) 1 = true ∧ lIa m_AR_copyOf1 3 (.if_icmp .ne 11) 3 = true ∧ lSa m_AR_copyOf1 6 [(.aload_n 0, 0)] = true ∧ lIa m_AR_copyOf1 7 (.invokevirtual 310) 3 = true ∧ lIa m_AR_copyOf1 10 (.checkcast 311) 3 = true ∧ lIa m_AR_copyOf1 13 (.areturn) 1 = true ∧ lSa m_AR_copyOf1 14 [(.iload_n 1, 0)] = true ∧ lSa m_AR_copyOf1 17 [(.astore_n 2, 0), (.aload_n 0, 0), (.iconst 0, nI 0), (.aload_n 2, 0), (.iconst 0, nI 0), (.aload_n 0, 0)] = true ∧ lIa m_AR_copyOf1 23 (.arraylength) 1 = true ∧ lSa m_AR_copyOf1 24 [(.iload_n 1, 0)] = true ∧ lIa m_AR_copyOf1 25 (.invokestatic 304) 3 = true ∧ lIa m_AR_copyOf1 28 (.invokestatic 150) 3 = true ∧ lSa m_AR_copyOf1 31 [(.aload_n 2, 0)] = true ∧ lIa m_AR_copyOf1 32 (.areturn) 1 = true := by decide +kernel
  refine lA8 hdd (fun dd0 dd1 dd2 dd3 dd4 dd5 dd6 dd7 hdd => ?_)
  obtain ⟨dd8, dd9, dd10, dd11, dd12, dd13, dd14⟩ := hdd
  refine gMet.of (by decide +kernel) (Nat.le_of_ble_eq_true rfl) [some (.ref a0), some (.int a1), none] (fun ls h => zEn_ok (n := 3) h) ?_
  intro o Gf h
  unfold f_AR_copyOf1 at h
  refine Y.blk (pc' := 2) (L' := [some (.ref a0), some (.int a1), none]) (st' := [.ref a0, .int a1]) (sg := [(.iload_n 1, 0), (.aload_n 0, 0)]) (lSa_ok dd0) rfl ?_
  refine Y.alen (t0 := 1) (lIa_ok dd1) rfl h (fun v1 h => ?_)
  refine Y.ic_ne (off := 11) (tgt := 14) (lIa_ok dd2) (by decide) h (fun c8 h => ?_) (fun c8 h => ?_)
  · refine Y.blk (pc' := 7) (L' := [some (.ref a0), some (.int a1), none]) (st' := [.ref a0]) (sg := [(.aload_n 0, 0)]) (lSa_ok dd3) rfl ?_
    refine Y.cloneB (t0 := 1) lk_clone rfl (by decide) rfl (Nat.le_of_ble_eq_true rfl) (lIa_ok dd4) h (fun q2 G3 h => ?_)
    refine Y.castA (t0 := 1) (nm := "[B") (lIa_ok dd5) rfl (by decide) ck_AR_311 h (fun h => ?_)
    exact Y.aret rfl (by first | exact Or.inl ⟨_, rfl⟩ | exact Or.inr ⟨_, rfl⟩) (lIa_ok dd6) h
  · refine Y.blk (pc' := 15) (L' := [some (.ref a0), some (.int a1), none]) (st' := [.int a1]) (sg := [(.iload_n 1, 0)]) (lSa_ok dd7) rfl ?_
    refine Y.newa (at_ := .byte) (t0 := 1) ac_b rfl (by decide) rfl (by decide) (by decide +kernel) h (fun q4 G5 h => ?_)
    refine Y.blk (pc' := 23) (L' := [some (.ref a0), some (.int a1), some (.ref q4)]) (st' := [.ref a0, .int (nI 0), .ref q4, .int (nI 0), .ref a0]) (sg := [(.astore_n 2, 0), (.aload_n 0, 0), (.iconst 0, nI 0), (.aload_n 2, 0), (.iconst 0, nI 0), (.aload_n 0, 0)]) (lSa_ok dd8) rfl ?_
    refine Y.alen (t0 := 1) (lIa_ok dd9) rfl h (fun v6 h => ?_)
    refine Y.blk (pc' := 25) (L' := [some (.ref a0), some (.int a1), some (.ref q4)]) (st' := [.int a1, .int v6, .int (nI 0), .ref q4, .int (nI 0), .ref a0]) (sg := [(.iload_n 1, 0)]) (lSa_ok dd10) rfl ?_
    refine Y.mmin lk_AR_304 st_MA_min ini_MA cb_MA_min.1 (by decide) rfl (Nat.le_of_ble_eq_true rfl) (lIa_ok dd11) ?_
    refine Y.copyB (t0 := 1) lk_AR_150 nat_copy st_copy ini_SY (by decide) rfl (Nat.le_of_ble_eq_true rfl) (lIa_ok dd12) rfl h (fun G7 _ _ h => ?_)
    refine Y.blk (pc' := 32) (L' := [some (.ref a0), some (.int a1), some (.ref q4)]) (st' := [.ref q4]) (sg := [(.aload_n 2, 0)]) (lSa_ok dd13) rfl ?_
    exact Y.aret rfl (by first | exact Or.inl ⟨_, rfl⟩ | exact Or.inr ⟨_, rfl⟩) (lIa_ok dd14) h

def f_AB_ensureCapacityInternal (G : gH) (a0 : Nat) (a1 : Int32) : gR :=
  gFA G a0 10 0 fun v1 => gLen G v1 101 fun v2 => gFI G a0 10 1 fun v3 => if (a1 - (v2 >>> (v3 &&& 31))) ≤ 0 then rV G
  else gFA G a0 10 0 fun v4 => gOb G a0 10 fun o6 => bI (f_AB_newCapacity G a0 a1) fun v9 G8 => gFI G8 a0 10 1 fun v10 => bA (f_AR_copyOf1 G8 v4 (v9 <<< (v10 &&& 31))) fun v13 G12 => gPut G12 a0 10 0 (.ref v13) fun G14 => rV G14
theorem k_AB_ensureCapacityInternal {l : Launch} {D : va_G} {B : Nat} {O : State → Heap → Prop} (hV : zG l D B O) (G : gH) (a0 : Nat) (a1 : Int32) : gMet (zVm l D B O) m_AB_ensureCapacityInternal 4 [.ref a0, .int a1] G (f_AB_ensureCapacityInternal G a0 a1) := by
  have hdd : lSa m_AB_ensureCapacityInternal 0 [(.aload_n 0, 0)] = true ∧ lIa m_AB_ensureCapacityInternal 1 (.getfield 15) 3 = true ∧ lIa m_AB_ensureCapacityInternal 4 (.arraylength) 1 = true ∧ lSa m_AB_ensureCapacityInternal 5 [(.aload_n 0, 0)] = true ∧ lIa m_AB_ensureCapacityInternal 6 (.getfield 22) 3 = true ∧ lSa m_AB_ensureCapacityInternal 9 [(.ishr, 0), (.istore_n 2, 0), (.iload_n 1, 0), (.iload_n 2, 0), (.isub, 0)] = true ∧ lIa m_AB_ensureCapacityInternal 14 (.ifCond .le 24) 3 = true ∧ lIa m_AB_ensureCapacityInternal 38 (.return_) 1 = true ∧ lSa m_AB_ensureCapacityInternal 17 [(.aload_n 0, 0), (.aload_n 0, 0)] = true ∧ lIa m_AB_ensureCapacityInternal 19 (.getfield 15) 3 = true ∧ lSa m_AB_ensureCapacityInternal 22 [(.aload_n 0, 0), (.iload_n 1, 0)] = true ∧ lIa m_AB_ensureCapacityInternal 24 (.invokevirtual 104) 3 = true ∧ lSa m_AB_ensureCapacityInternal 27 [(.aload_n 0, 0)] = true ∧ lIa m_AB_ensureCapacityInternal 28 (.getfield 22) 3 = true ∧ lSa m_AB_ensureCapacityInternal 31 [(.ishl, 0)] = true ∧ lIa m_AB_ensureCapacityInternal 32 (.invokestatic 108) 3 = true ∧ lIa m_AB_ensureCapacityInternal 35 (.putfield 15) 3 = true := by decide +kernel
  refine lA8 hdd (fun dd0 dd1 dd2 dd3 dd4 dd5 dd6 dd7 hdd => ?_)
  refine lA8 hdd (fun dd8 dd9 dd10 dd11 dd12 dd13 dd14 dd15 hdd => ?_)
  have dd16 := hdd
  refine gMet.of (by decide +kernel) (Nat.le_of_ble_eq_true rfl) [some (.ref a0), some (.int a1), none] (fun ls h => zEn_ok (n := 3) h) ?_
  intro o Gf h
  unfold f_AB_ensureCapacityInternal at h
  refine Y.blk (pc' := 1) (L' := [some (.ref a0), some (.int a1), none]) (st' := [.ref a0]) (sg := [(.aload_n 0, 0)]) (lSa_ok dd0) rfl ?_
  refine Y.getA fl_AB_15 (lIa_ok dd1) h (fun v1 h => ?_)
  refine Y.alen (t0 := 1) (lIa_ok dd2) rfl h (fun v2 h => ?_)
  refine Y.blk (pc' := 6) (L' := [some (.ref a0), some (.int a1), none]) (st' := [.ref a0, .int v2]) (sg := [(.aload_n 0, 0)]) (lSa_ok dd3) rfl ?_
  refine Y.getI fl_AB_22 (lIa_ok dd4) h (fun v3 h => ?_)
  refine Y.blk (pc' := 14) (L' := [some (.ref a0), some (.int a1), some (.int (v2 >>> (v3 &&& 31)))]) (st' := [.int (a1 - (v2 >>> (v3 &&& 31)))]) (sg := [(.ishr, 0), (.istore_n 2, 0), (.iload_n 1, 0), (.iload_n 2, 0), (.isub, 0)]) (lSa_ok dd5) rfl ?_
  refine Y.if_le (off := 24) (tgt := 38) (lIa_ok dd6) (by decide) h (fun c15 h => ?_) (fun c15 h => ?_)
  · exact Y.vret rfl (lIa_ok dd7) h
  · refine Y.blk (pc' := 19) (L' := [some (.ref a0), some (.int a1), some (.int (v2 >>> (v3 &&& 31)))]) (st' := [.ref a0, .ref a0]) (sg := [(.aload_n 0, 0), (.aload_n 0, 0)]) (lSa_ok dd8) rfl ?_
    refine Y.getA fl_AB_15 (lIa_ok dd9) h (fun v4 h => ?_)
    refine Y.blk (pc' := 24) (L' := [some (.ref a0), some (.int a1), some (.int (v2 >>> (v3 &&& 31)))]) (st' := [.int a1, .ref a0, .ref v4, .ref a0]) (sg := [(.aload_n 0, 0), (.iload_n 1, 0)]) (lSa_ok dd10) rfl ?_
    obtain ⟨_, o6, e5, m7, h⟩ := gOb_inv h
    refine Y.callI (yC.Vi (b := a0) (As := [.int a1]) (st := [.ref v4, .ref a0]) (r := ("java/lang/StringBuilder", T_SB, 4)) hV.1 cb_AB_newCapacity lk_AB_104 in_AB_newCapacity rfl seSB_AB_newCapacity (lIa_ok dd11) rfl rfl (Nat.le_of_ble_eq_true rfl) (by decide) e5 m7) (k_AB_newCapacity hV G a0 a1) h (fun v9 G8 _ h => ?_)
    refine Y.blk (pc' := 28) (L' := [some (.ref a0), some (.int a1), some (.int (v2 >>> (v3 &&& 31)))]) (st' := [.ref a0, .int v9, .ref v4, .ref a0]) (sg := [(.aload_n 0, 0)]) (lSa_ok dd12) rfl ?_
    refine Y.getI fl_AB_22 (lIa_ok dd13) h (fun v10 h => ?_)
    refine Y.blk (pc' := 32) (L' := [some (.ref a0), some (.int a1), some (.int (v2 >>> (v3 &&& 31)))]) (st' := [.int (v9 <<< (v10 &&& 31)), .ref v4, .ref a0]) (sg := [(.ishl, 0)]) (lSa_ok dd14) rfl ?_
    refine Y.callA (yC.S (As := [.ref v4, .int (v9 <<< (v10 &&& 31))]) (st := [.ref a0]) hV.1 cb_AR_copyOf1 lk_AB_108 st_AR_copyOf1 (lIa_ok dd15) rfl rfl (Nat.le_of_ble_eq_true rfl) (by decide)) (k_AR_copyOf1 hV G8 v4 (v9 <<< (v10 &&& 31))) h (fun v13 G12 _ h => ?_)
    refine Y.putf fl_AB_15 (by decide) rfl rfl (lIa_ok dd16) h (fun G14 _ _ h => ?_)
    exact Y.vret rfl (lIa_ok dd7) h

def f_AB_isLatin1 (w : Nat → Nat) (G : gH) (a0 : Nat) : gR :=
  if (nI 1) = 0 then rZ (nI 0) G
  else gFI G a0 10 1 fun v1 => if v1 = 0 then rZ (nI 1) G
    else rZ (nI 0) G
theorem k_AB_isLatin1 {l : Launch} {D : va_G} {B : Nat} {O : State → Heap → Prop} {w : Nat → Nat} (hV : zGw l D B O w) (G : gH) (a0 : Nat) : gMet (zVm l D B O) m_AB_isLatin1 2 [.ref a0] G (f_AB_isLatin1 w G a0) := by
  have hdd : lIa m_AB_isLatin1 0 (.getstatic 18) 3 = true ∧ lIa m_AB_isLatin1 3 (.ifCond .eq 14) 3 = true ∧ lSa m_AB_isLatin1 17 [(.iconst 0, nI 0)] = true ∧ lIa m_AB_isLatin1 18 (.ireturn) 1 = true ∧ lSa m_AB_isLatin1 6 [(.aload_n 0, 0)] = true ∧ lIa m_AB_isLatin1 7 (.getfield 22) 3 = true ∧ lIa m_AB_isLatin1 10 (.ifCond .ne 7) 3 = true ∧ lSa m_AB_isLatin1 13 [(.iconst 1, nI 1)] = true ∧ lIa m_AB_isLatin1 14 (.goto 4) 3 = true := by decide +kernel
  refine lA8 hdd (fun dd0 dd1 dd2 dd3 dd4 dd5 dd6 dd7 hdd => ?_)
  have dd8 := hdd
  refine gMet.of (by decide +kernel) (Nat.le_of_ble_eq_true rfl) [some (.ref a0)] (fun ls h => zEn_ok (n := 1) h) ?_
  intro o Gf h
  unfold f_AB_isLatin1 at h
  refine Y.gets (v := .int (nI 1)) (fun U H h => (hV.2 U H h).2.2.2.1) sf_AB_18 (lIa_ok dd0) ?_
  refine Y.if_eq (off := 14) (tgt := 17) (lIa_ok dd1) (by decide) h (fun c3 h => ?_) (fun c3 h => ?_)
  · refine Y.blk (pc' := 18) (L' := [some (.ref a0)]) (st' := [.int (nI 0)]) (sg := [(.iconst 0, nI 0)]) (lSa_ok dd2) rfl ?_
    exact Y.zret rfl (lIa_ok dd3) h
  · refine Y.blk (pc' := 7) (L' := [some (.ref a0)]) (st' := [.ref a0]) (sg := [(.aload_n 0, 0)]) (lSa_ok dd4) rfl ?_
    refine Y.getI fl_AB_22 (lIa_ok dd5) h (fun v1 h => ?_)
    refine Y.if_ne (off := 7) (tgt := 17) (lIa_ok dd6) (by decide) h (fun c2 h => ?_) (fun c2 h => ?_)
    · refine Y.blk (pc' := 14) (L' := [some (.ref a0)]) (st' := [.int (nI 1)]) (sg := [(.iconst 1, nI 1)]) (lSa_ok dd7) rfl ?_
      refine Y.goto (off := 4) (tgt := 18) (lIa_ok dd8) (by decide) ?_
      exact Y.zret rfl (lIa_ok dd3) h
    · refine Y.blk (pc' := 18) (L' := [some (.ref a0)]) (st' := [.int (nI 0)]) (sg := [(.iconst 0, nI 0)]) (lSa_ok dd2) rfl ?_
      exact Y.zret rfl (lIa_ok dd3) h
