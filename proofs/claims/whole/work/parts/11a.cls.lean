def f_N_init (G : gH) (a0 : Nat) (a1 : Int32) : gR :=
  if 0 ≤ a1 then gNewA G 100 a1 fun a1 G2 => gPut G2 a0 2 0 (.ref a1) fun G3 => rV G3
  else gNewA G 100 (nI 0) fun a4 G5 => gPut G5 a0 2 0 (.ref a4) fun G6 => rV G6
theorem k_N_init {l : Launch} {D : va_G} {B : Nat} {O : State → Heap → Prop} (hV : zG l D B O) (G : gH) (a0 : Nat) (a1 : Int32) : gMet (zVm l D B O) m_N_init 1 [.ref a0, .int a1] G (f_N_init G a0 a1) := by
  have hdd : lSa m_N_init 0 [(.aload_n 0, 0)] = true ∧ lIa m_N_init 1 (.invokespecial 3) 3 = true ∧ lSa m_N_init 4 [(.aload_n 0, 0), (.iload_n 1, 0)] = true ∧ lIa m_N_init 6 (.ifCond .ge 7) 3 = true ∧ lSa m_N_init 13 [(.iload_n 1, 0)] = true ∧ lIa m_N_init 16 (.putfield 9) 3 = true ∧ lIa m_N_init 19 (.return_) 1 = true ∧ lSa m_N_init 9 [(.iconst 0, nI 0)] = true ∧ lIa m_N_init 10 (.goto 4) 3 = true := by decide +kernel
  refine lA8 hdd (fun dd0 dd1 dd2 dd3 dd4 dd5 dd6 dd7 hdd => ?_)
  have dd8 := hdd
  refine gMet.of (by decide +kernel) (Nat.le_of_ble_eq_true rfl) [some (.ref a0), some (.int a1)] (fun ls h => zEn_ok (n := 2) h) ?_
  intro o Gf h
  unfold f_N_init at h
  refine Y.blk (pc' := 1) (L' := [some (.ref a0), some (.int a1)]) (st' := [.ref a0]) (sg := [(.aload_n 0, 0)]) (lSa_ok dd0) rfl ?_
  refine Y.objInit lk_N_3 in_OJ_init cw_OJ_init (by decide) rfl (Nat.le_of_ble_eq_true rfl) (lIa_ok dd1) ?_
  refine Y.blk (pc' := 6) (L' := [some (.ref a0), some (.int a1)]) (st' := [.int a1, .ref a0]) (sg := [(.aload_n 0, 0), (.iload_n 1, 0)]) (lSa_ok dd2) rfl ?_
  refine Y.if_ge (off := 7) (tgt := 13) (lIa_ok dd3) (by decide) h (fun c7 h => ?_) (fun c7 h => ?_)
  · refine Y.blk (pc' := 14) (L' := [some (.ref a0), some (.int a1)]) (st' := [.int a1, .ref a0]) (sg := [(.iload_n 1, 0)]) (lSa_ok dd4) rfl ?_
    refine Y.newa (at_ := .int) (t0 := 0) ac_i rfl (by decide) rfl (by decide) (by decide +kernel) h (fun a1 G2 h => ?_)
    refine Y.putF fl_N_9 rfl (by decide) rfl rfl (lIa_ok dd5) h (fun G3 _ _ h => ?_)
    exact Y.vret rfl (lIa_ok dd6) h
  · refine Y.blk (pc' := 10) (L' := [some (.ref a0), some (.int a1)]) (st' := [.int (nI 0), .ref a0]) (sg := [(.iconst 0, nI 0)]) (lSa_ok dd7) rfl ?_
    refine Y.goto (off := 4) (tgt := 14) (lIa_ok dd8) (by decide) ?_
    refine Y.newa (at_ := .int) (t0 := 0) ac_i rfl (by decide) rfl (by decide) (by decide +kernel) h (fun a4 G5 h => ?_)
    refine Y.putF fl_N_9 rfl (by decide) rfl rfl (lIa_ok dd5) h (fun G6 _ _ h => ?_)
    exact Y.vret rfl (lIa_ok dd6) h

def f_U_init (G : gH) (a0 : Nat) : gR :=
  gNewO G 2 1 [.null] fun a1 G2 => bV (f_N_init G2 a1 (nI 3)) fun G4 => gPut G4 a0 0 0 (.ref a1) fun G5 => gNewO G5 2 1 [.null] fun a6 G7 => bV (f_N_init G7 a6 (nI 3)) fun G9 => gPut G9 a0 0 1 (.ref a6) fun G10 => gNewO G10 2 1 [.null] fun a11 G12 => bV (f_N_init G12 a11 (nI 3)) fun G14 => gPut G14 a0 0 2 (.ref a11) fun G15 => gNewO G15 2 1 [.null] fun a16 G17 => bV (f_N_init G17 a16 (nI 3)) fun G19 => gPut G19 a0 0 3 (.ref a16) fun G20 => rV G20
theorem k_U_init {l : Launch} {D : va_G} {B : Nat} {O : State → Heap → Prop} (hV : zG l D B O) (G : gH) (a0 : Nat) : gMet (zVm l D B O) m_U_init 2 [.ref a0] G (f_U_init G a0) := by
  have hdd : lSa m_U_init 0 [(.aload_n 0, 0)] = true ∧ lIa m_U_init 1 (.invokespecial 3) 3 = true ∧ lSa m_U_init 4 [(.aload_n 0, 0)] = true ∧ lIa m_U_init 5 (.new 9) 3 = true ∧ lSa m_U_init 8 [(.dup, 0), (.iconst 3, nI 3)] = true ∧ lIa m_U_init 10 (.invokespecial 11) 3 = true ∧ lIa m_U_init 13 (.putfield 14) 3 = true ∧ lSa m_U_init 16 [(.aload_n 0, 0)] = true ∧ lIa m_U_init 17 (.new 9) 3 = true ∧ lSa m_U_init 20 [(.dup, 0), (.iconst 3, nI 3)] = true ∧ lIa m_U_init 22 (.invokespecial 11) 3 = true ∧ lIa m_U_init 25 (.putfield 20) 3 = true ∧ lSa m_U_init 28 [(.aload_n 0, 0)] = true ∧ lIa m_U_init 29 (.new 9) 3 = true ∧ lSa m_U_init 32 [(.dup, 0), (.iconst 3, nI 3)] = true ∧ lIa m_U_init 34 (.invokespecial 11) 3 = true ∧ lIa m_U_init 37 (.putfield 23) 3 = true ∧ lSa m_U_init 40 [(.aload_n 0, 0)] = true ∧ lIa m_U_init 41 (.new 9) 3 = true ∧ lSa m_U_init 44 [(.dup, 0), (.iconst 3, nI 3)] = true ∧ lIa m_U_init 46 (.invokespecial 11) 3 = true ∧ lIa m_U_init 49 (.putfield 26) 3 = true ∧ lIa m_U_init 52 (.return_) 1 = true := by decide +kernel
  refine lA8 hdd (fun dd0 dd1 dd2 dd3 dd4 dd5 dd6 dd7 hdd => ?_)
  refine lA8 hdd (fun dd8 dd9 dd10 dd11 dd12 dd13 dd14 dd15 hdd => ?_)
  obtain ⟨dd16, dd17, dd18, dd19, dd20, dd21, dd22⟩ := hdd
  refine gMet.of (by decide +kernel) (Nat.le_of_ble_eq_true rfl) [some (.ref a0)] (fun ls h => zEn_ok (n := 1) h) ?_
  intro o Gf h
  unfold f_U_init at h
  refine Y.blk (pc' := 1) (L' := [some (.ref a0)]) (st' := [.ref a0]) (sg := [(.aload_n 0, 0)]) (lSa_ok dd0) rfl ?_
  refine Y.objInit lk_U_3 in_OJ_init cw_OJ_init (by decide) rfl (Nat.le_of_ble_eq_true rfl) (lIa_ok dd1) ?_
  refine Y.blk (pc' := 5) (L' := [some (.ref a0)]) (st' := [.ref a0]) (sg := [(.aload_n 0, 0)]) (lSa_ok dd2) rfl ?_
  refine Y.new nc_U_9 (by decide) bk_N (lIa_ok dd3) h (fun a1 G2 h => ?_)
  refine Y.blk (pc' := 10) (L' := [some (.ref a0)]) (st' := [.int (nI 3), .ref a1, .ref a1, .ref a0]) (sg := [(.dup, 0), (.iconst 3, nI 3)]) (lSa_ok dd4) rfl ?_
  refine Y.callN (yC.I (b := a1) (As := [.int (nI 3)]) (st := [.ref a1, .ref a0]) hV.1 cb_N_init lk_U_11 in_N_init rfl rfl (lIa_ok dd5) rfl rfl (Nat.le_of_ble_eq_true rfl) (by decide)) (k_N_init hV G2 a1 (nI 3)) h (fun G4 _ h => ?_)
  refine Y.putF fl_U_14 rfl (by decide) rfl rfl (lIa_ok dd6) h (fun G5 _ _ h => ?_)
  refine Y.blk (pc' := 17) (L' := [some (.ref a0)]) (st' := [.ref a0]) (sg := [(.aload_n 0, 0)]) (lSa_ok dd7) rfl ?_
  refine Y.new nc_U_9 (by decide) bk_N (lIa_ok dd8) h (fun a6 G7 h => ?_)
  refine Y.blk (pc' := 22) (L' := [some (.ref a0)]) (st' := [.int (nI 3), .ref a6, .ref a6, .ref a0]) (sg := [(.dup, 0), (.iconst 3, nI 3)]) (lSa_ok dd9) rfl ?_
  refine Y.callN (yC.I (b := a6) (As := [.int (nI 3)]) (st := [.ref a6, .ref a0]) hV.1 cb_N_init lk_U_11 in_N_init rfl rfl (lIa_ok dd10) rfl rfl (Nat.le_of_ble_eq_true rfl) (by decide)) (k_N_init hV G7 a6 (nI 3)) h (fun G9 _ h => ?_)
  refine Y.putF fl_U_20 rfl (by decide) rfl rfl (lIa_ok dd11) h (fun G10 _ _ h => ?_)
  refine Y.blk (pc' := 29) (L' := [some (.ref a0)]) (st' := [.ref a0]) (sg := [(.aload_n 0, 0)]) (lSa_ok dd12) rfl ?_
  refine Y.new nc_U_9 (by decide) bk_N (lIa_ok dd13) h (fun a11 G12 h => ?_)
  refine Y.blk (pc' := 34) (L' := [some (.ref a0)]) (st' := [.int (nI 3), .ref a11, .ref a11, .ref a0]) (sg := [(.dup, 0), (.iconst 3, nI 3)]) (lSa_ok dd14) rfl ?_
  refine Y.callN (yC.I (b := a11) (As := [.int (nI 3)]) (st := [.ref a11, .ref a0]) hV.1 cb_N_init lk_U_11 in_N_init rfl rfl (lIa_ok dd15) rfl rfl (Nat.le_of_ble_eq_true rfl) (by decide)) (k_N_init hV G12 a11 (nI 3)) h (fun G14 _ h => ?_)
  refine Y.putF fl_U_23 rfl (by decide) rfl rfl (lIa_ok dd16) h (fun G15 _ _ h => ?_)
  refine Y.blk (pc' := 41) (L' := [some (.ref a0)]) (st' := [.ref a0]) (sg := [(.aload_n 0, 0)]) (lSa_ok dd17) rfl ?_
  refine Y.new nc_U_9 (by decide) bk_N (lIa_ok dd18) h (fun a16 G17 h => ?_)
  refine Y.blk (pc' := 46) (L' := [some (.ref a0)]) (st' := [.int (nI 3), .ref a16, .ref a16, .ref a0]) (sg := [(.dup, 0), (.iconst 3, nI 3)]) (lSa_ok dd19) rfl ?_
  refine Y.callN (yC.I (b := a16) (As := [.int (nI 3)]) (st := [.ref a16, .ref a0]) hV.1 cb_N_init lk_U_11 in_N_init rfl rfl (lIa_ok dd20) rfl rfl (Nat.le_of_ble_eq_true rfl) (by decide)) (k_N_init hV G17 a16 (nI 3)) h (fun G19 _ h => ?_)
  refine Y.putF fl_U_26 rfl (by decide) rfl rfl (lIa_ok dd21) h (fun G20 _ _ h => ?_)
  exact Y.vret rfl (lIa_ok dd22) h

def f_N_write (G : gH) (a0 : Nat) (a1 : Int32) (a2 : Int32) : gR :=
  if a1 < 0 then rV G
  else gFA G a0 2 0 fun v1 => gLen G v1 100 fun v2 => if v2 ≤ a1 then rV G
    else gFA G a0 2 0 fun v3 => gSt G v3 100 a1 a2 fun G4 => rV G4
theorem k_N_write {l : Launch} {D : va_G} {B : Nat} {O : State → Heap → Prop} (hV : zG l D B O) (G : gH) (a0 : Nat) (a1 : Int32) (a2 : Int32) : gMet (zVm l D B O) m_N_write 1 [.ref a0, .int a1, .int a2] G (f_N_write G a0 a1 a2) := by
  have hdd : lSa m_N_write 0 [(.iload_n 1, 0)] = true ∧ lIa m_N_write 1 (.ifCond .lt 19) 3 = true ∧ lIa m_N_write 20 (.return_) 1 = true ∧ lSa m_N_write 4 [(.iload_n 1, 0), (.aload_n 0, 0)] = true ∧ lIa m_N_write 6 (.getfield 9) 3 = true ∧ lIa m_N_write 9 (.arraylength) 1 = true ∧ lIa m_N_write 10 (.if_icmp .ge 10) 3 = true ∧ lSa m_N_write 13 [(.aload_n 0, 0)] = true ∧ lIa m_N_write 14 (.getfield 9) 3 = true ∧ lSa m_N_write 17 [(.iload_n 1, 0), (.iload_n 2, 0)] = true ∧ lIa m_N_write 19 (.iastore) 1 = true := by decide +kernel
  refine lA8 hdd (fun dd0 dd1 dd2 dd3 dd4 dd5 dd6 dd7 hdd => ?_)
  obtain ⟨dd8, dd9, dd10⟩ := hdd
  refine gMet.of (by decide +kernel) (Nat.le_of_ble_eq_true rfl) [some (.ref a0), some (.int a1), some (.int a2)] (fun ls h => zEn_ok (n := 3) h) ?_
  intro o Gf h
  unfold f_N_write at h
  refine Y.blk (pc' := 1) (L' := [some (.ref a0), some (.int a1), some (.int a2)]) (st' := [.int a1]) (sg := [(.iload_n 1, 0)]) (lSa_ok dd0) rfl ?_
  refine Y.if_lt (off := 19) (tgt := 20) (lIa_ok dd1) (by decide) h (fun c6 h => ?_) (fun c6 h => ?_)
  · exact Y.vret rfl (lIa_ok dd2) h
  · refine Y.blk (pc' := 6) (L' := [some (.ref a0), some (.int a1), some (.int a2)]) (st' := [.ref a0, .int a1]) (sg := [(.iload_n 1, 0), (.aload_n 0, 0)]) (lSa_ok dd3) rfl ?_
    refine Y.getA fl_N_9 (lIa_ok dd4) h (fun v1 h => ?_)
    refine Y.alen (t0 := 0) (lIa_ok dd5) rfl h (fun v2 h => ?_)
    refine Y.ic_ge (off := 10) (tgt := 20) (lIa_ok dd6) (by decide) h (fun c5 h => ?_) (fun c5 h => ?_)
    · exact Y.vret rfl (lIa_ok dd2) h
    · refine Y.blk (pc' := 14) (L' := [some (.ref a0), some (.int a1), some (.int a2)]) (st' := [.ref a0]) (sg := [(.aload_n 0, 0)]) (lSa_ok dd7) rfl ?_
      refine Y.getA fl_N_9 (lIa_ok dd8) h (fun v3 h => ?_)
      refine Y.blk (pc' := 19) (L' := [some (.ref a0), some (.int a1), some (.int a2)]) (st' := [.int a2, .int a1, .ref v3]) (sg := [(.iload_n 1, 0), (.iload_n 2, 0)]) (lSa_ok dd9) rfl ?_
      refine Y.iast (t0 := 0) (lIa_ok dd10) rfl (by decide) h (fun G4 _ _ h => ?_)
      exact Y.vret rfl (lIa_ok dd2) h

def f_I_init_L84 (K132 : gH → gR) : Nat → gH → Nat → Int32 → gR
  | 0, _, _, _ => none
  | n + 1, G, x0, x1 =>
    if (nI 6) ≤ x1 then K132 G
    else gFA G x0 1 1 fun v31 => if (nI 2) ≤ x1 then gOb G v31 2 fun o33 => bV (f_N_write G v31 x1 (-1)) fun G35 => gFA G35 x0 1 2 fun v36 => gOb G35 v36 2 fun o38 => bV (f_N_write G35 v36 x1 (-1)) fun G40 => gFA G40 x0 1 3 fun v41 => gOb G40 v41 2 fun o43 => bV (f_N_write G40 v41 x1 x1) fun G45 => f_I_init_L84 K132 n G45 x0 (x1 + (nI 1))
      else gOb G v31 2 fun o47 => bV (f_N_write G v31 x1 (nI 0)) fun G49 => gFA G49 x0 1 2 fun v50 => gOb G49 v50 2 fun o52 => bV (f_N_write G49 v50 x1 (-1)) fun G54 => gFA G54 x0 1 3 fun v55 => gOb G54 v55 2 fun o57 => bV (f_N_write G54 v55 x1 x1) fun G59 => f_I_init_L84 K132 n G59 x0 (x1 + (nI 1))
def f_I_init (G : gH) (a0 : Nat) : gR :=
  gNewO G 2 1 [.null] fun a1 G2 => bV (f_N_init G2 a1 (nI 62)) fun G4 => gPut G4 a0 1 0 (.ref a1) fun G5 => gNewO G5 2 1 [.null] fun a6 G7 => bV (f_N_init G7 a6 (nI 6)) fun G9 => gPut G9 a0 1 1 (.ref a6) fun G10 => gNewO G10 2 1 [.null] fun a11 G12 => bV (f_N_init G12 a11 (nI 6)) fun G14 => gPut G14 a0 1 2 (.ref a11) fun G15 => gNewO G15 2 1 [.null] fun a16 G17 => bV (f_N_init G17 a16 (nI 6)) fun G19 => gPut G19 a0 1 3 (.ref a16) fun G20 => gNewO G20 2 1 [.null] fun a21 G22 => bV (f_N_init G22 a21 (nI 6)) fun G24 => gPut G24 a0 1 4 (.ref a21) fun G25 => gNewO G25 2 1 [.null] fun a26 G27 => bV (f_N_init G27 a26 (nI 31)) fun G29 => gPut G29 a0 1 5 (.ref a26) fun G30 => f_I_init_L84 (fun G62 => rV G62) zFu G30 a0 (nI 0)
theorem k_I_init_L84 {l : Launch} {D : va_G} {B : Nat} {O : State → Heap → Prop} (hV : zG l D B O) {o : gO} {Gf : gH} (K132 : gH → gR) (hK132 : ∀ (G : gH), K132 G  = some (o, Gf) → Y (zVm l D B O) m_I_init 2 o Gf 132 [none, none] [] G) : ∀ (n : Nat) (G : gH) (x0 : Nat) (x1 : Int32), f_I_init_L84 K132 n G x0 x1 = some (o, Gf) → Y (zVm l D B O) m_I_init 2 o Gf 84 [some (.ref x0), some (.int x1)] [] G := by
  have hdd : lSa m_I_init 84 [(.iload_n 1, 0), (.bipush 6, nI 6)] = true ∧ lIa m_I_init 87 (.if_icmp .ge 45) 3 = true ∧ lSa m_I_init 90 [(.aload_n 0, 0)] = true ∧ lIa m_I_init 91 (.getfield 20) 3 = true ∧ lSa m_I_init 94 [(.iload_n 1, 0), (.iload_n 1, 0), (.iconst 2, nI 2)] = true ∧ lIa m_I_init 97 (.if_icmp .ge 7) 3 = true ∧ lSa m_I_init 104 [(.iconst (-1), -1)] = true ∧ lIa m_I_init 105 (.invokevirtual 35) 3 = true ∧ lSa m_I_init 108 [(.aload_n 0, 0)] = true ∧ lIa m_I_init 109 (.getfield 23) 3 = true ∧ lSa m_I_init 112 [(.iload_n 1, 0), (.iconst (-1), -1)] = true ∧ lIa m_I_init 114 (.invokevirtual 35) 3 = true ∧ lSa m_I_init 117 [(.aload_n 0, 0)] = true ∧ lIa m_I_init 118 (.getfield 26) 3 = true ∧ lSa m_I_init 121 [(.iload_n 1, 0), (.iload_n 1, 0)] = true ∧ lIa m_I_init 123 (.invokevirtual 35) 3 = true ∧ lSa m_I_init 126 [(.iinc 1 1, nI 1)] = true ∧ lIa m_I_init 129 (.goto (-45)) 3 = true ∧ lSa m_I_init 100 [(.iconst 0, nI 0)] = true ∧ lIa m_I_init 101 (.goto 4) 3 = true := by decide +kernel
  refine lA8 hdd (fun dd0 dd1 dd2 dd3 dd4 dd5 dd6 dd7 hdd => ?_)
  refine lA8 hdd (fun dd8 dd9 dd10 dd11 dd12 dd13 dd14 dd15 hdd => ?_)
  obtain ⟨dd16, dd17, dd18, dd19⟩ := hdd
  intro n
  induction n with
  | zero => intro G x0 x1 h; cases h
  | succ n ih =>
    intro G x0 x1 h
    unfold f_I_init_L84 at h
    refine Y.blk (pc' := 87) (L' := [some (.ref x0), some (.int x1)]) (st' := [.int (nI 6), .int x1]) (sg := [(.iload_n 1, 0), (.bipush 6, nI 6)]) (lSa_ok dd0) rfl ?_
    refine Y.ic_ge (off := 45) (tgt := 132) (lIa_ok dd1) (by decide) h (fun c61 h => ?_) (fun c61 h => ?_)
    · refine Y.less (L' := [none, none]) (zLe_none (zLe_none (zLe_nil))) ?_
      exact hK132 G  h
    · refine Y.blk (pc' := 91) (L' := [some (.ref x0), some (.int x1)]) (st' := [.ref x0]) (sg := [(.aload_n 0, 0)]) (lSa_ok dd2) rfl ?_
      refine Y.getA fl_I_20 (lIa_ok dd3) h (fun v31 h => ?_)
      refine Y.blk (pc' := 97) (L' := [some (.ref x0), some (.int x1)]) (st' := [.int (nI 2), .int x1, .int x1, .ref v31]) (sg := [(.iload_n 1, 0), (.iload_n 1, 0), (.iconst 2, nI 2)]) (lSa_ok dd4) rfl ?_
      refine Y.ic_ge (off := 7) (tgt := 104) (lIa_ok dd5) (by decide) h (fun c60 h => ?_) (fun c60 h => ?_)
      · refine Y.blk (pc' := 105) (L' := [some (.ref x0), some (.int x1)]) (st' := [.int (-1), .int x1, .ref v31]) (sg := [(.iconst (-1), -1)]) (lSa_ok dd6) rfl ?_
        obtain ⟨_, o33, e32, m34, h⟩ := gOb_inv h
        refine Y.callN (yC.Vi (b := v31) (As := [.int x1, .int (-1)]) (st := []) (r := ("Partlister$Numbers", T_N, 1)) hV.1 cb_N_write lk_I_35 in_N_write rfl se_N_write (lIa_ok dd7) rfl rfl (Nat.le_of_ble_eq_true rfl) (by decide) e32 m34) (k_N_write hV G v31 x1 (-1)) h (fun G35 _ h => ?_)
        refine Y.blk (pc' := 109) (L' := [some (.ref x0), some (.int x1)]) (st' := [.ref x0]) (sg := [(.aload_n 0, 0)]) (lSa_ok dd8) rfl ?_
        refine Y.getA fl_I_23 (lIa_ok dd9) h (fun v36 h => ?_)
        refine Y.blk (pc' := 114) (L' := [some (.ref x0), some (.int x1)]) (st' := [.int (-1), .int x1, .ref v36]) (sg := [(.iload_n 1, 0), (.iconst (-1), -1)]) (lSa_ok dd10) rfl ?_
        obtain ⟨_, o38, e37, m39, h⟩ := gOb_inv h
        refine Y.callN (yC.Vi (b := v36) (As := [.int x1, .int (-1)]) (st := []) (r := ("Partlister$Numbers", T_N, 1)) hV.1 cb_N_write lk_I_35 in_N_write rfl se_N_write (lIa_ok dd11) rfl rfl (Nat.le_of_ble_eq_true rfl) (by decide) e37 m39) (k_N_write hV G35 v36 x1 (-1)) h (fun G40 _ h => ?_)
        refine Y.blk (pc' := 118) (L' := [some (.ref x0), some (.int x1)]) (st' := [.ref x0]) (sg := [(.aload_n 0, 0)]) (lSa_ok dd12) rfl ?_
        refine Y.getA fl_I_26 (lIa_ok dd13) h (fun v41 h => ?_)
        refine Y.blk (pc' := 123) (L' := [some (.ref x0), some (.int x1)]) (st' := [.int x1, .int x1, .ref v41]) (sg := [(.iload_n 1, 0), (.iload_n 1, 0)]) (lSa_ok dd14) rfl ?_
        obtain ⟨_, o43, e42, m44, h⟩ := gOb_inv h
        refine Y.callN (yC.Vi (b := v41) (As := [.int x1, .int x1]) (st := []) (r := ("Partlister$Numbers", T_N, 1)) hV.1 cb_N_write lk_I_35 in_N_write rfl se_N_write (lIa_ok dd15) rfl rfl (Nat.le_of_ble_eq_true rfl) (by decide) e42 m44) (k_N_write hV G40 v41 x1 x1) h (fun G45 _ h => ?_)
        refine Y.blk (pc' := 129) (L' := [some (.ref x0), some (.int (x1 + (nI 1)))]) (st' := []) (sg := [(.iinc 1 1, nI 1)]) (lSa_ok dd16) rfl ?_
        refine Y.goto (off := -45) (tgt := 84) (lIa_ok dd17) (by decide) ?_
        exact ih G45 x0 (x1 + (nI 1)) h
      · refine Y.blk (pc' := 101) (L' := [some (.ref x0), some (.int x1)]) (st' := [.int (nI 0), .int x1, .ref v31]) (sg := [(.iconst 0, nI 0)]) (lSa_ok dd18) rfl ?_
        refine Y.goto (off := 4) (tgt := 105) (lIa_ok dd19) (by decide) ?_
        obtain ⟨_, o47, e46, m48, h⟩ := gOb_inv h
        refine Y.callN (yC.Vi (b := v31) (As := [.int x1, .int (nI 0)]) (st := []) (r := ("Partlister$Numbers", T_N, 1)) hV.1 cb_N_write lk_I_35 in_N_write rfl se_N_write (lIa_ok dd7) rfl rfl (Nat.le_of_ble_eq_true rfl) (by decide) e46 m48) (k_N_write hV G v31 x1 (nI 0)) h (fun G49 _ h => ?_)
        refine Y.blk (pc' := 109) (L' := [some (.ref x0), some (.int x1)]) (st' := [.ref x0]) (sg := [(.aload_n 0, 0)]) (lSa_ok dd8) rfl ?_
        refine Y.getA fl_I_23 (lIa_ok dd9) h (fun v50 h => ?_)
        refine Y.blk (pc' := 114) (L' := [some (.ref x0), some (.int x1)]) (st' := [.int (-1), .int x1, .ref v50]) (sg := [(.iload_n 1, 0), (.iconst (-1), -1)]) (lSa_ok dd10) rfl ?_
        obtain ⟨_, o52, e51, m53, h⟩ := gOb_inv h
        refine Y.callN (yC.Vi (b := v50) (As := [.int x1, .int (-1)]) (st := []) (r := ("Partlister$Numbers", T_N, 1)) hV.1 cb_N_write lk_I_35 in_N_write rfl se_N_write (lIa_ok dd11) rfl rfl (Nat.le_of_ble_eq_true rfl) (by decide) e51 m53) (k_N_write hV G49 v50 x1 (-1)) h (fun G54 _ h => ?_)
        refine Y.blk (pc' := 118) (L' := [some (.ref x0), some (.int x1)]) (st' := [.ref x0]) (sg := [(.aload_n 0, 0)]) (lSa_ok dd12) rfl ?_
        refine Y.getA fl_I_26 (lIa_ok dd13) h (fun v55 h => ?_)
        refine Y.blk (pc' := 123) (L' := [some (.ref x0), some (.int x1)]) (st' := [.int x1, .int x1, .ref v55]) (sg := [(.iload_n 1, 0), (.iload_n 1, 0)]) (lSa_ok dd14) rfl ?_
        obtain ⟨_, o57, e56, m58, h⟩ := gOb_inv h
        refine Y.callN (yC.Vi (b := v55) (As := [.int x1, .int x1]) (st := []) (r := ("Partlister$Numbers", T_N, 1)) hV.1 cb_N_write lk_I_35 in_N_write rfl se_N_write (lIa_ok dd15) rfl rfl (Nat.le_of_ble_eq_true rfl) (by decide) e56 m58) (k_N_write hV G54 v55 x1 x1) h (fun G59 _ h => ?_)
        refine Y.blk (pc' := 129) (L' := [some (.ref x0), some (.int (x1 + (nI 1)))]) (st' := []) (sg := [(.iinc 1 1, nI 1)]) (lSa_ok dd16) rfl ?_
        refine Y.goto (off := -45) (tgt := 84) (lIa_ok dd17) (by decide) ?_
        exact ih G59 x0 (x1 + (nI 1)) h
theorem k_I_init {l : Launch} {D : va_G} {B : Nat} {O : State → Heap → Prop} (hV : zG l D B O) (G : gH) (a0 : Nat) : gMet (zVm l D B O) m_I_init 2 [.ref a0] G (f_I_init G a0) := by
  have hdd : lSa m_I_init 0 [(.aload_n 0, 0)] = true ∧ lIa m_I_init 1 (.invokespecial 3) 3 = true ∧ lSa m_I_init 4 [(.aload_n 0, 0)] = true ∧ lIa m_I_init 5 (.new 9) 3 = true ∧ lSa m_I_init 8 [(.dup, 0), (.bipush 62, nI 62)] = true ∧ lIa m_I_init 11 (.invokespecial 11) 3 = true ∧ lIa m_I_init 14 (.putfield 14) 3 = true ∧ lSa m_I_init 17 [(.aload_n 0, 0)] = true ∧ lIa m_I_init 18 (.new 9) 3 = true ∧ lSa m_I_init 21 [(.dup, 0), (.bipush 6, nI 6)] = true ∧ lIa m_I_init 24 (.invokespecial 11) 3 = true ∧ lIa m_I_init 27 (.putfield 20) 3 = true ∧ lSa m_I_init 30 [(.aload_n 0, 0)] = true ∧ lIa m_I_init 31 (.new 9) 3 = true ∧ lSa m_I_init 34 [(.dup, 0), (.bipush 6, nI 6)] = true ∧ lIa m_I_init 37 (.invokespecial 11) 3 = true ∧ lIa m_I_init 40 (.putfield 23) 3 = true ∧ lSa m_I_init 43 [(.aload_n 0, 0)] = true ∧ lIa m_I_init 44 (.new 9) 3 = true ∧ lSa m_I_init 47 [(.dup, 0), (.bipush 6, nI 6)] = true ∧ lIa m_I_init 50 (.invokespecial 11) 3 = true ∧ lIa m_I_init 53 (.putfield 26) 3 = true ∧ lSa m_I_init 56 [(.aload_n 0, 0)] = true ∧ lIa m_I_init 57 (.new 9) 3 = true ∧ lSa m_I_init 60 [(.dup, 0), (.bipush 6, nI 6)] = true ∧ lIa m_I_init 63 (.invokespecial 11) 3 = true ∧ lIa m_I_init 66 (.putfield 29) 3 = true ∧ lSa m_I_init 69 [(.aload_n 0, 0)] = true ∧ lIa m_I_init 70 (.new 9) 3 = true ∧ lSa m_I_init 73 [(.dup, 0), (.bipush 31, nI 31)] = true ∧ lIa m_I_init 76 (.invokespecial 11) 3 = true ∧ lIa m_I_init 79 (.putfield 32) 3 = true ∧ lSa m_I_init 82 [(.iconst 0, nI 0), (.istore_n 1, 0)] = true ∧ lIa m_I_init 132 (.return_) 1 = true := by decide +kernel
  refine lA8 hdd (fun dd0 dd1 dd2 dd3 dd4 dd5 dd6 dd7 hdd => ?_)
  refine lA8 hdd (fun dd8 dd9 dd10 dd11 dd12 dd13 dd14 dd15 hdd => ?_)
  refine lA8 hdd (fun dd16 dd17 dd18 dd19 dd20 dd21 dd22 dd23 hdd => ?_)
  refine lA8 hdd (fun dd24 dd25 dd26 dd27 dd28 dd29 dd30 dd31 hdd => ?_)
  obtain ⟨dd32, dd33⟩ := hdd
  refine gMet.of (by decide +kernel) (Nat.le_of_ble_eq_true rfl) [some (.ref a0), none] (fun ls h => zEn_ok (n := 2) h) ?_
  intro o Gf h
  unfold f_I_init at h
  refine Y.blk (pc' := 1) (L' := [some (.ref a0), none]) (st' := [.ref a0]) (sg := [(.aload_n 0, 0)]) (lSa_ok dd0) rfl ?_
  refine Y.objInit lk_I_3 in_OJ_init cw_OJ_init (by decide) rfl (Nat.le_of_ble_eq_true rfl) (lIa_ok dd1) ?_
  refine Y.blk (pc' := 5) (L' := [some (.ref a0), none]) (st' := [.ref a0]) (sg := [(.aload_n 0, 0)]) (lSa_ok dd2) rfl ?_
  refine Y.new nc_I_9 (by decide) bk_N (lIa_ok dd3) h (fun a1 G2 h => ?_)
  refine Y.blk (pc' := 11) (L' := [some (.ref a0), none]) (st' := [.int (nI 62), .ref a1, .ref a1, .ref a0]) (sg := [(.dup, 0), (.bipush 62, nI 62)]) (lSa_ok dd4) rfl ?_
  refine Y.callN (yC.I (b := a1) (As := [.int (nI 62)]) (st := [.ref a1, .ref a0]) hV.1 cb_N_init lk_I_11 in_N_init rfl rfl (lIa_ok dd5) rfl rfl (Nat.le_of_ble_eq_true rfl) (by decide)) (k_N_init hV G2 a1 (nI 62)) h (fun G4 _ h => ?_)
  refine Y.putF fl_I_14 rfl (by decide) rfl rfl (lIa_ok dd6) h (fun G5 _ _ h => ?_)
  refine Y.blk (pc' := 18) (L' := [some (.ref a0), none]) (st' := [.ref a0]) (sg := [(.aload_n 0, 0)]) (lSa_ok dd7) rfl ?_
  refine Y.new nc_I_9 (by decide) bk_N (lIa_ok dd8) h (fun a6 G7 h => ?_)
  refine Y.blk (pc' := 24) (L' := [some (.ref a0), none]) (st' := [.int (nI 6), .ref a6, .ref a6, .ref a0]) (sg := [(.dup, 0), (.bipush 6, nI 6)]) (lSa_ok dd9) rfl ?_
  refine Y.callN (yC.I (b := a6) (As := [.int (nI 6)]) (st := [.ref a6, .ref a0]) hV.1 cb_N_init lk_I_11 in_N_init rfl rfl (lIa_ok dd10) rfl rfl (Nat.le_of_ble_eq_true rfl) (by decide)) (k_N_init hV G7 a6 (nI 6)) h (fun G9 _ h => ?_)
  refine Y.putF fl_I_20 rfl (by decide) rfl rfl (lIa_ok dd11) h (fun G10 _ _ h => ?_)
  refine Y.blk (pc' := 31) (L' := [some (.ref a0), none]) (st' := [.ref a0]) (sg := [(.aload_n 0, 0)]) (lSa_ok dd12) rfl ?_
  refine Y.new nc_I_9 (by decide) bk_N (lIa_ok dd13) h (fun a11 G12 h => ?_)
  refine Y.blk (pc' := 37) (L' := [some (.ref a0), none]) (st' := [.int (nI 6), .ref a11, .ref a11, .ref a0]) (sg := [(.dup, 0), (.bipush 6, nI 6)]) (lSa_ok dd14) rfl ?_
  refine Y.callN (yC.I (b := a11) (As := [.int (nI 6)]) (st := [.ref a11, .ref a0]) hV.1 cb_N_init lk_I_11 in_N_init rfl rfl (lIa_ok dd15) rfl rfl (Nat.le_of_ble_eq_true rfl) (by decide)) (k_N_init hV G12 a11 (nI 6)) h (fun G14 _ h => ?_)
  refine Y.putF fl_I_23 rfl (by decide) rfl rfl (lIa_ok dd16) h (fun G15 _ _ h => ?_)
  refine Y.blk (pc' := 44) (L' := [some (.ref a0), none]) (st' := [.ref a0]) (sg := [(.aload_n 0, 0)]) (lSa_ok dd17) rfl ?_
  refine Y.new nc_I_9 (by decide) bk_N (lIa_ok dd18) h (fun a16 G17 h => ?_)
  refine Y.blk (pc' := 50) (L' := [some (.ref a0), none]) (st' := [.int (nI 6), .ref a16, .ref a16, .ref a0]) (sg := [(.dup, 0), (.bipush 6, nI 6)]) (lSa_ok dd19) rfl ?_
  refine Y.callN (yC.I (b := a16) (As := [.int (nI 6)]) (st := [.ref a16, .ref a0]) hV.1 cb_N_init lk_I_11 in_N_init rfl rfl (lIa_ok dd20) rfl rfl (Nat.le_of_ble_eq_true rfl) (by decide)) (k_N_init hV G17 a16 (nI 6)) h (fun G19 _ h => ?_)
  refine Y.putF fl_I_26 rfl (by decide) rfl rfl (lIa_ok dd21) h (fun G20 _ _ h => ?_)
  refine Y.blk (pc' := 57) (L' := [some (.ref a0), none]) (st' := [.ref a0]) (sg := [(.aload_n 0, 0)]) (lSa_ok dd22) rfl ?_
  refine Y.new nc_I_9 (by decide) bk_N (lIa_ok dd23) h (fun a21 G22 h => ?_)
  refine Y.blk (pc' := 63) (L' := [some (.ref a0), none]) (st' := [.int (nI 6), .ref a21, .ref a21, .ref a0]) (sg := [(.dup, 0), (.bipush 6, nI 6)]) (lSa_ok dd24) rfl ?_
  refine Y.callN (yC.I (b := a21) (As := [.int (nI 6)]) (st := [.ref a21, .ref a0]) hV.1 cb_N_init lk_I_11 in_N_init rfl rfl (lIa_ok dd25) rfl rfl (Nat.le_of_ble_eq_true rfl) (by decide)) (k_N_init hV G22 a21 (nI 6)) h (fun G24 _ h => ?_)
  refine Y.putF fl_I_29 rfl (by decide) rfl rfl (lIa_ok dd26) h (fun G25 _ _ h => ?_)
  refine Y.blk (pc' := 70) (L' := [some (.ref a0), none]) (st' := [.ref a0]) (sg := [(.aload_n 0, 0)]) (lSa_ok dd27) rfl ?_
  refine Y.new nc_I_9 (by decide) bk_N (lIa_ok dd28) h (fun a26 G27 h => ?_)
  refine Y.blk (pc' := 76) (L' := [some (.ref a0), none]) (st' := [.int (nI 31), .ref a26, .ref a26, .ref a0]) (sg := [(.dup, 0), (.bipush 31, nI 31)]) (lSa_ok dd29) rfl ?_
  refine Y.callN (yC.I (b := a26) (As := [.int (nI 31)]) (st := [.ref a26, .ref a0]) hV.1 cb_N_init lk_I_11 in_N_init rfl rfl (lIa_ok dd30) rfl rfl (Nat.le_of_ble_eq_true rfl) (by decide)) (k_N_init hV G27 a26 (nI 31)) h (fun G29 _ h => ?_)
  refine Y.putF fl_I_32 rfl (by decide) rfl rfl (lIa_ok dd31) h (fun G30 _ _ h => ?_)
  refine Y.blk (pc' := 84) (L' := [some (.ref a0), some (.int (nI 0))]) (st' := []) (sg := [(.iconst 0, nI 0), (.istore_n 1, 0)]) (lSa_ok dd32) rfl ?_
  refine k_I_init_L84 hV _ ?_  zFu G30 a0 (nI 0) h
  · intro G62 h
    exact Y.vret rfl (lIa_ok dd33) h

def f_X_init (G : gH) (a0 : Nat) : gR :=
  gNewO G 1 7 [.null, .null, .null, .null, .null, .null, .int 0] fun a1 G2 => bV (f_I_init G2 a1) fun G4 => gPut G4 a0 3 0 (.ref a1) fun G5 => gNewO G5 0 5 [.null, .null, .null, .null, .int 0] fun a6 G7 => bV (f_U_init G7 a6) fun G9 => gPut G9 a0 3 1 (.ref a6) fun G10 => rV G10
theorem k_X_init {l : Launch} {D : va_G} {B : Nat} {O : State → Heap → Prop} (hV : zG l D B O) (G : gH) (a0 : Nat) : gMet (zVm l D B O) m_X_init 3 [.ref a0] G (f_X_init G a0) := by
  have hdd : lSa m_X_init 0 [(.aload_n 0, 0)] = true ∧ lIa m_X_init 1 (.invokespecial 1) 3 = true ∧ lSa m_X_init 4 [(.aload_n 0, 0)] = true ∧ lIa m_X_init 5 (.new 7) 3 = true ∧ lSa m_X_init 8 [(.dup, 0)] = true ∧ lIa m_X_init 9 (.invokespecial 9) 3 = true ∧ lIa m_X_init 12 (.putfield 10) 3 = true ∧ lSa m_X_init 15 [(.aload_n 0, 0)] = true ∧ lIa m_X_init 16 (.new 16) 3 = true ∧ lSa m_X_init 19 [(.dup, 0)] = true ∧ lIa m_X_init 20 (.invokespecial 18) 3 = true ∧ lIa m_X_init 23 (.putfield 19) 3 = true ∧ lIa m_X_init 26 (.return_) 1 = true := by decide +kernel
  refine lA8 hdd (fun dd0 dd1 dd2 dd3 dd4 dd5 dd6 dd7 hdd => ?_)
  obtain ⟨dd8, dd9, dd10, dd11, dd12⟩ := hdd
  refine gMet.of (by decide +kernel) (Nat.le_of_ble_eq_true rfl) [some (.ref a0)] (fun ls h => zEn_ok (n := 1) h) ?_
  intro o Gf h
  unfold f_X_init at h
  refine Y.blk (pc' := 1) (L' := [some (.ref a0)]) (st' := [.ref a0]) (sg := [(.aload_n 0, 0)]) (lSa_ok dd0) rfl ?_
  refine Y.objInit lk_X_1 in_OJ_init cw_OJ_init (by decide) rfl (Nat.le_of_ble_eq_true rfl) (lIa_ok dd1) ?_
  refine Y.blk (pc' := 5) (L' := [some (.ref a0)]) (st' := [.ref a0]) (sg := [(.aload_n 0, 0)]) (lSa_ok dd2) rfl ?_
  refine Y.new nc_X_7 (by decide) bk_I (lIa_ok dd3) h (fun a1 G2 h => ?_)
  refine Y.blk (pc' := 9) (L' := [some (.ref a0)]) (st' := [.ref a1, .ref a1, .ref a0]) (sg := [(.dup, 0)]) (lSa_ok dd4) rfl ?_
  refine Y.callN (yC.I (b := a1) (As := []) (st := [.ref a1, .ref a0]) hV.1 cb_I_init lk_X_9 in_I_init rfl rfl (lIa_ok dd5) rfl rfl (Nat.le_of_ble_eq_true rfl) (by decide)) (k_I_init hV G2 a1) h (fun G4 _ h => ?_)
  refine Y.putF fl_X_10 rfl (by decide) rfl rfl (lIa_ok dd6) h (fun G5 _ _ h => ?_)
  refine Y.blk (pc' := 16) (L' := [some (.ref a0)]) (st' := [.ref a0]) (sg := [(.aload_n 0, 0)]) (lSa_ok dd7) rfl ?_
  refine Y.new nc_X_16 (by decide) bk_U (lIa_ok dd8) h (fun a6 G7 h => ?_)
  refine Y.blk (pc' := 20) (L' := [some (.ref a0)]) (st' := [.ref a6, .ref a6, .ref a0]) (sg := [(.dup, 0)]) (lSa_ok dd9) rfl ?_
  refine Y.callN (yC.IN (b := a6) (As := []) (st := [.ref a6, .ref a0]) hV.1 cb_U_init lk_X_18 in_U_init rfl rfl (lIa_ok dd10) rfl rfl (Nat.le_of_ble_eq_true rfl) (by decide)) (k_U_init hV G7 a6) h (fun G9 _ h => ?_)
  refine Y.putF fl_X_19 rfl (by decide) rfl rfl (lIa_ok dd11) h (fun G10 _ _ h => ?_)
  exact Y.vret rfl (lIa_ok dd12) h

def f_N_read (G : gH) (a0 : Nat) (a1 : Int32) : gR :=
  if a1 < 0 then rI (-1) G
  else gFA G a0 2 0 fun v1 => gLen G v1 100 fun v2 => if v2 ≤ a1 then rI (-1) G
    else gFA G a0 2 0 fun v3 => gLd G v3 100 a1 fun v4 => rI v4 G
theorem k_N_read {l : Launch} {D : va_G} {B : Nat} {O : State → Heap → Prop} (hV : zG l D B O) (G : gH) (a0 : Nat) (a1 : Int32) : gMet (zVm l D B O) m_N_read 1 [.ref a0, .int a1] G (f_N_read G a0 a1) := by
  have hdd : lSa m_N_read 0 [(.iload_n 1, 0)] = true ∧ lIa m_N_read 1 (.ifCond .lt 21) 3 = true ∧ lSa m_N_read 22 [(.iconst (-1), -1)] = true ∧ lIa m_N_read 23 (.ireturn) 1 = true ∧ lSa m_N_read 4 [(.iload_n 1, 0), (.aload_n 0, 0)] = true ∧ lIa m_N_read 6 (.getfield 9) 3 = true ∧ lIa m_N_read 9 (.arraylength) 1 = true ∧ lIa m_N_read 10 (.if_icmp .ge 12) 3 = true ∧ lSa m_N_read 13 [(.aload_n 0, 0)] = true ∧ lIa m_N_read 14 (.getfield 9) 3 = true ∧ lSa m_N_read 17 [(.iload_n 1, 0)] = true ∧ lIa m_N_read 18 (.iaload) 1 = true ∧ lIa m_N_read 19 (.goto 4) 3 = true := by decide +kernel
  refine lA8 hdd (fun dd0 dd1 dd2 dd3 dd4 dd5 dd6 dd7 hdd => ?_)
  obtain ⟨dd8, dd9, dd10, dd11, dd12⟩ := hdd
  refine gMet.of (by decide +kernel) (Nat.le_of_ble_eq_true rfl) [some (.ref a0), some (.int a1)] (fun ls h => zEn_ok (n := 2) h) ?_
  intro o Gf h
  unfold f_N_read at h
  refine Y.blk (pc' := 1) (L' := [some (.ref a0), some (.int a1)]) (st' := [.int a1]) (sg := [(.iload_n 1, 0)]) (lSa_ok dd0) rfl ?_
  refine Y.if_lt (off := 21) (tgt := 22) (lIa_ok dd1) (by decide) h (fun c6 h => ?_) (fun c6 h => ?_)
  · refine Y.blk (pc' := 23) (L' := [some (.ref a0), some (.int a1)]) (st' := [.int (-1)]) (sg := [(.iconst (-1), -1)]) (lSa_ok dd2) rfl ?_
    exact Y.iret rfl (lIa_ok dd3) h
  · refine Y.blk (pc' := 6) (L' := [some (.ref a0), some (.int a1)]) (st' := [.ref a0, .int a1]) (sg := [(.iload_n 1, 0), (.aload_n 0, 0)]) (lSa_ok dd4) rfl ?_
    refine Y.getA fl_N_9 (lIa_ok dd5) h (fun v1 h => ?_)
    refine Y.alen (t0 := 0) (lIa_ok dd6) rfl h (fun v2 h => ?_)
    refine Y.ic_ge (off := 12) (tgt := 22) (lIa_ok dd7) (by decide) h (fun c5 h => ?_) (fun c5 h => ?_)
    · refine Y.blk (pc' := 23) (L' := [some (.ref a0), some (.int a1)]) (st' := [.int (-1)]) (sg := [(.iconst (-1), -1)]) (lSa_ok dd2) rfl ?_
      exact Y.iret rfl (lIa_ok dd3) h
    · refine Y.blk (pc' := 14) (L' := [some (.ref a0), some (.int a1)]) (st' := [.ref a0]) (sg := [(.aload_n 0, 0)]) (lSa_ok dd8) rfl ?_
      refine Y.getA fl_N_9 (lIa_ok dd9) h (fun v3 h => ?_)
      refine Y.blk (pc' := 18) (L' := [some (.ref a0), some (.int a1)]) (st' := [.int a1, .ref v3]) (sg := [(.iload_n 1, 0)]) (lSa_ok dd10) rfl ?_
      refine Y.iald (t0 := 0) (lIa_ok dd11) rfl h (fun v4 h => ?_)
      refine Y.goto (off := 4) (tgt := 23) (lIa_ok dd12) (by decide) ?_
      exact Y.iret rfl (lIa_ok dd3) h

def f_U_isStale (G : gH) (a0 : Nat) (a1 : Int32) : gR :=
  gFA G a0 0 0 fun v1 => gOb G v1 2 fun o3 => bI (f_N_read G v1 a1) fun v6 G5 => if v6 = (nI 2) then rZ (nI 1) G5
  else rZ (nI 0) G5
theorem k_U_isStale {l : Launch} {D : va_G} {B : Nat} {O : State → Heap → Prop} (hV : zG l D B O) (G : gH) (a0 : Nat) (a1 : Int32) : gMet (zVm l D B O) m_U_isStale 2 [.ref a0, .int a1] G (f_U_isStale G a0 a1) := by
  have hdd : lSa m_U_isStale 0 [(.aload_n 0, 0)] = true ∧ lIa m_U_isStale 1 (.getfield 14) 3 = true ∧ lSa m_U_isStale 4 [(.iload_n 1, 0)] = true ∧ lIa m_U_isStale 5 (.invokevirtual 33) 3 = true ∧ lSa m_U_isStale 8 [(.iconst 2, nI 2)] = true ∧ lIa m_U_isStale 9 (.if_icmp .ne 7) 3 = true ∧ lSa m_U_isStale 12 [(.iconst 1, nI 1)] = true ∧ lIa m_U_isStale 13 (.goto 4) 3 = true ∧ lIa m_U_isStale 17 (.ireturn) 1 = true ∧ lSa m_U_isStale 16 [(.iconst 0, nI 0)] = true := by decide +kernel
  refine lA8 hdd (fun dd0 dd1 dd2 dd3 dd4 dd5 dd6 dd7 hdd => ?_)
  obtain ⟨dd8, dd9⟩ := hdd
  refine gMet.of (by decide +kernel) (Nat.le_of_ble_eq_true rfl) [some (.ref a0), some (.int a1)] (fun ls h => zEn_ok (n := 2) h) ?_
  intro o Gf h
  unfold f_U_isStale at h
  refine Y.blk (pc' := 1) (L' := [some (.ref a0), some (.int a1)]) (st' := [.ref a0]) (sg := [(.aload_n 0, 0)]) (lSa_ok dd0) rfl ?_
  refine Y.getA fl_U_14 (lIa_ok dd1) h (fun v1 h => ?_)
  refine Y.blk (pc' := 5) (L' := [some (.ref a0), some (.int a1)]) (st' := [.int a1, .ref v1]) (sg := [(.iload_n 1, 0)]) (lSa_ok dd2) rfl ?_
  obtain ⟨_, o3, e2, m4, h⟩ := gOb_inv h
  refine Y.callI (yC.Vi (b := v1) (As := [.int a1]) (st := []) (r := ("Partlister$Numbers", T_N, 1)) hV.1 cb_N_read lk_U_33 in_N_read rfl se_N_read (lIa_ok dd3) rfl rfl (Nat.le_of_ble_eq_true rfl) (by decide) e2 m4) (k_N_read hV G v1 a1) h (fun v6 G5 _ h => ?_)
  refine Y.blk (pc' := 9) (L' := [some (.ref a0), some (.int a1)]) (st' := [.int (nI 2), .int v6]) (sg := [(.iconst 2, nI 2)]) (lSa_ok dd4) rfl ?_
  refine Y.ic_ne (off := 7) (tgt := 16) (lIa_ok dd5) (by decide) h (fun c7 h => ?_) (fun c7 h => ?_)
  · refine Y.blk (pc' := 13) (L' := [some (.ref a0), some (.int a1)]) (st' := [.int (nI 1)]) (sg := [(.iconst 1, nI 1)]) (lSa_ok dd6) rfl ?_
    refine Y.goto (off := 4) (tgt := 17) (lIa_ok dd7) (by decide) ?_
    exact Y.zret rfl (lIa_ok dd8) h
  · refine Y.blk (pc' := 17) (L' := [some (.ref a0), some (.int a1)]) (st' := [.int (nI 0)]) (sg := [(.iconst 0, nI 0)]) (lSa_ok dd9) rfl ?_
    exact Y.zret rfl (lIa_ok dd8) h

def f_U_isThere (G : gH) (a0 : Nat) (a1 : Int32) : gR :=
  gOb G a0 0 fun o2 => bI (f_U_isStale G a0 a1) fun v5 G4 => if v5 = 0 then (gFA G4 a0 0 0 fun v6 => gOb G4 v6 2 fun o8 => bI (f_N_read G4 v6 a1) fun v11 G10 => if v11 = (nI 1) then rZ (nI 1) G10
    else rZ (nI 0) G10)
  else rZ (nI 1) G4
theorem k_U_isThere {l : Launch} {D : va_G} {B : Nat} {O : State → Heap → Prop} (hV : zG l D B O) (G : gH) (a0 : Nat) (a1 : Int32) : gMet (zVm l D B O) m_U_isThere 3 [.ref a0, .int a1] G (f_U_isThere G a0 a1) := by
  have hdd : lSa m_U_isThere 0 [(.aload_n 0, 0), (.iload_n 1, 0)] = true ∧ lIa m_U_isThere 2 (.invokevirtual 29) 3 = true ∧ lIa m_U_isThere 5 (.ifCond .ne 15) 3 = true ∧ lSa m_U_isThere 8 [(.aload_n 0, 0)] = true ∧ lIa m_U_isThere 9 (.getfield 14) 3 = true ∧ lSa m_U_isThere 12 [(.iload_n 1, 0)] = true ∧ lIa m_U_isThere 13 (.invokevirtual 33) 3 = true ∧ lSa m_U_isThere 16 [(.iconst 1, nI 1)] = true ∧ lIa m_U_isThere 17 (.if_icmp .ne 7) 3 = true ∧ lSa m_U_isThere 20 [(.iconst 1, nI 1)] = true ∧ lIa m_U_isThere 21 (.goto 4) 3 = true ∧ lIa m_U_isThere 25 (.ireturn) 1 = true ∧ lSa m_U_isThere 24 [(.iconst 0, nI 0)] = true := by decide +kernel
  refine lA8 hdd (fun dd0 dd1 dd2 dd3 dd4 dd5 dd6 dd7 hdd => ?_)
  obtain ⟨dd8, dd9, dd10, dd11, dd12⟩ := hdd
  refine gMet.of (by decide +kernel) (Nat.le_of_ble_eq_true rfl) [some (.ref a0), some (.int a1)] (fun ls h => zEn_ok (n := 2) h) ?_
  intro o Gf h
  unfold f_U_isThere at h
  refine Y.blk (pc' := 2) (L' := [some (.ref a0), some (.int a1)]) (st' := [.int a1, .ref a0]) (sg := [(.aload_n 0, 0), (.iload_n 1, 0)]) (lSa_ok dd0) rfl ?_
  obtain ⟨_, o2, e1, m3, h⟩ := gOb_inv h
  refine Y.callI (yC.Vi (b := a0) (As := [.int a1]) (st := []) (r := ("Partlister$Cursors", T_U, 5)) hV.1 cb_U_isStale lk_U_29 in_U_isStale rfl se_U_isStale (lIa_ok dd1) rfl rfl (Nat.le_of_ble_eq_true rfl) (by decide) e1 m3) (k_U_isStale hV G a0 a1) h (fun v5 G4 _ h => ?_)
  refine Y.if_ne (off := 15) (tgt := 20) (lIa_ok dd2) (by decide) h (fun c13 h => ?_) (fun c13 h => ?_)
  · refine Y.blk (pc' := 9) (L' := [some (.ref a0), some (.int a1)]) (st' := [.ref a0]) (sg := [(.aload_n 0, 0)]) (lSa_ok dd3) rfl ?_
    refine Y.getA fl_U_14 (lIa_ok dd4) h (fun v6 h => ?_)
    refine Y.blk (pc' := 13) (L' := [some (.ref a0), some (.int a1)]) (st' := [.int a1, .ref v6]) (sg := [(.iload_n 1, 0)]) (lSa_ok dd5) rfl ?_
    obtain ⟨_, o8, e7, m9, h⟩ := gOb_inv h
    refine Y.callI (yC.Vi (b := v6) (As := [.int a1]) (st := []) (r := ("Partlister$Numbers", T_N, 1)) hV.1 cb_N_read lk_U_33 in_N_read rfl se_N_read (lIa_ok dd6) rfl rfl (Nat.le_of_ble_eq_true rfl) (by decide) e7 m9) (k_N_read hV G4 v6 a1) h (fun v11 G10 _ h => ?_)
    refine Y.blk (pc' := 17) (L' := [some (.ref a0), some (.int a1)]) (st' := [.int (nI 1), .int v11]) (sg := [(.iconst 1, nI 1)]) (lSa_ok dd7) rfl ?_
    refine Y.ic_ne (off := 7) (tgt := 24) (lIa_ok dd8) (by decide) h (fun c12 h => ?_) (fun c12 h => ?_)
    · refine Y.blk (pc' := 21) (L' := [some (.ref a0), some (.int a1)]) (st' := [.int (nI 1)]) (sg := [(.iconst 1, nI 1)]) (lSa_ok dd9) rfl ?_
      refine Y.goto (off := 4) (tgt := 25) (lIa_ok dd10) (by decide) ?_
      exact Y.zret rfl (lIa_ok dd11) h
    · refine Y.blk (pc' := 25) (L' := [some (.ref a0), some (.int a1)]) (st' := [.int (nI 0)]) (sg := [(.iconst 0, nI 0)]) (lSa_ok dd12) rfl ?_
      exact Y.zret rfl (lIa_ok dd11) h
  · refine Y.blk (pc' := 21) (L' := [some (.ref a0), some (.int a1)]) (st' := [.int (nI 1)]) (sg := [(.iconst 1, nI 1)]) (lSa_ok dd9) rfl ?_
    refine Y.goto (off := 4) (tgt := 25) (lIa_ok dd10) (by decide) ?_
    exact Y.zret rfl (lIa_ok dd11) h

def f_U_listOf (G : gH) (a0 : Nat) (a1 : Int32) : gR :=
  gFA G a0 0 1 fun v1 => gOb G v1 2 fun o3 => bI (f_N_read G v1 a1) fun v6 G5 => rI v6 G5
theorem k_U_listOf {l : Launch} {D : va_G} {B : Nat} {O : State → Heap → Prop} (hV : zG l D B O) (G : gH) (a0 : Nat) (a1 : Int32) : gMet (zVm l D B O) m_U_listOf 2 [.ref a0, .int a1] G (f_U_listOf G a0 a1) := by
  have hdd : lSa m_U_listOf 0 [(.aload_n 0, 0)] = true ∧ lIa m_U_listOf 1 (.getfield 20) 3 = true ∧ lSa m_U_listOf 4 [(.iload_n 1, 0)] = true ∧ lIa m_U_listOf 5 (.invokevirtual 33) 3 = true ∧ lIa m_U_listOf 8 (.ireturn) 1 = true := by decide +kernel
  obtain ⟨dd0, dd1, dd2, dd3, dd4⟩ := hdd
  refine gMet.of (by decide +kernel) (Nat.le_of_ble_eq_true rfl) [some (.ref a0), some (.int a1)] (fun ls h => zEn_ok (n := 2) h) ?_
  intro o Gf h
  unfold f_U_listOf at h
  refine Y.blk (pc' := 1) (L' := [some (.ref a0), some (.int a1)]) (st' := [.ref a0]) (sg := [(.aload_n 0, 0)]) (lSa_ok dd0) rfl ?_
  refine Y.getA fl_U_20 (lIa_ok dd1) h (fun v1 h => ?_)
  refine Y.blk (pc' := 5) (L' := [some (.ref a0), some (.int a1)]) (st' := [.int a1, .ref v1]) (sg := [(.iload_n 1, 0)]) (lSa_ok dd2) rfl ?_
  obtain ⟨_, o3, e2, m4, h⟩ := gOb_inv h
  refine Y.callI (yC.Vi (b := v1) (As := [.int a1]) (st := []) (r := ("Partlister$Numbers", T_N, 1)) hV.1 cb_N_read lk_U_33 in_N_read rfl se_N_read (lIa_ok dd3) rfl rfl (Nat.le_of_ble_eq_true rfl) (by decide) e2 m4) (k_N_read hV G v1 a1) h (fun v6 G5 _ h => ?_)
  exact Y.iret rfl (lIa_ok dd4) h

def f_I_rowOf (G : gH) (a0 : Nat) (a1 : Int32) : gR :=
  gFA G a0 1 3 fun v1 => gOb G v1 2 fun o3 => bI (f_N_read G v1 a1) fun v6 G5 => rI v6 G5
theorem k_I_rowOf {l : Launch} {D : va_G} {B : Nat} {O : State → Heap → Prop} (hV : zG l D B O) (G : gH) (a0 : Nat) (a1 : Int32) : gMet (zVm l D B O) m_I_rowOf 2 [.ref a0, .int a1] G (f_I_rowOf G a0 a1) := by
  have hdd : lSa m_I_rowOf 0 [(.aload_n 0, 0)] = true ∧ lIa m_I_rowOf 1 (.getfield 26) 3 = true ∧ lSa m_I_rowOf 4 [(.iload_n 1, 0)] = true ∧ lIa m_I_rowOf 5 (.invokevirtual 39) 3 = true ∧ lIa m_I_rowOf 8 (.ireturn) 1 = true := by decide +kernel
  obtain ⟨dd0, dd1, dd2, dd3, dd4⟩ := hdd
  refine gMet.of (by decide +kernel) (Nat.le_of_ble_eq_true rfl) [some (.ref a0), some (.int a1)] (fun ls h => zEn_ok (n := 2) h) ?_
  intro o Gf h
  unfold f_I_rowOf at h
  refine Y.blk (pc' := 1) (L' := [some (.ref a0), some (.int a1)]) (st' := [.ref a0]) (sg := [(.aload_n 0, 0)]) (lSa_ok dd0) rfl ?_
  refine Y.getA fl_I_26 (lIa_ok dd1) h (fun v1 h => ?_)
  refine Y.blk (pc' := 5) (L' := [some (.ref a0), some (.int a1)]) (st' := [.int a1, .ref v1]) (sg := [(.iload_n 1, 0)]) (lSa_ok dd2) rfl ?_
  obtain ⟨_, o3, e2, m4, h⟩ := gOb_inv h
  refine Y.callI (yC.Vi (b := v1) (As := [.int a1]) (st := []) (r := ("Partlister$Numbers", T_N, 1)) hV.1 cb_N_read lk_I_39 in_N_read rfl se_N_read (lIa_ok dd3) rfl rfl (Nat.le_of_ble_eq_true rfl) (by decide) e2 m4) (k_N_read hV G v1 a1) h (fun v6 G5 _ h => ?_)
  exact Y.iret rfl (lIa_ok dd4) h

def f_X_isOnRowOf (G : gH) (a0 : Nat) (a1 : Int32) (a2 : Int32) : gR :=
  gFA G a0 3 1 fun v1 => gOb G v1 0 fun o3 => bI (f_U_isThere G v1 a1) fun v6 G5 => if v6 = 0 then rZ (nI 0) G5
  else gFA G5 a0 3 0 fun v7 => gFA G5 a0 3 1 fun v8 => gOb G5 v8 0 fun o10 => bI (f_U_listOf G5 v8 a1) fun v13 G12 => gOb G12 v7 1 fun o15 => bI (f_I_rowOf G12 v7 v13) fun v18 G17 => gFA G17 a0 3 0 fun v19 => gOb G17 v19 1 fun o21 => bI (f_I_rowOf G17 v19 a2) fun v24 G23 => if v18 = v24 then rZ (nI 1) G23
    else rZ (nI 0) G23
theorem k_X_isOnRowOf {l : Launch} {D : va_G} {B : Nat} {O : State → Heap → Prop} (hV : zG l D B O) (G : gH) (a0 : Nat) (a1 : Int32) (a2 : Int32) : gMet (zVm l D B O) m_X_isOnRowOf 4 [.ref a0, .int a1, .int a2] G (f_X_isOnRowOf G a0 a1 a2) := by
  have hdd : lSa m_X_isOnRowOf 0 [(.aload_n 0, 0)] = true ∧ lIa m_X_isOnRowOf 1 (.getfield 19) 3 = true ∧ lSa m_X_isOnRowOf 4 [(.iload_n 1, 0)] = true ∧ lIa m_X_isOnRowOf 5 (.invokevirtual 148) 3 = true ∧ lIa m_X_isOnRowOf 8 (.ifCond .eq 33) 3 = true ∧ lSa m_X_isOnRowOf 41 [(.iconst 0, nI 0)] = true ∧ lIa m_X_isOnRowOf 42 (.ireturn) 1 = true ∧ lSa m_X_isOnRowOf 11 [(.aload_n 0, 0)] = true ∧ lIa m_X_isOnRowOf 12 (.getfield 10) 3 = true ∧ lSa m_X_isOnRowOf 15 [(.aload_n 0, 0)] = true ∧ lIa m_X_isOnRowOf 16 (.getfield 19) 3 = true ∧ lSa m_X_isOnRowOf 19 [(.iload_n 1, 0)] = true ∧ lIa m_X_isOnRowOf 20 (.invokevirtual 152) 3 = true ∧ lIa m_X_isOnRowOf 23 (.invokevirtual 299) 3 = true ∧ lSa m_X_isOnRowOf 26 [(.aload_n 0, 0)] = true ∧ lIa m_X_isOnRowOf 27 (.getfield 10) 3 = true ∧ lSa m_X_isOnRowOf 30 [(.iload_n 2, 0)] = true ∧ lIa m_X_isOnRowOf 31 (.invokevirtual 299) 3 = true ∧ lIa m_X_isOnRowOf 34 (.if_icmp .ne 7) 3 = true ∧ lSa m_X_isOnRowOf 37 [(.iconst 1, nI 1)] = true ∧ lIa m_X_isOnRowOf 38 (.goto 4) 3 = true := by decide +kernel
  refine lA8 hdd (fun dd0 dd1 dd2 dd3 dd4 dd5 dd6 dd7 hdd => ?_)
  refine lA8 hdd (fun dd8 dd9 dd10 dd11 dd12 dd13 dd14 dd15 hdd => ?_)
  obtain ⟨dd16, dd17, dd18, dd19, dd20⟩ := hdd
  refine gMet.of (by decide +kernel) (Nat.le_of_ble_eq_true rfl) [some (.ref a0), some (.int a1), some (.int a2)] (fun ls h => zEn_ok (n := 3) h) ?_
  intro o Gf h
  unfold f_X_isOnRowOf at h
  refine Y.blk (pc' := 1) (L' := [some (.ref a0), some (.int a1), some (.int a2)]) (st' := [.ref a0]) (sg := [(.aload_n 0, 0)]) (lSa_ok dd0) rfl ?_
  refine Y.getA fl_X_19 (lIa_ok dd1) h (fun v1 h => ?_)
  refine Y.blk (pc' := 5) (L' := [some (.ref a0), some (.int a1), some (.int a2)]) (st' := [.int a1, .ref v1]) (sg := [(.iload_n 1, 0)]) (lSa_ok dd2) rfl ?_
  obtain ⟨_, o3, e2, m4, h⟩ := gOb_inv h
  refine Y.callI (yC.Vi (b := v1) (As := [.int a1]) (st := []) (r := ("Partlister$Cursors", T_U, 5)) hV.1 cb_U_isThere lk_X_148 in_U_isThere rfl se_U_isThere (lIa_ok dd3) rfl rfl (Nat.le_of_ble_eq_true rfl) (by decide) e2 m4) (k_U_isThere hV G v1 a1) h (fun v6 G5 _ h => ?_)
  refine Y.if_eq (off := 33) (tgt := 41) (lIa_ok dd4) (by decide) h (fun c26 h => ?_) (fun c26 h => ?_)
  · refine Y.blk (pc' := 42) (L' := [some (.ref a0), some (.int a1), some (.int a2)]) (st' := [.int (nI 0)]) (sg := [(.iconst 0, nI 0)]) (lSa_ok dd5) rfl ?_
    exact Y.zret rfl (lIa_ok dd6) h
  · refine Y.blk (pc' := 12) (L' := [some (.ref a0), some (.int a1), some (.int a2)]) (st' := [.ref a0]) (sg := [(.aload_n 0, 0)]) (lSa_ok dd7) rfl ?_
    refine Y.getA fl_X_10 (lIa_ok dd8) h (fun v7 h => ?_)
    refine Y.blk (pc' := 16) (L' := [some (.ref a0), some (.int a1), some (.int a2)]) (st' := [.ref a0, .ref v7]) (sg := [(.aload_n 0, 0)]) (lSa_ok dd9) rfl ?_
    refine Y.getA fl_X_19 (lIa_ok dd10) h (fun v8 h => ?_)
    refine Y.blk (pc' := 20) (L' := [some (.ref a0), some (.int a1), some (.int a2)]) (st' := [.int a1, .ref v8, .ref v7]) (sg := [(.iload_n 1, 0)]) (lSa_ok dd11) rfl ?_
    obtain ⟨_, o10, e9, m11, h⟩ := gOb_inv h
    refine Y.callI (yC.Vi (b := v8) (As := [.int a1]) (st := [.ref v7]) (r := ("Partlister$Cursors", T_U, 5)) hV.1 cb_U_listOf lk_X_152 in_U_listOf rfl se_U_listOf (lIa_ok dd12) rfl rfl (Nat.le_of_ble_eq_true rfl) (by decide) e9 m11) (k_U_listOf hV G5 v8 a1) h (fun v13 G12 _ h => ?_)
    obtain ⟨_, o15, e14, m16, h⟩ := gOb_inv h
    refine Y.callI (yC.Vi (b := v7) (As := [.int v13]) (st := []) (r := ("Partlister$Lists", T_I, 7)) hV.1 cb_I_rowOf lk_X_299 in_I_rowOf rfl se_I_rowOf (lIa_ok dd13) rfl rfl (Nat.le_of_ble_eq_true rfl) (by decide) e14 m16) (k_I_rowOf hV G12 v7 v13) h (fun v18 G17 _ h => ?_)
    refine Y.blk (pc' := 27) (L' := [some (.ref a0), some (.int a1), some (.int a2)]) (st' := [.ref a0, .int v18]) (sg := [(.aload_n 0, 0)]) (lSa_ok dd14) rfl ?_
    refine Y.getA fl_X_10 (lIa_ok dd15) h (fun v19 h => ?_)
    refine Y.blk (pc' := 31) (L' := [some (.ref a0), some (.int a1), some (.int a2)]) (st' := [.int a2, .ref v19, .int v18]) (sg := [(.iload_n 2, 0)]) (lSa_ok dd16) rfl ?_
    obtain ⟨_, o21, e20, m22, h⟩ := gOb_inv h
    refine Y.callI (yC.Vi (b := v19) (As := [.int a2]) (st := [.int v18]) (r := ("Partlister$Lists", T_I, 7)) hV.1 cb_I_rowOf lk_X_299 in_I_rowOf rfl se_I_rowOf (lIa_ok dd17) rfl rfl (Nat.le_of_ble_eq_true rfl) (by decide) e20 m22) (k_I_rowOf hV G17 v19 a2) h (fun v24 G23 _ h => ?_)
    refine Y.ic_ne (off := 7) (tgt := 41) (lIa_ok dd18) (by decide) h (fun c25 h => ?_) (fun c25 h => ?_)
    · refine Y.blk (pc' := 38) (L' := [some (.ref a0), some (.int a1), some (.int a2)]) (st' := [.int (nI 1)]) (sg := [(.iconst 1, nI 1)]) (lSa_ok dd19) rfl ?_
      refine Y.goto (off := 4) (tgt := 42) (lIa_ok dd20) (by decide) ?_
      exact Y.zret rfl (lIa_ok dd6) h
    · refine Y.blk (pc' := 42) (L' := [some (.ref a0), some (.int a1), some (.int a2)]) (st' := [.int (nI 0)]) (sg := [(.iconst 0, nI 0)]) (lSa_ok dd5) rfl ?_
      exact Y.zret rfl (lIa_ok dd6) h

def f_U_finish (G : gH) (a0 : Nat) (a1 : Int32) : gR :=
  gFA G a0 0 0 fun v1 => gOb G v1 2 fun o3 => bV (f_N_write G v1 a1 (nI 0)) fun G5 => gFI G5 a0 0 4 fun v6 => gPut G5 a0 0 4 (.int (v6 + (nI 1))) fun G7 => rV G7
theorem k_U_finish {l : Launch} {D : va_G} {B : Nat} {O : State → Heap → Prop} (hV : zG l D B O) (G : gH) (a0 : Nat) (a1 : Int32) : gMet (zVm l D B O) m_U_finish 2 [.ref a0, .int a1] G (f_U_finish G a0 a1) := by
  have hdd : lSa m_U_finish 0 [(.aload_n 0, 0)] = true ∧ lIa m_U_finish 1 (.getfield 14) 3 = true ∧ lSa m_U_finish 4 [(.iload_n 1, 0), (.iconst 0, nI 0)] = true ∧ lIa m_U_finish 6 (.invokevirtual 40) 3 = true ∧ lSa m_U_finish 9 [(.aload_n 0, 0), (.dup, 0)] = true ∧ lIa m_U_finish 11 (.getfield 54) 3 = true ∧ lSa m_U_finish 14 [(.iconst 1, nI 1), (.iadd, 0)] = true ∧ lIa m_U_finish 16 (.putfield 54) 3 = true ∧ lIa m_U_finish 19 (.return_) 1 = true := by decide +kernel
  refine lA8 hdd (fun dd0 dd1 dd2 dd3 dd4 dd5 dd6 dd7 hdd => ?_)
  have dd8 := hdd
  refine gMet.of (by decide +kernel) (Nat.le_of_ble_eq_true rfl) [some (.ref a0), some (.int a1)] (fun ls h => zEn_ok (n := 2) h) ?_
  intro o Gf h
  unfold f_U_finish at h
  refine Y.blk (pc' := 1) (L' := [some (.ref a0), some (.int a1)]) (st' := [.ref a0]) (sg := [(.aload_n 0, 0)]) (lSa_ok dd0) rfl ?_
  refine Y.getA fl_U_14 (lIa_ok dd1) h (fun v1 h => ?_)
  refine Y.blk (pc' := 6) (L' := [some (.ref a0), some (.int a1)]) (st' := [.int (nI 0), .int a1, .ref v1]) (sg := [(.iload_n 1, 0), (.iconst 0, nI 0)]) (lSa_ok dd2) rfl ?_
  obtain ⟨_, o3, e2, m4, h⟩ := gOb_inv h
  refine Y.callN (yC.Vi (b := v1) (As := [.int a1, .int (nI 0)]) (st := []) (r := ("Partlister$Numbers", T_N, 1)) hV.1 cb_N_write lk_U_40 in_N_write rfl se_N_write (lIa_ok dd3) rfl rfl (Nat.le_of_ble_eq_true rfl) (by decide) e2 m4) (k_N_write hV G v1 a1 (nI 0)) h (fun G5 _ h => ?_)
  refine Y.blk (pc' := 11) (L' := [some (.ref a0), some (.int a1)]) (st' := [.ref a0, .ref a0]) (sg := [(.aload_n 0, 0), (.dup, 0)]) (lSa_ok dd4) rfl ?_
  refine Y.getI fl_U_54 (lIa_ok dd5) h (fun v6 h => ?_)
  refine Y.blk (pc' := 16) (L' := [some (.ref a0), some (.int a1)]) (st' := [.int (v6 + (nI 1)), .ref a0]) (sg := [(.iconst 1, nI 1), (.iadd, 0)]) (lSa_ok dd6) rfl ?_
  refine Y.putf fl_U_54 (by decide) rfl rfl (lIa_ok dd7) h (fun G7 _ _ h => ?_)
  exact Y.vret rfl (lIa_ok dd8) h

def f_U_unsettle (G : gH) (a0 : Nat) (a1 : Int32) : gR :=
  gOb G a0 0 fun o2 => bI (f_U_listOf G a0 a1) fun v5 G4 => if (nI 2) ≤ v5 then gOb G4 a0 0 fun o7 => bV (f_U_finish G4 a0 a1) fun G9 => rV G9
  else gFA G4 a0 0 0 fun v10 => gOb G4 v10 2 fun o12 => bV (f_N_write G4 v10 a1 (nI 2)) fun G14 => rV G14
theorem k_U_unsettle {l : Launch} {D : va_G} {B : Nat} {O : State → Heap → Prop} (hV : zG l D B O) (G : gH) (a0 : Nat) (a1 : Int32) : gMet (zVm l D B O) m_U_unsettle 3 [.ref a0, .int a1] G (f_U_unsettle G a0 a1) := by
  have hdd : lSa m_U_unsettle 0 [(.aload_n 0, 0), (.iload_n 1, 0)] = true ∧ lIa m_U_unsettle 2 (.invokevirtual 48) 3 = true ∧ lSa m_U_unsettle 5 [(.iconst 2, nI 2)] = true ∧ lIa m_U_unsettle 6 (.if_icmp .ge 15) 3 = true ∧ lSa m_U_unsettle 21 [(.aload_n 0, 0), (.iload_n 1, 0)] = true ∧ lIa m_U_unsettle 23 (.invokevirtual 51) 3 = true ∧ lIa m_U_unsettle 26 (.return_) 1 = true ∧ lSa m_U_unsettle 9 [(.aload_n 0, 0)] = true ∧ lIa m_U_unsettle 10 (.getfield 14) 3 = true ∧ lSa m_U_unsettle 13 [(.iload_n 1, 0), (.iconst 2, nI 2)] = true ∧ lIa m_U_unsettle 15 (.invokevirtual 40) 3 = true ∧ lIa m_U_unsettle 18 (.goto 8) 3 = true := by decide +kernel
  refine lA8 hdd (fun dd0 dd1 dd2 dd3 dd4 dd5 dd6 dd7 hdd => ?_)
  obtain ⟨dd8, dd9, dd10, dd11⟩ := hdd
  refine gMet.of (by decide +kernel) (Nat.le_of_ble_eq_true rfl) [some (.ref a0), some (.int a1)] (fun ls h => zEn_ok (n := 2) h) ?_
  intro o Gf h
  unfold f_U_unsettle at h
  refine Y.blk (pc' := 2) (L' := [some (.ref a0), some (.int a1)]) (st' := [.int a1, .ref a0]) (sg := [(.aload_n 0, 0), (.iload_n 1, 0)]) (lSa_ok dd0) rfl ?_
  obtain ⟨_, o2, e1, m3, h⟩ := gOb_inv h
  refine Y.callI (yC.Vi (b := a0) (As := [.int a1]) (st := []) (r := ("Partlister$Cursors", T_U, 5)) hV.1 cb_U_listOf lk_U_48 in_U_listOf rfl se_U_listOf (lIa_ok dd1) rfl rfl (Nat.le_of_ble_eq_true rfl) (by decide) e1 m3) (k_U_listOf hV G a0 a1) h (fun v5 G4 _ h => ?_)
  refine Y.blk (pc' := 6) (L' := [some (.ref a0), some (.int a1)]) (st' := [.int (nI 2), .int v5]) (sg := [(.iconst 2, nI 2)]) (lSa_ok dd2) rfl ?_
  refine Y.ic_ge (off := 15) (tgt := 21) (lIa_ok dd3) (by decide) h (fun c15 h => ?_) (fun c15 h => ?_)
  · refine Y.blk (pc' := 23) (L' := [some (.ref a0), some (.int a1)]) (st' := [.int a1, .ref a0]) (sg := [(.aload_n 0, 0), (.iload_n 1, 0)]) (lSa_ok dd4) rfl ?_
    obtain ⟨_, o7, e6, m8, h⟩ := gOb_inv h
    refine Y.callN (yC.Vi (b := a0) (As := [.int a1]) (st := []) (r := ("Partlister$Cursors", T_U, 5)) hV.1 cb_U_finish lk_U_51 in_U_finish rfl se_U_finish (lIa_ok dd5) rfl rfl (Nat.le_of_ble_eq_true rfl) (by decide) e6 m8) (k_U_finish hV G4 a0 a1) h (fun G9 _ h => ?_)
    exact Y.vret rfl (lIa_ok dd6) h
  · refine Y.blk (pc' := 10) (L' := [some (.ref a0), some (.int a1)]) (st' := [.ref a0]) (sg := [(.aload_n 0, 0)]) (lSa_ok dd7) rfl ?_
    refine Y.getA fl_U_14 (lIa_ok dd8) h (fun v10 h => ?_)
    refine Y.blk (pc' := 15) (L' := [some (.ref a0), some (.int a1)]) (st' := [.int (nI 2), .int a1, .ref v10]) (sg := [(.iload_n 1, 0), (.iconst 2, nI 2)]) (lSa_ok dd9) rfl ?_
    obtain ⟨_, o12, e11, m13, h⟩ := gOb_inv h
    refine Y.callN (yC.Vi (b := v10) (As := [.int a1, .int (nI 2)]) (st := []) (r := ("Partlister$Numbers", T_N, 1)) hV.1 cb_N_write lk_U_40 in_N_write rfl se_N_write (lIa_ok dd10) rfl rfl (Nat.le_of_ble_eq_true rfl) (by decide) e11 m13) (k_N_write hV G4 v10 a1 (nI 2)) h (fun G14 _ h => ?_)
    refine Y.goto (off := 8) (tgt := 26) (lIa_ok dd11) (by decide) ?_
    exact Y.vret rfl (lIa_ok dd6) h

def f_I_finish (G : gH) (a0 : Nat) (a1 : Int32) : gR :=
  gFA G a0 1 1 fun v1 => gOb G v1 2 fun o3 => bV (f_N_write G v1 a1 (-1)) fun G5 => gFI G5 a0 1 6 fun v6 => gPut G5 a0 1 6 (.int (v6 + (nI 1))) fun G7 => rV G7
theorem k_I_finish {l : Launch} {D : va_G} {B : Nat} {O : State → Heap → Prop} (hV : zG l D B O) (G : gH) (a0 : Nat) (a1 : Int32) : gMet (zVm l D B O) m_I_finish 2 [.ref a0, .int a1] G (f_I_finish G a0 a1) := by
  have hdd : lSa m_I_finish 0 [(.aload_n 0, 0)] = true ∧ lIa m_I_finish 1 (.getfield 20) 3 = true ∧ lSa m_I_finish 4 [(.iload_n 1, 0), (.iconst (-1), -1)] = true ∧ lIa m_I_finish 6 (.invokevirtual 35) 3 = true ∧ lSa m_I_finish 9 [(.aload_n 0, 0), (.dup, 0)] = true ∧ lIa m_I_finish 11 (.getfield 97) 3 = true ∧ lSa m_I_finish 14 [(.iconst 1, nI 1), (.iadd, 0)] = true ∧ lIa m_I_finish 16 (.putfield 97) 3 = true ∧ lIa m_I_finish 19 (.return_) 1 = true := by decide +kernel
  refine lA8 hdd (fun dd0 dd1 dd2 dd3 dd4 dd5 dd6 dd7 hdd => ?_)
  have dd8 := hdd
  refine gMet.of (by decide +kernel) (Nat.le_of_ble_eq_true rfl) [some (.ref a0), some (.int a1)] (fun ls h => zEn_ok (n := 2) h) ?_
  intro o Gf h
  unfold f_I_finish at h
  refine Y.blk (pc' := 1) (L' := [some (.ref a0), some (.int a1)]) (st' := [.ref a0]) (sg := [(.aload_n 0, 0)]) (lSa_ok dd0) rfl ?_
  refine Y.getA fl_I_20 (lIa_ok dd1) h (fun v1 h => ?_)
  refine Y.blk (pc' := 6) (L' := [some (.ref a0), some (.int a1)]) (st' := [.int (-1), .int a1, .ref v1]) (sg := [(.iload_n 1, 0), (.iconst (-1), -1)]) (lSa_ok dd2) rfl ?_
  obtain ⟨_, o3, e2, m4, h⟩ := gOb_inv h
  refine Y.callN (yC.Vi (b := v1) (As := [.int a1, .int (-1)]) (st := []) (r := ("Partlister$Numbers", T_N, 1)) hV.1 cb_N_write lk_I_35 in_N_write rfl se_N_write (lIa_ok dd3) rfl rfl (Nat.le_of_ble_eq_true rfl) (by decide) e2 m4) (k_N_write hV G v1 a1 (-1)) h (fun G5 _ h => ?_)
  refine Y.blk (pc' := 11) (L' := [some (.ref a0), some (.int a1)]) (st' := [.ref a0, .ref a0]) (sg := [(.aload_n 0, 0), (.dup, 0)]) (lSa_ok dd4) rfl ?_
  refine Y.getI fl_I_97 (lIa_ok dd5) h (fun v6 h => ?_)
  refine Y.blk (pc' := 16) (L' := [some (.ref a0), some (.int a1)]) (st' := [.int (v6 + (nI 1)), .ref a0]) (sg := [(.iconst 1, nI 1), (.iadd, 0)]) (lSa_ok dd6) rfl ?_
  refine Y.putf fl_I_97 (by decide) rfl rfl (lIa_ok dd7) h (fun G7 _ _ h => ?_)
  exact Y.vret rfl (lIa_ok dd8) h

def f_I_isThere (G : gH) (a0 : Nat) (a1 : Int32) : gR :=
  gFA G a0 1 1 fun v1 => gOb G v1 2 fun o3 => bI (f_N_read G v1 a1) fun v6 G5 => if v6 = (-1) then rZ (nI 0) G5
  else rZ (nI 1) G5
theorem k_I_isThere {l : Launch} {D : va_G} {B : Nat} {O : State → Heap → Prop} (hV : zG l D B O) (G : gH) (a0 : Nat) (a1 : Int32) : gMet (zVm l D B O) m_I_isThere 2 [.ref a0, .int a1] G (f_I_isThere G a0 a1) := by
  have hdd : lSa m_I_isThere 0 [(.aload_n 0, 0)] = true ∧ lIa m_I_isThere 1 (.getfield 20) 3 = true ∧ lSa m_I_isThere 4 [(.iload_n 1, 0)] = true ∧ lIa m_I_isThere 5 (.invokevirtual 39) 3 = true ∧ lSa m_I_isThere 8 [(.iconst (-1), -1)] = true ∧ lIa m_I_isThere 9 (.if_icmp .eq 7) 3 = true ∧ lSa m_I_isThere 16 [(.iconst 0, nI 0)] = true ∧ lIa m_I_isThere 17 (.ireturn) 1 = true ∧ lSa m_I_isThere 12 [(.iconst 1, nI 1)] = true ∧ lIa m_I_isThere 13 (.goto 4) 3 = true := by decide +kernel
  refine lA8 hdd (fun dd0 dd1 dd2 dd3 dd4 dd5 dd6 dd7 hdd => ?_)
  obtain ⟨dd8, dd9⟩ := hdd
  refine gMet.of (by decide +kernel) (Nat.le_of_ble_eq_true rfl) [some (.ref a0), some (.int a1)] (fun ls h => zEn_ok (n := 2) h) ?_
  intro o Gf h
  unfold f_I_isThere at h
  refine Y.blk (pc' := 1) (L' := [some (.ref a0), some (.int a1)]) (st' := [.ref a0]) (sg := [(.aload_n 0, 0)]) (lSa_ok dd0) rfl ?_
  refine Y.getA fl_I_20 (lIa_ok dd1) h (fun v1 h => ?_)
  refine Y.blk (pc' := 5) (L' := [some (.ref a0), some (.int a1)]) (st' := [.int a1, .ref v1]) (sg := [(.iload_n 1, 0)]) (lSa_ok dd2) rfl ?_
  obtain ⟨_, o3, e2, m4, h⟩ := gOb_inv h
  refine Y.callI (yC.Vi (b := v1) (As := [.int a1]) (st := []) (r := ("Partlister$Numbers", T_N, 1)) hV.1 cb_N_read lk_I_39 in_N_read rfl se_N_read (lIa_ok dd3) rfl rfl (Nat.le_of_ble_eq_true rfl) (by decide) e2 m4) (k_N_read hV G v1 a1) h (fun v6 G5 _ h => ?_)
  refine Y.blk (pc' := 9) (L' := [some (.ref a0), some (.int a1)]) (st' := [.int (-1), .int v6]) (sg := [(.iconst (-1), -1)]) (lSa_ok dd4) rfl ?_
  refine Y.ic_eq (off := 7) (tgt := 16) (lIa_ok dd5) (by decide) h (fun c7 h => ?_) (fun c7 h => ?_)
  · refine Y.blk (pc' := 17) (L' := [some (.ref a0), some (.int a1)]) (st' := [.int (nI 0)]) (sg := [(.iconst 0, nI 0)]) (lSa_ok dd6) rfl ?_
    exact Y.zret rfl (lIa_ok dd7) h
  · refine Y.blk (pc' := 13) (L' := [some (.ref a0), some (.int a1)]) (st' := [.int (nI 1)]) (sg := [(.iconst 1, nI 1)]) (lSa_ok dd8) rfl ?_
    refine Y.goto (off := 4) (tgt := 17) (lIa_ok dd9) (by decide) ?_
    exact Y.zret rfl (lIa_ok dd7) h

def f_I_isWithin_L5 (K32 : gH → Int32 → Int32 → gR) : Nat → gH → Nat → Int32 → Int32 → Int32 → gR
  | 0, _, _, _, _, _ => none
  | n + 1, G, x0, x2, x3, x4 =>
    if (nI 6) ≤ x4 then K32 G x2 x3
    else if x3 = x2 then K32 G x2 x3
      else gFA G x0 1 2 fun v1 => gOb G v1 2 fun o3 => bI (f_N_read G v1 x3) fun v6 G5 => f_I_isWithin_L5 K32 n G5 x0 x2 v6 (x4 + (nI 1))
def f_I_isWithin (G : gH) (a0 : Nat) (a1 : Int32) (a2 : Int32) : gR :=
  f_I_isWithin_L5 (fun G11 x9 x10 => if x10 = x9 then rZ (nI 1) G11
    else rZ (nI 0) G11) zFu G a0 a2 a1 (nI 0)
theorem k_I_isWithin_L5 {l : Launch} {D : va_G} {B : Nat} {O : State → Heap → Prop} (hV : zG l D B O) {o : gO} {Gf : gH} (K32 : gH → Int32 → Int32 → gR) (hK32 : ∀ (G : gH) (x2 : Int32) (x3 : Int32), K32 G x2 x3 = some (o, Gf) → Y (zVm l D B O) m_I_isWithin 2 o Gf 32 [none, none, some (.int x2), some (.int x3), none] [] G) : ∀ (n : Nat) (G : gH) (x0 : Nat) (x2 : Int32) (x3 : Int32) (x4 : Int32), f_I_isWithin_L5 K32 n G x0 x2 x3 x4 = some (o, Gf) → Y (zVm l D B O) m_I_isWithin 2 o Gf 5 [some (.ref x0), none, some (.int x2), some (.int x3), some (.int x4)] [] G := by
  have hdd : lSa m_I_isWithin 5 [(.iload 4, 0), (.bipush 6, nI 6)] = true ∧ lIa m_I_isWithin 9 (.if_icmp .ge 23) 3 = true ∧ lSa m_I_isWithin 12 [(.iload_n 3, 0), (.iload_n 2, 0)] = true ∧ lIa m_I_isWithin 14 (.if_icmp .eq 18) 3 = true ∧ lSa m_I_isWithin 17 [(.aload_n 0, 0)] = true ∧ lIa m_I_isWithin 18 (.getfield 23) 3 = true ∧ lSa m_I_isWithin 21 [(.iload_n 3, 0)] = true ∧ lIa m_I_isWithin 22 (.invokevirtual 39) 3 = true ∧ lSa m_I_isWithin 25 [(.istore_n 3, 0), (.iinc 4 1, nI 1)] = true ∧ lIa m_I_isWithin 29 (.goto (-24)) 3 = true := by decide +kernel
  refine lA8 hdd (fun dd0 dd1 dd2 dd3 dd4 dd5 dd6 dd7 hdd => ?_)
  obtain ⟨dd8, dd9⟩ := hdd
  intro n
  induction n with
  | zero => intro G x0 x2 x3 x4 h; cases h
  | succ n ih =>
    intro G x0 x2 x3 x4 h
    unfold f_I_isWithin_L5 at h
    refine Y.blk (pc' := 9) (L' := [some (.ref x0), none, some (.int x2), some (.int x3), some (.int x4)]) (st' := [.int (nI 6), .int x4]) (sg := [(.iload 4, 0), (.bipush 6, nI 6)]) (lSa_ok dd0) rfl ?_
    refine Y.ic_ge (off := 23) (tgt := 32) (lIa_ok dd1) (by decide) h (fun c8 h => ?_) (fun c8 h => ?_)
    · refine Y.less (L' := [none, none, some (.int x2), some (.int x3), none]) (zLe_none (zLe_some (zLe_some (zLe_some (zLe_none (zLe_nil)))))) ?_
      exact hK32 G x2 x3 h
    · refine Y.blk (pc' := 14) (L' := [some (.ref x0), none, some (.int x2), some (.int x3), some (.int x4)]) (st' := [.int x2, .int x3]) (sg := [(.iload_n 3, 0), (.iload_n 2, 0)]) (lSa_ok dd2) rfl ?_
      refine Y.ic_eq (off := 18) (tgt := 32) (lIa_ok dd3) (by decide) h (fun c7 h => ?_) (fun c7 h => ?_)
      · refine Y.less (L' := [none, none, some (.int x2), some (.int x3), none]) (zLe_none (zLe_some (zLe_some (zLe_some (zLe_none (zLe_nil)))))) ?_
        exact hK32 G x2 x3 h
      · refine Y.blk (pc' := 18) (L' := [some (.ref x0), none, some (.int x2), some (.int x3), some (.int x4)]) (st' := [.ref x0]) (sg := [(.aload_n 0, 0)]) (lSa_ok dd4) rfl ?_
        refine Y.getA fl_I_23 (lIa_ok dd5) h (fun v1 h => ?_)
        refine Y.blk (pc' := 22) (L' := [some (.ref x0), none, some (.int x2), some (.int x3), some (.int x4)]) (st' := [.int x3, .ref v1]) (sg := [(.iload_n 3, 0)]) (lSa_ok dd6) rfl ?_
        obtain ⟨_, o3, e2, m4, h⟩ := gOb_inv h
        refine Y.callI (yC.Vi (b := v1) (As := [.int x3]) (st := []) (r := ("Partlister$Numbers", T_N, 1)) hV.1 cb_N_read lk_I_39 in_N_read rfl se_N_read (lIa_ok dd7) rfl rfl (Nat.le_of_ble_eq_true rfl) (by decide) e2 m4) (k_N_read hV G v1 x3) h (fun v6 G5 _ h => ?_)
        refine Y.blk (pc' := 29) (L' := [some (.ref x0), none, some (.int x2), some (.int v6), some (.int (x4 + (nI 1)))]) (st' := []) (sg := [(.istore_n 3, 0), (.iinc 4 1, nI 1)]) (lSa_ok dd8) rfl ?_
        refine Y.goto (off := -24) (tgt := 5) (lIa_ok dd9) (by decide) ?_
        exact ih G5 x0 x2 v6 (x4 + (nI 1)) h
theorem k_I_isWithin {l : Launch} {D : va_G} {B : Nat} {O : State → Heap → Prop} (hV : zG l D B O) (G : gH) (a0 : Nat) (a1 : Int32) (a2 : Int32) : gMet (zVm l D B O) m_I_isWithin 2 [.ref a0, .int a1, .int a2] G (f_I_isWithin G a0 a1 a2) := by
  have hdd : lSa m_I_isWithin 0 [(.iload_n 1, 0), (.istore_n 3, 0), (.iconst 0, nI 0), (.istore 4, 0)] = true ∧ lSa m_I_isWithin 32 [(.iload_n 3, 0), (.iload_n 2, 0)] = true ∧ lIa m_I_isWithin 34 (.if_icmp .ne 7) 3 = true ∧ lSa m_I_isWithin 37 [(.iconst 1, nI 1)] = true ∧ lIa m_I_isWithin 38 (.goto 4) 3 = true ∧ lIa m_I_isWithin 42 (.ireturn) 1 = true ∧ lSa m_I_isWithin 41 [(.iconst 0, nI 0)] = true := by decide +kernel
  obtain ⟨dd0, dd1, dd2, dd3, dd4, dd5, dd6⟩ := hdd
  refine gMet.of (by decide +kernel) (Nat.le_of_ble_eq_true rfl) [some (.ref a0), some (.int a1), some (.int a2), none, none] (fun ls h => zEn_ok (n := 5) h) ?_
  intro o Gf h
  unfold f_I_isWithin at h
  refine Y.blk (pc' := 5) (L' := [some (.ref a0), some (.int a1), some (.int a2), some (.int a1), some (.int (nI 0))]) (st' := []) (sg := [(.iload_n 1, 0), (.istore_n 3, 0), (.iconst 0, nI 0), (.istore 4, 0)]) (lSa_ok dd0) rfl ?_
  refine Y.less (L' := [some (.ref a0), none, some (.int a2), some (.int a1), some (.int (nI 0))]) (zLe_some (zLe_none (zLe_some (zLe_some (zLe_some (zLe_nil)))))) ?_
  refine k_I_isWithin_L5 hV _ ?_  zFu G a0 a2 a1 (nI 0) h
  · intro G11 x9 x10 h
    refine Y.blk (pc' := 34) (L' := [none, none, some (.int x9), some (.int x10), none]) (st' := [.int x9, .int x10]) (sg := [(.iload_n 3, 0), (.iload_n 2, 0)]) (lSa_ok dd1) rfl ?_
    refine Y.ic_ne (off := 7) (tgt := 41) (lIa_ok dd2) (by decide) h (fun c12 h => ?_) (fun c12 h => ?_)
    · refine Y.blk (pc' := 38) (L' := [none, none, some (.int x9), some (.int x10), none]) (st' := [.int (nI 1)]) (sg := [(.iconst 1, nI 1)]) (lSa_ok dd3) rfl ?_
      refine Y.goto (off := 4) (tgt := 42) (lIa_ok dd4) (by decide) ?_
      exact Y.zret rfl (lIa_ok dd5) h
    · refine Y.blk (pc' := 42) (L' := [none, none, some (.int x9), some (.int x10), none]) (st' := [.int (nI 0)]) (sg := [(.iconst 0, nI 0)]) (lSa_ok dd6) rfl ?_
      exact Y.zret rfl (lIa_ok dd5) h

def f_I_endOthers_L4 (K54 : gH → Int32 → gR) : Nat → gH → Nat → Int32 → Int32 → Int32 → gR
  | 0, _, _, _, _, _ => none
  | n + 1, G, x0, x1, x2, x3 =>
    if (nI 6) ≤ x3 then K54 G x2
    else gOb G x0 1 fun o2 => bI (f_I_isThere G x0 x3) fun v5 G4 => if v5 = 0 then f_I_endOthers_L4 K54 n G4 x0 x1 x2 (x3 + (nI 1))
      else gOb G4 x0 1 fun o7 => bI (f_I_rowOf G4 x0 x3) fun v10 G9 => gOb G9 x0 1 fun o12 => bI (f_I_rowOf G9 x0 x1) fun v15 G14 => if v10 = v15 then (gOb G14 x0 1 fun o17 => bI (f_I_isWithin G14 x0 x1 x3) fun v20 G19 => if v20 = 0 then gOb G19 x0 1 fun o22 => bV (f_I_finish G19 x0 x3) fun G24 => f_I_endOthers_L4 K54 n G24 x0 x1 (x2 + (nI 1)) (x3 + (nI 1))
          else f_I_endOthers_L4 K54 n G19 x0 x1 x2 (x3 + (nI 1)))
        else f_I_endOthers_L4 K54 n G14 x0 x1 x2 (x3 + (nI 1))
def f_I_endOthers (G : gH) (a0 : Nat) (a1 : Int32) : gR :=
  f_I_endOthers_L4 (fun G30 x29 => rI x29 G30) zFu G a0 a1 (nI 0) (nI 2)
theorem k_I_endOthers_L4 {l : Launch} {D : va_G} {B : Nat} {O : State → Heap → Prop} (hV : zG l D B O) {o : gO} {Gf : gH} (K54 : gH → Int32 → gR) (hK54 : ∀ (G : gH) (x2 : Int32), K54 G x2 = some (o, Gf) → Y (zVm l D B O) m_I_endOthers 3 o Gf 54 [none, none, some (.int x2), none] [] G) : ∀ (n : Nat) (G : gH) (x0 : Nat) (x1 : Int32) (x2 : Int32) (x3 : Int32), f_I_endOthers_L4 K54 n G x0 x1 x2 x3 = some (o, Gf) → Y (zVm l D B O) m_I_endOthers 3 o Gf 4 [some (.ref x0), some (.int x1), some (.int x2), some (.int x3)] [] G := by
  have hdd : lSa m_I_endOthers 4 [(.iload_n 3, 0), (.bipush 6, nI 6)] = true ∧ lIa m_I_endOthers 7 (.if_icmp .ge 47) 3 = true ∧ lSa m_I_endOthers 10 [(.aload_n 0, 0), (.iload_n 3, 0)] = true ∧ lIa m_I_endOthers 12 (.invokevirtual 86) 3 = true ∧ lIa m_I_endOthers 15 (.ifCond .eq 33) 3 = true ∧ lSa m_I_endOthers 48 [(.iinc 3 1, nI 1)] = true ∧ lIa m_I_endOthers 51 (.goto (-47)) 3 = true ∧ lSa m_I_endOthers 18 [(.aload_n 0, 0), (.iload_n 3, 0)] = true ∧ lIa m_I_endOthers 20 (.invokevirtual 56) 3 = true ∧ lSa m_I_endOthers 23 [(.aload_n 0, 0), (.iload_n 1, 0)] = true ∧ lIa m_I_endOthers 25 (.invokevirtual 56) 3 = true ∧ lIa m_I_endOthers 28 (.if_icmp .ne 20) 3 = true ∧ lSa m_I_endOthers 31 [(.aload_n 0, 0), (.iload_n 1, 0), (.iload_n 3, 0)] = true ∧ lIa m_I_endOthers 34 (.invokevirtual 90) 3 = true ∧ lIa m_I_endOthers 37 (.ifCond .ne 11) 3 = true ∧ lSa m_I_endOthers 40 [(.aload_n 0, 0), (.iload_n 3, 0)] = true ∧ lIa m_I_endOthers 42 (.invokevirtual 94) 3 = true ∧ lSa m_I_endOthers 45 [(.iinc 2 1, nI 1), (.iinc 3 1, nI 1)] = true := by decide +kernel
  refine lA8 hdd (fun dd0 dd1 dd2 dd3 dd4 dd5 dd6 dd7 hdd => ?_)
  refine lA8 hdd (fun dd8 dd9 dd10 dd11 dd12 dd13 dd14 dd15 hdd => ?_)
  obtain ⟨dd16, dd17⟩ := hdd
  intro n
  induction n with
  | zero => intro G x0 x1 x2 x3 h; cases h
  | succ n ih =>
    intro G x0 x1 x2 x3 h
    unfold f_I_endOthers_L4 at h
    refine Y.blk (pc' := 7) (L' := [some (.ref x0), some (.int x1), some (.int x2), some (.int x3)]) (st' := [.int (nI 6), .int x3]) (sg := [(.iload_n 3, 0), (.bipush 6, nI 6)]) (lSa_ok dd0) rfl ?_
    refine Y.ic_ge (off := 47) (tgt := 54) (lIa_ok dd1) (by decide) h (fun c28 h => ?_) (fun c28 h => ?_)
    · refine Y.less (L' := [none, none, some (.int x2), none]) (zLe_none (zLe_none (zLe_some (zLe_none (zLe_nil))))) ?_
      exact hK54 G x2 h
    · refine Y.blk (pc' := 12) (L' := [some (.ref x0), some (.int x1), some (.int x2), some (.int x3)]) (st' := [.int x3, .ref x0]) (sg := [(.aload_n 0, 0), (.iload_n 3, 0)]) (lSa_ok dd2) rfl ?_
      obtain ⟨_, o2, e1, m3, h⟩ := gOb_inv h
      refine Y.callI (yC.Vi (b := x0) (As := [.int x3]) (st := []) (r := ("Partlister$Lists", T_I, 7)) hV.1 cb_I_isThere lk_I_86 in_I_isThere rfl se_I_isThere (lIa_ok dd3) rfl rfl (Nat.le_of_ble_eq_true rfl) (by decide) e1 m3) (k_I_isThere hV G x0 x3) h (fun v5 G4 _ h => ?_)
      refine Y.if_eq (off := 33) (tgt := 48) (lIa_ok dd4) (by decide) h (fun c27 h => ?_) (fun c27 h => ?_)
      · refine Y.blk (pc' := 51) (L' := [some (.ref x0), some (.int x1), some (.int x2), some (.int (x3 + (nI 1)))]) (st' := []) (sg := [(.iinc 3 1, nI 1)]) (lSa_ok dd5) rfl ?_
        refine Y.goto (off := -47) (tgt := 4) (lIa_ok dd6) (by decide) ?_
        exact ih G4 x0 x1 x2 (x3 + (nI 1)) h
      · refine Y.blk (pc' := 20) (L' := [some (.ref x0), some (.int x1), some (.int x2), some (.int x3)]) (st' := [.int x3, .ref x0]) (sg := [(.aload_n 0, 0), (.iload_n 3, 0)]) (lSa_ok dd7) rfl ?_
        obtain ⟨_, o7, e6, m8, h⟩ := gOb_inv h
        refine Y.callI (yC.Vi (b := x0) (As := [.int x3]) (st := []) (r := ("Partlister$Lists", T_I, 7)) hV.1 cb_I_rowOf lk_I_56 in_I_rowOf rfl se_I_rowOf (lIa_ok dd8) rfl rfl (Nat.le_of_ble_eq_true rfl) (by decide) e6 m8) (k_I_rowOf hV G4 x0 x3) h (fun v10 G9 _ h => ?_)
        refine Y.blk (pc' := 25) (L' := [some (.ref x0), some (.int x1), some (.int x2), some (.int x3)]) (st' := [.int x1, .ref x0, .int v10]) (sg := [(.aload_n 0, 0), (.iload_n 1, 0)]) (lSa_ok dd9) rfl ?_
        obtain ⟨_, o12, e11, m13, h⟩ := gOb_inv h
        refine Y.callI (yC.Vi (b := x0) (As := [.int x1]) (st := [.int v10]) (r := ("Partlister$Lists", T_I, 7)) hV.1 cb_I_rowOf lk_I_56 in_I_rowOf rfl se_I_rowOf (lIa_ok dd10) rfl rfl (Nat.le_of_ble_eq_true rfl) (by decide) e11 m13) (k_I_rowOf hV G9 x0 x1) h (fun v15 G14 _ h => ?_)
        refine Y.ic_ne (off := 20) (tgt := 48) (lIa_ok dd11) (by decide) h (fun c26 h => ?_) (fun c26 h => ?_)
        · refine Y.blk (pc' := 34) (L' := [some (.ref x0), some (.int x1), some (.int x2), some (.int x3)]) (st' := [.int x3, .int x1, .ref x0]) (sg := [(.aload_n 0, 0), (.iload_n 1, 0), (.iload_n 3, 0)]) (lSa_ok dd12) rfl ?_
          obtain ⟨_, o17, e16, m18, h⟩ := gOb_inv h
          refine Y.callI (yC.Vi (b := x0) (As := [.int x1, .int x3]) (st := []) (r := ("Partlister$Lists", T_I, 7)) hV.1 cb_I_isWithin lk_I_90 in_I_isWithin rfl se_I_isWithin (lIa_ok dd13) rfl rfl (Nat.le_of_ble_eq_true rfl) (by decide) e16 m18) (k_I_isWithin hV G14 x0 x1 x3) h (fun v20 G19 _ h => ?_)
          refine Y.if_ne (off := 11) (tgt := 48) (lIa_ok dd14) (by decide) h (fun c25 h => ?_) (fun c25 h => ?_)
          · refine Y.blk (pc' := 42) (L' := [some (.ref x0), some (.int x1), some (.int x2), some (.int x3)]) (st' := [.int x3, .ref x0]) (sg := [(.aload_n 0, 0), (.iload_n 3, 0)]) (lSa_ok dd15) rfl ?_
            obtain ⟨_, o22, e21, m23, h⟩ := gOb_inv h
            refine Y.callN (yC.Vi (b := x0) (As := [.int x3]) (st := []) (r := ("Partlister$Lists", T_I, 7)) hV.1 cb_I_finish lk_I_94 in_I_finish rfl se_I_finish (lIa_ok dd16) rfl rfl (Nat.le_of_ble_eq_true rfl) (by decide) e21 m23) (k_I_finish hV G19 x0 x3) h (fun G24 _ h => ?_)
            refine Y.blk (pc' := 51) (L' := [some (.ref x0), some (.int x1), some (.int (x2 + (nI 1))), some (.int (x3 + (nI 1)))]) (st' := []) (sg := [(.iinc 2 1, nI 1), (.iinc 3 1, nI 1)]) (lSa_ok dd17) rfl ?_
            refine Y.goto (off := -47) (tgt := 4) (lIa_ok dd6) (by decide) ?_
            exact ih G24 x0 x1 (x2 + (nI 1)) (x3 + (nI 1)) h
          · refine Y.blk (pc' := 51) (L' := [some (.ref x0), some (.int x1), some (.int x2), some (.int (x3 + (nI 1)))]) (st' := []) (sg := [(.iinc 3 1, nI 1)]) (lSa_ok dd5) rfl ?_
            refine Y.goto (off := -47) (tgt := 4) (lIa_ok dd6) (by decide) ?_
            exact ih G19 x0 x1 x2 (x3 + (nI 1)) h
        · refine Y.blk (pc' := 51) (L' := [some (.ref x0), some (.int x1), some (.int x2), some (.int (x3 + (nI 1)))]) (st' := []) (sg := [(.iinc 3 1, nI 1)]) (lSa_ok dd5) rfl ?_
          refine Y.goto (off := -47) (tgt := 4) (lIa_ok dd6) (by decide) ?_
          exact ih G14 x0 x1 x2 (x3 + (nI 1)) h
theorem k_I_endOthers {l : Launch} {D : va_G} {B : Nat} {O : State → Heap → Prop} (hV : zG l D B O) (G : gH) (a0 : Nat) (a1 : Int32) : gMet (zVm l D B O) m_I_endOthers 3 [.ref a0, .int a1] G (f_I_endOthers G a0 a1) := by
  have hdd : lSa m_I_endOthers 0 [(.iconst 0, nI 0), (.istore_n 2, 0), (.iconst 2, nI 2), (.istore_n 3, 0)] = true ∧ lSa m_I_endOthers 54 [(.iload_n 2, 0)] = true ∧ lIa m_I_endOthers 55 (.ireturn) 1 = true := by decide +kernel
  obtain ⟨dd0, dd1, dd2⟩ := hdd
  refine gMet.of (by decide +kernel) (Nat.le_of_ble_eq_true rfl) [some (.ref a0), some (.int a1), none, none] (fun ls h => zEn_ok (n := 4) h) ?_
  intro o Gf h
  unfold f_I_endOthers at h
  refine Y.blk (pc' := 4) (L' := [some (.ref a0), some (.int a1), some (.int (nI 0)), some (.int (nI 2))]) (st' := []) (sg := [(.iconst 0, nI 0), (.istore_n 2, 0), (.iconst 2, nI 2), (.istore_n 3, 0)]) (lSa_ok dd0) rfl ?_
  refine k_I_endOthers_L4 hV _ ?_  zFu G a0 a1 (nI 0) (nI 2) h
  · intro G30 x29 h
    refine Y.blk (pc' := 55) (L' := [none, none, some (.int x29), none]) (st' := [.int x29]) (sg := [(.iload_n 2, 0)]) (lSa_ok dd1) rfl ?_
    exact Y.iret rfl (lIa_ok dd2) h
