section
def f_N_init (G : gH) (a0 : Nat) (a1 : Int32) : gR :=
  if 0 ≤ a1 then gNewA G 100 a1 fun a1 G2 => gPut G2 a0 2 0 (.ref a1) fun G3 => rV G3
  else gNewA G 100 (nI 0) fun a4 G5 => gPut G5 a0 2 0 (.ref a4) fun G6 => rV G6
theorem k_N_init {l : Launch} {D : va_G} {B : Nat} {O : State → Heap → Prop} (hV : zG l D B O) (G : gH) (a0 : Nat) (a1 : Int32) : gMet (zVm l D B O) m_N_init 1 [.ref a0, .int a1] G (f_N_init G a0 a1) := by
  have hdd : lSa m_N_init 0 [(.aload_n 0, 0)] = true ∧ lIa m_N_init 1 (.invokespecial 3) 3 = true ∧ lSa m_N_init 4 [(.aload_n 0, 0), (.iload_n 1, 0)] = true ∧ lIa m_N_init 6 (.ifCond .ge 7) 3 = true ∧ lSa m_N_init 13 [(.iload_n 1, 0)] = true ∧ lIa m_N_init 16 (.putfield 9) 3 = true ∧ lIa m_N_init 19 (.return_) 1 = true ∧ lSa m_N_init 9 [(.iconst 0, nI 0)] = true ∧ lIa m_N_init 10 (.goto 4) 3 = true := by decide +kernel
  refine lA8 hdd (fun dd0 dd1 dd2 dd3 dd4 dd5 dd6 dd7 hdd => ?_)
  have dd8 := hdd
  refine gMet.of (by decide +kernel) (Nat.le_of_ble_eq_true rfl) [some (.ref a0), some (.int a1)] (fun ls h => zEn_ok (n := 2) h) ?_
  intro o Gf h
  unfold f_N_init at h
  refine Y.blk (pc' := 1) (L' := [some (.ref a0), some (.int a1)]) (st' := [.ref a0]) (sg := [(.aload_n 0, 0)]) (lSa_ok dd0) rfl ?_
  refine Y.objInit lk_N_3 in_OJ_init cw_OJ_init (by decide) rfl (Nat.le_of_ble_eq_true rfl) (lIa_ok dd1) ?_
  refine Y.blk (pc' := 6) (L' := [some (.ref a0), some (.int a1)]) (st' := [.int a1, .ref a0]) (sg := [(.aload_n 0, 0), (.iload_n 1, 0)]) (lSa_ok dd2) rfl ?_
  refine Y.if_ge (off := 7) (tgt := 13) (lIa_ok dd3) (by decide) h (fun c7 h => ?_) (fun c7 h => ?_)
  · refine Y.blk (pc' := 14) (L' := [some (.ref a0), some (.int a1)]) (st' := [.int a1, .ref a0]) (sg := [(.iload_n 1, 0)]) (lSa_ok dd4) rfl ?_
    refine Y.newa (at_ := .int) (t0 := 0) ac_i rfl (by decide) rfl (by decide) (by decide +kernel) h (fun a1 G2 h => ?_)
    refine Y.putF fl_N_9 rfl (by decide) rfl rfl (lIa_ok dd5) h (fun G3 _ _ h => ?_)
    exact Y.vret rfl (lIa_ok dd6) h
  · refine Y.blk (pc' := 10) (L' := [some (.ref a0), some (.int a1)]) (st' := [.int (nI 0), .ref a0]) (sg := [(.iconst 0, nI 0)]) (lSa_ok dd7) rfl ?_
    refine Y.goto (off := 4) (tgt := 14) (lIa_ok dd8) (by decide) ?_
    refine Y.newa (at_ := .int) (t0 := 0) ac_i rfl (by decide) rfl (by decide) (by decide +kernel) h (fun a4 G5 h => ?_)
    refine Y.putF fl_N_9 rfl (by decide) rfl rfl (lIa_ok dd5) h (fun G6 _ _ h => ?_)
    exact Y.vret rfl (lIa_ok dd6) h

def f_U_init (G : gH) (a0 : Nat) : gR :=
  gNewO G 2 1 [.null] fun a1 G2 => bV (f_N_init G2 a1 (nI 3)) fun G4 => gPut G4 a0 0 0 (.ref a1) fun G5 => gNewO G5 2 1 [.null] fun a6 G7 => bV (f_N_init G7 a6 (nI 3)) fun G9 => gPut G9 a0 0 1 (.ref a6) fun G10 => gNewO G10 2 1 [.null] fun a11 G12 => bV (f_N_init G12 a11 (nI 3)) fun G14 => gPut G14 a0 0 2 (.ref a11) fun G15 => gNewO G15 2 1 [.null] fun a16 G17 => bV (f_N_init G17 a16 (nI 3)) fun G19 => gPut G19 a0 0 3 (.ref a16) fun G20 => rV G20
theorem k_U_init {l : Launch} {D : va_G} {B : Nat} {O : State → Heap → Prop} (hV : zG l D B O) (G : gH) (a0 : Nat) : gMet (zVm l D B O) m_U_init 2 [.ref a0] G (f_U_init G a0) := by
  have hdd : lSa m_U_init 0 [(.aload_n 0, 0)] = true ∧ lIa m_U_init 1 (.invokespecial 3) 3 = true ∧ lSa m_U_init 4 [(.aload_n 0, 0)] = true ∧ lIa m_U_init 5 (.new 9) 3 = true ∧ lSa m_U_init 8 [(.dup, 0), (.iconst 3, nI 3)] = true ∧ lIa m_U_init 10 (.invokespecial 11) 3 = true ∧ lIa m_U_init 13 (.putfield 14) 3 = true ∧ lSa m_U_init 16 [(.aload_n 0, 0)] = true ∧ lIa m_U_init 17 (.new 9) 3 = true ∧ lSa m_U_init 20 [(.dup, 0), (.iconst 3, nI 3)] = true ∧ lIa m_U_init 22 (.invokespecial 11) 3 = true ∧ lIa m_U_init 25 (.putfield 20) 3 = true ∧ lSa m_U_init 28 [(.aload_n 0, 0)] = true ∧ lIa m_U_init 29 (.new 9) 3 = true ∧ lSa m_U_init 32 [(.dup, 0), (.iconst 3, nI 3)] = true ∧ lIa m_U_init 34 (.invokespecial 11) 3 = true ∧ lIa m_U_init 37 (.putfield 23) 3 = true ∧ lSa m_U_init 40 [(.aload_n 0, 0)] = true ∧ lIa m_U_init 41 (.new 9) 3 = true ∧ lSa m_U_init 44 [(.dup, 0), (.iconst 3, nI 3)] = true ∧ lIa m_U_init 46 (.invokespecial 11) 3 = true ∧ lIa m_U_init 49 (.putfield 26) 3 = true ∧ lIa m_U_init 52 (.return_) 1 = true := by decide +kernel
  refine lA8 hdd (fun dd0 dd1 dd2 dd3 dd4 dd5 dd6 dd7 hdd => ?_)
  refine lA8 hdd (fun dd8 dd9 dd10 dd11 dd12 dd13 dd14 dd15 hdd => ?_)
  obtain ⟨dd16, dd17, dd18, dd19, dd20, dd21, dd22⟩ := hdd
  refine gMet.of (by decide +kernel) (Nat.le_of_ble_eq_true rfl) [some (.ref a0)] (fun ls h => zEn_ok (n := 1) h) ?_
  intro o Gf h
  unfold f_U_init at h
  refine Y.blk (pc' := 1) (L' := [some (.ref a0)]) (st' := [.ref a0]) (sg := [(.aload_n 0, 0)]) (lSa_ok dd0) rfl ?_
  refine Y.objInit lk_U_3 in_OJ_init cw_OJ_init (by decide) rfl (Nat.le_of_ble_eq_true rfl) (lIa_ok dd1) ?_
  refine Y.blk (pc' := 5) (L' := [some (.ref a0)]) (st' := [.ref a0]) (sg := [(.aload_n 0, 0)]) (lSa_ok dd2) rfl ?_
  refine Y.new nc_U_9 (by decide) bk_N (lIa_ok dd3) h (fun a1 G2 h => ?_)
  refine Y.blk (pc' := 10) (L' := [some (.ref a0)]) (st' := [.int (nI 3), .ref a1, .ref a1, .ref a0]) (sg := [(.dup, 0), (.iconst 3, nI 3)]) (lSa_ok dd4) rfl ?_
  refine Y.callN (yC.I (b := a1) (As := [.int (nI 3)]) (st := [.ref a1, .ref a0]) hV.1 cb_N_init lk_U_11 in_N_init rfl rfl (lIa_ok dd5) rfl rfl (Nat.le_of_ble_eq_true rfl) (by decide)) (k_N_init hV G2 a1 (nI 3)) h (fun G4 _ h => ?_)
  refine Y.putF fl_U_14 rfl (by decide) rfl rfl (lIa_ok dd6) h (fun G5 _ _ h => ?_)
  refine Y.blk (pc' := 17) (L' := [some (.ref a0)]) (st' := [.ref a0]) (sg := [(.aload_n 0, 0)]) (lSa_ok dd7) rfl ?_
  refine Y.new nc_U_9 (by decide) bk_N (lIa_ok dd8) h (fun a6 G7 h => ?_)
  refine Y.blk (pc' := 22) (L' := [some (.ref a0)]) (st' := [.int (nI 3), .ref a6, .ref a6, .ref a0]) (sg := [(.dup, 0), (.iconst 3, nI 3)]) (lSa_ok dd9) rfl ?_
  refine Y.callN (yC.I (b := a6) (As := [.int (nI 3)]) (st := [.ref a6, .ref a0]) hV.1 cb_N_init lk_U_11 in_N_init rfl rfl (lIa_ok dd10) rfl rfl (Nat.le_of_ble_eq_true rfl) (by decide)) (k_N_init hV G7 a6 (nI 3)) h (fun G9 _ h => ?_)
  refine Y.putF fl_U_20 rfl (by decide) rfl rfl (lIa_ok dd11) h (fun G10 _ _ h => ?_)
  refine Y.blk (pc' := 29) (L' := [some (.ref a0)]) (st' := [.ref a0]) (sg := [(.aload_n 0, 0)]) (lSa_ok dd12) rfl ?_
  refine Y.new nc_U_9 (by decide) bk_N (lIa_ok dd13) h (fun a11 G12 h => ?_)
  refine Y.blk (pc' := 34) (L' := [some (.ref a0)]) (st' := [.int (nI 3), .ref a11, .ref a11, .ref a0]) (sg := [(.dup, 0), (.iconst 3, nI 3)]) (lSa_ok dd14) rfl ?_
  refine Y.callN (yC.I (b := a11) (As := [.int (nI 3)]) (st := [.ref a11, .ref a0]) hV.1 cb_N_init lk_U_11 in_N_init rfl rfl (lIa_ok dd15) rfl rfl (Nat.le_of_ble_eq_true rfl) (by decide)) (k_N_init hV G12 a11 (nI 3)) h (fun G14 _ h => ?_)
  refine Y.putF fl_U_23 rfl (by decide) rfl rfl (lIa_ok dd16) h (fun G15 _ _ h => ?_)
  refine Y.blk (pc' := 41) (L' := [some (.ref a0)]) (st' := [.ref a0]) (sg := [(.aload_n 0, 0)]) (lSa_ok dd17) rfl ?_
  refine Y.new nc_U_9 (by decide) bk_N (lIa_ok dd18) h (fun a16 G17 h => ?_)
  refine Y.blk (pc' := 46) (L' := [some (.ref a0)]) (st' := [.int (nI 3), .ref a16, .ref a16, .ref a0]) (sg := [(.dup, 0), (.iconst 3, nI 3)]) (lSa_ok dd19) rfl ?_
  refine Y.callN (yC.I (b := a16) (As := [.int (nI 3)]) (st := [.ref a16, .ref a0]) hV.1 cb_N_init lk_U_11 in_N_init rfl rfl (lIa_ok dd20) rfl rfl (Nat.le_of_ble_eq_true rfl) (by decide)) (k_N_init hV G17 a16 (nI 3)) h (fun G19 _ h => ?_)
  refine Y.putF fl_U_26 rfl (by decide) rfl rfl (lIa_ok dd21) h (fun G20 _ _ h => ?_)
  exact Y.vret rfl (lIa_ok dd22) h

def f_N_write (G : gH) (a0 : Nat) (a1 : Int32) (a2 : Int32) : gR :=
  if a1 < 0 then rV G
  else gFA G a0 2 0 fun v1 => gLen G v1 100 fun v2 => if v2 ≤ a1 then rV G
    else gFA G a0 2 0 fun v3 => gSt G v3 100 a1 a2 fun G4 => rV G4
theorem k_N_write {l : Launch} {D : va_G} {B : Nat} {O : State → Heap → Prop} (hV : zG l D B O) (G : gH) (a0 : Nat) (a1 : Int32) (a2 : Int32) : gMet (zVm l D B O) m_N_write 1 [.ref a0, .int a1, .int a2] G (f_N_write G a0 a1 a2) := by
  have hdd : lSa m_N_write 0 [(.iload_n 1, 0)] = true ∧ lIa m_N_write 1 (.ifCond .lt 19) 3 = true ∧ lIa m_N_write 20 (.return_) 1 = true ∧ lSa m_N_write 4 [(.iload_n 1, 0), (.aload_n 0, 0)] = true ∧ lIa m_N_write 6 (.getfield 9) 3 = true ∧ lIa m_N_write 9 (.arraylength) 1 = true ∧ lIa m_N_write 10 (.if_icmp .ge 10) 3 = true ∧ lSa m_N_write 13 [(.aload_n 0, 0)] = true ∧ lIa m_N_write 14 (.getfield 9) 3 = true ∧ lSa m_N_write 17 [(.iload_n 1, 0), (.iload_n 2, 0)] = true ∧ lIa m_N_write 19 (.iastore) 1 = true := by decide +kernel
  refine lA8 hdd (fun dd0 dd1 dd2 dd3 dd4 dd5 dd6 dd7 hdd => ?_)
  obtain ⟨dd8, dd9, dd10⟩ := hdd
  refine gMet.of (by decide +kernel) (Nat.le_of_ble_eq_true rfl) [some (.ref a0), some (.int a1), some (.int a2)] (fun ls h => zEn_ok (n := 3) h) ?_
  intro o Gf h
  unfold f_N_write at h
  refine Y.blk (pc' := 1) (L' := [some (.ref a0), some (.int a1), some (.int a2)]) (st' := [.int a1]) (sg := [(.iload_n 1, 0)]) (lSa_ok dd0) rfl ?_
  refine Y.if_lt (off := 19) (tgt := 20) (lIa_ok dd1) (by decide) h (fun c6 h => ?_) (fun c6 h => ?_)
  · exact Y.vret rfl (lIa_ok dd2) h
  · refine Y.blk (pc' := 6) (L' := [some (.ref a0), some (.int a1), some (.int a2)]) (st' := [.ref a0, .int a1]) (sg := [(.iload_n 1, 0), (.aload_n 0, 0)]) (lSa_ok dd3) rfl ?_
    refine Y.getA fl_N_9 (lIa_ok dd4) h (fun v1 h => ?_)
    refine Y.alen (t0 := 0) (lIa_ok dd5) rfl h (fun v2 h => ?_)
    refine Y.ic_ge (off := 10) (tgt := 20) (lIa_ok dd6) (by decide) h (fun c5 h => ?_) (fun c5 h => ?_)
    · exact Y.vret rfl (lIa_ok dd2) h
    · refine Y.blk (pc' := 14) (L' := [some (.ref a0), some (.int a1), some (.int a2)]) (st' := [.ref a0]) (sg := [(.aload_n 0, 0)]) (lSa_ok dd7) rfl ?_
      refine Y.getA fl_N_9 (lIa_ok dd8) h (fun v3 h => ?_)
      refine Y.blk (pc' := 19) (L' := [some (.ref a0), some (.int a1), some (.int a2)]) (st' := [.int a2, .int a1, .ref v3]) (sg := [(.iload_n 1, 0), (.iload_n 2, 0)]) (lSa_ok dd9) rfl ?_
      refine Y.iast (t0 := 0) (lIa_ok dd10) rfl (by decide) h (fun G4 _ _ h => ?_)
      exact Y.vret rfl (lIa_ok dd2) h

def f_I_init_L84 (K132 : gH → gR) : Nat → gH → Nat → Int32 → gR
  | 0, _, _, _ => none
  | n + 1, G, x0, x1 =>
    if (nI 6) ≤ x1 then K132 G
    else gFA G x0 1 1 fun v31 => if (nI 2) ≤ x1 then gOb G v31 2 fun o33 => bV (f_N_write G v31 x1 (-1)) fun G35 => gFA G35 x0 1 2 fun v36 => gOb G35 v36 2 fun o38 => bV (f_N_write G35 v36 x1 (-1)) fun G40 => gFA G40 x0 1 3 fun v41 => gOb G40 v41 2 fun o43 => bV (f_N_write G40 v41 x1 x1) fun G45 => f_I_init_L84 K132 n G45 x0 (x1 + (nI 1))
      else gOb G v31 2 fun o47 => bV (f_N_write G v31 x1 (nI 0)) fun G49 => gFA G49 x0 1 2 fun v50 => gOb G49 v50 2 fun o52 => bV (f_N_write G49 v50 x1 (-1)) fun G54 => gFA G54 x0 1 3 fun v55 => gOb G54 v55 2 fun o57 => bV (f_N_write G54 v55 x1 x1) fun G59 => f_I_init_L84 K132 n G59 x0 (x1 + (nI 1))
def f_I_init (G : gH) (a0 : Nat) : gR :=
  gNewO G 2 1 [.null] fun a1 G2 => bV (f_N_init G2 a1 (nI 62)) fun G4 => gPut G4 a0 1 0 (.ref a1) fun G5 => gNewO G5 2 1 [.null] fun a6 G7 => bV (f_N_init G7 a6 (nI 6)) fun G9 => gPut G9 a0 1 1 (.ref a6) fun G10 => gNewO G10 2 1 [.null] fun a11 G12 => bV (f_N_init G12 a11 (nI 6)) fun G14 => gPut G14 a0 1 2 (.ref a11) fun G15 => gNewO G15 2 1 [.null] fun a16 G17 => bV (f_N_init G17 a16 (nI 6)) fun G19 => gPut G19 a0 1 3 (.ref a16) fun G20 => gNewO G20 2 1 [.null] fun a21 G22 => bV (f_N_init G22 a21 (nI 6)) fun G24 => gPut G24 a0 1 4 (.ref a21) fun G25 => gNewO G25 2 1 [.null] fun a26 G27 => bV (f_N_init G27 a26 (nI 31)) fun G29 => gPut G29 a0 1 5 (.ref a26) fun G30 => f_I_init_L84 (fun G62 => rV G62) zFu G30 a0 (nI 0)
theorem k_I_init_L84 {l : Launch} {D : va_G} {B : Nat} {O : State → Heap → Prop} (hV : zG l D B O) {o : gO} {Gf : gH} (K132 : gH → gR) (hK132 : ∀ (G : gH), K132 G  = some (o, Gf) → Y (zVm l D B O) m_I_init 2 o Gf 132 [none, none] [] G) : ∀ (n : Nat) (G : gH) (x0 : Nat) (x1 : Int32), f_I_init_L84 K132 n G x0 x1 = some (o, Gf) → Y (zVm l D B O) m_I_init 2 o Gf 84 [some (.ref x0), some (.int x1)] [] G := by
  have hdd : lSa m_I_init 84 [(.iload_n 1, 0), (.bipush 6, nI 6)] = true ∧ lIa m_I_init 87 (.if_icmp .ge 45) 3 = true ∧ lSa m_I_init 90 [(.aload_n 0, 0)] = true ∧ lIa m_I_init 91 (.getfield 20) 3 = true ∧ lSa m_I_init 94 [(.iload_n 1, 0), (.iload_n 1, 0), (.iconst 2, nI 2)] = true ∧ lIa m_I_init 97 (.if_icmp .ge 7) 3 = true ∧ lSa m_I_init 104 [(.iconst (-1), -1)] = true ∧ lIa m_I_init 105 (.invokevirtual 35) 3 = true ∧ lSa m_I_init 108 [(.aload_n 0, 0)] = true ∧ lIa m_I_init 109 (.getfield 23) 3 = true ∧ lSa m_I_init 112 [(.iload_n 1, 0), (.iconst (-1), -1)] = true ∧ lIa m_I_init 114 (.invokevirtual 35) 3 = true ∧ lSa m_I_init 117 [(.aload_n 0, 0)] = true ∧ lIa m_I_init 118 (.getfield 26) 3 = true ∧ lSa m_I_init 121 [(.iload_n 1, 0), (.iload_n 1, 0)] = true ∧ lIa m_I_init 123 (.invokevirtual 35) 3 = true ∧ lSa m_I_init 126 [(.iinc 1 1, nI 1)] = true ∧ lIa m_I_init 129 (.goto (-45)) 3 = true ∧ lSa m_I_init 100 [(.iconst 0, nI 0)] = true ∧ lIa m_I_init 101 (.goto 4) 3 = true := by decide +kernel
  refine lA8 hdd (fun dd0 dd1 dd2 dd3 dd4 dd5 dd6 dd7 hdd => ?_)
  refine lA8 hdd (fun dd8 dd9 dd10 dd11 dd12 dd13 dd14 dd15 hdd => ?_)
  obtain ⟨dd16, dd17, dd18, dd19⟩ := hdd
  intro n
  induction n with
  | zero => intro G x0 x1 h; cases h
  | succ n ih =>
    intro G x0 x1 h
    unfold f_I_init_L84 at h
    refine Y.blk (pc' := 87) (L' := [some (.ref x0), some (.int x1)]) (st' := [.int (nI 6), .int x1]) (sg := [(.iload_n 1, 0), (.bipush 6, nI 6)]) (lSa_ok dd0) rfl ?_
    refine Y.ic_ge (off := 45) (tgt := 132) (lIa_ok dd1) (by decide) h (fun c61 h => ?_) (fun c61 h => ?_)
    · refine Y.less (L' := [none, none]) (zLe_none (zLe_none (zLe_nil))) ?_
      exact hK132 G  h
    · refine Y.blk (pc' := 91) (L' := [some (.ref x0), some (.int x1)]) (st' := [.ref x0]) (sg := [(.aload_n 0, 0)]) (lSa_ok dd2) rfl ?_
      refine Y.getA fl_I_20 (lIa_ok dd3) h (fun v31 h => ?_)
      refine Y.blk (pc' := 97) (L' := [some (.ref x0), some (.int x1)]) (st' := [.int (nI 2), .int x1, .int x1, .ref v31]) (sg := [(.iload_n 1, 0), (.iload_n 1, 0), (.iconst 2, nI 2)]) (lSa_ok dd4) rfl ?_
      refine Y.ic_ge (off := 7) (tgt := 104) (lIa_ok dd5) (by decide) h (fun c60 h => ?_) (fun c60 h => ?_)
      · refine Y.blk (pc' := 105) (L' := [some (.ref x0), some (.int x1)]) (st' := [.int (-1), .int x1, .ref v31]) (sg := [(.iconst (-1), -1)]) (lSa_ok dd6) rfl ?_
        obtain ⟨_, o33, e32, m34, h⟩ := gOb_inv h
        refine Y.callN (yC.Vi (b := v31) (As := [.int x1, .int (-1)]) (st := []) (r := ("Partlister$Numbers", T_N, 1)) hV.1 cb_N_write lk_I_35 in_N_write rfl se_N_write (lIa_ok dd7) rfl rfl (Nat.le_of_ble_eq_true rfl) (by decide) e32 m34) (k_N_write hV G v31 x1 (-1)) h (fun G35 _ h => ?_)
        refine Y.blk (pc' := 109) (L' := [some (.ref x0), some (.int x1)]) (st' := [.ref x0]) (sg := [(.aload_n 0, 0)]) (lSa_ok dd8) rfl ?_
        refine Y.getA fl_I_23 (lIa_ok dd9) h (fun v36 h => ?_)
        refine Y.blk (pc' := 114) (L' := [some (.ref x0), some (.int x1)]) (st' := [.int (-1), .int x1, .ref v36]) (sg := [(.iload_n 1, 0), (.iconst (-1), -1)]) (lSa_ok dd10) rfl ?_
        obtain ⟨_, o38, e37, m39, h⟩ := gOb_inv h
        refine Y.callN (yC.Vi (b := v36) (As := [.int x1, .int (-1)]) (st := []) (r := ("Partlister$Numbers", T_N, 1)) hV.1 cb_N_write lk_I_35 in_N_write rfl se_N_write (lIa_ok dd11) rfl rfl (Nat.le_of_ble_eq_true rfl) (by decide) e37 m39) (k_N_write hV G35 v36 x1 (-1)) h (fun G40 _ h => ?_)
        refine Y.blk (pc' := 118) (L' := [some (.ref x0), some (.int x1)]) (st' := [.ref x0]) (sg := [(.aload_n 0, 0)]) (lSa_ok dd12) rfl ?_
        refine Y.getA fl_I_26 (lIa_ok dd13) h (fun v41 h => ?_)
        refine Y.blk (pc' := 123) (L' := [some (.ref x0), some (.int x1)]) (st' := [.int x1, .int x1, .ref v41]) (sg := [(.iload_n 1, 0), (.iload_n 1, 0)]) (lSa_ok dd14) rfl ?_
        obtain ⟨_, o43, e42, m44, h⟩ := gOb_inv h
        refine Y.callN (yC.Vi (b := v41) (As := [.int x1, .int x1]) (st := []) (r := ("Partlister$Numbers", T_N, 1)) hV.1 cb_N_write lk_I_35 in_N_write rfl se_N_write (lIa_ok dd15) rfl rfl (Nat.le_of_ble_eq_true rfl) (by decide) e42 m44) (k_N_write hV G40 v41 x1 x1) h (fun G45 _ h => ?_)
        refine Y.blk (pc' := 129) (L' := [some (.ref x0), some (.int (x1 + (nI 1)))]) (st' := []) (sg := [(.iinc 1 1, nI 1)]) (lSa_ok dd16) rfl ?_
        refine Y.goto (off := -45) (tgt := 84) (lIa_ok dd17) (by decide) ?_
        exact ih G45 x0 (x1 + (nI 1)) h
      · refine Y.blk (pc' := 101) (L' := [some (.ref x0), some (.int x1)]) (st' := [.int (nI 0), .int x1, .ref v31]) (sg := [(.iconst 0, nI 0)]) (lSa_ok dd18) rfl ?_
        refine Y.goto (off := 4) (tgt := 105) (lIa_ok dd19) (by decide) ?_
        obtain ⟨_, o47, e46, m48, h⟩ := gOb_inv h
        refine Y.callN (yC.Vi (b := v31) (As := [.int x1, .int (nI 0)]) (st := []) (r := ("Partlister$Numbers", T_N, 1)) hV.1 cb_N_write lk_I_35 in_N_write rfl se_N_write (lIa_ok dd7) rfl rfl (Nat.le_of_ble_eq_true rfl) (by decide) e46 m48) (k_N_write hV G v31 x1 (nI 0)) h (fun G49 _ h => ?_)
        refine Y.blk (pc' := 109) (L' := [some (.ref x0), some (.int x1)]) (st' := [.ref x0]) (sg := [(.aload_n 0, 0)]) (lSa_ok dd8) rfl ?_
        refine Y.getA fl_I_23 (lIa_ok dd9) h (fun v50 h => ?_)
        refine Y.blk (pc' := 114) (L' := [some (.ref x0), some (.int x1)]) (st' := [.int (-1), .int x1, .ref v50]) (sg := [(.iload_n 1, 0), (.iconst (-1), -1)]) (lSa_ok dd10) rfl ?_
        obtain ⟨_, o52, e51, m53, h⟩ := gOb_inv h
        refine Y.callN (yC.Vi (b := v50) (As := [.int x1, .int (-1)]) (st := []) (r := ("Partlister$Numbers", T_N, 1)) hV.1 cb_N_write lk_I_35 in_N_write rfl se_N_write (lIa_ok dd11) rfl rfl (Nat.le_of_ble_eq_true rfl) (by decide) e51 m53) (k_N_write hV G49 v50 x1 (-1)) h (fun G54 _ h => ?_)
        refine Y.blk (pc' := 118) (L' := [some (.ref x0), some (.int x1)]) (st' := [.ref x0]) (sg := [(.aload_n 0, 0)]) (lSa_ok dd12) rfl ?_
        refine Y.getA fl_I_26 (lIa_ok dd13) h (fun v55 h => ?_)
        refine Y.blk (pc' := 123) (L' := [some (.ref x0), some (.int x1)]) (st' := [.int x1, .int x1, .ref v55]) (sg := [(.iload_n 1, 0), (.iload_n 1, 0)]) (lSa_ok dd14) rfl ?_
        obtain ⟨_, o57, e56, m58, h⟩ := gOb_inv h
        refine Y.callN (yC.Vi (b := v55) (As := [.int x1, .int x1]) (st := []) (r := ("Partlister$Numbers", T_N, 1)) hV.1 cb_N_write lk_I_35 in_N_write rfl se_N_write (lIa_ok dd15) rfl rfl (Nat.le_of_ble_eq_true rfl) (by decide) e56 m58) (k_N_write hV G54 v55 x1 x1) h (fun G59 _ h => ?_)
        refine Y.blk (pc' := 129) (L' := [some (.ref x0), some (.int (x1 + (nI 1)))]) (st' := []) (sg := [(.iinc 1 1, nI 1)]) (lSa_ok dd16) rfl ?_
        refine Y.goto (off := -45) (tgt := 84) (lIa_ok dd17) (by decide) ?_
        exact ih G59 x0 (x1 + (nI 1)) h
theorem k_I_init {l : Launch} {D : va_G} {B : Nat} {O : State → Heap → Prop} (hV : zG l D B O) (G : gH) (a0 : Nat) : gMet (zVm l D B O) m_I_init 2 [.ref a0] G (f_I_init G a0) := by
  have hdd : lSa m_I_init 0 [(.aload_n 0, 0)] = true ∧ lIa m_I_init 1 (.invokespecial 3) 3 = true ∧ lSa m_I_init 4 [(.aload_n 0, 0)] = true ∧ lIa m_I_init 5 (.new 9) 3 = true ∧ lSa m_I_init 8 [(.dup, 0), (.bipush 62, nI 62)] = true ∧ lIa m_I_init 11 (.invokespecial 11) 3 = true ∧ lIa m_I_init 14 (.putfield 14) 3 = true ∧ lSa m_I_init 17 [(.aload_n 0, 0)] = true ∧ lIa m_I_init 18 (.new 9) 3 = true ∧ lSa m_I_init 21 [(.dup, 0), (.bipush 6, nI 6)] = true ∧ lIa m_I_init 24 (.invokespecial 11) 3 = true ∧ lIa m_I_init 27 (.putfield 20) 3 = true ∧ lSa m_I_init 30 [(.aload_n 0, 0)] = true ∧ lIa m_I_init 31 (.new 9) 3 = true ∧ lSa m_I_init 34 [(.dup, 0), (.bipush 6, nI 6)] = true ∧ lIa m_I_init 37 (.invokespecial 11) 3 = true ∧ lIa m_I_init 40 (.putfield 23) 3 = true ∧ lSa m_I_init 43 [(.aload_n 0, 0)] = true ∧ lIa m_I_init 44 (.new 9) 3 = true ∧ lSa m_I_init 47 [(.dup, 0), (.bipush 6, nI 6)] = true ∧ lIa m_I_init 50 (.invokespecial 11) 3 = true ∧ lIa m_I_init 53 (.putfield 26) 3 = true ∧ lSa m_I_init 56 [(.aload_n 0, 0)] = true ∧ lIa m_I_init 57 (.new 9) 3 = true ∧ lSa m_I_init 60 [(.dup, 0), (.bipush 6, nI 6)] = true ∧ lIa m_I_init 63 (.invokespecial 11) 3 = true ∧ lIa m_I_init 66 (.putfield 29) 3 = true ∧ lSa m_I_init 69 [(.aload_n 0, 0)] = true ∧ lIa m_I_init 70 (.new 9) 3 = true ∧ lSa m_I_init 73 [(.dup, 0), (.bipush 31, nI 31)] = true ∧ lIa m_I_init 76 (.invokespecial 11) 3 = true ∧ lIa m_I_init 79 (.putfield 32) 3 = true ∧ lSa m_I_init 82 [(.iconst 0, nI 0), (.istore_n 1, 0)] = true ∧ lIa m_I_init 132 (.return_) 1 = true := by decide +kernel
  refine lA8 hdd (fun dd0 dd1 dd2 dd3 dd4 dd5 dd6 dd7 hdd => ?_)
  refine lA8 hdd (fun dd8 dd9 dd10 dd11 dd12 dd13 dd14 dd15 hdd => ?_)
  refine lA8 hdd (fun dd16 dd17 dd18 dd19 dd20 dd21 dd22 dd23 hdd => ?_)
  refine lA8 hdd (fun dd24 dd25 dd26 dd27 dd28 dd29 dd30 dd31 hdd => ?_)
  obtain ⟨dd32, dd33⟩ := hdd
  refine gMet.of (by decide +kernel) (Nat.le_of_ble_eq_true rfl) [some (.ref a0), none] (fun ls h => zEn_ok (n := 2) h) ?_
  intro o Gf h
  unfold f_I_init at h
  refine Y.blk (pc' := 1) (L' := [some (.ref a0), none]) (st' := [.ref a0]) (sg := [(.aload_n 0, 0)]) (lSa_ok dd0) rfl ?_
  refine Y.objInit lk_I_3 in_OJ_init cw_OJ_init (by decide) rfl (Nat.le_of_ble_eq_true rfl) (lIa_ok dd1) ?_
  refine Y.blk (pc' := 5) (L' := [some (.ref a0), none]) (st' := [.ref a0]) (sg := [(.aload_n 0, 0)]) (lSa_ok dd2) rfl ?_
  refine Y.new nc_I_9 (by decide) bk_N (lIa_ok dd3) h (fun a1 G2 h => ?_)
  refine Y.blk (pc' := 11) (L' := [some (.ref a0), none]) (st' := [.int (nI 62), .ref a1, .ref a1, .ref a0]) (sg := [(.dup, 0), (.bipush 62, nI 62)]) (lSa_ok dd4) rfl ?_
  refine Y.callN (yC.I (b := a1) (As := [.int (nI 62)]) (st := [.ref a1, .ref a0]) hV.1 cb_N_init lk_I_11 in_N_init rfl rfl (lIa_ok dd5) rfl rfl (Nat.le_of_ble_eq_true rfl) (by decide)) (k_N_init hV G2 a1 (nI 62)) h (fun G4 _ h => ?_)
  refine Y.putF fl_I_14 rfl (by decide) rfl rfl (lIa_ok dd6) h (fun G5 _ _ h => ?_)
  refine Y.blk (pc' := 18) (L' := [some (.ref a0), none]) (st' := [.ref a0]) (sg := [(.aload_n 0, 0)]) (lSa_ok dd7) rfl ?_
  refine Y.new nc_I_9 (by decide) bk_N (lIa_ok dd8) h (fun a6 G7 h => ?_)
  refine Y.blk (pc' := 24) (L' := [some (.ref a0), none]) (st' := [.int (nI 6), .ref a6, .ref a6, .ref a0]) (sg := [(.dup, 0), (.bipush 6, nI 6)]) (lSa_ok dd9) rfl ?_
  refine Y.callN (yC.I (b := a6) (As := [.int (nI 6)]) (st := [.ref a6, .ref a0]) hV.1 cb_N_init lk_I_11 in_N_init rfl rfl (lIa_ok dd10) rfl rfl (Nat.le_of_ble_eq_true rfl) (by decide)) (k_N_init hV G7 a6 (nI 6)) h (fun G9 _ h => ?_)
  refine Y.putF fl_I_20 rfl (by decide) rfl rfl (lIa_ok dd11) h (fun G10 _ _ h => ?_)
  refine Y.blk (pc' := 31) (L' := [some (.ref a0), none]) (st' := [.ref a0]) (sg := [(.aload_n 0, 0)]) (lSa_ok dd12) rfl ?_
  refine Y.new nc_I_9 (by decide) bk_N (lIa_ok dd13) h (fun a11 G12 h => ?_)
  refine Y.blk (pc' := 37) (L' := [some (.ref a0), none]) (st' := [.int (nI 6), .ref a11, .ref a11, .ref a0]) (sg := [(.dup, 0), (.bipush 6, nI 6)]) (lSa_ok dd14) rfl ?_
  refine Y.callN (yC.I (b := a11) (As := [.int (nI 6)]) (st := [.ref a11, .ref a0]) hV.1 cb_N_init lk_I_11 in_N_init rfl rfl (lIa_ok dd15) rfl rfl (Nat.le_of_ble_eq_true rfl) (by decide)) (k_N_init hV G12 a11 (nI 6)) h (fun G14 _ h => ?_)
  refine Y.putF fl_I_23 rfl (by decide) rfl rfl (lIa_ok dd16) h (fun G15 _ _ h => ?_)
  refine Y.blk (pc' := 44) (L' := [some (.ref a0), none]) (st' := [.ref a0]) (sg := [(.aload_n 0, 0)]) (lSa_ok dd17) rfl ?_
  refine Y.new nc_I_9 (by decide) bk_N (lIa_ok dd18) h (fun a16 G17 h => ?_)
  refine Y.blk (pc' := 50) (L' := [some (.ref a0), none]) (st' := [.int (nI 6), .ref a16, .ref a16, .ref a0]) (sg := [(.dup, 0), (.bipush 6, nI 6)]) (lSa_ok dd19) rfl ?_
  refine Y.callN (yC.I (b := a16) (As := [.int (nI 6)]) (st := [.ref a16, .ref a0]) hV.1 cb_N_init lk_I_11 in_N_init rfl rfl (lIa_ok dd20) rfl rfl (Nat.le_of_ble_eq_true rfl) (by decide)) (k_N_init hV G17 a16 (nI 6)) h (fun G19 _ h => ?_)
  refine Y.putF fl_I_26 rfl (by decide) rfl rfl (lIa_ok dd21) h (fun G20 _ _ h => ?_)
  refine Y.blk (pc' := 57) (L' := [some (.ref a0), none]) (st' := [.ref a0]) (sg := [(.aload_n 0, 0)]) (lSa_ok dd22) rfl ?_
  refine Y.new nc_I_9 (by decide) bk_N (lIa_ok dd23) h (fun a21 G22 h => ?_)
  refine Y.blk (pc' := 63) (L' := [some (.ref a0), none]) (st' := [.int (nI 6), .ref a21, .ref a21, .ref a0]) (sg := [(.dup, 0), (.bipush 6, nI 6)]) (lSa_ok dd24) rfl ?_
  refine Y.callN (yC.I (b := a21) (As := [.int (nI 6)]) (st := [.ref a21, .ref a0]) hV.1 cb_N_init lk_I_11 in_N_init rfl rfl (lIa_ok dd25) rfl rfl (Nat.le_of_ble_eq_true rfl) (by decide)) (k_N_init hV G22 a21 (nI 6)) h (fun G24 _ h => ?_)
  refine Y.putF fl_I_29 rfl (by decide) rfl rfl (lIa_ok dd26) h (fun G25 _ _ h => ?_)
  refine Y.blk (pc' := 70) (L' := [some (.ref a0), none]) (st' := [.ref a0]) (sg := [(.aload_n 0, 0)]) (lSa_ok dd27) rfl ?_
  refine Y.new nc_I_9 (by decide) bk_N (lIa_ok dd28) h (fun a26 G27 h => ?_)
  refine Y.blk (pc' := 76) (L' := [some (.ref a0), none]) (st' := [.int (nI 31), .ref a26, .ref a26, .ref a0]) (sg := [(.dup, 0), (.bipush 31, nI 31)]) (lSa_ok dd29) rfl ?_
  refine Y.callN (yC.I (b := a26) (As := [.int (nI 31)]) (st := [.ref a26, .ref a0]) hV.1 cb_N_init lk_I_11 in_N_init rfl rfl (lIa_ok dd30) rfl rfl (Nat.le_of_ble_eq_true rfl) (by decide)) (k_N_init hV G27 a26 (nI 31)) h (fun G29 _ h => ?_)
  refine Y.putF fl_I_32 rfl (by decide) rfl rfl (lIa_ok dd31) h (fun G30 _ _ h => ?_)
  refine Y.blk (pc' := 84) (L' := [some (.ref a0), some (.int (nI 0))]) (st' := []) (sg := [(.iconst 0, nI 0), (.istore_n 1, 0)]) (lSa_ok dd32) rfl ?_
  refine k_I_init_L84 hV _ ?_  zFu G30 a0 (nI 0) h
  · intro G62 h
    exact Y.vret rfl (lIa_ok dd33) h

def f_X_init (G : gH) (a0 : Nat) : gR :=
  gNewO G 1 7 [.null, .null, .null, .null, .null, .null, .int 0] fun a1 G2 => bV (f_I_init G2 a1) fun G4 => gPut G4 a0 3 0 (.ref a1) fun G5 => gNewO G5 0 5 [.null, .null, .null, .null, .int 0] fun a6 G7 => bV (f_U_init G7 a6) fun G9 => gPut G9 a0 3 1 (.ref a6) fun G10 => rV G10
theorem k_X_init {l : Launch} {D : va_G} {B : Nat} {O : State → Heap → Prop} (hV : zG l D B O) (G : gH) (a0 : Nat) : gMet (zVm l D B O) m_X_init 3 [.ref a0] G (f_X_init G a0) := by
  have hdd : lSa m_X_init 0 [(.aload_n 0, 0)] = true ∧ lIa m_X_init 1 (.invokespecial 1) 3 = true ∧ lSa m_X_init 4 [(.aload_n 0, 0)] = true ∧ lIa m_X_init 5 (.new 7) 3 = true ∧ lSa m_X_init 8 [(.dup, 0)] = true ∧ lIa m_X_init 9 (.invokespecial 9) 3 = true ∧ lIa m_X_init 12 (.putfield 10) 3 = true ∧ lSa m_X_init 15 [(.aload_n 0, 0)] = true ∧ lIa m_X_init 16 (.new 16) 3 = true ∧ lSa m_X_init 19 [(.dup, 0)] = true ∧ lIa m_X_init 20 (.invokespecial 18) 3 = true ∧ lIa m_X_init 23 (.putfield 19) 3 = true ∧ lIa m_X_init 26 (.return_) 1 = true := by decide +kernel
  refine lA8 hdd (fun dd0 dd1 dd2 dd3 dd4 dd5 dd6 dd7 hdd => ?_)
  obtain ⟨dd8, dd9, dd10, dd11, dd12⟩ := hdd
  refine gMet.of (by decide +kernel) (Nat.le_of_ble_eq_true rfl) [some (.ref a0)] (fun ls h => zEn_ok (n := 1) h) ?_
  intro o Gf h
  unfold f_X_init at h
  refine Y.blk (pc' := 1) (L' := [some (.ref a0)]) (st' := [.ref a0]) (sg := [(.aload_n 0, 0)]) (lSa_ok dd0) rfl ?_
  refine Y.objInit lk_X_1 in_OJ_init cw_OJ_init (by decide) rfl (Nat.le_of_ble_eq_true rfl) (lIa_ok dd1) ?_
  refine Y.blk (pc' := 5) (L' := [some (.ref a0)]) (st' := [.ref a0]) (sg := [(.aload_n 0, 0)]) (lSa_ok dd2) rfl ?_
  refine Y.new nc_X_7 (by decide) bk_I (lIa_ok dd3) h (fun a1 G2 h => ?_)
  refine Y.blk (pc' := 9) (L' := [some (.ref a0)]) (st' := [.ref a1, .ref a1, .ref a0]) (sg := [(.dup, 0)]) (lSa_ok dd4) rfl ?_
  refine Y.callN (yC.I (b := a1) (As := []) (st := [.ref a1, .ref a0]) hV.1 cb_I_init lk_X_9 in_I_init rfl rfl (lIa_ok dd5) rfl rfl (Nat.le_of_ble_eq_true rfl) (by decide)) (k_I_init hV G2 a1) h (fun G4 _ h => ?_)
  refine Y.putF fl_X_10 rfl (by decide) rfl rfl (lIa_ok dd6) h (fun G5 _ _ h => ?_)
  refine Y.blk (pc' := 16) (L' := [some (.ref a0)]) (st' := [.ref a0]) (sg := [(.aload_n 0, 0)]) (lSa_ok dd7) rfl ?_
  refine Y.new nc_X_16 (by decide) bk_U (lIa_ok dd8) h (fun a6 G7 h => ?_)
  refine Y.blk (pc' := 20) (L' := [some (.ref a0)]) (st' := [.ref a6, .ref a6, .ref a0]) (sg := [(.dup, 0)]) (lSa_ok dd9) rfl ?_
  refine Y.callN (yC.IN (b := a6) (As := []) (st := [.ref a6, .ref a0]) hV.1 cb_U_init lk_X_18 in_U_init rfl rfl (lIa_ok dd10) rfl rfl (Nat.le_of_ble_eq_true rfl) (by decide)) (k_U_init hV G7 a6) h (fun G9 _ h => ?_)
  refine Y.putF fl_X_19 rfl (by decide) rfl rfl (lIa_ok dd11) h (fun G10 _ _ h => ?_)
  exact Y.vret rfl (lIa_ok dd12) h

def f_N_read (G : gH) (a0 : Nat) (a1 : Int32) : gR :=
  if a1 < 0 then rI (-1) G
  else gFA G a0 2 0 fun v1 => gLen G v1 100 fun v2 => if v2 ≤ a1 then rI (-1) G
    else gFA G a0 2 0 fun v3 => gLd G v3 100 a1 fun v4 => rI v4 G
theorem k_N_read {l : Launch} {D : va_G} {B : Nat} {O : State → Heap → Prop} (hV : zG l D B O) (G : gH) (a0 : Nat) (a1 : Int32) : gMet (zVm l D B O) m_N_read 1 [.ref a0, .int a1] G (f_N_read G a0 a1) := by
  have hdd : lSa m_N_read 0 [(.iload_n 1, 0)] = true ∧ lIa m_N_read 1 (.ifCond .lt 21) 3 = true ∧ lSa m_N_read 22 [(.iconst (-1), -1)] = true ∧ lIa m_N_read 23 (.ireturn) 1 = true ∧ lSa m_N_read 4 [(.iload_n 1, 0), (.aload_n 0, 0)] = true ∧ lIa m_N_read 6 (.getfield 9) 3 = true ∧ lIa m_N_read 9 (.arraylength) 1 = true ∧ lIa m_N_read 10 (.if_icmp .ge 12) 3 = true ∧ lSa m_N_read 13 [(.aload_n 0, 0)] = true ∧ lIa m_N_read 14 (.getfield 9) 3 = true ∧ lSa m_N_read 17 [(.iload_n 1, 0)] = true ∧ lIa m_N_read 18 (.iaload) 1 = true ∧ lIa m_N_read 19 (.goto 4) 3 = true := by decide +kernel
  refine lA8 hdd (fun dd0 dd1 dd2 dd3 dd4 dd5 dd6 dd7 hdd => ?_)
  obtain ⟨dd8, dd9, dd10, dd11, dd12⟩ := hdd
  refine gMet.of (by decide +kernel) (Nat.le_of_ble_eq_true rfl) [some (.ref a0), some (.int a1)] (fun ls h => zEn_ok (n := 2) h) ?_
  intro o Gf h
  unfold f_N_read at h
  refine Y.blk (pc' := 1) (L' := [some (.ref a0), some (.int a1)]) (st' := [.int a1]) (sg := [(.iload_n 1, 0)]) (lSa_ok dd0) rfl ?_
  refine Y.if_lt (off := 21) (tgt := 22) (lIa_ok dd1) (by decide) h (fun c6 h => ?_) (fun c6 h => ?_)
  · refine Y.blk (pc' := 23) (L' := [some (.ref a0), some (.int a1)]) (st' := [.int (-1)]) (sg := [(.iconst (-1), -1)]) (lSa_ok dd2) rfl ?_
    exact Y.iret rfl (lIa_ok dd3) h
  · refine Y.blk (pc' := 6) (L' := [some (.ref a0), some (.int a1)]) (st' := [.ref a0, .int a1]) (sg := [(.iload_n 1, 0), (.aload_n 0, 0)]) (lSa_ok dd4) rfl ?_
    refine Y.getA fl_N_9 (lIa_ok dd5) h (fun v1 h => ?_)
    refine Y.alen (t0 := 0) (lIa_ok dd6) rfl h (fun v2 h => ?_)
    refine Y.ic_ge (off := 12) (tgt := 22) (lIa_ok dd7) (by decide) h (fun c5 h => ?_) (fun c5 h => ?_)
    · refine Y.blk (pc' := 23) (L' := [some (.ref a0), some (.int a1)]) (st' := [.int (-1)]) (sg := [(.iconst (-1), -1)]) (lSa_ok dd2) rfl ?_
      exact Y.iret rfl (lIa_ok dd3) h
    · refine Y.blk (pc' := 14) (L' := [some (.ref a0), some (.int a1)]) (st' := [.ref a0]) (sg := [(.aload_n 0, 0)]) (lSa_ok dd8) rfl ?_
      refine Y.getA fl_N_9 (lIa_ok dd9) h (fun v3 h => ?_)
      refine Y.blk (pc' := 18) (L' := [some (.ref a0), some (.int a1)]) (st' := [.int a1, .ref v3]) (sg := [(.iload_n 1, 0)]) (lSa_ok dd10) rfl ?_
      refine Y.iald (t0 := 0) (lIa_ok dd11) rfl h (fun v4 h => ?_)
      refine Y.goto (off := 4) (tgt := 23) (lIa_ok dd12) (by decide) ?_
      exact Y.iret rfl (lIa_ok dd3) h

def f_U_isStale (G : gH) (a0 : Nat) (a1 : Int32) : gR :=
  gFA G a0 0 0 fun v1 => gOb G v1 2 fun o3 => bI (f_N_read G v1 a1) fun v6 G5 => if v6 = (nI 2) then rZ (nI 1) G5
  else rZ (nI 0) G5
theorem k_U_isStale {l : Launch} {D : va_G} {B : Nat} {O : State → Heap → Prop} (hV : zG l D B O) (G : gH) (a0 : Nat) (a1 : Int32) : gMet (zVm l D B O) m_U_isStale 2 [.ref a0, .int a1] G (f_U_isStale G a0 a1) := by
  have hdd : lSa m_U_isStale 0 [(.aload_n 0, 0)] = true ∧ lIa m_U_isStale 1 (.getfield 14) 3 = true ∧ lSa m_U_isStale 4 [(.iload_n 1, 0)] = true ∧ lIa m_U_isStale 5 (.invokevirtual 33) 3 = true ∧ lSa m_U_isStale 8 [(.iconst 2, nI 2)] = true ∧ lIa m_U_isStale 9 (.if_icmp .ne 7) 3 = true ∧ lSa m_U_isStale 12 [(.iconst 1, nI 1)] = true ∧ lIa m_U_isStale 13 (.goto 4) 3 = true ∧ lIa m_U_isStale 17 (.ireturn) 1 = true ∧ lSa m_U_isStale 16 [(.iconst 0, nI 0)] = true := by decide +kernel
  refine lA8 hdd (fun dd0 dd1 dd2 dd3 dd4 dd5 dd6 dd7 hdd => ?_)
  obtain ⟨dd8, dd9⟩ := hdd
  refine gMet.of (by decide +kernel) (Nat.le_of_ble_eq_true rfl) [some (.ref a0), some (.int a1)] (fun ls h => zEn_ok (n := 2) h) ?_
  intro o Gf h
  unfold f_U_isStale at h
  refine Y.blk (pc' := 1) (L' := [some (.ref a0), some (.int a1)]) (st' := [.ref a0]) (sg := [(.aload_n 0, 0)]) (lSa_ok dd0) rfl ?_
  refine Y.getA fl_U_14 (lIa_ok dd1) h (fun v1 h => ?_)
  refine Y.blk (pc' := 5) (L' := [some (.ref a0), some (.int a1)]) (st' := [.int a1, .ref v1]) (sg := [(.iload_n 1, 0)]) (lSa_ok dd2) rfl ?_
  obtain ⟨_, o3, e2, m4, h⟩ := gOb_inv h
  refine Y.callI (yC.Vi (b := v1) (As := [.int a1]) (st := []) (r := ("Partlister$Numbers", T_N, 1)) hV.1 cb_N_read lk_U_33 in_N_read rfl se_N_read (lIa_ok dd3) rfl rfl (Nat.le_of_ble_eq_true rfl) (by decide) e2 m4) (k_N_read hV G v1 a1) h (fun v6 G5 _ h => ?_)
  refine Y.blk (pc' := 9) (L' := [some (.ref a0), some (.int a1)]) (st' := [.int (nI 2), .int v6]) (sg := [(.iconst 2, nI 2)]) (lSa_ok dd4) rfl ?_
  refine Y.ic_ne (off := 7) (tgt := 16) (lIa_ok dd5) (by decide) h (fun c7 h => ?_) (fun c7 h => ?_)
  · refine Y.blk (pc' := 13) (L' := [some (.ref a0), some (.int a1)]) (st' := [.int (nI 1)]) (sg := [(.iconst 1, nI 1)]) (lSa_ok dd6) rfl ?_
    refine Y.goto (off := 4) (tgt := 17) (lIa_ok dd7) (by decide) ?_
    exact Y.zret rfl (lIa_ok dd8) h
  · refine Y.blk (pc' := 17) (L' := [some (.ref a0), some (.int a1)]) (st' := [.int (nI 0)]) (sg := [(.iconst 0, nI 0)]) (lSa_ok dd9) rfl ?_
    exact Y.zret rfl (lIa_ok dd8) h

def f_U_isThere (G : gH) (a0 : Nat) (a1 : Int32) : gR :=
  gOb G a0 0 fun o2 => bI (f_U_isStale G a0 a1) fun v5 G4 => if v5 = 0 then (gFA G4 a0 0 0 fun v6 => gOb G4 v6 2 fun o8 => bI (f_N_read G4 v6 a1) fun v11 G10 => if v11 = (nI 1) then rZ (nI 1) G10
    else rZ (nI 0) G10)
  else rZ (nI 1) G4
theorem k_U_isThere {l : Launch} {D : va_G} {B : Nat} {O : State → Heap → Prop} (hV : zG l D B O) (G : gH) (a0 : Nat) (a1 : Int32) : gMet (zVm l D B O) m_U_isThere 3 [.ref a0, .int a1] G (f_U_isThere G a0 a1) := by
  have hdd : lSa m_U_isThere 0 [(.aload_n 0, 0), (.iload_n 1, 0)] = true ∧ lIa m_U_isThere 2 (.invokevirtual 29) 3 = true ∧ lIa m_U_isThere 5 (.ifCond .ne 15) 3 = true ∧ lSa m_U_isThere 8 [(.aload_n 0, 0)] = true ∧ lIa m_U_isThere 9 (.getfield 14) 3 = true ∧ lSa m_U_isThere 12 [(.iload_n 1, 0)] = true ∧ lIa m_U_isThere 13 (.invokevirtual 33) 3 = true ∧ lSa m_U_isThere 16 [(.iconst 1, nI 1)] = true ∧ lIa m_U_isThere 17 (.if_icmp .ne 7) 3 = true ∧ lSa m_U_isThere 20 [(.iconst 1, nI 1)] = true ∧ lIa m_U_isThere 21 (.goto 4) 3 = true ∧ lIa m_U_isThere 25 (.ireturn) 1 = true ∧ lSa m_U_isThere 24 [(.iconst 0, nI 0)] = true := by decide +kernel
  refine lA8 hdd (fun dd0 dd1 dd2 dd3 dd4 dd5 dd6 dd7 hdd => ?_)
  obtain ⟨dd8, dd9, dd10, dd11, dd12⟩ := hdd
  refine gMet.of (by decide +kernel) (Nat.le_of_ble_eq_true rfl) [some (.ref a0), some (.int a1)] (fun ls h => zEn_ok (n := 2) h) ?_
  intro o Gf h
  unfold f_U_isThere at h
  refine Y.blk (pc' := 2) (L' := [some (.ref a0), some (.int a1)]) (st' := [.int a1, .ref a0]) (sg := [(.aload_n 0, 0), (.iload_n 1, 0)]) (lSa_ok dd0) rfl ?_
  obtain ⟨_, o2, e1, m3, h⟩ := gOb_inv h
  refine Y.callI (yC.Vi (b := a0) (As := [.int a1]) (st := []) (r := ("Partlister$Cursors", T_U, 5)) hV.1 cb_U_isStale lk_U_29 in_U_isStale rfl se_U_isStale (lIa_ok dd1) rfl rfl (Nat.le_of_ble_eq_true rfl) (by decide) e1 m3) (k_U_isStale hV G a0 a1) h (fun v5 G4 _ h => ?_)
  refine Y.if_ne (off := 15) (tgt := 20) (lIa_ok dd2) (by decide) h (fun c13 h => ?_) (fun c13 h => ?_)
  · refine Y.blk (pc' := 9) (L' := [some (.ref a0), some (.int a1)]) (st' := [.ref a0]) (sg := [(.aload_n 0, 0)]) (lSa_ok dd3) rfl ?_
    refine Y.getA fl_U_14 (lIa_ok dd4) h (fun v6 h => ?_)
    refine Y.blk (pc' := 13) (L' := [some (.ref a0), some (.int a1)]) (st' := [.int a1, .ref v6]) (sg := [(.iload_n 1, 0)]) (lSa_ok dd5) rfl ?_
    obtain ⟨_, o8, e7, m9, h⟩ := gOb_inv h
    refine Y.callI (yC.Vi (b := v6) (As := [.int a1]) (st := []) (r := ("Partlister$Numbers", T_N, 1)) hV.1 cb_N_read lk_U_33 in_N_read rfl se_N_read (lIa_ok dd6) rfl rfl (Nat.le_of_ble_eq_true rfl) (by decide) e7 m9) (k_N_read hV G4 v6 a1) h (fun v11 G10 _ h => ?_)
    refine Y.blk (pc' := 17) (L' := [some (.ref a0), some (.int a1)]) (st' := [.int (nI 1), .int v11]) (sg := [(.iconst 1, nI 1)]) (lSa_ok dd7) rfl ?_
    refine Y.ic_ne (off := 7) (tgt := 24) (lIa_ok dd8) (by decide) h (fun c12 h => ?_) (fun c12 h => ?_)
    · refine Y.blk (pc' := 21) (L' := [some (.ref a0), some (.int a1)]) (st' := [.int (nI 1)]) (sg := [(.iconst 1, nI 1)]) (lSa_ok dd9) rfl ?_
      refine Y.goto (off := 4) (tgt := 25) (lIa_ok dd10) (by decide) ?_
      exact Y.zret rfl (lIa_ok dd11) h
    · refine Y.blk (pc' := 25) (L' := [some (.ref a0), some (.int a1)]) (st' := [.int (nI 0)]) (sg := [(.iconst 0, nI 0)]) (lSa_ok dd12) rfl ?_
      exact Y.zret rfl (lIa_ok dd11) h
  · refine Y.blk (pc' := 21) (L' := [some (.ref a0), some (.int a1)]) (st' := [.int (nI 1)]) (sg := [(.iconst 1, nI 1)]) (lSa_ok dd9) rfl ?_
    refine Y.goto (off := 4) (tgt := 25) (lIa_ok dd10) (by decide) ?_
    exact Y.zret rfl (lIa_ok dd11) h

def f_U_listOf (G : gH) (a0 : Nat) (a1 : Int32) : gR :=
  gFA G a0 0 1 fun v1 => gOb G v1 2 fun o3 => bI (f_N_read G v1 a1) fun v6 G5 => rI v6 G5
theorem k_U_listOf {l : Launch} {D : va_G} {B : Nat} {O : State → Heap → Prop} (hV : zG l D B O) (G : gH) (a0 : Nat) (a1 : Int32) : gMet (zVm l D B O) m_U_listOf 2 [.ref a0, .int a1] G (f_U_listOf G a0 a1) := by
  have hdd : lSa m_U_listOf 0 [(.aload_n 0, 0)] = true ∧ lIa m_U_listOf 1 (.getfield 20) 3 = true ∧ lSa m_U_listOf 4 [(.iload_n 1, 0)] = true ∧ lIa m_U_listOf 5 (.invokevirtual 33) 3 = true ∧ lIa m_U_listOf 8 (.ireturn) 1 = true := by decide +kernel
  obtain ⟨dd0, dd1, dd2, dd3, dd4⟩ := hdd
  refine gMet.of (by decide +kernel) (Nat.le_of_ble_eq_true rfl) [some (.ref a0), some (.int a1)] (fun ls h => zEn_ok (n := 2) h) ?_
  intro o Gf h
  unfold f_U_listOf at h
  refine Y.blk (pc' := 1) (L' := [some (.ref a0), some (.int a1)]) (st' := [.ref a0]) (sg := [(.aload_n 0, 0)]) (lSa_ok dd0) rfl ?_
  refine Y.getA fl_U_20 (lIa_ok dd1) h (fun v1 h => ?_)
  refine Y.blk (pc' := 5) (L' := [some (.ref a0), some (.int a1)]) (st' := [.int a1, .ref v1]) (sg := [(.iload_n 1, 0)]) (lSa_ok dd2) rfl ?_
  obtain ⟨_, o3, e2, m4, h⟩ := gOb_inv h
  refine Y.callI (yC.Vi (b := v1) (As := [.int a1]) (st := []) (r := ("Partlister$Numbers", T_N, 1)) hV.1 cb_N_read lk_U_33 in_N_read rfl se_N_read (lIa_ok dd3) rfl rfl (Nat.le_of_ble_eq_true rfl) (by decide) e2 m4) (k_N_read hV G v1 a1) h (fun v6 G5 _ h => ?_)
  exact Y.iret rfl (lIa_ok dd4) h

def f_I_rowOf (G : gH) (a0 : Nat) (a1 : Int32) : gR :=
  gFA G a0 1 3 fun v1 => gOb G v1 2 fun o3 => bI (f_N_read G v1 a1) fun v6 G5 => rI v6 G5
theorem k_I_rowOf {l : Launch} {D : va_G} {B : Nat} {O : State → Heap → Prop} (hV : zG l D B O) (G : gH) (a0 : Nat) (a1 : Int32) : gMet (zVm l D B O) m_I_rowOf 2 [.ref a0, .int a1] G (f_I_rowOf G a0 a1) := by
  have hdd : lSa m_I_rowOf 0 [(.aload_n 0, 0)] = true ∧ lIa m_I_rowOf 1 (.getfield 26) 3 = true ∧ lSa m_I_rowOf 4 [(.iload_n 1, 0)] = true ∧ lIa m_I_rowOf 5 (.invokevirtual 39) 3 = true ∧ lIa m_I_rowOf 8 (.ireturn) 1 = true := by decide +kernel
  obtain ⟨dd0, dd1, dd2, dd3, dd4⟩ := hdd
  refine gMet.of (by decide +kernel) (Nat.le_of_ble_eq_true rfl) [some (.ref a0), some (.int a1)] (fun ls h => zEn_ok (n := 2) h) ?_
  intro o Gf h
  unfold f_I_rowOf at h
  refine Y.blk (pc' := 1) (L' := [some (.ref a0), some (.int a1)]) (st' := [.ref a0]) (sg := [(.aload_n 0, 0)]) (lSa_ok dd0) rfl ?_
  refine Y.getA fl_I_26 (lIa_ok dd1) h (fun v1 h => ?_)
  refine Y.blk (pc' := 5) (L' := [some (.ref a0), some (.int a1)]) (st' := [.int a1, .ref v1]) (sg := [(.iload_n 1, 0)]) (lSa_ok dd2) rfl ?_
  obtain ⟨_, o3, e2, m4, h⟩ := gOb_inv h
  refine Y.callI (yC.Vi (b := v1) (As := [.int a1]) (st := []) (r := ("Partlister$Numbers", T_N, 1)) hV.1 cb_N_read lk_I_39 in_N_read rfl se_N_read (lIa_ok dd3) rfl rfl (Nat.le_of_ble_eq_true rfl) (by decide) e2 m4) (k_N_read hV G v1 a1) h (fun v6 G5 _ h => ?_)
  exact Y.iret rfl (lIa_ok dd4) h

def f_X_isOnRowOf (G : gH) (a0 : Nat) (a1 : Int32) (a2 : Int32) : gR :=
  gFA G a0 3 1 fun v1 => gOb G v1 0 fun o3 => bI (f_U_isThere G v1 a1) fun v6 G5 => if v6 = 0 then rZ (nI 0) G5
  else gFA G5 a0 3 0 fun v7 => gFA G5 a0 3 1 fun v8 => gOb G5 v8 0 fun o10 => bI (f_U_listOf G5 v8 a1) fun v13 G12 => gOb G12 v7 1 fun o15 => bI (f_I_rowOf G12 v7 v13) fun v18 G17 => gFA G17 a0 3 0 fun v19 => gOb G17 v19 1 fun o21 => bI (f_I_rowOf G17 v19 a2) fun v24 G23 => if v18 = v24 then rZ (nI 1) G23
    else rZ (nI 0) G23
theorem k_X_isOnRowOf {l : Launch} {D : va_G} {B : Nat} {O : State → Heap → Prop} (hV : zG l D B O) (G : gH) (a0 : Nat) (a1 : Int32) (a2 : Int32) : gMet (zVm l D B O) m_X_isOnRowOf 4 [.ref a0, .int a1, .int a2] G (f_X_isOnRowOf G a0 a1 a2) := by
  have hdd : lSa m_X_isOnRowOf 0 [(.aload_n 0, 0)] = true ∧ lIa m_X_isOnRowOf 1 (.getfield 19) 3 = true ∧ lSa m_X_isOnRowOf 4 [(.iload_n 1, 0)] = true ∧ lIa m_X_isOnRowOf 5 (.invokevirtual 148) 3 = true ∧ lIa m_X_isOnRowOf 8 (.ifCond .eq 33) 3 = true ∧ lSa m_X_isOnRowOf 41 [(.iconst 0, nI 0)] = true ∧ lIa m_X_isOnRowOf 42 (.ireturn) 1 = true ∧ lSa m_X_isOnRowOf 11 [(.aload_n 0, 0)] = true ∧ lIa m_X_isOnRowOf 12 (.getfield 10) 3 = true ∧ lSa m_X_isOnRowOf 15 [(.aload_n 0, 0)] = true ∧ lIa m_X_isOnRowOf 16 (.getfield 19) 3 = true ∧ lSa m_X_isOnRowOf 19 [(.iload_n 1, 0)] = true ∧ lIa m_X_isOnRowOf 20 (.invokevirtual 152) 3 = true ∧ lIa m_X_isOnRowOf 23 (.invokevirtual 299) 3 = true ∧ lSa m_X_isOnRowOf 26 [(.aload_n 0, 0)] = true ∧ lIa m_X_isOnRowOf 27 (.getfield 10) 3 = true ∧ lSa m_X_isOnRowOf 30 [(.iload_n 2, 0)] = true ∧ lIa m_X_isOnRowOf 31 (.invokevirtual 299) 3 = true ∧ lIa m_X_isOnRowOf 34 (.if_icmp .ne 7) 3 = true ∧ lSa m_X_isOnRowOf 37 [(.iconst 1, nI 1)] = true ∧ lIa m_X_isOnRowOf 38 (.goto 4) 3 = true := by decide +kernel
  refine lA8 hdd (fun dd0 dd1 dd2 dd3 dd4 dd5 dd6 dd7 hdd => ?_)
  refine lA8 hdd (fun dd8 dd9 dd10 dd11 dd12 dd13 dd14 dd15 hdd => ?_)
  obtain ⟨dd16, dd17, dd18, dd19, dd20⟩ := hdd
  refine gMet.of (by decide +kernel) (Nat.le_of_ble_eq_true rfl) [some (.ref a0), some (.int a1), some (.int a2)] (fun ls h => zEn_ok (n := 3) h) ?_
  intro o Gf h
  unfold f_X_isOnRowOf at h
  refine Y.blk (pc' := 1) (L' := [some (.ref a0), some (.int a1), some (.int a2)]) (st' := [.ref a0]) (sg := [(.aload_n 0, 0)]) (lSa_ok dd0) rfl ?_
  refine Y.getA fl_X_19 (lIa_ok dd1) h (fun v1 h => ?_)
  refine Y.blk (pc' := 5) (L' := [some (.ref a0), some (.int a1), some (.int a2)]) (st' := [.int a1, .ref v1]) (sg := [(.iload_n 1, 0)]) (lSa_ok dd2) rfl ?_
  obtain ⟨_, o3, e2, m4, h⟩ := gOb_inv h
  refine Y.callI (yC.Vi (b := v1) (As := [.int a1]) (st := []) (r := ("Partlister$Cursors", T_U, 5)) hV.1 cb_U_isThere lk_X_148 in_U_isThere rfl se_U_isThere (lIa_ok dd3) rfl rfl (Nat.le_of_ble_eq_true rfl) (by decide) e2 m4) (k_U_isThere hV G v1 a1) h (fun v6 G5 _ h => ?_)
  refine Y.if_eq (off := 33) (tgt := 41) (lIa_ok dd4) (by decide) h (fun c26 h => ?_) (fun c26 h => ?_)
  · refine Y.blk (pc' := 42) (L' := [some (.ref a0), some (.int a1), some (.int a2)]) (st' := [.int (nI 0)]) (sg := [(.iconst 0, nI 0)]) (lSa_ok dd5) rfl ?_
    exact Y.zret rfl (lIa_ok dd6) h
  · refine Y.blk (pc' := 12) (L' := [some (.ref a0), some (.int a1), some (.int a2)]) (st' := [.ref a0]) (sg := [(.aload_n 0, 0)]) (lSa_ok dd7) rfl ?_
    refine Y.getA fl_X_10 (lIa_ok dd8) h (fun v7 h => ?_)
    refine Y.blk (pc' := 16) (L' := [some (.ref a0), some (.int a1), some (.int a2)]) (st' := [.ref a0, .ref v7]) (sg := [(.aload_n 0, 0)]) (lSa_ok dd9) rfl ?_
    refine Y.getA fl_X_19 (lIa_ok dd10) h (fun v8 h => ?_)
    refine Y.blk (pc' := 20) (L' := [some (.ref a0), some (.int a1), some (.int a2)]) (st' := [.int a1, .ref v8, .ref v7]) (sg := [(.iload_n 1, 0)]) (lSa_ok dd11) rfl ?_
    obtain ⟨_, o10, e9, m11, h⟩ := gOb_inv h
    refine Y.callI (yC.Vi (b := v8) (As := [.int a1]) (st := [.ref v7]) (r := ("Partlister$Cursors", T_U, 5)) hV.1 cb_U_listOf lk_X_152 in_U_listOf rfl se_U_listOf (lIa_ok dd12) rfl rfl (Nat.le_of_ble_eq_true rfl) (by decide) e9 m11) (k_U_listOf hV G5 v8 a1) h (fun v13 G12 _ h => ?_)
    obtain ⟨_, o15, e14, m16, h⟩ := gOb_inv h
    refine Y.callI (yC.Vi (b := v7) (As := [.int v13]) (st := []) (r := ("Partlister$Lists", T_I, 7)) hV.1 cb_I_rowOf lk_X_299 in_I_rowOf rfl se_I_rowOf (lIa_ok dd13) rfl rfl (Nat.le_of_ble_eq_true rfl) (by decide) e14 m16) (k_I_rowOf hV G12 v7 v13) h (fun v18 G17 _ h => ?_)
    refine Y.blk (pc' := 27) (L' := [some (.ref a0), some (.int a1), some (.int a2)]) (st' := [.ref a0, .int v18]) (sg := [(.aload_n 0, 0)]) (lSa_ok dd14) rfl ?_
    refine Y.getA fl_X_10 (lIa_ok dd15) h (fun v19 h => ?_)
    refine Y.blk (pc' := 31) (L' := [some (.ref a0), some (.int a1), some (.int a2)]) (st' := [.int a2, .ref v19, .int v18]) (sg := [(.iload_n 2, 0)]) (lSa_ok dd16) rfl ?_
    obtain ⟨_, o21, e20, m22, h⟩ := gOb_inv h
    refine Y.callI (yC.Vi (b := v19) (As := [.int a2]) (st := [.int v18]) (r := ("Partlister$Lists", T_I, 7)) hV.1 cb_I_rowOf lk_X_299 in_I_rowOf rfl se_I_rowOf (lIa_ok dd17) rfl rfl (Nat.le_of_ble_eq_true rfl) (by decide) e20 m22) (k_I_rowOf hV G17 v19 a2) h (fun v24 G23 _ h => ?_)
    refine Y.ic_ne (off := 7) (tgt := 41) (lIa_ok dd18) (by decide) h (fun c25 h => ?_) (fun c25 h => ?_)
    · refine Y.blk (pc' := 38) (L' := [some (.ref a0), some (.int a1), some (.int a2)]) (st' := [.int (nI 1)]) (sg := [(.iconst 1, nI 1)]) (lSa_ok dd19) rfl ?_
      refine Y.goto (off := 4) (tgt := 42) (lIa_ok dd20) (by decide) ?_
      exact Y.zret rfl (lIa_ok dd6) h
    · refine Y.blk (pc' := 42) (L' := [some (.ref a0), some (.int a1), some (.int a2)]) (st' := [.int (nI 0)]) (sg := [(.iconst 0, nI 0)]) (lSa_ok dd5) rfl ?_
      exact Y.zret rfl (lIa_ok dd6) h

def f_U_finish (G : gH) (a0 : Nat) (a1 : Int32) : gR :=
  gFA G a0 0 0 fun v1 => gOb G v1 2 fun o3 => bV (f_N_write G v1 a1 (nI 0)) fun G5 => gFI G5 a0 0 4 fun v6 => gPut G5 a0 0 4 (.int (v6 + (nI 1))) fun G7 => rV G7
theorem k_U_finish {l : Launch} {D : va_G} {B : Nat} {O : State → Heap → Prop} (hV : zG l D B O) (G : gH) (a0 : Nat) (a1 : Int32) : gMet (zVm l D B O) m_U_finish 2 [.ref a0, .int a1] G (f_U_finish G a0 a1) := by
  have hdd : lSa m_U_finish 0 [(.aload_n 0, 0)] = true ∧ lIa m_U_finish 1 (.getfield 14) 3 = true ∧ lSa m_U_finish 4 [(.iload_n 1, 0), (.iconst 0, nI 0)] = true ∧ lIa m_U_finish 6 (.invokevirtual 40) 3 = true ∧ lSa m_U_finish 9 [(.aload_n 0, 0), (.dup, 0)] = true ∧ lIa m_U_finish 11 (.getfield 54) 3 = true ∧ lSa m_U_finish 14 [(.iconst 1, nI 1), (.iadd, 0)] = true ∧ lIa m_U_finish 16 (.putfield 54) 3 = true ∧ lIa m_U_finish 19 (.return_) 1 = true := by decide +kernel
  refine lA8 hdd (fun dd0 dd1 dd2 dd3 dd4 dd5 dd6 dd7 hdd => ?_)
  have dd8 := hdd
  refine gMet.of (by decide +kernel) (Nat.le_of_ble_eq_true rfl) [some (.ref a0), some (.int a1)] (fun ls h => zEn_ok (n := 2) h) ?_
  intro o Gf h
  unfold f_U_finish at h
  refine Y.blk (pc' := 1) (L' := [some (.ref a0), some (.int a1)]) (st' := [.ref a0]) (sg := [(.aload_n 0, 0)]) (lSa_ok dd0) rfl ?_
  refine Y.getA fl_U_14 (lIa_ok dd1) h (fun v1 h => ?_)
  refine Y.blk (pc' := 6) (L' := [some (.ref a0), some (.int a1)]) (st' := [.int (nI 0), .int a1, .ref v1]) (sg := [(.iload_n 1, 0), (.iconst 0, nI 0)]) (lSa_ok dd2) rfl ?_
  obtain ⟨_, o3, e2, m4, h⟩ := gOb_inv h
  refine Y.callN (yC.Vi (b := v1) (As := [.int a1, .int (nI 0)]) (st := []) (r := ("Partlister$Numbers", T_N, 1)) hV.1 cb_N_write lk_U_40 in_N_write rfl se_N_write (lIa_ok dd3) rfl rfl (Nat.le_of_ble_eq_true rfl) (by decide) e2 m4) (k_N_write hV G v1 a1 (nI 0)) h (fun G5 _ h => ?_)
  refine Y.blk (pc' := 11) (L' := [some (.ref a0), some (.int a1)]) (st' := [.ref a0, .ref a0]) (sg := [(.aload_n 0, 0), (.dup, 0)]) (lSa_ok dd4) rfl ?_
  refine Y.getI fl_U_54 (lIa_ok dd5) h (fun v6 h => ?_)
  refine Y.blk (pc' := 16) (L' := [some (.ref a0), some (.int a1)]) (st' := [.int (v6 + (nI 1)), .ref a0]) (sg := [(.iconst 1, nI 1), (.iadd, 0)]) (lSa_ok dd6) rfl ?_
  refine Y.putf fl_U_54 (by decide) rfl rfl (lIa_ok dd7) h (fun G7 _ _ h => ?_)
  exact Y.vret rfl (lIa_ok dd8) h

def f_U_unsettle (G : gH) (a0 : Nat) (a1 : Int32) : gR :=
  gOb G a0 0 fun o2 => bI (f_U_listOf G a0 a1) fun v5 G4 => if (nI 2) ≤ v5 then gOb G4 a0 0 fun o7 => bV (f_U_finish G4 a0 a1) fun G9 => rV G9
  else gFA G4 a0 0 0 fun v10 => gOb G4 v10 2 fun o12 => bV (f_N_write G4 v10 a1 (nI 2)) fun G14 => rV G14
theorem k_U_unsettle {l : Launch} {D : va_G} {B : Nat} {O : State → Heap → Prop} (hV : zG l D B O) (G : gH) (a0 : Nat) (a1 : Int32) : gMet (zVm l D B O) m_U_unsettle 3 [.ref a0, .int a1] G (f_U_unsettle G a0 a1) := by
  have hdd : lSa m_U_unsettle 0 [(.aload_n 0, 0), (.iload_n 1, 0)] = true ∧ lIa m_U_unsettle 2 (.invokevirtual 48) 3 = true ∧ lSa m_U_unsettle 5 [(.iconst 2, nI 2)] = true ∧ lIa m_U_unsettle 6 (.if_icmp .ge 15) 3 = true ∧ lSa m_U_unsettle 21 [(.aload_n 0, 0), (.iload_n 1, 0)] = true ∧ lIa m_U_unsettle 23 (.invokevirtual 51) 3 = true ∧ lIa m_U_unsettle 26 (.return_) 1 = true ∧ lSa m_U_unsettle 9 [(.aload_n 0, 0)] = true ∧ lIa m_U_unsettle 10 (.getfield 14) 3 = true ∧ lSa m_U_unsettle 13 [(.iload_n 1, 0), (.iconst 2, nI 2)] = true ∧ lIa m_U_unsettle 15 (.invokevirtual 40) 3 = true ∧ lIa m_U_unsettle 18 (.goto 8) 3 = true := by decide +kernel
  refine lA8 hdd (fun dd0 dd1 dd2 dd3 dd4 dd5 dd6 dd7 hdd => ?_)
  obtain ⟨dd8, dd9, dd10, dd11⟩ := hdd
  refine gMet.of (by decide +kernel) (Nat.le_of_ble_eq_true rfl) [some (.ref a0), some (.int a1)] (fun ls h => zEn_ok (n := 2) h) ?_
  intro o Gf h
  unfold f_U_unsettle at h
  refine Y.blk (pc' := 2) (L' := [some (.ref a0), some (.int a1)]) (st' := [.int a1, .ref a0]) (sg := [(.aload_n 0, 0), (.iload_n 1, 0)]) (lSa_ok dd0) rfl ?_
  obtain ⟨_, o2, e1, m3, h⟩ := gOb_inv h
  refine Y.callI (yC.Vi (b := a0) (As := [.int a1]) (st := []) (r := ("Partlister$Cursors", T_U, 5)) hV.1 cb_U_listOf lk_U_48 in_U_listOf rfl se_U_listOf (lIa_ok dd1) rfl rfl (Nat.le_of_ble_eq_true rfl) (by decide) e1 m3) (k_U_listOf hV G a0 a1) h (fun v5 G4 _ h => ?_)
  refine Y.blk (pc' := 6) (L' := [some (.ref a0), some (.int a1)]) (st' := [.int (nI 2), .int v5]) (sg := [(.iconst 2, nI 2)]) (lSa_ok dd2) rfl ?_
  refine Y.ic_ge (off := 15) (tgt := 21) (lIa_ok dd3) (by decide) h (fun c15 h => ?_) (fun c15 h => ?_)
  · refine Y.blk (pc' := 23) (L' := [some (.ref a0), some (.int a1)]) (st' := [.int a1, .ref a0]) (sg := [(.aload_n 0, 0), (.iload_n 1, 0)]) (lSa_ok dd4) rfl ?_
    obtain ⟨_, o7, e6, m8, h⟩ := gOb_inv h
    refine Y.callN (yC.Vi (b := a0) (As := [.int a1]) (st := []) (r := ("Partlister$Cursors", T_U, 5)) hV.1 cb_U_finish lk_U_51 in_U_finish rfl se_U_finish (lIa_ok dd5) rfl rfl (Nat.le_of_ble_eq_true rfl) (by decide) e6 m8) (k_U_finish hV G4 a0 a1) h (fun G9 _ h => ?_)
    exact Y.vret rfl (lIa_ok dd6) h
  · refine Y.blk (pc' := 10) (L' := [some (.ref a0), some (.int a1)]) (st' := [.ref a0]) (sg := [(.aload_n 0, 0)]) (lSa_ok dd7) rfl ?_
    refine Y.getA fl_U_14 (lIa_ok dd8) h (fun v10 h => ?_)
    refine Y.blk (pc' := 15) (L' := [some (.ref a0), some (.int a1)]) (st' := [.int (nI 2), .int a1, .ref v10]) (sg := [(.iload_n 1, 0), (.iconst 2, nI 2)]) (lSa_ok dd9) rfl ?_
    obtain ⟨_, o12, e11, m13, h⟩ := gOb_inv h
    refine Y.callN (yC.Vi (b := v10) (As := [.int a1, .int (nI 2)]) (st := []) (r := ("Partlister$Numbers", T_N, 1)) hV.1 cb_N_write lk_U_40 in_N_write rfl se_N_write (lIa_ok dd10) rfl rfl (Nat.le_of_ble_eq_true rfl) (by decide) e11 m13) (k_N_write hV G4 v10 a1 (nI 2)) h (fun G14 _ h => ?_)
    refine Y.goto (off := 8) (tgt := 26) (lIa_ok dd11) (by decide) ?_
    exact Y.vret rfl (lIa_ok dd6) h

def f_I_finish (G : gH) (a0 : Nat) (a1 : Int32) : gR :=
  gFA G a0 1 1 fun v1 => gOb G v1 2 fun o3 => bV (f_N_write G v1 a1 (-1)) fun G5 => gFI G5 a0 1 6 fun v6 => gPut G5 a0 1 6 (.int (v6 + (nI 1))) fun G7 => rV G7
theorem k_I_finish {l : Launch} {D : va_G} {B : Nat} {O : State → Heap → Prop} (hV : zG l D B O) (G : gH) (a0 : Nat) (a1 : Int32) : gMet (zVm l D B O) m_I_finish 2 [.ref a0, .int a1] G (f_I_finish G a0 a1) := by
  have hdd : lSa m_I_finish 0 [(.aload_n 0, 0)] = true ∧ lIa m_I_finish 1 (.getfield 20) 3 = true ∧ lSa m_I_finish 4 [(.iload_n 1, 0), (.iconst (-1), -1)] = true ∧ lIa m_I_finish 6 (.invokevirtual 35) 3 = true ∧ lSa m_I_finish 9 [(.aload_n 0, 0), (.dup, 0)] = true ∧ lIa m_I_finish 11 (.getfield 97) 3 = true ∧ lSa m_I_finish 14 [(.iconst 1, nI 1), (.iadd, 0)] = true ∧ lIa m_I_finish 16 (.putfield 97) 3 = true ∧ lIa m_I_finish 19 (.return_) 1 = true := by decide +kernel
  refine lA8 hdd (fun dd0 dd1 dd2 dd3 dd4 dd5 dd6 dd7 hdd => ?_)
  have dd8 := hdd
  refine gMet.of (by decide +kernel) (Nat.le_of_ble_eq_true rfl) [some (.ref a0), some (.int a1)] (fun ls h => zEn_ok (n := 2) h) ?_
  intro o Gf h
  unfold f_I_finish at h
  refine Y.blk (pc' := 1) (L' := [some (.ref a0), some (.int a1)]) (st' := [.ref a0]) (sg := [(.aload_n 0, 0)]) (lSa_ok dd0) rfl ?_
  refine Y.getA fl_I_20 (lIa_ok dd1) h (fun v1 h => ?_)
  refine Y.blk (pc' := 6) (L' := [some (.ref a0), some (.int a1)]) (st' := [.int (-1), .int a1, .ref v1]) (sg := [(.iload_n 1, 0), (.iconst (-1), -1)]) (lSa_ok dd2) rfl ?_
  obtain ⟨_, o3, e2, m4, h⟩ := gOb_inv h
  refine Y.callN (yC.Vi (b := v1) (As := [.int a1, .int (-1)]) (st := []) (r := ("Partlister$Numbers", T_N, 1)) hV.1 cb_N_write lk_I_35 in_N_write rfl se_N_write (lIa_ok dd3) rfl rfl (Nat.le_of_ble_eq_true rfl) (by decide) e2 m4) (k_N_write hV G v1 a1 (-1)) h (fun G5 _ h => ?_)
  refine Y.blk (pc' := 11) (L' := [some (.ref a0), some (.int a1)]) (st' := [.ref a0, .ref a0]) (sg := [(.aload_n 0, 0), (.dup, 0)]) (lSa_ok dd4) rfl ?_
  refine Y.getI fl_I_97 (lIa_ok dd5) h (fun v6 h => ?_)
  refine Y.blk (pc' := 16) (L' := [some (.ref a0), some (.int a1)]) (st' := [.int (v6 + (nI 1)), .ref a0]) (sg := [(.iconst 1, nI 1), (.iadd, 0)]) (lSa_ok dd6) rfl ?_
  refine Y.putf fl_I_97 (by decide) rfl rfl (lIa_ok dd7) h (fun G7 _ _ h => ?_)
  exact Y.vret rfl (lIa_ok dd8) h

def f_I_isThere (G : gH) (a0 : Nat) (a1 : Int32) : gR :=
  gFA G a0 1 1 fun v1 => gOb G v1 2 fun o3 => bI (f_N_read G v1 a1) fun v6 G5 => if v6 = (-1) then rZ (nI 0) G5
  else rZ (nI 1) G5
theorem k_I_isThere {l : Launch} {D : va_G} {B : Nat} {O : State → Heap → Prop} (hV : zG l D B O) (G : gH) (a0 : Nat) (a1 : Int32) : gMet (zVm l D B O) m_I_isThere 2 [.ref a0, .int a1] G (f_I_isThere G a0 a1) := by
  have hdd : lSa m_I_isThere 0 [(.aload_n 0, 0)] = true ∧ lIa m_I_isThere 1 (.getfield 20) 3 = true ∧ lSa m_I_isThere 4 [(.iload_n 1, 0)] = true ∧ lIa m_I_isThere 5 (.invokevirtual 39) 3 = true ∧ lSa m_I_isThere 8 [(.iconst (-1), -1)] = true ∧ lIa m_I_isThere 9 (.if_icmp .eq 7) 3 = true ∧ lSa m_I_isThere 16 [(.iconst 0, nI 0)] = true ∧ lIa m_I_isThere 17 (.ireturn) 1 = true ∧ lSa m_I_isThere 12 [(.iconst 1, nI 1)] = true ∧ lIa m_I_isThere 13 (.goto 4) 3 = true := by decide +kernel
  refine lA8 hdd (fun dd0 dd1 dd2 dd3 dd4 dd5 dd6 dd7 hdd => ?_)
  obtain ⟨dd8, dd9⟩ := hdd
  refine gMet.of (by decide +kernel) (Nat.le_of_ble_eq_true rfl) [some (.ref a0), some (.int a1)] (fun ls h => zEn_ok (n := 2) h) ?_
  intro o Gf h
  unfold f_I_isThere at h
  refine Y.blk (pc' := 1) (L' := [some (.ref a0), some (.int a1)]) (st' := [.ref a0]) (sg := [(.aload_n 0, 0)]) (lSa_ok dd0) rfl ?_
  refine Y.getA fl_I_20 (lIa_ok dd1) h (fun v1 h => ?_)
  refine Y.blk (pc' := 5) (L' := [some (.ref a0), some (.int a1)]) (st' := [.int a1, .ref v1]) (sg := [(.iload_n 1, 0)]) (lSa_ok dd2) rfl ?_
  obtain ⟨_, o3, e2, m4, h⟩ := gOb_inv h
  refine Y.callI (yC.Vi (b := v1) (As := [.int a1]) (st := []) (r := ("Partlister$Numbers", T_N, 1)) hV.1 cb_N_read lk_I_39 in_N_read rfl se_N_read (lIa_ok dd3) rfl rfl (Nat.le_of_ble_eq_true rfl) (by decide) e2 m4) (k_N_read hV G v1 a1) h (fun v6 G5 _ h => ?_)
  refine Y.blk (pc' := 9) (L' := [some (.ref a0), some (.int a1)]) (st' := [.int (-1), .int v6]) (sg := [(.iconst (-1), -1)]) (lSa_ok dd4) rfl ?_
  refine Y.ic_eq (off := 7) (tgt := 16) (lIa_ok dd5) (by decide) h (fun c7 h => ?_) (fun c7 h => ?_)
  · refine Y.blk (pc' := 17) (L' := [some (.ref a0), some (.int a1)]) (st' := [.int (nI 0)]) (sg := [(.iconst 0, nI 0)]) (lSa_ok dd6) rfl ?_
    exact Y.zret rfl (lIa_ok dd7) h
  · refine Y.blk (pc' := 13) (L' := [some (.ref a0), some (.int a1)]) (st' := [.int (nI 1)]) (sg := [(.iconst 1, nI 1)]) (lSa_ok dd8) rfl ?_
    refine Y.goto (off := 4) (tgt := 17) (lIa_ok dd9) (by decide) ?_
    exact Y.zret rfl (lIa_ok dd7) h

def f_I_isWithin_L5 (K32 : gH → Int32 → Int32 → gR) : Nat → gH → Nat → Int32 → Int32 → Int32 → gR
  | 0, _, _, _, _, _ => none
  | n + 1, G, x0, x2, x3, x4 =>
    if (nI 6) ≤ x4 then K32 G x2 x3
    else if x3 = x2 then K32 G x2 x3
      else gFA G x0 1 2 fun v1 => gOb G v1 2 fun o3 => bI (f_N_read G v1 x3) fun v6 G5 => f_I_isWithin_L5 K32 n G5 x0 x2 v6 (x4 + (nI 1))
def f_I_isWithin (G : gH) (a0 : Nat) (a1 : Int32) (a2 : Int32) : gR :=
  f_I_isWithin_L5 (fun G11 x9 x10 => if x10 = x9 then rZ (nI 1) G11
    else rZ (nI 0) G11) zFu G a0 a2 a1 (nI 0)
theorem k_I_isWithin_L5 {l : Launch} {D : va_G} {B : Nat} {O : State → Heap → Prop} (hV : zG l D B O) {o : gO} {Gf : gH} (K32 : gH → Int32 → Int32 → gR) (hK32 : ∀ (G : gH) (x2 : Int32) (x3 : Int32), K32 G x2 x3 = some (o, Gf) → Y (zVm l D B O) m_I_isWithin 2 o Gf 32 [none, none, some (.int x2), some (.int x3), none] [] G) : ∀ (n : Nat) (G : gH) (x0 : Nat) (x2 : Int32) (x3 : Int32) (x4 : Int32), f_I_isWithin_L5 K32 n G x0 x2 x3 x4 = some (o, Gf) → Y (zVm l D B O) m_I_isWithin 2 o Gf 5 [some (.ref x0), none, some (.int x2), some (.int x3), some (.int x4)] [] G := by
  have hdd : lSa m_I_isWithin 5 [(.iload 4, 0), (.bipush 6, nI 6)] = true ∧ lIa m_I_isWithin 9 (.if_icmp .ge 23) 3 = true ∧ lSa m_I_isWithin 12 [(.iload_n 3, 0), (.iload_n 2, 0)] = true ∧ lIa m_I_isWithin 14 (.if_icmp .eq 18) 3 = true ∧ lSa m_I_isWithin 17 [(.aload_n 0, 0)] = true ∧ lIa m_I_isWithin 18 (.getfield 23) 3 = true ∧ lSa m_I_isWithin 21 [(.iload_n 3, 0)] = true ∧ lIa m_I_isWithin 22 (.invokevirtual 39) 3 = true ∧ lSa m_I_isWithin 25 [(.istore_n 3, 0), (.iinc 4 1, nI 1)] = true ∧ lIa m_I_isWithin 29 (.goto (-24)) 3 = true := by decide +kernel
  refine lA8 hdd (fun dd0 dd1 dd2 dd3 dd4 dd5 dd6 dd7 hdd => ?_)
  obtain ⟨dd8, dd9⟩ := hdd
  intro n
  induction n with
  | zero => intro G x0 x2 x3 x4 h; cases h
  | succ n ih =>
    intro G x0 x2 x3 x4 h
    unfold f_I_isWithin_L5 at h
    refine Y.blk (pc' := 9) (L' := [some (.ref x0), none, some (.int x2), some (.int x3), some (.int x4)]) (st' := [.int (nI 6), .int x4]) (sg := [(.iload 4, 0), (.bipush 6, nI 6)]) (lSa_ok dd0) rfl ?_
    refine Y.ic_ge (off := 23) (tgt := 32) (lIa_ok dd1) (by decide) h (fun c8 h => ?_) (fun c8 h => ?_)
    · refine Y.less (L' := [none, none, some (.int x2), some (.int x3), none]) (zLe_none (zLe_some (zLe_some (zLe_some (zLe_none (zLe_nil)))))) ?_
      exact hK32 G x2 x3 h
    · refine Y.blk (pc' := 14) (L' := [some (.ref x0), none, some (.int x2), some (.int x3), some (.int x4)]) (st' := [.int x2, .int x3]) (sg := [(.iload_n 3, 0), (.iload_n 2, 0)]) (lSa_ok dd2) rfl ?_
      refine Y.ic_eq (off := 18) (tgt := 32) (lIa_ok dd3) (by decide) h (fun c7 h => ?_) (fun c7 h => ?_)
      · refine Y.less (L' := [none, none, some (.int x2), some (.int x3), none]) (zLe_none (zLe_some (zLe_some (zLe_some (zLe_none (zLe_nil)))))) ?_
        exact hK32 G x2 x3 h
      · refine Y.blk (pc' := 18) (L' := [some (.ref x0), none, some (.int x2), some (.int x3), some (.int x4)]) (st' := [.ref x0]) (sg := [(.aload_n 0, 0)]) (lSa_ok dd4) rfl ?_
        refine Y.getA fl_I_23 (lIa_ok dd5) h (fun v1 h => ?_)
        refine Y.blk (pc' := 22) (L' := [some (.ref x0), none, some (.int x2), some (.int x3), some (.int x4)]) (st' := [.int x3, .ref v1]) (sg := [(.iload_n 3, 0)]) (lSa_ok dd6) rfl ?_
        obtain ⟨_, o3, e2, m4, h⟩ := gOb_inv h
        refine Y.callI (yC.Vi (b := v1) (As := [.int x3]) (st := []) (r := ("Partlister$Numbers", T_N, 1)) hV.1 cb_N_read lk_I_39 in_N_read rfl se_N_read (lIa_ok dd7) rfl rfl (Nat.le_of_ble_eq_true rfl) (by decide) e2 m4) (k_N_read hV G v1 x3) h (fun v6 G5 _ h => ?_)
        refine Y.blk (pc' := 29) (L' := [some (.ref x0), none, some (.int x2), some (.int v6), some (.int (x4 + (nI 1)))]) (st' := []) (sg := [(.istore_n 3, 0), (.iinc 4 1, nI 1)]) (lSa_ok dd8) rfl ?_
        refine Y.goto (off := -24) (tgt := 5) (lIa_ok dd9) (by decide) ?_
        exact ih G5 x0 x2 v6 (x4 + (nI 1)) h
theorem k_I_isWithin {l : Launch} {D : va_G} {B : Nat} {O : State → Heap → Prop} (hV : zG l D B O) (G : gH) (a0 : Nat) (a1 : Int32) (a2 : Int32) : gMet (zVm l D B O) m_I_isWithin 2 [.ref a0, .int a1, .int a2] G (f_I_isWithin G a0 a1 a2) := by
  have hdd : lSa m_I_isWithin 0 [(.iload_n 1, 0), (.istore_n 3, 0), (.iconst 0, nI 0), (.istore 4, 0)] = true ∧ lSa m_I_isWithin 32 [(.iload_n 3, 0), (.iload_n 2, 0)] = true ∧ lIa m_I_isWithin 34 (.if_icmp .ne 7) 3 = true ∧ lSa m_I_isWithin 37 [(.iconst 1, nI 1)] = true ∧ lIa m_I_isWithin 38 (.goto 4) 3 = true ∧ lIa m_I_isWithin 42 (.ireturn) 1 = true ∧ lSa m_I_isWithin 41 [(.iconst 0, nI 0)] = true := by decide +kernel
  obtain ⟨dd0, dd1, dd2, dd3, dd4, dd5, dd6⟩ := hdd
  refine gMet.of (by decide +kernel) (Nat.le_of_ble_eq_true rfl) [some (.ref a0), some (.int a1), some (.int a2), none, none] (fun ls h => zEn_ok (n := 5) h) ?_
  intro o Gf h
  unfold f_I_isWithin at h
  refine Y.blk (pc' := 5) (L' := [some (.ref a0), some (.int a1), some (.int a2), some (.int a1), some (.int (nI 0))]) (st' := []) (sg := [(.iload_n 1, 0), (.istore_n 3, 0), (.iconst 0, nI 0), (.istore 4, 0)]) (lSa_ok dd0) rfl ?_
  refine Y.less (L' := [some (.ref a0), none, some (.int a2), some (.int a1), some (.int (nI 0))]) (zLe_some (zLe_none (zLe_some (zLe_some (zLe_some (zLe_nil)))))) ?_
  refine k_I_isWithin_L5 hV _ ?_  zFu G a0 a2 a1 (nI 0) h
  · intro G11 x9 x10 h
    refine Y.blk (pc' := 34) (L' := [none, none, some (.int x9), some (.int x10), none]) (st' := [.int x9, .int x10]) (sg := [(.iload_n 3, 0), (.iload_n 2, 0)]) (lSa_ok dd1) rfl ?_
    refine Y.ic_ne (off := 7) (tgt := 41) (lIa_ok dd2) (by decide) h (fun c12 h => ?_) (fun c12 h => ?_)
    · refine Y.blk (pc' := 38) (L' := [none, none, some (.int x9), some (.int x10), none]) (st' := [.int (nI 1)]) (sg := [(.iconst 1, nI 1)]) (lSa_ok dd3) rfl ?_
      refine Y.goto (off := 4) (tgt := 42) (lIa_ok dd4) (by decide) ?_
      exact Y.zret rfl (lIa_ok dd5) h
    · refine Y.blk (pc' := 42) (L' := [none, none, some (.int x9), some (.int x10), none]) (st' := [.int (nI 0)]) (sg := [(.iconst 0, nI 0)]) (lSa_ok dd6) rfl ?_
      exact Y.zret rfl (lIa_ok dd5) h

def f_I_endOthers_L4 (K54 : gH → Int32 → gR) : Nat → gH → Nat → Int32 → Int32 → Int32 → gR
  | 0, _, _, _, _, _ => none
  | n + 1, G, x0, x1, x2, x3 =>
    if (nI 6) ≤ x3 then K54 G x2
    else gOb G x0 1 fun o2 => bI (f_I_isThere G x0 x3) fun v5 G4 => if v5 = 0 then f_I_endOthers_L4 K54 n G4 x0 x1 x2 (x3 + (nI 1))
      else gOb G4 x0 1 fun o7 => bI (f_I_rowOf G4 x0 x3) fun v10 G9 => gOb G9 x0 1 fun o12 => bI (f_I_rowOf G9 x0 x1) fun v15 G14 => if v10 = v15 then (gOb G14 x0 1 fun o17 => bI (f_I_isWithin G14 x0 x1 x3) fun v20 G19 => if v20 = 0 then gOb G19 x0 1 fun o22 => bV (f_I_finish G19 x0 x3) fun G24 => f_I_endOthers_L4 K54 n G24 x0 x1 (x2 + (nI 1)) (x3 + (nI 1))
          else f_I_endOthers_L4 K54 n G19 x0 x1 x2 (x3 + (nI 1)))
        else f_I_endOthers_L4 K54 n G14 x0 x1 x2 (x3 + (nI 1))
def f_I_endOthers (G : gH) (a0 : Nat) (a1 : Int32) : gR :=
  f_I_endOthers_L4 (fun G30 x29 => rI x29 G30) zFu G a0 a1 (nI 0) (nI 2)
theorem k_I_endOthers_L4 {l : Launch} {D : va_G} {B : Nat} {O : State → Heap → Prop} (hV : zG l D B O) {o : gO} {Gf : gH} (K54 : gH → Int32 → gR) (hK54 : ∀ (G : gH) (x2 : Int32), K54 G x2 = some (o, Gf) → Y (zVm l D B O) m_I_endOthers 3 o Gf 54 [none, none, some (.int x2), none] [] G) : ∀ (n : Nat) (G : gH) (x0 : Nat) (x1 : Int32) (x2 : Int32) (x3 : Int32), f_I_endOthers_L4 K54 n G x0 x1 x2 x3 = some (o, Gf) → Y (zVm l D B O) m_I_endOthers 3 o Gf 4 [some (.ref x0), some (.int x1), some (.int x2), some (.int x3)] [] G := by
  have hdd : lSa m_I_endOthers 4 [(.iload_n 3, 0), (.bipush 6, nI 6)] = true ∧ lIa m_I_endOthers 7 (.if_icmp .ge 47) 3 = true ∧ lSa m_I_endOthers 10 [(.aload_n 0, 0), (.iload_n 3, 0)] = true ∧ lIa m_I_endOthers 12 (.invokevirtual 86) 3 = true ∧ lIa m_I_endOthers 15 (.ifCond .eq 33) 3 = true ∧ lSa m_I_endOthers 48 [(.iinc 3 1, nI 1)] = true ∧ lIa m_I_endOthers 51 (.goto (-47)) 3 = true ∧ lSa m_I_endOthers 18 [(.aload_n 0, 0), (.iload_n 3, 0)] = true ∧ lIa m_I_endOthers 20 (.invokevirtual 56) 3 = true ∧ lSa m_I_endOthers 23 [(.aload_n 0, 0), (.iload_n 1, 0)] = true ∧ lIa m_I_endOthers 25 (.invokevirtual 56) 3 = true ∧ lIa m_I_endOthers 28 (.if_icmp .ne 20) 3 = true ∧ lSa m_I_endOthers 31 [(.aload_n 0, 0), (.iload_n 1, 0), (.iload_n 3, 0)] = true ∧ lIa m_I_endOthers 34 (.invokevirtual 90) 3 = true ∧ lIa m_I_endOthers 37 (.ifCond .ne 11) 3 = true ∧ lSa m_I_endOthers 40 [(.aload_n 0, 0), (.iload_n 3, 0)] = true ∧ lIa m_I_endOthers 42 (.invokevirtual 94) 3 = true ∧ lSa m_I_endOthers 45 [(.iinc 2 1, nI 1), (.iinc 3 1, nI 1)] = true := by decide +kernel
  refine lA8 hdd (fun dd0 dd1 dd2 dd3 dd4 dd5 dd6 dd7 hdd => ?_)
  refine lA8 hdd (fun dd8 dd9 dd10 dd11 dd12 dd13 dd14 dd15 hdd => ?_)
  obtain ⟨dd16, dd17⟩ := hdd
  intro n
  induction n with
  | zero => intro G x0 x1 x2 x3 h; cases h
  | succ n ih =>
    intro G x0 x1 x2 x3 h
    unfold f_I_endOthers_L4 at h
    refine Y.blk (pc' := 7) (L' := [some (.ref x0), some (.int x1), some (.int x2), some (.int x3)]) (st' := [.int (nI 6), .int x3]) (sg := [(.iload_n 3, 0), (.bipush 6, nI 6)]) (lSa_ok dd0) rfl ?_
    refine Y.ic_ge (off := 47) (tgt := 54) (lIa_ok dd1) (by decide) h (fun c28 h => ?_) (fun c28 h => ?_)
    · refine Y.less (L' := [none, none, some (.int x2), none]) (zLe_none (zLe_none (zLe_some (zLe_none (zLe_nil))))) ?_
      exact hK54 G x2 h
    · refine Y.blk (pc' := 12) (L' := [some (.ref x0), some (.int x1), some (.int x2), some (.int x3)]) (st' := [.int x3, .ref x0]) (sg := [(.aload_n 0, 0), (.iload_n 3, 0)]) (lSa_ok dd2) rfl ?_
      obtain ⟨_, o2, e1, m3, h⟩ := gOb_inv h
      refine Y.callI (yC.Vi (b := x0) (As := [.int x3]) (st := []) (r := ("Partlister$Lists", T_I, 7)) hV.1 cb_I_isThere lk_I_86 in_I_isThere rfl se_I_isThere (lIa_ok dd3) rfl rfl (Nat.le_of_ble_eq_true rfl) (by decide) e1 m3) (k_I_isThere hV G x0 x3) h (fun v5 G4 _ h => ?_)
      refine Y.if_eq (off := 33) (tgt := 48) (lIa_ok dd4) (by decide) h (fun c27 h => ?_) (fun c27 h => ?_)
      · refine Y.blk (pc' := 51) (L' := [some (.ref x0), some (.int x1), some (.int x2), some (.int (x3 + (nI 1)))]) (st' := []) (sg := [(.iinc 3 1, nI 1)]) (lSa_ok dd5) rfl ?_
        refine Y.goto (off := -47) (tgt := 4) (lIa_ok dd6) (by decide) ?_
        exact ih G4 x0 x1 x2 (x3 + (nI 1)) h
      · refine Y.blk (pc' := 20) (L' := [some (.ref x0), some (.int x1), some (.int x2), some (.int x3)]) (st' := [.int x3, .ref x0]) (sg := [(.aload_n 0, 0), (.iload_n 3, 0)]) (lSa_ok dd7) rfl ?_
        obtain ⟨_, o7, e6, m8, h⟩ := gOb_inv h
        refine Y.callI (yC.Vi (b := x0) (As := [.int x3]) (st := []) (r := ("Partlister$Lists", T_I, 7)) hV.1 cb_I_rowOf lk_I_56 in_I_rowOf rfl se_I_rowOf (lIa_ok dd8) rfl rfl (Nat.le_of_ble_eq_true rfl) (by decide) e6 m8) (k_I_rowOf hV G4 x0 x3) h (fun v10 G9 _ h => ?_)
        refine Y.blk (pc' := 25) (L' := [some (.ref x0), some (.int x1), some (.int x2), some (.int x3)]) (st' := [.int x1, .ref x0, .int v10]) (sg := [(.aload_n 0, 0), (.iload_n 1, 0)]) (lSa_ok dd9) rfl ?_
        obtain ⟨_, o12, e11, m13, h⟩ := gOb_inv h
        refine Y.callI (yC.Vi (b := x0) (As := [.int x1]) (st := [.int v10]) (r := ("Partlister$Lists", T_I, 7)) hV.1 cb_I_rowOf lk_I_56 in_I_rowOf rfl se_I_rowOf (lIa_ok dd10) rfl rfl (Nat.le_of_ble_eq_true rfl) (by decide) e11 m13) (k_I_rowOf hV G9 x0 x1) h (fun v15 G14 _ h => ?_)
        refine Y.ic_ne (off := 20) (tgt := 48) (lIa_ok dd11) (by decide) h (fun c26 h => ?_) (fun c26 h => ?_)
        · refine Y.blk (pc' := 34) (L' := [some (.ref x0), some (.int x1), some (.int x2), some (.int x3)]) (st' := [.int x3, .int x1, .ref x0]) (sg := [(.aload_n 0, 0), (.iload_n 1, 0), (.iload_n 3, 0)]) (lSa_ok dd12) rfl ?_
          obtain ⟨_, o17, e16, m18, h⟩ := gOb_inv h
          refine Y.callI (yC.Vi (b := x0) (As := [.int x1, .int x3]) (st := []) (r := ("Partlister$Lists", T_I, 7)) hV.1 cb_I_isWithin lk_I_90 in_I_isWithin rfl se_I_isWithin (lIa_ok dd13) rfl rfl (Nat.le_of_ble_eq_true rfl) (by decide) e16 m18) (k_I_isWithin hV G14 x0 x1 x3) h (fun v20 G19 _ h => ?_)
          refine Y.if_ne (off := 11) (tgt := 48) (lIa_ok dd14) (by decide) h (fun c25 h => ?_) (fun c25 h => ?_)
          · refine Y.blk (pc' := 42) (L' := [some (.ref x0), some (.int x1), some (.int x2), some (.int x3)]) (st' := [.int x3, .ref x0]) (sg := [(.aload_n 0, 0), (.iload_n 3, 0)]) (lSa_ok dd15) rfl ?_
            obtain ⟨_, o22, e21, m23, h⟩ := gOb_inv h
            refine Y.callN (yC.Vi (b := x0) (As := [.int x3]) (st := []) (r := ("Partlister$Lists", T_I, 7)) hV.1 cb_I_finish lk_I_94 in_I_finish rfl se_I_finish (lIa_ok dd16) rfl rfl (Nat.le_of_ble_eq_true rfl) (by decide) e21 m23) (k_I_finish hV G19 x0 x3) h (fun G24 _ h => ?_)
            refine Y.blk (pc' := 51) (L' := [some (.ref x0), some (.int x1), some (.int (x2 + (nI 1))), some (.int (x3 + (nI 1)))]) (st' := []) (sg := [(.iinc 2 1, nI 1), (.iinc 3 1, nI 1)]) (lSa_ok dd17) rfl ?_
            refine Y.goto (off := -47) (tgt := 4) (lIa_ok dd6) (by decide) ?_
            exact ih G24 x0 x1 (x2 + (nI 1)) (x3 + (nI 1)) h
          · refine Y.blk (pc' := 51) (L' := [some (.ref x0), some (.int x1), some (.int x2), some (.int (x3 + (nI 1)))]) (st' := []) (sg := [(.iinc 3 1, nI 1)]) (lSa_ok dd5) rfl ?_
            refine Y.goto (off := -47) (tgt := 4) (lIa_ok dd6) (by decide) ?_
            exact ih G19 x0 x1 x2 (x3 + (nI 1)) h
        · refine Y.blk (pc' := 51) (L' := [some (.ref x0), some (.int x1), some (.int x2), some (.int (x3 + (nI 1)))]) (st' := []) (sg := [(.iinc 3 1, nI 1)]) (lSa_ok dd5) rfl ?_
          refine Y.goto (off := -47) (tgt := 4) (lIa_ok dd6) (by decide) ?_
          exact ih G14 x0 x1 x2 (x3 + (nI 1)) h
theorem k_I_endOthers {l : Launch} {D : va_G} {B : Nat} {O : State → Heap → Prop} (hV : zG l D B O) (G : gH) (a0 : Nat) (a1 : Int32) : gMet (zVm l D B O) m_I_endOthers 3 [.ref a0, .int a1] G (f_I_endOthers G a0 a1) := by
  have hdd : lSa m_I_endOthers 0 [(.iconst 0, nI 0), (.istore_n 2, 0), (.iconst 2, nI 2), (.istore_n 3, 0)] = true ∧ lSa m_I_endOthers 54 [(.iload_n 2, 0)] = true ∧ lIa m_I_endOthers 55 (.ireturn) 1 = true := by decide +kernel
  obtain ⟨dd0, dd1, dd2⟩ := hdd
  refine gMet.of (by decide +kernel) (Nat.le_of_ble_eq_true rfl) [some (.ref a0), some (.int a1), none, none] (fun ls h => zEn_ok (n := 4) h) ?_
  intro o Gf h
  unfold f_I_endOthers at h
  refine Y.blk (pc' := 4) (L' := [some (.ref a0), some (.int a1), some (.int (nI 0)), some (.int (nI 2))]) (st' := []) (sg := [(.iconst 0, nI 0), (.istore_n 2, 0), (.iconst 2, nI 2), (.istore_n 3, 0)]) (lSa_ok dd0) rfl ?_
  refine k_I_endOthers_L4 hV _ ?_  zFu G a0 a1 (nI 0) (nI 2) h
  · intro G30 x29 h
    refine Y.blk (pc' := 55) (L' := [none, none, some (.int x29), none]) (st' := [.int x29]) (sg := [(.iload_n 2, 0)]) (lSa_ok dd1) rfl ?_
    exact Y.iret rfl (lIa_ok dd2) h
end
section
def f_X_endByLength_L11 (K44 : gH → gR) : Nat → gH → Nat → Int32 → Int32 → Int32 → gR
  | 0, _, _, _, _, _ => none
  | n + 1, G, x0, x1, x2, x3 =>
    if (nI 3) ≤ x3 then K44 G
    else if x3 = x2 then f_X_endByLength_L11 K44 n G x0 x1 x2 (x3 + (nI 1))
      else gOb G x0 3 fun o8 => bI (f_X_isOnRowOf G x0 x3 x1) fun v11 G10 => if v11 = 0 then f_X_endByLength_L11 K44 n G10 x0 x1 x2 (x3 + (nI 1))
        else gFA G10 x0 3 1 fun v12 => gOb G10 v12 0 fun o14 => bV (f_U_unsettle G10 v12 x3) fun G16 => f_X_endByLength_L11 K44 n G16 x0 x1 x2 (x3 + (nI 1))
def f_X_endByLength (G : gH) (a0 : Nat) (a1 : Int32) (a2 : Int32) : gR :=
  gFA G a0 3 0 fun v1 => gOb G v1 1 fun o3 => bI (f_I_endOthers G v1 a1) fun v6 G5 => f_X_endByLength_L11 (fun G20 => rV G20) zFu G5 a0 a1 a2 (nI 0)
theorem k_X_endByLength_L11 {l : Launch} {D : va_G} {B : Nat} {O : State → Heap → Prop} (hV : zG l D B O) {o : gO} {Gf : gH} (K44 : gH → gR) (hK44 : ∀ (G : gH), K44 G  = some (o, Gf) → Y (zVm l D B O) m_X_endByLength 5 o Gf 44 [none, none, none, none] [] G) : ∀ (n : Nat) (G : gH) (x0 : Nat) (x1 : Int32) (x2 : Int32) (x3 : Int32), f_X_endByLength_L11 K44 n G x0 x1 x2 x3 = some (o, Gf) → Y (zVm l D B O) m_X_endByLength 5 o Gf 11 [some (.ref x0), some (.int x1), some (.int x2), some (.int x3)] [] G := by
  have hdd : lSa m_X_endByLength 11 [(.iload_n 3, 0), (.iconst 3, nI 3)] = true ∧ lIa m_X_endByLength 13 (.if_icmp .ge 31) 3 = true ∧ lSa m_X_endByLength 16 [(.iload_n 3, 0), (.iload_n 2, 0)] = true ∧ lIa m_X_endByLength 18 (.if_icmp .eq 20) 3 = true ∧ lSa m_X_endByLength 38 [(.iinc 3 1, nI 1)] = true ∧ lIa m_X_endByLength 41 (.goto (-30)) 3 = true ∧ lSa m_X_endByLength 21 [(.aload_n 0, 0), (.iload_n 3, 0), (.iload_n 1, 0)] = true ∧ lIa m_X_endByLength 24 (.invokevirtual 293) 3 = true ∧ lIa m_X_endByLength 27 (.ifCond .eq 11) 3 = true ∧ lSa m_X_endByLength 30 [(.aload_n 0, 0)] = true ∧ lIa m_X_endByLength 31 (.getfield 19) 3 = true ∧ lSa m_X_endByLength 34 [(.iload_n 3, 0)] = true ∧ lIa m_X_endByLength 35 (.invokevirtual 296) 3 = true := by decide +kernel
  refine lA8 hdd (fun dd0 dd1 dd2 dd3 dd4 dd5 dd6 dd7 hdd => ?_)
  obtain ⟨dd8, dd9, dd10, dd11, dd12⟩ := hdd
  intro n
  induction n with
  | zero => intro G x0 x1 x2 x3 h; cases h
  | succ n ih =>
    intro G x0 x1 x2 x3 h
    unfold f_X_endByLength_L11 at h
    refine Y.blk (pc' := 13) (L' := [some (.ref x0), some (.int x1), some (.int x2), some (.int x3)]) (st' := [.int (nI 3), .int x3]) (sg := [(.iload_n 3, 0), (.iconst 3, nI 3)]) (lSa_ok dd0) rfl ?_
    refine Y.ic_ge (off := 31) (tgt := 44) (lIa_ok dd1) (by decide) h (fun c19 h => ?_) (fun c19 h => ?_)
    · refine Y.less (L' := [none, none, none, none]) (zLe_none (zLe_none (zLe_none (zLe_none (zLe_nil))))) ?_
      exact hK44 G  h
    · refine Y.blk (pc' := 18) (L' := [some (.ref x0), some (.int x1), some (.int x2), some (.int x3)]) (st' := [.int x2, .int x3]) (sg := [(.iload_n 3, 0), (.iload_n 2, 0)]) (lSa_ok dd2) rfl ?_
      refine Y.ic_eq (off := 20) (tgt := 38) (lIa_ok dd3) (by decide) h (fun c18 h => ?_) (fun c18 h => ?_)
      · refine Y.blk (pc' := 41) (L' := [some (.ref x0), some (.int x1), some (.int x2), some (.int (x3 + (nI 1)))]) (st' := []) (sg := [(.iinc 3 1, nI 1)]) (lSa_ok dd4) rfl ?_
        refine Y.goto (off := -30) (tgt := 11) (lIa_ok dd5) (by decide) ?_
        exact ih G x0 x1 x2 (x3 + (nI 1)) h
      · refine Y.blk (pc' := 24) (L' := [some (.ref x0), some (.int x1), some (.int x2), some (.int x3)]) (st' := [.int x1, .int x3, .ref x0]) (sg := [(.aload_n 0, 0), (.iload_n 3, 0), (.iload_n 1, 0)]) (lSa_ok dd6) rfl ?_
        obtain ⟨_, o8, e7, m9, h⟩ := gOb_inv h
        refine Y.callI (yC.Vi (b := x0) (As := [.int x3, .int x1]) (st := []) (r := ("Partlister", T_X, 5)) hV.1 cb_X_isOnRowOf lk_X_293 in_X_isOnRowOf rfl se_X_isOnRowOf (lIa_ok dd7) rfl rfl (Nat.le_of_ble_eq_true rfl) (by decide) e7 m9) (k_X_isOnRowOf hV G x0 x3 x1) h (fun v11 G10 _ h => ?_)
        refine Y.if_eq (off := 11) (tgt := 38) (lIa_ok dd8) (by decide) h (fun c17 h => ?_) (fun c17 h => ?_)
        · refine Y.blk (pc' := 41) (L' := [some (.ref x0), some (.int x1), some (.int x2), some (.int (x3 + (nI 1)))]) (st' := []) (sg := [(.iinc 3 1, nI 1)]) (lSa_ok dd4) rfl ?_
          refine Y.goto (off := -30) (tgt := 11) (lIa_ok dd5) (by decide) ?_
          exact ih G10 x0 x1 x2 (x3 + (nI 1)) h
        · refine Y.blk (pc' := 31) (L' := [some (.ref x0), some (.int x1), some (.int x2), some (.int x3)]) (st' := [.ref x0]) (sg := [(.aload_n 0, 0)]) (lSa_ok dd9) rfl ?_
          refine Y.getA fl_X_19 (lIa_ok dd10) h (fun v12 h => ?_)
          refine Y.blk (pc' := 35) (L' := [some (.ref x0), some (.int x1), some (.int x2), some (.int x3)]) (st' := [.int x3, .ref v12]) (sg := [(.iload_n 3, 0)]) (lSa_ok dd11) rfl ?_
          obtain ⟨_, o14, e13, m15, h⟩ := gOb_inv h
          refine Y.callN (yC.Vi (b := v12) (As := [.int x3]) (st := []) (r := ("Partlister$Cursors", T_U, 5)) hV.1 cb_U_unsettle lk_X_296 in_U_unsettle rfl se_U_unsettle (lIa_ok dd12) rfl rfl (Nat.le_of_ble_eq_true rfl) (by decide) e13 m15) (k_U_unsettle hV G10 v12 x3) h (fun G16 _ h => ?_)
          refine Y.blk (pc' := 41) (L' := [some (.ref x0), some (.int x1), some (.int x2), some (.int (x3 + (nI 1)))]) (st' := []) (sg := [(.iinc 3 1, nI 1)]) (lSa_ok dd4) rfl ?_
          refine Y.goto (off := -30) (tgt := 11) (lIa_ok dd5) (by decide) ?_
          exact ih G16 x0 x1 x2 (x3 + (nI 1)) h
theorem k_X_endByLength {l : Launch} {D : va_G} {B : Nat} {O : State → Heap → Prop} (hV : zG l D B O) (G : gH) (a0 : Nat) (a1 : Int32) (a2 : Int32) : gMet (zVm l D B O) m_X_endByLength 5 [.ref a0, .int a1, .int a2] G (f_X_endByLength G a0 a1 a2) := by
  have hdd : lSa m_X_endByLength 0 [(.aload_n 0, 0)] = true ∧ lIa m_X_endByLength 1 (.getfield 10) 3 = true ∧ lSa m_X_endByLength 4 [(.iload_n 1, 0)] = true ∧ lIa m_X_endByLength 5 (.invokevirtual 290) 3 = true ∧ lSa m_X_endByLength 8 [(.pop, 0), (.iconst 0, nI 0), (.istore_n 3, 0)] = true ∧ lIa m_X_endByLength 44 (.return_) 1 = true := by decide +kernel
  obtain ⟨dd0, dd1, dd2, dd3, dd4, dd5⟩ := hdd
  refine gMet.of (by decide +kernel) (Nat.le_of_ble_eq_true rfl) [some (.ref a0), some (.int a1), some (.int a2), none] (fun ls h => zEn_ok (n := 4) h) ?_
  intro o Gf h
  unfold f_X_endByLength at h
  refine Y.blk (pc' := 1) (L' := [some (.ref a0), some (.int a1), some (.int a2), none]) (st' := [.ref a0]) (sg := [(.aload_n 0, 0)]) (lSa_ok dd0) rfl ?_
  refine Y.getA fl_X_10 (lIa_ok dd1) h (fun v1 h => ?_)
  refine Y.blk (pc' := 5) (L' := [some (.ref a0), some (.int a1), some (.int a2), none]) (st' := [.int a1, .ref v1]) (sg := [(.iload_n 1, 0)]) (lSa_ok dd2) rfl ?_
  obtain ⟨_, o3, e2, m4, h⟩ := gOb_inv h
  refine Y.callI (yC.Vi (b := v1) (As := [.int a1]) (st := []) (r := ("Partlister$Lists", T_I, 7)) hV.1 cb_I_endOthers lk_X_290 in_I_endOthers rfl se_I_endOthers (lIa_ok dd3) rfl rfl (Nat.le_of_ble_eq_true rfl) (by decide) e2 m4) (k_I_endOthers hV G v1 a1) h (fun v6 G5 _ h => ?_)
  refine Y.blk (pc' := 11) (L' := [some (.ref a0), some (.int a1), some (.int a2), some (.int (nI 0))]) (st' := []) (sg := [(.pop, 0), (.iconst 0, nI 0), (.istore_n 3, 0)]) (lSa_ok dd4) rfl ?_
  refine k_X_endByLength_L11 hV _ ?_  zFu G5 a0 a1 a2 (nI 0) h
  · intro G20 h
    exact Y.vret rfl (lIa_ok dd5) h

def f_I_lengthOf (G : gH) (a0 : Nat) (a1 : Int32) : gR :=
  gFA G a0 1 1 fun v1 => gOb G v1 2 fun o3 => bI (f_N_read G v1 a1) fun v6 G5 => rI v6 G5
theorem k_I_lengthOf {l : Launch} {D : va_G} {B : Nat} {O : State → Heap → Prop} (hV : zG l D B O) (G : gH) (a0 : Nat) (a1 : Int32) : gMet (zVm l D B O) m_I_lengthOf 2 [.ref a0, .int a1] G (f_I_lengthOf G a0 a1) := by
  have hdd : lSa m_I_lengthOf 0 [(.aload_n 0, 0)] = true ∧ lIa m_I_lengthOf 1 (.getfield 20) 3 = true ∧ lSa m_I_lengthOf 4 [(.iload_n 1, 0)] = true ∧ lIa m_I_lengthOf 5 (.invokevirtual 39) 3 = true ∧ lIa m_I_lengthOf 8 (.ireturn) 1 = true := by decide +kernel
  obtain ⟨dd0, dd1, dd2, dd3, dd4⟩ := hdd
  refine gMet.of (by decide +kernel) (Nat.le_of_ble_eq_true rfl) [some (.ref a0), some (.int a1)] (fun ls h => zEn_ok (n := 2) h) ?_
  intro o Gf h
  unfold f_I_lengthOf at h
  refine Y.blk (pc' := 1) (L' := [some (.ref a0), some (.int a1)]) (st' := [.ref a0]) (sg := [(.aload_n 0, 0)]) (lSa_ok dd0) rfl ?_
  refine Y.getA fl_I_20 (lIa_ok dd1) h (fun v1 h => ?_)
  refine Y.blk (pc' := 5) (L' := [some (.ref a0), some (.int a1)]) (st' := [.int a1, .ref v1]) (sg := [(.iload_n 1, 0)]) (lSa_ok dd2) rfl ?_
  obtain ⟨_, o3, e2, m4, h⟩ := gOb_inv h
  refine Y.callI (yC.Vi (b := v1) (As := [.int a1]) (st := []) (r := ("Partlister$Numbers", T_N, 1)) hV.1 cb_N_read lk_I_39 in_N_read rfl se_N_read (lIa_ok dd3) rfl rfl (Nat.le_of_ble_eq_true rfl) (by decide) e2 m4) (k_N_read hV G v1 a1) h (fun v6 G5 _ h => ?_)
  exact Y.iret rfl (lIa_ok dd4) h

def f_I_lengthen_L5 (K50 : gH → gR) : Nat → gH → Nat → Int32 → Int32 → Int32 → gR
  | 0, _, _, _, _, _ => none
  | n + 1, G, x0, x2, x3, x4 =>
    if (nI 6) ≤ x4 then K50 G
    else if x3 = (-1) then K50 G
      else gFA G x0 1 1 fun v1 => gFA G x0 1 1 fun v2 => gOb G v2 2 fun o4 => bI (f_N_read G v2 x3) fun v7 G6 => gOb G6 v1 2 fun o9 => bV (f_N_write G6 v1 x3 (v7 + x2)) fun G11 => gFA G11 x0 1 2 fun v12 => gOb G11 v12 2 fun o14 => bI (f_N_read G11 v12 x3) fun v17 G16 => f_I_lengthen_L5 K50 n G16 x0 x2 v17 (x4 + (nI 1))
def f_I_lengthen (G : gH) (a0 : Nat) (a1 : Int32) (a2 : Int32) : gR :=
  f_I_lengthen_L5 (fun G20 => rV G20) zFu G a0 a2 a1 (nI 0)
theorem k_I_lengthen_L5 {l : Launch} {D : va_G} {B : Nat} {O : State → Heap → Prop} (hV : zG l D B O) {o : gO} {Gf : gH} (K50 : gH → gR) (hK50 : ∀ (G : gH), K50 G  = some (o, Gf) → Y (zVm l D B O) m_I_lengthen 2 o Gf 50 [none, none, none, none, none] [] G) : ∀ (n : Nat) (G : gH) (x0 : Nat) (x2 : Int32) (x3 : Int32) (x4 : Int32), f_I_lengthen_L5 K50 n G x0 x2 x3 x4 = some (o, Gf) → Y (zVm l D B O) m_I_lengthen 2 o Gf 5 [some (.ref x0), none, some (.int x2), some (.int x3), some (.int x4)] [] G := by
  have hdd : lSa m_I_lengthen 5 [(.iload 4, 0), (.bipush 6, nI 6)] = true ∧ lIa m_I_lengthen 9 (.if_icmp .ge 41) 3 = true ∧ lSa m_I_lengthen 12 [(.iload_n 3, 0), (.iconst (-1), -1)] = true ∧ lIa m_I_lengthen 14 (.if_icmp .eq 36) 3 = true ∧ lSa m_I_lengthen 17 [(.aload_n 0, 0)] = true ∧ lIa m_I_lengthen 18 (.getfield 20) 3 = true ∧ lSa m_I_lengthen 21 [(.iload_n 3, 0), (.aload_n 0, 0)] = true ∧ lIa m_I_lengthen 23 (.getfield 20) 3 = true ∧ lSa m_I_lengthen 26 [(.iload_n 3, 0)] = true ∧ lIa m_I_lengthen 27 (.invokevirtual 39) 3 = true ∧ lSa m_I_lengthen 30 [(.iload_n 2, 0), (.iadd, 0)] = true ∧ lIa m_I_lengthen 32 (.invokevirtual 35) 3 = true ∧ lSa m_I_lengthen 35 [(.aload_n 0, 0)] = true ∧ lIa m_I_lengthen 36 (.getfield 23) 3 = true ∧ lSa m_I_lengthen 39 [(.iload_n 3, 0)] = true ∧ lIa m_I_lengthen 40 (.invokevirtual 39) 3 = true ∧ lSa m_I_lengthen 43 [(.istore_n 3, 0), (.iinc 4 1, nI 1)] = true ∧ lIa m_I_lengthen 47 (.goto (-42)) 3 = true := by decide +kernel
  refine lA8 hdd (fun dd0 dd1 dd2 dd3 dd4 dd5 dd6 dd7 hdd => ?_)
  refine lA8 hdd (fun dd8 dd9 dd10 dd11 dd12 dd13 dd14 dd15 hdd => ?_)
  obtain ⟨dd16, dd17⟩ := hdd
  intro n
  induction n with
  | zero => intro G x0 x2 x3 x4 h; cases h
  | succ n ih =>
    intro G x0 x2 x3 x4 h
    unfold f_I_lengthen_L5 at h
    refine Y.blk (pc' := 9) (L' := [some (.ref x0), none, some (.int x2), some (.int x3), some (.int x4)]) (st' := [.int (nI 6), .int x4]) (sg := [(.iload 4, 0), (.bipush 6, nI 6)]) (lSa_ok dd0) rfl ?_
    refine Y.ic_ge (off := 41) (tgt := 50) (lIa_ok dd1) (by decide) h (fun c19 h => ?_) (fun c19 h => ?_)
    · refine Y.less (L' := [none, none, none, none, none]) (zLe_none (zLe_some (zLe_none (zLe_none (zLe_none (zLe_nil)))))) ?_
      exact hK50 G  h
    · refine Y.blk (pc' := 14) (L' := [some (.ref x0), none, some (.int x2), some (.int x3), some (.int x4)]) (st' := [.int (-1), .int x3]) (sg := [(.iload_n 3, 0), (.iconst (-1), -1)]) (lSa_ok dd2) rfl ?_
      refine Y.ic_eq (off := 36) (tgt := 50) (lIa_ok dd3) (by decide) h (fun c18 h => ?_) (fun c18 h => ?_)
      · refine Y.less (L' := [none, none, none, none, none]) (zLe_none (zLe_some (zLe_none (zLe_none (zLe_none (zLe_nil)))))) ?_
        exact hK50 G  h
      · refine Y.blk (pc' := 18) (L' := [some (.ref x0), none, some (.int x2), some (.int x3), some (.int x4)]) (st' := [.ref x0]) (sg := [(.aload_n 0, 0)]) (lSa_ok dd4) rfl ?_
        refine Y.getA fl_I_20 (lIa_ok dd5) h (fun v1 h => ?_)
        refine Y.blk (pc' := 23) (L' := [some (.ref x0), none, some (.int x2), some (.int x3), some (.int x4)]) (st' := [.ref x0, .int x3, .ref v1]) (sg := [(.iload_n 3, 0), (.aload_n 0, 0)]) (lSa_ok dd6) rfl ?_
        refine Y.getA fl_I_20 (lIa_ok dd7) h (fun v2 h => ?_)
        refine Y.blk (pc' := 27) (L' := [some (.ref x0), none, some (.int x2), some (.int x3), some (.int x4)]) (st' := [.int x3, .ref v2, .int x3, .ref v1]) (sg := [(.iload_n 3, 0)]) (lSa_ok dd8) rfl ?_
        obtain ⟨_, o4, e3, m5, h⟩ := gOb_inv h
        refine Y.callI (yC.Vi (b := v2) (As := [.int x3]) (st := [.int x3, .ref v1]) (r := ("Partlister$Numbers", T_N, 1)) hV.1 cb_N_read lk_I_39 in_N_read rfl se_N_read (lIa_ok dd9) rfl rfl (Nat.le_of_ble_eq_true rfl) (by decide) e3 m5) (k_N_read hV G v2 x3) h (fun v7 G6 _ h => ?_)
        refine Y.blk (pc' := 32) (L' := [some (.ref x0), none, some (.int x2), some (.int x3), some (.int x4)]) (st' := [.int (v7 + x2), .int x3, .ref v1]) (sg := [(.iload_n 2, 0), (.iadd, 0)]) (lSa_ok dd10) rfl ?_
        obtain ⟨_, o9, e8, m10, h⟩ := gOb_inv h
        refine Y.callN (yC.Vi (b := v1) (As := [.int x3, .int (v7 + x2)]) (st := []) (r := ("Partlister$Numbers", T_N, 1)) hV.1 cb_N_write lk_I_35 in_N_write rfl se_N_write (lIa_ok dd11) rfl rfl (Nat.le_of_ble_eq_true rfl) (by decide) e8 m10) (k_N_write hV G6 v1 x3 (v7 + x2)) h (fun G11 _ h => ?_)
        refine Y.blk (pc' := 36) (L' := [some (.ref x0), none, some (.int x2), some (.int x3), some (.int x4)]) (st' := [.ref x0]) (sg := [(.aload_n 0, 0)]) (lSa_ok dd12) rfl ?_
        refine Y.getA fl_I_23 (lIa_ok dd13) h (fun v12 h => ?_)
        refine Y.blk (pc' := 40) (L' := [some (.ref x0), none, some (.int x2), some (.int x3), some (.int x4)]) (st' := [.int x3, .ref v12]) (sg := [(.iload_n 3, 0)]) (lSa_ok dd14) rfl ?_
        obtain ⟨_, o14, e13, m15, h⟩ := gOb_inv h
        refine Y.callI (yC.Vi (b := v12) (As := [.int x3]) (st := []) (r := ("Partlister$Numbers", T_N, 1)) hV.1 cb_N_read lk_I_39 in_N_read rfl se_N_read (lIa_ok dd15) rfl rfl (Nat.le_of_ble_eq_true rfl) (by decide) e13 m15) (k_N_read hV G11 v12 x3) h (fun v17 G16 _ h => ?_)
        refine Y.blk (pc' := 47) (L' := [some (.ref x0), none, some (.int x2), some (.int v17), some (.int (x4 + (nI 1)))]) (st' := []) (sg := [(.istore_n 3, 0), (.iinc 4 1, nI 1)]) (lSa_ok dd16) rfl ?_
        refine Y.goto (off := -42) (tgt := 5) (lIa_ok dd17) (by decide) ?_
        exact ih G16 x0 x2 v17 (x4 + (nI 1)) h
theorem k_I_lengthen {l : Launch} {D : va_G} {B : Nat} {O : State → Heap → Prop} (hV : zG l D B O) (G : gH) (a0 : Nat) (a1 : Int32) (a2 : Int32) : gMet (zVm l D B O) m_I_lengthen 2 [.ref a0, .int a1, .int a2] G (f_I_lengthen G a0 a1 a2) := by
  have hdd : lSa m_I_lengthen 0 [(.iload_n 1, 0), (.istore_n 3, 0), (.iconst 0, nI 0), (.istore 4, 0)] = true ∧ lIa m_I_lengthen 50 (.return_) 1 = true := by decide +kernel
  obtain ⟨dd0, dd1⟩ := hdd
  refine gMet.of (by decide +kernel) (Nat.le_of_ble_eq_true rfl) [some (.ref a0), some (.int a1), some (.int a2), none, none] (fun ls h => zEn_ok (n := 5) h) ?_
  intro o Gf h
  unfold f_I_lengthen at h
  refine Y.blk (pc' := 5) (L' := [some (.ref a0), some (.int a1), some (.int a2), some (.int a1), some (.int (nI 0))]) (st' := []) (sg := [(.iload_n 1, 0), (.istore_n 3, 0), (.iconst 0, nI 0), (.istore 4, 0)]) (lSa_ok dd0) rfl ?_
  refine Y.less (L' := [some (.ref a0), none, some (.int a2), some (.int a1), some (.int (nI 0))]) (zLe_some (zLe_none (zLe_some (zLe_some (zLe_some (zLe_nil)))))) ?_
  refine k_I_lengthen_L5 hV _ ?_  zFu G a0 a2 a1 (nI 0) h
  · intro G20 h
    exact Y.vret rfl (lIa_ok dd1) h

def f_I_cellOf (G : gH) (a0 : Nat) (a1 : Int32) (a2 : Int32) : gR :=
  gFA G a0 1 3 fun v1 => gOb G v1 2 fun o3 => bI (f_N_read G v1 a1) fun v6 G5 => gFA G5 a0 1 4 fun v7 => gOb G5 v7 2 fun o9 => bI (f_N_read G5 v7 a1) fun v12 G11 => rI (((v6 * (nI 31)) + v12) + a2) G11
theorem k_I_cellOf {l : Launch} {D : va_G} {B : Nat} {O : State → Heap → Prop} (hV : zG l D B O) (G : gH) (a0 : Nat) (a1 : Int32) (a2 : Int32) : gMet (zVm l D B O) m_I_cellOf 2 [.ref a0, .int a1, .int a2] G (f_I_cellOf G a0 a1 a2) := by
  have hdd : lSa m_I_cellOf 0 [(.aload_n 0, 0)] = true ∧ lIa m_I_cellOf 1 (.getfield 26) 3 = true ∧ lSa m_I_cellOf 4 [(.iload_n 1, 0)] = true ∧ lIa m_I_cellOf 5 (.invokevirtual 39) 3 = true ∧ lSa m_I_cellOf 8 [(.bipush 31, nI 31), (.imul, 0), (.aload_n 0, 0)] = true ∧ lIa m_I_cellOf 12 (.getfield 29) 3 = true ∧ lSa m_I_cellOf 15 [(.iload_n 1, 0)] = true ∧ lIa m_I_cellOf 16 (.invokevirtual 39) 3 = true ∧ lSa m_I_cellOf 19 [(.iadd, 0), (.iload_n 2, 0), (.iadd, 0)] = true ∧ lIa m_I_cellOf 22 (.ireturn) 1 = true := by decide +kernel
  refine lA8 hdd (fun dd0 dd1 dd2 dd3 dd4 dd5 dd6 dd7 hdd => ?_)
  obtain ⟨dd8, dd9⟩ := hdd
  refine gMet.of (by decide +kernel) (Nat.le_of_ble_eq_true rfl) [some (.ref a0), some (.int a1), some (.int a2)] (fun ls h => zEn_ok (n := 3) h) ?_
  intro o Gf h
  unfold f_I_cellOf at h
  refine Y.blk (pc' := 1) (L' := [some (.ref a0), some (.int a1), some (.int a2)]) (st' := [.ref a0]) (sg := [(.aload_n 0, 0)]) (lSa_ok dd0) rfl ?_
  refine Y.getA fl_I_26 (lIa_ok dd1) h (fun v1 h => ?_)
  refine Y.blk (pc' := 5) (L' := [some (.ref a0), some (.int a1), some (.int a2)]) (st' := [.int a1, .ref v1]) (sg := [(.iload_n 1, 0)]) (lSa_ok dd2) rfl ?_
  obtain ⟨_, o3, e2, m4, h⟩ := gOb_inv h
  refine Y.callI (yC.Vi (b := v1) (As := [.int a1]) (st := []) (r := ("Partlister$Numbers", T_N, 1)) hV.1 cb_N_read lk_I_39 in_N_read rfl se_N_read (lIa_ok dd3) rfl rfl (Nat.le_of_ble_eq_true rfl) (by decide) e2 m4) (k_N_read hV G v1 a1) h (fun v6 G5 _ h => ?_)
  refine Y.blk (pc' := 12) (L' := [some (.ref a0), some (.int a1), some (.int a2)]) (st' := [.ref a0, .int (v6 * (nI 31))]) (sg := [(.bipush 31, nI 31), (.imul, 0), (.aload_n 0, 0)]) (lSa_ok dd4) rfl ?_
  refine Y.getA fl_I_29 (lIa_ok dd5) h (fun v7 h => ?_)
  refine Y.blk (pc' := 16) (L' := [some (.ref a0), some (.int a1), some (.int a2)]) (st' := [.int a1, .ref v7, .int (v6 * (nI 31))]) (sg := [(.iload_n 1, 0)]) (lSa_ok dd6) rfl ?_
  obtain ⟨_, o9, e8, m10, h⟩ := gOb_inv h
  refine Y.callI (yC.Vi (b := v7) (As := [.int a1]) (st := [.int (v6 * (nI 31))]) (r := ("Partlister$Numbers", T_N, 1)) hV.1 cb_N_read lk_I_39 in_N_read rfl se_N_read (lIa_ok dd7) rfl rfl (Nat.le_of_ble_eq_true rfl) (by decide) e8 m10) (k_N_read hV G5 v7 a1) h (fun v12 G11 _ h => ?_)
  refine Y.blk (pc' := 22) (L' := [some (.ref a0), some (.int a1), some (.int a2)]) (st' := [.int (((v6 * (nI 31)) + v12) + a2)]) (sg := [(.iadd, 0), (.iload_n 2, 0), (.iadd, 0)]) (lSa_ok dd8) rfl ?_
  exact Y.iret rfl (lIa_ok dd9) h

def f_I_thingAt (G : gH) (a0 : Nat) (a1 : Int32) (a2 : Int32) : gR :=
  gFA G a0 1 0 fun v1 => gOb G a0 1 fun o3 => bI (f_I_cellOf G a0 a1 a2) fun v6 G5 => gOb G5 v1 2 fun o8 => bI (f_N_read G5 v1 v6) fun v11 G10 => rI v11 G10
theorem k_I_thingAt {l : Launch} {D : va_G} {B : Nat} {O : State → Heap → Prop} (hV : zG l D B O) (G : gH) (a0 : Nat) (a1 : Int32) (a2 : Int32) : gMet (zVm l D B O) m_I_thingAt 3 [.ref a0, .int a1, .int a2] G (f_I_thingAt G a0 a1 a2) := by
  have hdd : lSa m_I_thingAt 0 [(.aload_n 0, 0)] = true ∧ lIa m_I_thingAt 1 (.getfield 14) 3 = true ∧ lSa m_I_thingAt 4 [(.aload_n 0, 0), (.iload_n 1, 0), (.iload_n 2, 0)] = true ∧ lIa m_I_thingAt 7 (.invokevirtual 43) 3 = true ∧ lIa m_I_thingAt 10 (.invokevirtual 39) 3 = true ∧ lIa m_I_thingAt 13 (.ireturn) 1 = true := by decide +kernel
  obtain ⟨dd0, dd1, dd2, dd3, dd4, dd5⟩ := hdd
  refine gMet.of (by decide +kernel) (Nat.le_of_ble_eq_true rfl) [some (.ref a0), some (.int a1), some (.int a2)] (fun ls h => zEn_ok (n := 3) h) ?_
  intro o Gf h
  unfold f_I_thingAt at h
  refine Y.blk (pc' := 1) (L' := [some (.ref a0), some (.int a1), some (.int a2)]) (st' := [.ref a0]) (sg := [(.aload_n 0, 0)]) (lSa_ok dd0) rfl ?_
  refine Y.getA fl_I_14 (lIa_ok dd1) h (fun v1 h => ?_)
  refine Y.blk (pc' := 7) (L' := [some (.ref a0), some (.int a1), some (.int a2)]) (st' := [.int a2, .int a1, .ref a0, .ref v1]) (sg := [(.aload_n 0, 0), (.iload_n 1, 0), (.iload_n 2, 0)]) (lSa_ok dd2) rfl ?_
  obtain ⟨_, o3, e2, m4, h⟩ := gOb_inv h
  refine Y.callI (yC.Vi (b := a0) (As := [.int a1, .int a2]) (st := [.ref v1]) (r := ("Partlister$Lists", T_I, 7)) hV.1 cb_I_cellOf lk_I_43 in_I_cellOf rfl se_I_cellOf (lIa_ok dd3) rfl rfl (Nat.le_of_ble_eq_true rfl) (by decide) e2 m4) (k_I_cellOf hV G a0 a1 a2) h (fun v6 G5 _ h => ?_)
  obtain ⟨_, o8, e7, m9, h⟩ := gOb_inv h
  refine Y.callI (yC.Vi (b := v1) (As := [.int v6]) (st := []) (r := ("Partlister$Numbers", T_N, 1)) hV.1 cb_N_read lk_I_39 in_N_read rfl se_N_read (lIa_ok dd4) rfl rfl (Nat.le_of_ble_eq_true rfl) (by decide) e7 m9) (k_N_read hV G5 v1 v6) h (fun v11 G10 _ h => ?_)
  exact Y.iret rfl (lIa_ok dd5) h

def f_I_write (G : gH) (a0 : Nat) (a1 : Int32) (a2 : Int32) (a3 : Int32) : gR :=
  gFA G a0 1 0 fun v1 => gOb G a0 1 fun o3 => bI (f_I_cellOf G a0 a1 a2) fun v6 G5 => gOb G5 v1 2 fun o8 => bV (f_N_write G5 v1 v6 a3) fun G10 => rV G10
theorem k_I_write {l : Launch} {D : va_G} {B : Nat} {O : State → Heap → Prop} (hV : zG l D B O) (G : gH) (a0 : Nat) (a1 : Int32) (a2 : Int32) (a3 : Int32) : gMet (zVm l D B O) m_I_write 3 [.ref a0, .int a1, .int a2, .int a3] G (f_I_write G a0 a1 a2 a3) := by
  have hdd : lSa m_I_write 0 [(.aload_n 0, 0)] = true ∧ lIa m_I_write 1 (.getfield 14) 3 = true ∧ lSa m_I_write 4 [(.aload_n 0, 0), (.iload_n 1, 0), (.iload_n 2, 0)] = true ∧ lIa m_I_write 7 (.invokevirtual 43) 3 = true ∧ lSa m_I_write 10 [(.iload_n 3, 0)] = true ∧ lIa m_I_write 11 (.invokevirtual 35) 3 = true ∧ lIa m_I_write 14 (.return_) 1 = true := by decide +kernel
  obtain ⟨dd0, dd1, dd2, dd3, dd4, dd5, dd6⟩ := hdd
  refine gMet.of (by decide +kernel) (Nat.le_of_ble_eq_true rfl) [some (.ref a0), some (.int a1), some (.int a2), some (.int a3)] (fun ls h => zEn_ok (n := 4) h) ?_
  intro o Gf h
  unfold f_I_write at h
  refine Y.blk (pc' := 1) (L' := [some (.ref a0), some (.int a1), some (.int a2), some (.int a3)]) (st' := [.ref a0]) (sg := [(.aload_n 0, 0)]) (lSa_ok dd0) rfl ?_
  refine Y.getA fl_I_14 (lIa_ok dd1) h (fun v1 h => ?_)
  refine Y.blk (pc' := 7) (L' := [some (.ref a0), some (.int a1), some (.int a2), some (.int a3)]) (st' := [.int a2, .int a1, .ref a0, .ref v1]) (sg := [(.aload_n 0, 0), (.iload_n 1, 0), (.iload_n 2, 0)]) (lSa_ok dd2) rfl ?_
  obtain ⟨_, o3, e2, m4, h⟩ := gOb_inv h
  refine Y.callI (yC.Vi (b := a0) (As := [.int a1, .int a2]) (st := [.ref v1]) (r := ("Partlister$Lists", T_I, 7)) hV.1 cb_I_cellOf lk_I_43 in_I_cellOf rfl se_I_cellOf (lIa_ok dd3) rfl rfl (Nat.le_of_ble_eq_true rfl) (by decide) e2 m4) (k_I_cellOf hV G a0 a1 a2) h (fun v6 G5 _ h => ?_)
  refine Y.blk (pc' := 11) (L' := [some (.ref a0), some (.int a1), some (.int a2), some (.int a3)]) (st' := [.int a3, .int v6, .ref v1]) (sg := [(.iload_n 3, 0)]) (lSa_ok dd4) rfl ?_
  obtain ⟨_, o8, e7, m9, h⟩ := gOb_inv h
  refine Y.callN (yC.Vi (b := v1) (As := [.int v6, .int a3]) (st := []) (r := ("Partlister$Numbers", T_N, 1)) hV.1 cb_N_write lk_I_35 in_N_write rfl se_N_write (lIa_ok dd5) rfl rfl (Nat.le_of_ble_eq_true rfl) (by decide) e7 m9) (k_N_write hV G5 v1 v6 a3) h (fun G10 _ h => ?_)
  exact Y.vret rfl (lIa_ok dd6) h

def f_I_openGap_L29 (K60 : gH → Nat → Int32 → Int32 → gR) : Nat → gH → Nat → Int32 → Int32 → Int32 → Int32 → Int32 → gR
  | 0, _, _, _, _, _, _, _ => none
  | n + 1, G, x0, x1, x3, x4, x5, x6 =>
    if x6 < x5 then K60 G x0 x1 x3
    else gOb G x0 1 fun o18 => bI (f_I_thingAt G x0 x4 x6) fun v21 G20 => gOb G20 x0 1 fun o23 => bV (f_I_write G20 x0 x4 (x6 + x3) v21) fun G25 => f_I_openGap_L29 K60 n G25 x0 x1 x3 x4 x5 (x6 + (-1))
def f_I_openGap (G : gH) (a0 : Nat) (a1 : Int32) (a2 : Int32) (a3 : Int32) : gR :=
  gOb G a0 1 fun o2 => bI (f_I_rowOf G a0 a1) fun v5 G4 => gFA G4 a0 1 4 fun v6 => gOb G4 v6 2 fun o8 => bI (f_N_read G4 v6 a1) fun v11 G10 => gOb G10 a0 1 fun o13 => bI (f_I_lengthOf G10 a0 v5) fun v16 G15 => f_I_openGap_L29 (fun G30 x27 x28 x29 => gOb G30 x27 1 fun o32 => bV (f_I_lengthen G30 x27 x28 x29) fun G34 => rV G34) zFu G15 a0 a1 a3 v5 (v11 + a2) (v16 - (nI 1))
theorem k_I_openGap_L29 {l : Launch} {D : va_G} {B : Nat} {O : State → Heap → Prop} (hV : zG l D B O) {o : gO} {Gf : gH} (K60 : gH → Nat → Int32 → Int32 → gR) (hK60 : ∀ (G : gH) (x0 : Nat) (x1 : Int32) (x3 : Int32), K60 G x0 x1 x3 = some (o, Gf) → Y (zVm l D B O) m_I_openGap 4 o Gf 60 [some (.ref x0), some (.int x1), none, some (.int x3), none, none, none] [] G) : ∀ (n : Nat) (G : gH) (x0 : Nat) (x1 : Int32) (x3 : Int32) (x4 : Int32) (x5 : Int32) (x6 : Int32), f_I_openGap_L29 K60 n G x0 x1 x3 x4 x5 x6 = some (o, Gf) → Y (zVm l D B O) m_I_openGap 4 o Gf 29 [some (.ref x0), some (.int x1), none, some (.int x3), some (.int x4), some (.int x5), some (.int x6)] [] G := by
  have hdd : lSa m_I_openGap 29 [(.iload 6, 0), (.iload 5, 0)] = true ∧ lIa m_I_openGap 33 (.if_icmp .lt 27) 3 = true ∧ lSa m_I_openGap 36 [(.aload_n 0, 0), (.iload 4, 0), (.iload 6, 0), (.iload_n 3, 0), (.iadd, 0), (.aload_n 0, 0), (.iload 4, 0), (.iload 6, 0)] = true ∧ lIa m_I_openGap 48 (.invokevirtual 50) 3 = true ∧ lIa m_I_openGap 51 (.invokevirtual 53) 3 = true ∧ lSa m_I_openGap 54 [(.iinc 6 (-1), -1)] = true ∧ lIa m_I_openGap 57 (.goto (-28)) 3 = true := by decide +kernel
  obtain ⟨dd0, dd1, dd2, dd3, dd4, dd5, dd6⟩ := hdd
  intro n
  induction n with
  | zero => intro G x0 x1 x3 x4 x5 x6 h; cases h
  | succ n ih =>
    intro G x0 x1 x3 x4 x5 x6 h
    unfold f_I_openGap_L29 at h
    refine Y.blk (pc' := 33) (L' := [some (.ref x0), some (.int x1), none, some (.int x3), some (.int x4), some (.int x5), some (.int x6)]) (st' := [.int x5, .int x6]) (sg := [(.iload 6, 0), (.iload 5, 0)]) (lSa_ok dd0) rfl ?_
    refine Y.ic_lt (off := 27) (tgt := 60) (lIa_ok dd1) (by decide) h (fun c26 h => ?_) (fun c26 h => ?_)
    · refine Y.less (L' := [some (.ref x0), some (.int x1), none, some (.int x3), none, none, none]) (zLe_some (zLe_some (zLe_some (zLe_some (zLe_none (zLe_none (zLe_none (zLe_nil)))))))) ?_
      exact hK60 G x0 x1 x3 h
    · refine Y.blk (pc' := 48) (L' := [some (.ref x0), some (.int x1), none, some (.int x3), some (.int x4), some (.int x5), some (.int x6)]) (st' := [.int x6, .int x4, .ref x0, .int (x6 + x3), .int x4, .ref x0]) (sg := [(.aload_n 0, 0), (.iload 4, 0), (.iload 6, 0), (.iload_n 3, 0), (.iadd, 0), (.aload_n 0, 0), (.iload 4, 0), (.iload 6, 0)]) (lSa_ok dd2) rfl ?_
      obtain ⟨_, o18, e17, m19, h⟩ := gOb_inv h
      refine Y.callI (yC.Vi (b := x0) (As := [.int x4, .int x6]) (st := [.int (x6 + x3), .int x4, .ref x0]) (r := ("Partlister$Lists", T_I, 7)) hV.1 cb_I_thingAt lk_I_50 in_I_thingAt rfl se_I_thingAt (lIa_ok dd3) rfl rfl (Nat.le_of_ble_eq_true rfl) (by decide) e17 m19) (k_I_thingAt hV G x0 x4 x6) h (fun v21 G20 _ h => ?_)
      obtain ⟨_, o23, e22, m24, h⟩ := gOb_inv h
      refine Y.callN (yC.Vi (b := x0) (As := [.int x4, .int (x6 + x3), .int v21]) (st := []) (r := ("Partlister$Lists", T_I, 7)) hV.1 cb_I_write lk_I_53 in_I_write rfl se_I_write (lIa_ok dd4) rfl rfl (Nat.le_of_ble_eq_true rfl) (by decide) e22 m24) (k_I_write hV G20 x0 x4 (x6 + x3) v21) h (fun G25 _ h => ?_)
      refine Y.blk (pc' := 57) (L' := [some (.ref x0), some (.int x1), none, some (.int x3), some (.int x4), some (.int x5), some (.int (x6 + (-1)))]) (st' := []) (sg := [(.iinc 6 (-1), -1)]) (lSa_ok dd5) rfl ?_
      refine Y.goto (off := -28) (tgt := 29) (lIa_ok dd6) (by decide) ?_
      exact ih G25 x0 x1 x3 x4 x5 (x6 + (-1)) h
theorem k_I_openGap {l : Launch} {D : va_G} {B : Nat} {O : State → Heap → Prop} (hV : zG l D B O) (G : gH) (a0 : Nat) (a1 : Int32) (a2 : Int32) (a3 : Int32) : gMet (zVm l D B O) m_I_openGap 4 [.ref a0, .int a1, .int a2, .int a3] G (f_I_openGap G a0 a1 a2 a3) := by
  have hdd : lSa m_I_openGap 0 [(.aload_n 0, 0), (.iload_n 1, 0)] = true ∧ lIa m_I_openGap 2 (.invokevirtual 56) 3 = true ∧ lSa m_I_openGap 5 [(.istore 4, 0), (.aload_n 0, 0)] = true ∧ lIa m_I_openGap 8 (.getfield 29) 3 = true ∧ lSa m_I_openGap 11 [(.iload_n 1, 0)] = true ∧ lIa m_I_openGap 12 (.invokevirtual 39) 3 = true ∧ lSa m_I_openGap 15 [(.iload_n 2, 0), (.iadd, 0), (.istore 5, 0), (.aload_n 0, 0), (.iload 4, 0)] = true ∧ lIa m_I_openGap 22 (.invokevirtual 59) 3 = true ∧ lSa m_I_openGap 25 [(.iconst 1, nI 1), (.isub, 0), (.istore 6, 0)] = true ∧ lSa m_I_openGap 60 [(.aload_n 0, 0), (.iload_n 1, 0), (.iload_n 3, 0)] = true ∧ lIa m_I_openGap 63 (.invokevirtual 62) 3 = true ∧ lIa m_I_openGap 66 (.return_) 1 = true := by decide +kernel
  refine lA8 hdd (fun dd0 dd1 dd2 dd3 dd4 dd5 dd6 dd7 hdd => ?_)
  obtain ⟨dd8, dd9, dd10, dd11⟩ := hdd
  refine gMet.of (by decide +kernel) (Nat.le_of_ble_eq_true rfl) [some (.ref a0), some (.int a1), some (.int a2), some (.int a3), none, none, none] (fun ls h => zEn_ok (n := 7) h) ?_
  intro o Gf h
  unfold f_I_openGap at h
  refine Y.blk (pc' := 2) (L' := [some (.ref a0), some (.int a1), some (.int a2), some (.int a3), none, none, none]) (st' := [.int a1, .ref a0]) (sg := [(.aload_n 0, 0), (.iload_n 1, 0)]) (lSa_ok dd0) rfl ?_
  obtain ⟨_, o2, e1, m3, h⟩ := gOb_inv h
  refine Y.callI (yC.Vi (b := a0) (As := [.int a1]) (st := []) (r := ("Partlister$Lists", T_I, 7)) hV.1 cb_I_rowOf lk_I_56 in_I_rowOf rfl se_I_rowOf (lIa_ok dd1) rfl rfl (Nat.le_of_ble_eq_true rfl) (by decide) e1 m3) (k_I_rowOf hV G a0 a1) h (fun v5 G4 _ h => ?_)
  refine Y.blk (pc' := 8) (L' := [some (.ref a0), some (.int a1), some (.int a2), some (.int a3), some (.int v5), none, none]) (st' := [.ref a0]) (sg := [(.istore 4, 0), (.aload_n 0, 0)]) (lSa_ok dd2) rfl ?_
  refine Y.getA fl_I_29 (lIa_ok dd3) h (fun v6 h => ?_)
  refine Y.blk (pc' := 12) (L' := [some (.ref a0), some (.int a1), some (.int a2), some (.int a3), some (.int v5), none, none]) (st' := [.int a1, .ref v6]) (sg := [(.iload_n 1, 0)]) (lSa_ok dd4) rfl ?_
  obtain ⟨_, o8, e7, m9, h⟩ := gOb_inv h
  refine Y.callI (yC.Vi (b := v6) (As := [.int a1]) (st := []) (r := ("Partlister$Numbers", T_N, 1)) hV.1 cb_N_read lk_I_39 in_N_read rfl se_N_read (lIa_ok dd5) rfl rfl (Nat.le_of_ble_eq_true rfl) (by decide) e7 m9) (k_N_read hV G4 v6 a1) h (fun v11 G10 _ h => ?_)
  refine Y.blk (pc' := 22) (L' := [some (.ref a0), some (.int a1), some (.int a2), some (.int a3), some (.int v5), some (.int (v11 + a2)), none]) (st' := [.int v5, .ref a0]) (sg := [(.iload_n 2, 0), (.iadd, 0), (.istore 5, 0), (.aload_n 0, 0), (.iload 4, 0)]) (lSa_ok dd6) rfl ?_
  obtain ⟨_, o13, e12, m14, h⟩ := gOb_inv h
  refine Y.callI (yC.Vi (b := a0) (As := [.int v5]) (st := []) (r := ("Partlister$Lists", T_I, 7)) hV.1 cb_I_lengthOf lk_I_59 in_I_lengthOf rfl se_I_lengthOf (lIa_ok dd7) rfl rfl (Nat.le_of_ble_eq_true rfl) (by decide) e12 m14) (k_I_lengthOf hV G10 a0 v5) h (fun v16 G15 _ h => ?_)
  refine Y.blk (pc' := 29) (L' := [some (.ref a0), some (.int a1), some (.int a2), some (.int a3), some (.int v5), some (.int (v11 + a2)), some (.int (v16 - (nI 1)))]) (st' := []) (sg := [(.iconst 1, nI 1), (.isub, 0), (.istore 6, 0)]) (lSa_ok dd8) rfl ?_
  refine Y.less (L' := [some (.ref a0), some (.int a1), none, some (.int a3), some (.int v5), some (.int (v11 + a2)), some (.int (v16 - (nI 1)))]) (zLe_some (zLe_some (zLe_none (zLe_some (zLe_some (zLe_some (zLe_some (zLe_nil)))))))) ?_
  refine k_I_openGap_L29 hV _ ?_  zFu G15 a0 a1 a3 v5 (v11 + a2) (v16 - (nI 1)) h
  · intro G30 x27 x28 x29 h
    refine Y.blk (pc' := 63) (L' := [some (.ref x27), some (.int x28), none, some (.int x29), none, none, none]) (st' := [.int x29, .int x28, .ref x27]) (sg := [(.aload_n 0, 0), (.iload_n 1, 0), (.iload_n 3, 0)]) (lSa_ok dd9) rfl ?_
    obtain ⟨_, o32, e31, m33, h⟩ := gOb_inv h
    refine Y.callN (yC.Vi (b := x27) (As := [.int x28, .int x29]) (st := []) (r := ("Partlister$Lists", T_I, 7)) hV.1 cb_I_lengthen lk_I_62 in_I_lengthen rfl se_I_lengthen (lIa_ok dd10) rfl rfl (Nat.le_of_ble_eq_true rfl) (by decide) e31 m33) (k_I_lengthen hV G30 x27 x28 x29) h (fun G34 _ h => ?_)
    exact Y.vret rfl (lIa_ok dd11) h

def f_X_bringIn (G : gH) (a0 : Nat) (a1 : Int32) (a2 : Int32) (a3 : Int32) (a4 : Int32) : gR :=
  gFA G a0 3 0 fun v1 => gOb G v1 1 fun o3 => bV (f_I_openGap G v1 a1 a2 (nI 1)) fun G5 => gFA G5 a0 3 0 fun v6 => gOb G5 v6 1 fun o8 => bV (f_I_write G5 v6 a1 a2 a3) fun G10 => gOb G10 a0 3 fun o12 => bV (f_X_endByLength G10 a0 a1 a4) fun G14 => rV G14
theorem k_X_bringIn {l : Launch} {D : va_G} {B : Nat} {O : State → Heap → Prop} (hV : zG l D B O) (G : gH) (a0 : Nat) (a1 : Int32) (a2 : Int32) (a3 : Int32) (a4 : Int32) : gMet (zVm l D B O) m_X_bringIn 6 [.ref a0, .int a1, .int a2, .int a3, .int a4] G (f_X_bringIn G a0 a1 a2 a3 a4) := by
  have hdd : lSa m_X_bringIn 0 [(.aload_n 0, 0)] = true ∧ lIa m_X_bringIn 1 (.getfield 10) 3 = true ∧ lSa m_X_bringIn 4 [(.iload_n 1, 0), (.iload_n 2, 0), (.iconst 1, nI 1)] = true ∧ lIa m_X_bringIn 7 (.invokevirtual 278) 3 = true ∧ lSa m_X_bringIn 10 [(.aload_n 0, 0)] = true ∧ lIa m_X_bringIn 11 (.getfield 10) 3 = true ∧ lSa m_X_bringIn 14 [(.iload_n 1, 0), (.iload_n 2, 0), (.iload_n 3, 0)] = true ∧ lIa m_X_bringIn 17 (.invokevirtual 65) 3 = true ∧ lSa m_X_bringIn 20 [(.aload_n 0, 0), (.iload_n 1, 0), (.iload 4, 0)] = true ∧ lIa m_X_bringIn 24 (.invokevirtual 281) 3 = true ∧ lIa m_X_bringIn 27 (.return_) 1 = true := by decide +kernel
  refine lA8 hdd (fun dd0 dd1 dd2 dd3 dd4 dd5 dd6 dd7 hdd => ?_)
  obtain ⟨dd8, dd9, dd10⟩ := hdd
  refine gMet.of (by decide +kernel) (Nat.le_of_ble_eq_true rfl) [some (.ref a0), some (.int a1), some (.int a2), some (.int a3), some (.int a4)] (fun ls h => zEn_ok (n := 5) h) ?_
  intro o Gf h
  unfold f_X_bringIn at h
  refine Y.blk (pc' := 1) (L' := [some (.ref a0), some (.int a1), some (.int a2), some (.int a3), some (.int a4)]) (st' := [.ref a0]) (sg := [(.aload_n 0, 0)]) (lSa_ok dd0) rfl ?_
  refine Y.getA fl_X_10 (lIa_ok dd1) h (fun v1 h => ?_)
  refine Y.blk (pc' := 7) (L' := [some (.ref a0), some (.int a1), some (.int a2), some (.int a3), some (.int a4)]) (st' := [.int (nI 1), .int a2, .int a1, .ref v1]) (sg := [(.iload_n 1, 0), (.iload_n 2, 0), (.iconst 1, nI 1)]) (lSa_ok dd2) rfl ?_
  obtain ⟨_, o3, e2, m4, h⟩ := gOb_inv h
  refine Y.callN (yC.Vi (b := v1) (As := [.int a1, .int a2, .int (nI 1)]) (st := []) (r := ("Partlister$Lists", T_I, 7)) hV.1 cb_I_openGap lk_X_278 in_I_openGap rfl se_I_openGap (lIa_ok dd3) rfl rfl (Nat.le_of_ble_eq_true rfl) (by decide) e2 m4) (k_I_openGap hV G v1 a1 a2 (nI 1)) h (fun G5 _ h => ?_)
  refine Y.blk (pc' := 11) (L' := [some (.ref a0), some (.int a1), some (.int a2), some (.int a3), some (.int a4)]) (st' := [.ref a0]) (sg := [(.aload_n 0, 0)]) (lSa_ok dd4) rfl ?_
  refine Y.getA fl_X_10 (lIa_ok dd5) h (fun v6 h => ?_)
  refine Y.blk (pc' := 17) (L' := [some (.ref a0), some (.int a1), some (.int a2), some (.int a3), some (.int a4)]) (st' := [.int a3, .int a2, .int a1, .ref v6]) (sg := [(.iload_n 1, 0), (.iload_n 2, 0), (.iload_n 3, 0)]) (lSa_ok dd6) rfl ?_
  obtain ⟨_, o8, e7, m9, h⟩ := gOb_inv h
  refine Y.callN (yC.Vi (b := v6) (As := [.int a1, .int a2, .int a3]) (st := []) (r := ("Partlister$Lists", T_I, 7)) hV.1 cb_I_write lk_X_65 in_I_write rfl se_I_write (lIa_ok dd7) rfl rfl (Nat.le_of_ble_eq_true rfl) (by decide) e7 m9) (k_I_write hV G5 v6 a1 a2 a3) h (fun G10 _ h => ?_)
  refine Y.blk (pc' := 24) (L' := [some (.ref a0), some (.int a1), some (.int a2), some (.int a3), some (.int a4)]) (st' := [.int a4, .int a1, .ref a0]) (sg := [(.aload_n 0, 0), (.iload_n 1, 0), (.iload 4, 0)]) (lSa_ok dd8) rfl ?_
  obtain ⟨_, o12, e11, m13, h⟩ := gOb_inv h
  refine Y.callN (yC.Vi (b := a0) (As := [.int a1, .int a4]) (st := []) (r := ("Partlister", T_X, 5)) hV.1 cb_X_endByLength lk_X_281 in_X_endByLength rfl se_X_endByLength (lIa_ok dd9) rfl rfl (Nat.le_of_ble_eq_true rfl) (by decide) e11 m13) (k_X_endByLength hV G10 a0 a1 a4) h (fun G14 _ h => ?_)
  exact Y.vret rfl (lIa_ok dd10) h

def f_X_thingOf (G : gH) (a0 : Int32) (a1 : Int32) : gR :=
  rI ((a0 <<< ((nI 5) &&& 31)) ||| a1) G
theorem k_X_thingOf {l : Launch} {D : va_G} {B : Nat} {O : State → Heap → Prop} (hV : zG l D B O) (G : gH) (a0 : Int32) (a1 : Int32) : gMet (zVm l D B O) m_X_thingOf 1 [.int a0, .int a1] G (f_X_thingOf G a0 a1) := by
  have hdd : lSa m_X_thingOf 0 [(.iload_n 0, 0), (.iconst 5, nI 5), (.ishl, 0), (.iload_n 1, 0), (.ior, 0)] = true ∧ lIa m_X_thingOf 5 (.ireturn) 1 = true := by decide +kernel
  obtain ⟨dd0, dd1⟩ := hdd
  refine gMet.of (by decide +kernel) (Nat.le_of_ble_eq_true rfl) [some (.int a0), some (.int a1)] (fun ls h => zEn_ok (n := 2) h) ?_
  intro o Gf h
  unfold f_X_thingOf at h
  refine Y.blk (pc' := 5) (L' := [some (.int a0), some (.int a1)]) (st' := [.int ((a0 <<< ((nI 5) &&& 31)) ||| a1)]) (sg := [(.iload_n 0, 0), (.iconst 5, nI 5), (.ishl, 0), (.iload_n 1, 0), (.ior, 0)]) (lSa_ok dd0) rfl ?_
  exact Y.iret rfl (lIa_ok dd1) h

def f_X_make (G : gH) (a0 : Nat) (a1 : Int32) : gR :=
  gFI G a0 3 2 fun v1 => bI (f_X_thingOf G v1 a1) fun v4 G3 => gFI G3 a0 3 2 fun v5 => gPut G3 a0 3 2 (.int (v5 + (nI 1))) fun G6 => rI v4 G6
theorem k_X_make {l : Launch} {D : va_G} {B : Nat} {O : State → Heap → Prop} (hV : zG l D B O) (G : gH) (a0 : Nat) (a1 : Int32) : gMet (zVm l D B O) m_X_make 2 [.ref a0, .int a1] G (f_X_make G a0 a1) := by
  have hdd : lSa m_X_make 0 [(.aload_n 0, 0)] = true ∧ lIa m_X_make 1 (.getfield 275) 3 = true ∧ lSa m_X_make 4 [(.iload_n 1, 0)] = true ∧ lIa m_X_make 5 (.invokestatic 100) 3 = true ∧ lSa m_X_make 8 [(.istore_n 2, 0), (.aload_n 0, 0), (.dup, 0)] = true ∧ lIa m_X_make 11 (.getfield 275) 3 = true ∧ lSa m_X_make 14 [(.iconst 1, nI 1), (.iadd, 0)] = true ∧ lIa m_X_make 16 (.putfield 275) 3 = true ∧ lSa m_X_make 19 [(.iload_n 2, 0)] = true ∧ lIa m_X_make 20 (.ireturn) 1 = true := by decide +kernel
  refine lA8 hdd (fun dd0 dd1 dd2 dd3 dd4 dd5 dd6 dd7 hdd => ?_)
  obtain ⟨dd8, dd9⟩ := hdd
  refine gMet.of (by decide +kernel) (Nat.le_of_ble_eq_true rfl) [some (.ref a0), some (.int a1), none] (fun ls h => zEn_ok (n := 3) h) ?_
  intro o Gf h
  unfold f_X_make at h
  refine Y.blk (pc' := 1) (L' := [some (.ref a0), some (.int a1), none]) (st' := [.ref a0]) (sg := [(.aload_n 0, 0)]) (lSa_ok dd0) rfl ?_
  refine Y.getI fl_X_275 (lIa_ok dd1) h (fun v1 h => ?_)
  refine Y.blk (pc' := 5) (L' := [some (.ref a0), some (.int a1), none]) (st' := [.int a1, .int v1]) (sg := [(.iload_n 1, 0)]) (lSa_ok dd2) rfl ?_
  refine Y.callI (yC.S (As := [.int v1, .int a1]) (st := []) hV.1 cb_X_thingOf lk_X_100 st_X_thingOf (lIa_ok dd3) rfl rfl (Nat.le_of_ble_eq_true rfl) (by decide)) (k_X_thingOf hV G v1 a1) h (fun v4 G3 _ h => ?_)
  refine Y.blk (pc' := 11) (L' := [some (.ref a0), some (.int a1), some (.int v4)]) (st' := [.ref a0, .ref a0]) (sg := [(.istore_n 2, 0), (.aload_n 0, 0), (.dup, 0)]) (lSa_ok dd4) rfl ?_
  refine Y.getI fl_X_275 (lIa_ok dd5) h (fun v5 h => ?_)
  refine Y.blk (pc' := 16) (L' := [some (.ref a0), some (.int a1), some (.int v4)]) (st' := [.int (v5 + (nI 1)), .ref a0]) (sg := [(.iconst 1, nI 1), (.iadd, 0)]) (lSa_ok dd6) rfl ?_
  refine Y.putf fl_X_275 (by decide) rfl rfl (lIa_ok dd7) h (fun G6 _ _ h => ?_)
  refine Y.blk (pc' := 20) (L' := [some (.ref a0), some (.int a1), some (.int v4)]) (st' := [.int v4]) (sg := [(.iload_n 2, 0)]) (lSa_ok dd8) rfl ?_
  exact Y.iret rfl (lIa_ok dd9) h

def f_X_needKey (G : gH) (a0 : Nat) (a1 : Int32) : gR :=
  if a1 < 0 then gThrow "java/lang/IllegalArgumentException" G
  else if a1 < (nI 31) then rV G
    else gThrow "java/lang/IllegalArgumentException" G
theorem k_X_needKey {l : Launch} {D : va_G} {B : Nat} {O : State → Heap → Prop} (hV : zG l D B O) (G : gH) (a0 : Nat) (a1 : Int32) : gMet (zVm l D B O) m_X_needKey 6 [.ref a0, .int a1] G (f_X_needKey G a0 a1) := by
  have hdd : lSa m_X_needKey 0 [(.iload_n 1, 0)] = true ∧ lIa m_X_needKey 1 (.ifCond .lt 9) 3 = true ∧ lIa m_X_needKey 10 (.new 81) 3 = true ∧ lIa m_X_needKey 13 (.dup) 1 = true ∧ lIa m_X_needKey 14 (.ldc_w 341) 3 = true ∧ lIa m_X_needKey 17 (.invokespecial 85) 3 = true ∧ lIa m_X_needKey 20 (.athrow) 1 = true ∧ lSa m_X_needKey 4 [(.iload_n 1, 0), (.bipush 31, nI 31)] = true ∧ lIa m_X_needKey 7 (.if_icmp .lt 14) 3 = true ∧ lIa m_X_needKey 21 (.return_) 1 = true := by decide +kernel
  refine lA8 hdd (fun dd0 dd1 dd2 dd3 dd4 dd5 dd6 dd7 hdd => ?_)
  obtain ⟨dd8, dd9⟩ := hdd
  refine gMet.of (by decide +kernel) (Nat.le_of_ble_eq_true rfl) [some (.ref a0), some (.int a1)] (fun ls h => zEn_ok (n := 2) h) ?_
  intro o Gf h
  unfold f_X_needKey at h
  refine Y.blk (pc' := 1) (L' := [some (.ref a0), some (.int a1)]) (st' := [.int a1]) (sg := [(.iload_n 1, 0)]) (lSa_ok dd0) rfl ?_
  refine Y.if_lt (off := 9) (tgt := 10) (lIa_ok dd1) (by decide) h (fun c2 h => ?_) (fun c2 h => ?_)
  · exact Y.throwSW (is := 341) (text := "key is not 0 to 30") (names := zNm) hV.1 (hV.2 _ _ _ (by decide +kernel)) (by decide +kernel) (by decide +kernel) ck_X_81 ini_IAE tw_X_85 tg_X_85 (by decide) (by decide) rfl (Nat.le_of_ble_eq_true rfl) (lIa_ok dd2) (lIa_ok dd3) (lIa_ok dd4) (lIa_ok dd5) (lIa_ok dd6) h
  · refine Y.blk (pc' := 7) (L' := [some (.ref a0), some (.int a1)]) (st' := [.int (nI 31), .int a1]) (sg := [(.iload_n 1, 0), (.bipush 31, nI 31)]) (lSa_ok dd7) rfl ?_
    refine Y.ic_lt (off := 14) (tgt := 21) (lIa_ok dd8) (by decide) h (fun c1 h => ?_) (fun c1 h => ?_)
    · exact Y.vret rfl (lIa_ok dd9) h
    · exact Y.throwSW (is := 341) (text := "key is not 0 to 30") (names := zNm) hV.1 (hV.2 _ _ _ (by decide +kernel)) (by decide +kernel) (by decide +kernel) ck_X_81 ini_IAE tw_X_85 tg_X_85 (by decide) (by decide) rfl (Nat.le_of_ble_eq_true rfl) (lIa_ok dd2) (lIa_ok dd3) (lIa_ok dd4) (lIa_ok dd5) (lIa_ok dd6) h

def f_X_needList (G : gH) (a0 : Nat) (a1 : Int32) : gR :=
  gFA G a0 3 0 fun v1 => gOb G v1 1 fun o3 => bI (f_I_isThere G v1 a1) fun v6 G5 => if v6 = 0 then gThrow "java/lang/IndexOutOfBoundsException" G5
  else rV G5
theorem k_X_needList {l : Launch} {D : va_G} {B : Nat} {O : State → Heap → Prop} (hV : zG l D B O) (G : gH) (a0 : Nat) (a1 : Int32) : gMet (zVm l D B O) m_X_needList 6 [.ref a0, .int a1] G (f_X_needList G a0 a1) := by
  have hdd : lSa m_X_needList 0 [(.aload_n 0, 0)] = true ∧ lIa m_X_needList 1 (.getfield 10) 3 = true ∧ lSa m_X_needList 4 [(.iload_n 1, 0)] = true ∧ lIa m_X_needList 5 (.invokevirtual 155) 3 = true ∧ lIa m_X_needList 8 (.ifCond .ne 14) 3 = true ∧ lIa m_X_needList 11 (.new 125) 3 = true ∧ lIa m_X_needList 14 (.dup) 1 = true ∧ lIa m_X_needList 15 (.ldc_w 329) 3 = true ∧ lIa m_X_needList 18 (.invokespecial 129) 3 = true ∧ lIa m_X_needList 21 (.athrow) 1 = true ∧ lIa m_X_needList 22 (.return_) 1 = true := by decide +kernel
  refine lA8 hdd (fun dd0 dd1 dd2 dd3 dd4 dd5 dd6 dd7 hdd => ?_)
  obtain ⟨dd8, dd9, dd10⟩ := hdd
  refine gMet.of (by decide +kernel) (Nat.le_of_ble_eq_true rfl) [some (.ref a0), some (.int a1)] (fun ls h => zEn_ok (n := 2) h) ?_
  intro o Gf h
  unfold f_X_needList at h
  refine Y.blk (pc' := 1) (L' := [some (.ref a0), some (.int a1)]) (st' := [.ref a0]) (sg := [(.aload_n 0, 0)]) (lSa_ok dd0) rfl ?_
  refine Y.getA fl_X_10 (lIa_ok dd1) h (fun v1 h => ?_)
  refine Y.blk (pc' := 5) (L' := [some (.ref a0), some (.int a1)]) (st' := [.int a1, .ref v1]) (sg := [(.iload_n 1, 0)]) (lSa_ok dd2) rfl ?_
  obtain ⟨_, o3, e2, m4, h⟩ := gOb_inv h
  refine Y.callI (yC.Vi (b := v1) (As := [.int a1]) (st := []) (r := ("Partlister$Lists", T_I, 7)) hV.1 cb_I_isThere lk_X_155 in_I_isThere rfl se_I_isThere (lIa_ok dd3) rfl rfl (Nat.le_of_ble_eq_true rfl) (by decide) e2 m4) (k_I_isThere hV G v1 a1) h (fun v6 G5 _ h => ?_)
  refine Y.if_ne (off := 14) (tgt := 22) (lIa_ok dd4) (by decide) h (fun c7 h => ?_) (fun c7 h => ?_)
  · exact Y.throwSW (is := 329) (text := "there is no such LIST") (names := zNm) hV.1 (hV.2 _ _ _ (by decide +kernel)) (by decide +kernel) (by decide +kernel) ck_X_125 ini_IOE tw_X_129 tg_X_129 (by decide) (by decide) rfl (Nat.le_of_ble_eq_true rfl) (lIa_ok dd5) (lIa_ok dd6) (lIa_ok dd7) (lIa_ok dd8) (lIa_ok dd9) h
  · exact Y.vret rfl (lIa_ok dd10) h

def f_X_needRoom (G : gH) (a0 : Nat) (a1 : Int32) (a2 : Int32) : gR :=
  gFA G a0 3 0 fun v1 => gFA G a0 3 0 fun v2 => gOb G v2 1 fun o4 => bI (f_I_rowOf G v2 a1) fun v7 G6 => gOb G6 v1 1 fun o9 => bI (f_I_lengthOf G6 v1 v7) fun v12 G11 => if (v12 + a2) ≤ (nI 31) then rV G11
  else gThrow "java/lang/IllegalStateException" G11
theorem k_X_needRoom {l : Launch} {D : va_G} {B : Nat} {O : State → Heap → Prop} (hV : zG l D B O) (G : gH) (a0 : Nat) (a1 : Int32) (a2 : Int32) : gMet (zVm l D B O) m_X_needRoom 6 [.ref a0, .int a1, .int a2] G (f_X_needRoom G a0 a1 a2) := by
  have hdd : lSa m_X_needRoom 0 [(.aload_n 0, 0)] = true ∧ lIa m_X_needRoom 1 (.getfield 10) 3 = true ∧ lSa m_X_needRoom 4 [(.aload_n 0, 0)] = true ∧ lIa m_X_needRoom 5 (.getfield 10) 3 = true ∧ lSa m_X_needRoom 8 [(.iload_n 1, 0)] = true ∧ lIa m_X_needRoom 9 (.invokevirtual 299) 3 = true ∧ lIa m_X_needRoom 12 (.invokevirtual 34) 3 = true ∧ lSa m_X_needRoom 15 [(.iload_n 2, 0), (.iadd, 0), (.bipush 31, nI 31)] = true ∧ lIa m_X_needRoom 19 (.if_icmp .le 14) 3 = true ∧ lIa m_X_needRoom 33 (.return_) 1 = true ∧ lIa m_X_needRoom 22 (.new 134) 3 = true ∧ lIa m_X_needRoom 25 (.dup) 1 = true ∧ lIa m_X_needRoom 26 (.ldc_w 343) 3 = true ∧ lIa m_X_needRoom 29 (.invokespecial 138) 3 = true ∧ lIa m_X_needRoom 32 (.athrow) 1 = true := by decide +kernel
  refine lA8 hdd (fun dd0 dd1 dd2 dd3 dd4 dd5 dd6 dd7 hdd => ?_)
  obtain ⟨dd8, dd9, dd10, dd11, dd12, dd13, dd14⟩ := hdd
  refine gMet.of (by decide +kernel) (Nat.le_of_ble_eq_true rfl) [some (.ref a0), some (.int a1), some (.int a2)] (fun ls h => zEn_ok (n := 3) h) ?_
  intro o Gf h
  unfold f_X_needRoom at h
  refine Y.blk (pc' := 1) (L' := [some (.ref a0), some (.int a1), some (.int a2)]) (st' := [.ref a0]) (sg := [(.aload_n 0, 0)]) (lSa_ok dd0) rfl ?_
  refine Y.getA fl_X_10 (lIa_ok dd1) h (fun v1 h => ?_)
  refine Y.blk (pc' := 5) (L' := [some (.ref a0), some (.int a1), some (.int a2)]) (st' := [.ref a0, .ref v1]) (sg := [(.aload_n 0, 0)]) (lSa_ok dd2) rfl ?_
  refine Y.getA fl_X_10 (lIa_ok dd3) h (fun v2 h => ?_)
  refine Y.blk (pc' := 9) (L' := [some (.ref a0), some (.int a1), some (.int a2)]) (st' := [.int a1, .ref v2, .ref v1]) (sg := [(.iload_n 1, 0)]) (lSa_ok dd4) rfl ?_
  obtain ⟨_, o4, e3, m5, h⟩ := gOb_inv h
  refine Y.callI (yC.Vi (b := v2) (As := [.int a1]) (st := [.ref v1]) (r := ("Partlister$Lists", T_I, 7)) hV.1 cb_I_rowOf lk_X_299 in_I_rowOf rfl se_I_rowOf (lIa_ok dd5) rfl rfl (Nat.le_of_ble_eq_true rfl) (by decide) e3 m5) (k_I_rowOf hV G v2 a1) h (fun v7 G6 _ h => ?_)
  obtain ⟨_, o9, e8, m10, h⟩ := gOb_inv h
  refine Y.callI (yC.Vi (b := v1) (As := [.int v7]) (st := []) (r := ("Partlister$Lists", T_I, 7)) hV.1 cb_I_lengthOf lk_X_34 in_I_lengthOf rfl se_I_lengthOf (lIa_ok dd6) rfl rfl (Nat.le_of_ble_eq_true rfl) (by decide) e8 m10) (k_I_lengthOf hV G6 v1 v7) h (fun v12 G11 _ h => ?_)
  refine Y.blk (pc' := 19) (L' := [some (.ref a0), some (.int a1), some (.int a2)]) (st' := [.int (nI 31), .int (v12 + a2)]) (sg := [(.iload_n 2, 0), (.iadd, 0), (.bipush 31, nI 31)]) (lSa_ok dd7) rfl ?_
  refine Y.ic_le (off := 14) (tgt := 33) (lIa_ok dd8) (by decide) h (fun c13 h => ?_) (fun c13 h => ?_)
  · exact Y.vret rfl (lIa_ok dd9) h
  · exact Y.throwSW (is := 343) (text := "a ROW has at most 31") (names := zNm) hV.1 (hV.2 _ _ _ (by decide +kernel)) (by decide +kernel) (by decide +kernel) ck_X_134 ini_ISE tw_X_138 tg_X_138 (by decide) (by decide) rfl (Nat.le_of_ble_eq_true rfl) (lIa_ok dd10) (lIa_ok dd11) (lIa_ok dd12) (lIa_ok dd13) (lIa_ok dd14) h

def f_X_add (G : gH) (a0 : Nat) (a1 : Int32) (a2 : Int32) : gR :=
  gOb G a0 3 fun o2 => bV (f_X_needList G a0 a1) fun G4 => gOb G4 a0 3 fun o6 => bV (f_X_needKey G4 a0 a2) fun G8 => gOb G8 a0 3 fun o10 => bV (f_X_needRoom G8 a0 a1 (nI 1)) fun G12 => gFA G12 a0 3 0 fun v13 => gOb G12 v13 1 fun o15 => bI (f_I_lengthOf G12 v13 a1) fun v18 G17 => gOb G17 a0 3 fun o20 => bI (f_X_make G17 a0 a2) fun v23 G22 => gOb G22 a0 3 fun o25 => bV (f_X_bringIn G22 a0 a1 v18 v23 (-1)) fun G27 => gFA G27 a0 3 0 fun v28 => gOb G27 v28 1 fun o30 => bI (f_I_lengthOf G27 v28 a1) fun v33 G32 => rI v33 G32
theorem k_X_add {l : Launch} {D : va_G} {B : Nat} {O : State → Heap → Prop} (hV : zG l D B O) (G : gH) (a0 : Nat) (a1 : Int32) (a2 : Int32) : gMet (zVm l D B O) m_X_add 7 [.ref a0, .int a1, .int a2] G (f_X_add G a0 a1 a2) := by
  have hdd : lSa m_X_add 0 [(.aload_n 0, 0), (.iload_n 1, 0)] = true ∧ lIa m_X_add 2 (.invokevirtual 23) 3 = true ∧ lSa m_X_add 5 [(.aload_n 0, 0), (.iload_n 2, 0)] = true ∧ lIa m_X_add 7 (.invokevirtual 27) 3 = true ∧ lSa m_X_add 10 [(.aload_n 0, 0), (.iload_n 1, 0), (.iconst 1, nI 1)] = true ∧ lIa m_X_add 13 (.invokevirtual 30) 3 = true ∧ lSa m_X_add 16 [(.aload_n 0, 0), (.iload_n 1, 0), (.aload_n 0, 0)] = true ∧ lIa m_X_add 19 (.getfield 10) 3 = true ∧ lSa m_X_add 22 [(.iload_n 1, 0)] = true ∧ lIa m_X_add 23 (.invokevirtual 34) 3 = true ∧ lSa m_X_add 26 [(.aload_n 0, 0), (.iload_n 2, 0)] = true ∧ lIa m_X_add 28 (.invokevirtual 38) 3 = true ∧ lSa m_X_add 31 [(.iconst (-1), -1)] = true ∧ lIa m_X_add 32 (.invokevirtual 41) 3 = true ∧ lSa m_X_add 35 [(.aload_n 0, 0)] = true ∧ lIa m_X_add 36 (.getfield 10) 3 = true ∧ lSa m_X_add 39 [(.iload_n 1, 0)] = true ∧ lIa m_X_add 40 (.invokevirtual 34) 3 = true ∧ lIa m_X_add 43 (.ireturn) 1 = true := by decide +kernel
  refine lA8 hdd (fun dd0 dd1 dd2 dd3 dd4 dd5 dd6 dd7 hdd => ?_)
  refine lA8 hdd (fun dd8 dd9 dd10 dd11 dd12 dd13 dd14 dd15 hdd => ?_)
  obtain ⟨dd16, dd17, dd18⟩ := hdd
  refine gMet.of (by decide +kernel) (Nat.le_of_ble_eq_true rfl) [some (.ref a0), some (.int a1), some (.int a2)] (fun ls h => zEn_ok (n := 3) h) ?_
  intro o Gf h
  unfold f_X_add at h
  refine Y.blk (pc' := 2) (L' := [some (.ref a0), some (.int a1), some (.int a2)]) (st' := [.int a1, .ref a0]) (sg := [(.aload_n 0, 0), (.iload_n 1, 0)]) (lSa_ok dd0) rfl ?_
  obtain ⟨_, o2, e1, m3, h⟩ := gOb_inv h
  refine Y.callN (yC.Vi (b := a0) (As := [.int a1]) (st := []) (r := ("Partlister", T_X, 5)) hV.1 cb_X_needList lk_X_23 in_X_needList rfl se_X_needList (lIa_ok dd1) rfl rfl (Nat.le_of_ble_eq_true rfl) (by decide) e1 m3) (k_X_needList hV G a0 a1) h (fun G4 _ h => ?_)
  refine Y.blk (pc' := 7) (L' := [some (.ref a0), some (.int a1), some (.int a2)]) (st' := [.int a2, .ref a0]) (sg := [(.aload_n 0, 0), (.iload_n 2, 0)]) (lSa_ok dd2) rfl ?_
  obtain ⟨_, o6, e5, m7, h⟩ := gOb_inv h
  refine Y.callN (yC.Vi (b := a0) (As := [.int a2]) (st := []) (r := ("Partlister", T_X, 5)) hV.1 cb_X_needKey lk_X_27 in_X_needKey rfl se_X_needKey (lIa_ok dd3) rfl rfl (Nat.le_of_ble_eq_true rfl) (by decide) e5 m7) (k_X_needKey hV G4 a0 a2) h (fun G8 _ h => ?_)
  refine Y.blk (pc' := 13) (L' := [some (.ref a0), some (.int a1), some (.int a2)]) (st' := [.int (nI 1), .int a1, .ref a0]) (sg := [(.aload_n 0, 0), (.iload_n 1, 0), (.iconst 1, nI 1)]) (lSa_ok dd4) rfl ?_
  obtain ⟨_, o10, e9, m11, h⟩ := gOb_inv h
  refine Y.callN (yC.Vi (b := a0) (As := [.int a1, .int (nI 1)]) (st := []) (r := ("Partlister", T_X, 5)) hV.1 cb_X_needRoom lk_X_30 in_X_needRoom rfl se_X_needRoom (lIa_ok dd5) rfl rfl (Nat.le_of_ble_eq_true rfl) (by decide) e9 m11) (k_X_needRoom hV G8 a0 a1 (nI 1)) h (fun G12 _ h => ?_)
  refine Y.blk (pc' := 19) (L' := [some (.ref a0), some (.int a1), some (.int a2)]) (st' := [.ref a0, .int a1, .ref a0]) (sg := [(.aload_n 0, 0), (.iload_n 1, 0), (.aload_n 0, 0)]) (lSa_ok dd6) rfl ?_
  refine Y.getA fl_X_10 (lIa_ok dd7) h (fun v13 h => ?_)
  refine Y.blk (pc' := 23) (L' := [some (.ref a0), some (.int a1), some (.int a2)]) (st' := [.int a1, .ref v13, .int a1, .ref a0]) (sg := [(.iload_n 1, 0)]) (lSa_ok dd8) rfl ?_
  obtain ⟨_, o15, e14, m16, h⟩ := gOb_inv h
  refine Y.callI (yC.Vi (b := v13) (As := [.int a1]) (st := [.int a1, .ref a0]) (r := ("Partlister$Lists", T_I, 7)) hV.1 cb_I_lengthOf lk_X_34 in_I_lengthOf rfl se_I_lengthOf (lIa_ok dd9) rfl rfl (Nat.le_of_ble_eq_true rfl) (by decide) e14 m16) (k_I_lengthOf hV G12 v13 a1) h (fun v18 G17 _ h => ?_)
  refine Y.blk (pc' := 28) (L' := [some (.ref a0), some (.int a1), some (.int a2)]) (st' := [.int a2, .ref a0, .int v18, .int a1, .ref a0]) (sg := [(.aload_n 0, 0), (.iload_n 2, 0)]) (lSa_ok dd10) rfl ?_
  obtain ⟨_, o20, e19, m21, h⟩ := gOb_inv h
  refine Y.callI (yC.Vi (b := a0) (As := [.int a2]) (st := [.int v18, .int a1, .ref a0]) (r := ("Partlister", T_X, 5)) hV.1 cb_X_make lk_X_38 in_X_make rfl se_X_make (lIa_ok dd11) rfl rfl (Nat.le_of_ble_eq_true rfl) (by decide) e19 m21) (k_X_make hV G17 a0 a2) h (fun v23 G22 _ h => ?_)
  refine Y.blk (pc' := 32) (L' := [some (.ref a0), some (.int a1), some (.int a2)]) (st' := [.int (-1), .int v23, .int v18, .int a1, .ref a0]) (sg := [(.iconst (-1), -1)]) (lSa_ok dd12) rfl ?_
  obtain ⟨_, o25, e24, m26, h⟩ := gOb_inv h
  refine Y.callN (yC.Vi (b := a0) (As := [.int a1, .int v18, .int v23, .int (-1)]) (st := []) (r := ("Partlister", T_X, 5)) hV.1 cb_X_bringIn lk_X_41 in_X_bringIn rfl se_X_bringIn (lIa_ok dd13) rfl rfl (Nat.le_of_ble_eq_true rfl) (by decide) e24 m26) (k_X_bringIn hV G22 a0 a1 v18 v23 (-1)) h (fun G27 _ h => ?_)
  refine Y.blk (pc' := 36) (L' := [some (.ref a0), some (.int a1), some (.int a2)]) (st' := [.ref a0]) (sg := [(.aload_n 0, 0)]) (lSa_ok dd14) rfl ?_
  refine Y.getA fl_X_10 (lIa_ok dd15) h (fun v28 h => ?_)
  refine Y.blk (pc' := 40) (L' := [some (.ref a0), some (.int a1), some (.int a2)]) (st' := [.int a1, .ref v28]) (sg := [(.iload_n 1, 0)]) (lSa_ok dd16) rfl ?_
  obtain ⟨_, o30, e29, m31, h⟩ := gOb_inv h
  refine Y.callI (yC.Vi (b := v28) (As := [.int a1]) (st := []) (r := ("Partlister$Lists", T_I, 7)) hV.1 cb_I_lengthOf lk_X_34 in_I_lengthOf rfl se_I_lengthOf (lIa_ok dd17) rfl rfl (Nat.le_of_ble_eq_true rfl) (by decide) e29 m31) (k_I_lengthOf hV G27 v28 a1) h (fun v33 G32 _ h => ?_)
  exact Y.iret rfl (lIa_ok dd18) h

def f_X_bringAll_L24 (K59 : gH → Nat → Int32 → Int32 → gR) : Nat → gH → Nat → Int32 → Int32 → Int32 → Int32 → Int32 → gR
  | 0, _, _, _, _, _, _, _ => none
  | n + 1, G, x0, x1, x2, x3, x4, x5 =>
    if x4 ≤ x5 then K59 G x0 x1 x4
    else gFA G x0 3 0 fun v12 => gFA G x0 3 0 fun v13 => gOb G v13 1 fun o15 => bI (f_I_thingAt G v13 x3 x5) fun v18 G17 => gOb G17 v12 1 fun o20 => bV (f_I_write G17 v12 x1 (x2 + x5) v18) fun G22 => f_X_bringAll_L24 K59 n G22 x0 x1 x2 x3 x4 (x5 + (nI 1))
def f_X_bringAll (G : gH) (a0 : Nat) (a1 : Int32) (a2 : Int32) (a3 : Int32) : gR :=
  gFA G a0 3 0 fun v1 => gOb G v1 1 fun o3 => bI (f_I_lengthOf G v1 a3) fun v6 G5 => gFA G5 a0 3 0 fun v7 => gOb G5 v7 1 fun o9 => bV (f_I_openGap G5 v7 a1 a2 v6) fun G11 => f_X_bringAll_L24 (fun G27 x24 x25 x26 => if x26 ≤ 0 then rI x26 G27
    else gOb G27 x24 3 fun o29 => bV (f_X_endByLength G27 x24 x25 (-1)) fun G31 => rI x26 G31) zFu G11 a0 a1 a2 a3 v6 (nI 0)
theorem k_X_bringAll_L24 {l : Launch} {D : va_G} {B : Nat} {O : State → Heap → Prop} (hV : zG l D B O) {o : gO} {Gf : gH} (K59 : gH → Nat → Int32 → Int32 → gR) (hK59 : ∀ (G : gH) (x0 : Nat) (x1 : Int32) (x4 : Int32), K59 G x0 x1 x4 = some (o, Gf) → Y (zVm l D B O) m_X_bringAll 6 o Gf 59 [some (.ref x0), some (.int x1), none, none, some (.int x4), none] [] G) : ∀ (n : Nat) (G : gH) (x0 : Nat) (x1 : Int32) (x2 : Int32) (x3 : Int32) (x4 : Int32) (x5 : Int32), f_X_bringAll_L24 K59 n G x0 x1 x2 x3 x4 x5 = some (o, Gf) → Y (zVm l D B O) m_X_bringAll 6 o Gf 24 [some (.ref x0), some (.int x1), some (.int x2), some (.int x3), some (.int x4), some (.int x5)] [] G := by
  have hdd : lSa m_X_bringAll 24 [(.iload 5, 0), (.iload 4, 0)] = true ∧ lIa m_X_bringAll 28 (.if_icmp .ge 31) 3 = true ∧ lSa m_X_bringAll 31 [(.aload_n 0, 0)] = true ∧ lIa m_X_bringAll 32 (.getfield 10) 3 = true ∧ lSa m_X_bringAll 35 [(.iload_n 1, 0), (.iload_n 2, 0), (.iload 5, 0), (.iadd, 0), (.aload_n 0, 0)] = true ∧ lIa m_X_bringAll 41 (.getfield 10) 3 = true ∧ lSa m_X_bringAll 44 [(.iload_n 3, 0), (.iload 5, 0)] = true ∧ lIa m_X_bringAll 47 (.invokevirtual 94) 3 = true ∧ lIa m_X_bringAll 50 (.invokevirtual 65) 3 = true ∧ lSa m_X_bringAll 53 [(.iinc 5 1, nI 1)] = true ∧ lIa m_X_bringAll 56 (.goto (-32)) 3 = true := by decide +kernel
  refine lA8 hdd (fun dd0 dd1 dd2 dd3 dd4 dd5 dd6 dd7 hdd => ?_)
  obtain ⟨dd8, dd9, dd10⟩ := hdd
  intro n
  induction n with
  | zero => intro G x0 x1 x2 x3 x4 x5 h; cases h
  | succ n ih =>
    intro G x0 x1 x2 x3 x4 x5 h
    unfold f_X_bringAll_L24 at h
    refine Y.blk (pc' := 28) (L' := [some (.ref x0), some (.int x1), some (.int x2), some (.int x3), some (.int x4), some (.int x5)]) (st' := [.int x4, .int x5]) (sg := [(.iload 5, 0), (.iload 4, 0)]) (lSa_ok dd0) rfl ?_
    refine Y.ic_ge (off := 31) (tgt := 59) (lIa_ok dd1) (by decide) h (fun c23 h => ?_) (fun c23 h => ?_)
    · refine Y.less (L' := [some (.ref x0), some (.int x1), none, none, some (.int x4), none]) (zLe_some (zLe_some (zLe_none (zLe_none (zLe_some (zLe_none (zLe_nil))))))) ?_
      exact hK59 G x0 x1 x4 h
    · refine Y.blk (pc' := 32) (L' := [some (.ref x0), some (.int x1), some (.int x2), some (.int x3), some (.int x4), some (.int x5)]) (st' := [.ref x0]) (sg := [(.aload_n 0, 0)]) (lSa_ok dd2) rfl ?_
      refine Y.getA fl_X_10 (lIa_ok dd3) h (fun v12 h => ?_)
      refine Y.blk (pc' := 41) (L' := [some (.ref x0), some (.int x1), some (.int x2), some (.int x3), some (.int x4), some (.int x5)]) (st' := [.ref x0, .int (x2 + x5), .int x1, .ref v12]) (sg := [(.iload_n 1, 0), (.iload_n 2, 0), (.iload 5, 0), (.iadd, 0), (.aload_n 0, 0)]) (lSa_ok dd4) rfl ?_
      refine Y.getA fl_X_10 (lIa_ok dd5) h (fun v13 h => ?_)
      refine Y.blk (pc' := 47) (L' := [some (.ref x0), some (.int x1), some (.int x2), some (.int x3), some (.int x4), some (.int x5)]) (st' := [.int x5, .int x3, .ref v13, .int (x2 + x5), .int x1, .ref v12]) (sg := [(.iload_n 3, 0), (.iload 5, 0)]) (lSa_ok dd6) rfl ?_
      obtain ⟨_, o15, e14, m16, h⟩ := gOb_inv h
      refine Y.callI (yC.Vi (b := v13) (As := [.int x3, .int x5]) (st := [.int (x2 + x5), .int x1, .ref v12]) (r := ("Partlister$Lists", T_I, 7)) hV.1 cb_I_thingAt lk_X_94 in_I_thingAt rfl se_I_thingAt (lIa_ok dd7) rfl rfl (Nat.le_of_ble_eq_true rfl) (by decide) e14 m16) (k_I_thingAt hV G v13 x3 x5) h (fun v18 G17 _ h => ?_)
      obtain ⟨_, o20, e19, m21, h⟩ := gOb_inv h
      refine Y.callN (yC.Vi (b := v12) (As := [.int x1, .int (x2 + x5), .int v18]) (st := []) (r := ("Partlister$Lists", T_I, 7)) hV.1 cb_I_write lk_X_65 in_I_write rfl se_I_write (lIa_ok dd8) rfl rfl (Nat.le_of_ble_eq_true rfl) (by decide) e19 m21) (k_I_write hV G17 v12 x1 (x2 + x5) v18) h (fun G22 _ h => ?_)
      refine Y.blk (pc' := 56) (L' := [some (.ref x0), some (.int x1), some (.int x2), some (.int x3), some (.int x4), some (.int (x5 + (nI 1)))]) (st' := []) (sg := [(.iinc 5 1, nI 1)]) (lSa_ok dd9) rfl ?_
      refine Y.goto (off := -32) (tgt := 24) (lIa_ok dd10) (by decide) ?_
      exact ih G22 x0 x1 x2 x3 x4 (x5 + (nI 1)) h
theorem k_X_bringAll {l : Launch} {D : va_G} {B : Nat} {O : State → Heap → Prop} (hV : zG l D B O) (G : gH) (a0 : Nat) (a1 : Int32) (a2 : Int32) (a3 : Int32) : gMet (zVm l D B O) m_X_bringAll 6 [.ref a0, .int a1, .int a2, .int a3] G (f_X_bringAll G a0 a1 a2 a3) := by
  have hdd : lSa m_X_bringAll 0 [(.aload_n 0, 0)] = true ∧ lIa m_X_bringAll 1 (.getfield 10) 3 = true ∧ lSa m_X_bringAll 4 [(.iload_n 3, 0)] = true ∧ lIa m_X_bringAll 5 (.invokevirtual 34) 3 = true ∧ lSa m_X_bringAll 8 [(.istore 4, 0), (.aload_n 0, 0)] = true ∧ lIa m_X_bringAll 11 (.getfield 10) 3 = true ∧ lSa m_X_bringAll 14 [(.iload_n 1, 0), (.iload_n 2, 0), (.iload 4, 0)] = true ∧ lIa m_X_bringAll 18 (.invokevirtual 278) 3 = true ∧ lSa m_X_bringAll 21 [(.iconst 0, nI 0), (.istore 5, 0)] = true ∧ lSa m_X_bringAll 59 [(.iload 4, 0)] = true ∧ lIa m_X_bringAll 61 (.ifCond .le 9) 3 = true ∧ lSa m_X_bringAll 70 [(.iload 4, 0)] = true ∧ lIa m_X_bringAll 72 (.ireturn) 1 = true ∧ lSa m_X_bringAll 64 [(.aload_n 0, 0), (.iload_n 1, 0), (.iconst (-1), -1)] = true ∧ lIa m_X_bringAll 67 (.invokevirtual 281) 3 = true := by decide +kernel
  refine lA8 hdd (fun dd0 dd1 dd2 dd3 dd4 dd5 dd6 dd7 hdd => ?_)
  obtain ⟨dd8, dd9, dd10, dd11, dd12, dd13, dd14⟩ := hdd
  refine gMet.of (by decide +kernel) (Nat.le_of_ble_eq_true rfl) [some (.ref a0), some (.int a1), some (.int a2), some (.int a3), none, none] (fun ls h => zEn_ok (n := 6) h) ?_
  intro o Gf h
  unfold f_X_bringAll at h
  refine Y.blk (pc' := 1) (L' := [some (.ref a0), some (.int a1), some (.int a2), some (.int a3), none, none]) (st' := [.ref a0]) (sg := [(.aload_n 0, 0)]) (lSa_ok dd0) rfl ?_
  refine Y.getA fl_X_10 (lIa_ok dd1) h (fun v1 h => ?_)
  refine Y.blk (pc' := 5) (L' := [some (.ref a0), some (.int a1), some (.int a2), some (.int a3), none, none]) (st' := [.int a3, .ref v1]) (sg := [(.iload_n 3, 0)]) (lSa_ok dd2) rfl ?_
  obtain ⟨_, o3, e2, m4, h⟩ := gOb_inv h
  refine Y.callI (yC.Vi (b := v1) (As := [.int a3]) (st := []) (r := ("Partlister$Lists", T_I, 7)) hV.1 cb_I_lengthOf lk_X_34 in_I_lengthOf rfl se_I_lengthOf (lIa_ok dd3) rfl rfl (Nat.le_of_ble_eq_true rfl) (by decide) e2 m4) (k_I_lengthOf hV G v1 a3) h (fun v6 G5 _ h => ?_)
  refine Y.blk (pc' := 11) (L' := [some (.ref a0), some (.int a1), some (.int a2), some (.int a3), some (.int v6), none]) (st' := [.ref a0]) (sg := [(.istore 4, 0), (.aload_n 0, 0)]) (lSa_ok dd4) rfl ?_
  refine Y.getA fl_X_10 (lIa_ok dd5) h (fun v7 h => ?_)
  refine Y.blk (pc' := 18) (L' := [some (.ref a0), some (.int a1), some (.int a2), some (.int a3), some (.int v6), none]) (st' := [.int v6, .int a2, .int a1, .ref v7]) (sg := [(.iload_n 1, 0), (.iload_n 2, 0), (.iload 4, 0)]) (lSa_ok dd6) rfl ?_
  obtain ⟨_, o9, e8, m10, h⟩ := gOb_inv h
  refine Y.callN (yC.Vi (b := v7) (As := [.int a1, .int a2, .int v6]) (st := []) (r := ("Partlister$Lists", T_I, 7)) hV.1 cb_I_openGap lk_X_278 in_I_openGap rfl se_I_openGap (lIa_ok dd7) rfl rfl (Nat.le_of_ble_eq_true rfl) (by decide) e8 m10) (k_I_openGap hV G5 v7 a1 a2 v6) h (fun G11 _ h => ?_)
  refine Y.blk (pc' := 24) (L' := [some (.ref a0), some (.int a1), some (.int a2), some (.int a3), some (.int v6), some (.int (nI 0))]) (st' := []) (sg := [(.iconst 0, nI 0), (.istore 5, 0)]) (lSa_ok dd8) rfl ?_
  refine k_X_bringAll_L24 hV _ ?_  zFu G11 a0 a1 a2 a3 v6 (nI 0) h
  · intro G27 x24 x25 x26 h
    refine Y.blk (pc' := 61) (L' := [some (.ref x24), some (.int x25), none, none, some (.int x26), none]) (st' := [.int x26]) (sg := [(.iload 4, 0)]) (lSa_ok dd9) rfl ?_
    refine Y.if_le (off := 9) (tgt := 70) (lIa_ok dd10) (by decide) h (fun c32 h => ?_) (fun c32 h => ?_)
    · refine Y.blk (pc' := 72) (L' := [some (.ref x24), some (.int x25), none, none, some (.int x26), none]) (st' := [.int x26]) (sg := [(.iload 4, 0)]) (lSa_ok dd11) rfl ?_
      exact Y.iret rfl (lIa_ok dd12) h
    · refine Y.blk (pc' := 67) (L' := [some (.ref x24), some (.int x25), none, none, some (.int x26), none]) (st' := [.int (-1), .int x25, .ref x24]) (sg := [(.aload_n 0, 0), (.iload_n 1, 0), (.iconst (-1), -1)]) (lSa_ok dd13) rfl ?_
      obtain ⟨_, o29, e28, m30, h⟩ := gOb_inv h
      refine Y.callN (yC.Vi (b := x24) (As := [.int x25, .int (-1)]) (st := []) (r := ("Partlister", T_X, 5)) hV.1 cb_X_endByLength lk_X_281 in_X_endByLength rfl se_X_endByLength (lIa_ok dd14) rfl rfl (Nat.le_of_ble_eq_true rfl) (by decide) e28 m30) (k_X_endByLength hV G27 x24 x25 (-1)) h (fun G31 _ h => ?_)
      refine Y.blk (pc' := 72) (L' := [some (.ref x24), some (.int x25), none, none, some (.int x26), none]) (st' := [.int x26]) (sg := [(.iload 4, 0)]) (lSa_ok dd11) rfl ?_
      exact Y.iret rfl (lIa_ok dd12) h

def f_X_needGap (G : gH) (a0 : Nat) (a1 : Int32) (a2 : Int32) : gR :=
  if a2 < 0 then gThrow "java/lang/IndexOutOfBoundsException" G
  else gFA G a0 3 0 fun v1 => gOb G v1 1 fun o3 => bI (f_I_lengthOf G v1 a1) fun v6 G5 => if a2 ≤ v6 then rV G5
    else gThrow "java/lang/IndexOutOfBoundsException" G5
theorem k_X_needGap {l : Launch} {D : va_G} {B : Nat} {O : State → Heap → Prop} (hV : zG l D B O) (G : gH) (a0 : Nat) (a1 : Int32) (a2 : Int32) : gMet (zVm l D B O) m_X_needGap 6 [.ref a0, .int a1, .int a2] G (f_X_needGap G a0 a1 a2) := by
  have hdd : lSa m_X_needGap 0 [(.iload_n 2, 0)] = true ∧ lIa m_X_needGap 1 (.ifCond .lt 15) 3 = true ∧ lIa m_X_needGap 16 (.new 125) 3 = true ∧ lIa m_X_needGap 19 (.dup) 1 = true ∧ lIa m_X_needGap 20 (.ldc_w 339) 3 = true ∧ lIa m_X_needGap 23 (.invokespecial 129) 3 = true ∧ lIa m_X_needGap 26 (.athrow) 1 = true ∧ lSa m_X_needGap 4 [(.iload_n 2, 0), (.aload_n 0, 0)] = true ∧ lIa m_X_needGap 6 (.getfield 10) 3 = true ∧ lSa m_X_needGap 9 [(.iload_n 1, 0)] = true ∧ lIa m_X_needGap 10 (.invokevirtual 34) 3 = true ∧ lIa m_X_needGap 13 (.if_icmp .le 14) 3 = true ∧ lIa m_X_needGap 27 (.return_) 1 = true := by decide +kernel
  refine lA8 hdd (fun dd0 dd1 dd2 dd3 dd4 dd5 dd6 dd7 hdd => ?_)
  obtain ⟨dd8, dd9, dd10, dd11, dd12⟩ := hdd
  refine gMet.of (by decide +kernel) (Nat.le_of_ble_eq_true rfl) [some (.ref a0), some (.int a1), some (.int a2)] (fun ls h => zEn_ok (n := 3) h) ?_
  intro o Gf h
  unfold f_X_needGap at h
  refine Y.blk (pc' := 1) (L' := [some (.ref a0), some (.int a1), some (.int a2)]) (st' := [.int a2]) (sg := [(.iload_n 2, 0)]) (lSa_ok dd0) rfl ?_
  refine Y.if_lt (off := 15) (tgt := 16) (lIa_ok dd1) (by decide) h (fun c8 h => ?_) (fun c8 h => ?_)
  · exact Y.throwSW (is := 339) (text := "not 0 to LENGTH") (names := zNm) hV.1 (hV.2 _ _ _ (by decide +kernel)) (by decide +kernel) (by decide +kernel) ck_X_125 ini_IOE tw_X_129 tg_X_129 (by decide) (by decide) rfl (Nat.le_of_ble_eq_true rfl) (lIa_ok dd2) (lIa_ok dd3) (lIa_ok dd4) (lIa_ok dd5) (lIa_ok dd6) h
  · refine Y.blk (pc' := 6) (L' := [some (.ref a0), some (.int a1), some (.int a2)]) (st' := [.ref a0, .int a2]) (sg := [(.iload_n 2, 0), (.aload_n 0, 0)]) (lSa_ok dd7) rfl ?_
    refine Y.getA fl_X_10 (lIa_ok dd8) h (fun v1 h => ?_)
    refine Y.blk (pc' := 10) (L' := [some (.ref a0), some (.int a1), some (.int a2)]) (st' := [.int a1, .ref v1, .int a2]) (sg := [(.iload_n 1, 0)]) (lSa_ok dd9) rfl ?_
    obtain ⟨_, o3, e2, m4, h⟩ := gOb_inv h
    refine Y.callI (yC.Vi (b := v1) (As := [.int a1]) (st := [.int a2]) (r := ("Partlister$Lists", T_I, 7)) hV.1 cb_I_lengthOf lk_X_34 in_I_lengthOf rfl se_I_lengthOf (lIa_ok dd10) rfl rfl (Nat.le_of_ble_eq_true rfl) (by decide) e2 m4) (k_I_lengthOf hV G v1 a1) h (fun v6 G5 _ h => ?_)
    refine Y.ic_le (off := 14) (tgt := 27) (lIa_ok dd11) (by decide) h (fun c7 h => ?_) (fun c7 h => ?_)
    · exact Y.vret rfl (lIa_ok dd12) h
    · exact Y.throwSW (is := 339) (text := "not 0 to LENGTH") (names := zNm) hV.1 (hV.2 _ _ _ (by decide +kernel)) (by decide +kernel) (by decide +kernel) ck_X_125 ini_IOE tw_X_129 tg_X_129 (by decide) (by decide) rfl (Nat.le_of_ble_eq_true rfl) (lIa_ok dd2) (lIa_ok dd3) (lIa_ok dd4) (lIa_ok dd5) (lIa_ok dd6) h

def f_X_needOtherRow (G : gH) (a0 : Nat) (a1 : Int32) (a2 : Int32) : gR :=
  gFA G a0 3 0 fun v1 => gOb G v1 1 fun o3 => bI (f_I_rowOf G v1 a1) fun v6 G5 => gFA G5 a0 3 0 fun v7 => gOb G5 v7 1 fun o9 => bI (f_I_rowOf G5 v7 a2) fun v12 G11 => if v6 = v12 then gThrow "java/lang/IllegalStateException" G11
  else rV G11
theorem k_X_needOtherRow {l : Launch} {D : va_G} {B : Nat} {O : State → Heap → Prop} (hV : zG l D B O) (G : gH) (a0 : Nat) (a1 : Int32) (a2 : Int32) : gMet (zVm l D B O) m_X_needOtherRow 6 [.ref a0, .int a1, .int a2] G (f_X_needOtherRow G a0 a1 a2) := by
  have hdd : lSa m_X_needOtherRow 0 [(.aload_n 0, 0)] = true ∧ lIa m_X_needOtherRow 1 (.getfield 10) 3 = true ∧ lSa m_X_needOtherRow 4 [(.iload_n 1, 0)] = true ∧ lIa m_X_needOtherRow 5 (.invokevirtual 299) 3 = true ∧ lSa m_X_needOtherRow 8 [(.aload_n 0, 0)] = true ∧ lIa m_X_needOtherRow 9 (.getfield 10) 3 = true ∧ lSa m_X_needOtherRow 12 [(.iload_n 2, 0)] = true ∧ lIa m_X_needOtherRow 13 (.invokevirtual 299) 3 = true ∧ lIa m_X_needOtherRow 16 (.if_icmp .ne 14) 3 = true ∧ lIa m_X_needOtherRow 19 (.new 134) 3 = true ∧ lIa m_X_needOtherRow 22 (.dup) 1 = true ∧ lIa m_X_needOtherRow 23 (.ldc_w 345) 3 = true ∧ lIa m_X_needOtherRow 26 (.invokespecial 138) 3 = true ∧ lIa m_X_needOtherRow 29 (.athrow) 1 = true ∧ lIa m_X_needOtherRow 30 (.return_) 1 = true := by decide +kernel
  refine lA8 hdd (fun dd0 dd1 dd2 dd3 dd4 dd5 dd6 dd7 hdd => ?_)
  obtain ⟨dd8, dd9, dd10, dd11, dd12, dd13, dd14⟩ := hdd
  refine gMet.of (by decide +kernel) (Nat.le_of_ble_eq_true rfl) [some (.ref a0), some (.int a1), some (.int a2)] (fun ls h => zEn_ok (n := 3) h) ?_
  intro o Gf h
  unfold f_X_needOtherRow at h
  refine Y.blk (pc' := 1) (L' := [some (.ref a0), some (.int a1), some (.int a2)]) (st' := [.ref a0]) (sg := [(.aload_n 0, 0)]) (lSa_ok dd0) rfl ?_
  refine Y.getA fl_X_10 (lIa_ok dd1) h (fun v1 h => ?_)
  refine Y.blk (pc' := 5) (L' := [some (.ref a0), some (.int a1), some (.int a2)]) (st' := [.int a1, .ref v1]) (sg := [(.iload_n 1, 0)]) (lSa_ok dd2) rfl ?_
  obtain ⟨_, o3, e2, m4, h⟩ := gOb_inv h
  refine Y.callI (yC.Vi (b := v1) (As := [.int a1]) (st := []) (r := ("Partlister$Lists", T_I, 7)) hV.1 cb_I_rowOf lk_X_299 in_I_rowOf rfl se_I_rowOf (lIa_ok dd3) rfl rfl (Nat.le_of_ble_eq_true rfl) (by decide) e2 m4) (k_I_rowOf hV G v1 a1) h (fun v6 G5 _ h => ?_)
  refine Y.blk (pc' := 9) (L' := [some (.ref a0), some (.int a1), some (.int a2)]) (st' := [.ref a0, .int v6]) (sg := [(.aload_n 0, 0)]) (lSa_ok dd4) rfl ?_
  refine Y.getA fl_X_10 (lIa_ok dd5) h (fun v7 h => ?_)
  refine Y.blk (pc' := 13) (L' := [some (.ref a0), some (.int a1), some (.int a2)]) (st' := [.int a2, .ref v7, .int v6]) (sg := [(.iload_n 2, 0)]) (lSa_ok dd6) rfl ?_
  obtain ⟨_, o9, e8, m10, h⟩ := gOb_inv h
  refine Y.callI (yC.Vi (b := v7) (As := [.int a2]) (st := [.int v6]) (r := ("Partlister$Lists", T_I, 7)) hV.1 cb_I_rowOf lk_X_299 in_I_rowOf rfl se_I_rowOf (lIa_ok dd7) rfl rfl (Nat.le_of_ble_eq_true rfl) (by decide) e8 m10) (k_I_rowOf hV G5 v7 a2) h (fun v12 G11 _ h => ?_)
  refine Y.ic_ne (off := 14) (tgt := 30) (lIa_ok dd8) (by decide) h (fun c13 h => ?_) (fun c13 h => ?_)
  · exact Y.throwSW (is := 345) (text := "both are of the same ROW") (names := zNm) hV.1 (hV.2 _ _ _ (by decide +kernel)) (by decide +kernel) (by decide +kernel) ck_X_134 ini_ISE tw_X_138 tg_X_138 (by decide) (by decide) rfl (Nat.le_of_ble_eq_true rfl) (lIa_ok dd9) (lIa_ok dd10) (lIa_ok dd11) (lIa_ok dd12) (lIa_ok dd13) h
  · exact Y.vret rfl (lIa_ok dd14) h
end
section
def f_X_addAll (G : gH) (a0 : Nat) (a1 : Int32) (a2 : Int32) (a3 : Int32) : gR :=
  gOb G a0 3 fun o2 => bV (f_X_needList G a0 a1) fun G4 => gOb G4 a0 3 fun o6 => bV (f_X_needList G4 a0 a3) fun G8 => gOb G8 a0 3 fun o10 => bV (f_X_needGap G8 a0 a1 a2) fun G12 => gOb G12 a0 3 fun o14 => bV (f_X_needOtherRow G12 a0 a1 a3) fun G16 => gFA G16 a0 3 0 fun v17 => gOb G16 v17 1 fun o19 => bI (f_I_lengthOf G16 v17 a3) fun v22 G21 => gOb G21 a0 3 fun o24 => bV (f_X_needRoom G21 a0 a1 v22) fun G26 => gOb G26 a0 3 fun o28 => bI (f_X_bringAll G26 a0 a1 a2 a3) fun v31 G30 => rI v31 G30
theorem k_X_addAll {l : Launch} {D : va_G} {B : Nat} {O : State → Heap → Prop} (hV : zG l D B O) (G : gH) (a0 : Nat) (a1 : Int32) (a2 : Int32) (a3 : Int32) : gMet (zVm l D B O) m_X_addAll 7 [.ref a0, .int a1, .int a2, .int a3] G (f_X_addAll G a0 a1 a2 a3) := by
  have hdd : lSa m_X_addAll 0 [(.aload_n 0, 0), (.iload_n 1, 0)] = true ∧ lIa m_X_addAll 2 (.invokevirtual 23) 3 = true ∧ lSa m_X_addAll 5 [(.aload_n 0, 0), (.iload_n 3, 0)] = true ∧ lIa m_X_addAll 7 (.invokevirtual 23) 3 = true ∧ lSa m_X_addAll 10 [(.aload_n 0, 0), (.iload_n 1, 0), (.iload_n 2, 0)] = true ∧ lIa m_X_addAll 13 (.invokevirtual 45) 3 = true ∧ lSa m_X_addAll 16 [(.aload_n 0, 0), (.iload_n 1, 0), (.iload_n 3, 0)] = true ∧ lIa m_X_addAll 19 (.invokevirtual 51) 3 = true ∧ lSa m_X_addAll 22 [(.aload_n 0, 0), (.iload_n 1, 0), (.aload_n 0, 0)] = true ∧ lIa m_X_addAll 25 (.getfield 10) 3 = true ∧ lSa m_X_addAll 28 [(.iload_n 3, 0)] = true ∧ lIa m_X_addAll 29 (.invokevirtual 34) 3 = true ∧ lIa m_X_addAll 32 (.invokevirtual 30) 3 = true ∧ lSa m_X_addAll 35 [(.aload_n 0, 0), (.iload_n 1, 0), (.iload_n 2, 0), (.iload_n 3, 0)] = true ∧ lIa m_X_addAll 39 (.invokevirtual 54) 3 = true ∧ lIa m_X_addAll 42 (.ireturn) 1 = true := by decide +kernel
  refine lA8 hdd (fun dd0 dd1 dd2 dd3 dd4 dd5 dd6 dd7 hdd => ?_)
  obtain ⟨dd8, dd9, dd10, dd11, dd12, dd13, dd14, dd15⟩ := hdd
  refine gMet.of (by decide +kernel) (Nat.le_of_ble_eq_true rfl) [some (.ref a0), some (.int a1), some (.int a2), some (.int a3)] (fun ls h => zEn_ok (n := 4) h) ?_
  intro o Gf h
  unfold f_X_addAll at h
  refine Y.blk (pc' := 2) (L' := [some (.ref a0), some (.int a1), some (.int a2), some (.int a3)]) (st' := [.int a1, .ref a0]) (sg := [(.aload_n 0, 0), (.iload_n 1, 0)]) (lSa_ok dd0) rfl ?_
  obtain ⟨_, o2, e1, m3, h⟩ := gOb_inv h
  refine Y.callN (yC.Vi (b := a0) (As := [.int a1]) (st := []) (r := ("Partlister", T_X, 5)) hV.1 cb_X_needList lk_X_23 in_X_needList rfl se_X_needList (lIa_ok dd1) rfl rfl (Nat.le_of_ble_eq_true rfl) (by decide) e1 m3) (k_X_needList hV G a0 a1) h (fun G4 _ h => ?_)
  refine Y.blk (pc' := 7) (L' := [some (.ref a0), some (.int a1), some (.int a2), some (.int a3)]) (st' := [.int a3, .ref a0]) (sg := [(.aload_n 0, 0), (.iload_n 3, 0)]) (lSa_ok dd2) rfl ?_
  obtain ⟨_, o6, e5, m7, h⟩ := gOb_inv h
  refine Y.callN (yC.Vi (b := a0) (As := [.int a3]) (st := []) (r := ("Partlister", T_X, 5)) hV.1 cb_X_needList lk_X_23 in_X_needList rfl se_X_needList (lIa_ok dd3) rfl rfl (Nat.le_of_ble_eq_true rfl) (by decide) e5 m7) (k_X_needList hV G4 a0 a3) h (fun G8 _ h => ?_)
  refine Y.blk (pc' := 13) (L' := [some (.ref a0), some (.int a1), some (.int a2), some (.int a3)]) (st' := [.int a2, .int a1, .ref a0]) (sg := [(.aload_n 0, 0), (.iload_n 1, 0), (.iload_n 2, 0)]) (lSa_ok dd4) rfl ?_
  obtain ⟨_, o10, e9, m11, h⟩ := gOb_inv h
  refine Y.callN (yC.Vi (b := a0) (As := [.int a1, .int a2]) (st := []) (r := ("Partlister", T_X, 5)) hV.1 cb_X_needGap lk_X_45 in_X_needGap rfl se_X_needGap (lIa_ok dd5) rfl rfl (Nat.le_of_ble_eq_true rfl) (by decide) e9 m11) (k_X_needGap hV G8 a0 a1 a2) h (fun G12 _ h => ?_)
  refine Y.blk (pc' := 19) (L' := [some (.ref a0), some (.int a1), some (.int a2), some (.int a3)]) (st' := [.int a3, .int a1, .ref a0]) (sg := [(.aload_n 0, 0), (.iload_n 1, 0), (.iload_n 3, 0)]) (lSa_ok dd6) rfl ?_
  obtain ⟨_, o14, e13, m15, h⟩ := gOb_inv h
  refine Y.callN (yC.Vi (b := a0) (As := [.int a1, .int a3]) (st := []) (r := ("Partlister", T_X, 5)) hV.1 cb_X_needOtherRow lk_X_51 in_X_needOtherRow rfl se_X_needOtherRow (lIa_ok dd7) rfl rfl (Nat.le_of_ble_eq_true rfl) (by decide) e13 m15) (k_X_needOtherRow hV G12 a0 a1 a3) h (fun G16 _ h => ?_)
  refine Y.blk (pc' := 25) (L' := [some (.ref a0), some (.int a1), some (.int a2), some (.int a3)]) (st' := [.ref a0, .int a1, .ref a0]) (sg := [(.aload_n 0, 0), (.iload_n 1, 0), (.aload_n 0, 0)]) (lSa_ok dd8) rfl ?_
  refine Y.getA fl_X_10 (lIa_ok dd9) h (fun v17 h => ?_)
  refine Y.blk (pc' := 29) (L' := [some (.ref a0), some (.int a1), some (.int a2), some (.int a3)]) (st' := [.int a3, .ref v17, .int a1, .ref a0]) (sg := [(.iload_n 3, 0)]) (lSa_ok dd10) rfl ?_
  obtain ⟨_, o19, e18, m20, h⟩ := gOb_inv h
  refine Y.callI (yC.Vi (b := v17) (As := [.int a3]) (st := [.int a1, .ref a0]) (r := ("Partlister$Lists", T_I, 7)) hV.1 cb_I_lengthOf lk_X_34 in_I_lengthOf rfl se_I_lengthOf (lIa_ok dd11) rfl rfl (Nat.le_of_ble_eq_true rfl) (by decide) e18 m20) (k_I_lengthOf hV G16 v17 a3) h (fun v22 G21 _ h => ?_)
  obtain ⟨_, o24, e23, m25, h⟩ := gOb_inv h
  refine Y.callN (yC.Vi (b := a0) (As := [.int a1, .int v22]) (st := []) (r := ("Partlister", T_X, 5)) hV.1 cb_X_needRoom lk_X_30 in_X_needRoom rfl se_X_needRoom (lIa_ok dd12) rfl rfl (Nat.le_of_ble_eq_true rfl) (by decide) e23 m25) (k_X_needRoom hV G21 a0 a1 v22) h (fun G26 _ h => ?_)
  refine Y.blk (pc' := 39) (L' := [some (.ref a0), some (.int a1), some (.int a2), some (.int a3)]) (st' := [.int a3, .int a2, .int a1, .ref a0]) (sg := [(.aload_n 0, 0), (.iload_n 1, 0), (.iload_n 2, 0), (.iload_n 3, 0)]) (lSa_ok dd13) rfl ?_
  obtain ⟨_, o28, e27, m29, h⟩ := gOb_inv h
  refine Y.callI (yC.Vi (b := a0) (As := [.int a1, .int a2, .int a3]) (st := []) (r := ("Partlister", T_X, 5)) hV.1 cb_X_bringAll lk_X_54 in_X_bringAll rfl se_X_bringAll (lIa_ok dd14) rfl rfl (Nat.le_of_ble_eq_true rfl) (by decide) e27 m29) (k_X_bringAll hV G26 a0 a1 a2 a3) h (fun v31 G30 _ h => ?_)
  exact Y.iret rfl (lIa_ok dd15) h

def f_X_tagOf (G : gH) (a0 : Int32) : gR :=
  rI (a0 >>> ((nI 5) &&& 31)) G
theorem k_X_tagOf {l : Launch} {D : va_G} {B : Nat} {O : State → Heap → Prop} (hV : zG l D B O) (G : gH) (a0 : Int32) : gMet (zVm l D B O) m_X_tagOf 1 [.int a0] G (f_X_tagOf G a0) := by
  have hdd : lSa m_X_tagOf 0 [(.iload_n 0, 0), (.iconst 5, nI 5), (.ishr, 0)] = true ∧ lIa m_X_tagOf 3 (.ireturn) 1 = true := by decide +kernel
  obtain ⟨dd0, dd1⟩ := hdd
  refine gMet.of (by decide +kernel) (Nat.le_of_ble_eq_true rfl) [some (.int a0)] (fun ls h => zEn_ok (n := 1) h) ?_
  intro o Gf h
  unfold f_X_tagOf at h
  refine Y.blk (pc' := 3) (L' := [some (.int a0)]) (st' := [.int (a0 >>> ((nI 5) &&& 31))]) (sg := [(.iload_n 0, 0), (.iconst 5, nI 5), (.ishr, 0)]) (lSa_ok dd0) rfl ?_
  exact Y.iret rfl (lIa_ok dd1) h

def f_X_addAt (G : gH) (a0 : Nat) (a1 : Int32) (a2 : Int32) (a3 : Int32) : gR :=
  gOb G a0 3 fun o2 => bV (f_X_needList G a0 a1) fun G4 => gOb G4 a0 3 fun o6 => bV (f_X_needGap G4 a0 a1 a2) fun G8 => gOb G8 a0 3 fun o10 => bV (f_X_needKey G8 a0 a3) fun G12 => gOb G12 a0 3 fun o14 => bV (f_X_needRoom G12 a0 a1 (nI 1)) fun G16 => gOb G16 a0 3 fun o18 => bI (f_X_make G16 a0 a3) fun v21 G20 => gOb G20 a0 3 fun o23 => bV (f_X_bringIn G20 a0 a1 a2 v21 (-1)) fun G25 => bI (f_X_tagOf G25 v21) fun v28 G27 => rI v28 G27
theorem k_X_addAt {l : Launch} {D : va_G} {B : Nat} {O : State → Heap → Prop} (hV : zG l D B O) (G : gH) (a0 : Nat) (a1 : Int32) (a2 : Int32) (a3 : Int32) : gMet (zVm l D B O) m_X_addAt 7 [.ref a0, .int a1, .int a2, .int a3] G (f_X_addAt G a0 a1 a2 a3) := by
  have hdd : lSa m_X_addAt 0 [(.aload_n 0, 0), (.iload_n 1, 0)] = true ∧ lIa m_X_addAt 2 (.invokevirtual 23) 3 = true ∧ lSa m_X_addAt 5 [(.aload_n 0, 0), (.iload_n 1, 0), (.iload_n 2, 0)] = true ∧ lIa m_X_addAt 8 (.invokevirtual 45) 3 = true ∧ lSa m_X_addAt 11 [(.aload_n 0, 0), (.iload_n 3, 0)] = true ∧ lIa m_X_addAt 13 (.invokevirtual 27) 3 = true ∧ lSa m_X_addAt 16 [(.aload_n 0, 0), (.iload_n 1, 0), (.iconst 1, nI 1)] = true ∧ lIa m_X_addAt 19 (.invokevirtual 30) 3 = true ∧ lSa m_X_addAt 22 [(.aload_n 0, 0), (.iload_n 3, 0)] = true ∧ lIa m_X_addAt 24 (.invokevirtual 38) 3 = true ∧ lSa m_X_addAt 27 [(.istore 4, 0), (.aload_n 0, 0), (.iload_n 1, 0), (.iload_n 2, 0), (.iload 4, 0), (.iconst (-1), -1)] = true ∧ lIa m_X_addAt 35 (.invokevirtual 41) 3 = true ∧ lSa m_X_addAt 38 [(.iload 4, 0)] = true ∧ lIa m_X_addAt 40 (.invokestatic 48) 3 = true ∧ lIa m_X_addAt 43 (.ireturn) 1 = true := by decide +kernel
  refine lA8 hdd (fun dd0 dd1 dd2 dd3 dd4 dd5 dd6 dd7 hdd => ?_)
  obtain ⟨dd8, dd9, dd10, dd11, dd12, dd13, dd14⟩ := hdd
  refine gMet.of (by decide +kernel) (Nat.le_of_ble_eq_true rfl) [some (.ref a0), some (.int a1), some (.int a2), some (.int a3), none] (fun ls h => zEn_ok (n := 5) h) ?_
  intro o Gf h
  unfold f_X_addAt at h
  refine Y.blk (pc' := 2) (L' := [some (.ref a0), some (.int a1), some (.int a2), some (.int a3), none]) (st' := [.int a1, .ref a0]) (sg := [(.aload_n 0, 0), (.iload_n 1, 0)]) (lSa_ok dd0) rfl ?_
  obtain ⟨_, o2, e1, m3, h⟩ := gOb_inv h
  refine Y.callN (yC.Vi (b := a0) (As := [.int a1]) (st := []) (r := ("Partlister", T_X, 5)) hV.1 cb_X_needList lk_X_23 in_X_needList rfl se_X_needList (lIa_ok dd1) rfl rfl (Nat.le_of_ble_eq_true rfl) (by decide) e1 m3) (k_X_needList hV G a0 a1) h (fun G4 _ h => ?_)
  refine Y.blk (pc' := 8) (L' := [some (.ref a0), some (.int a1), some (.int a2), some (.int a3), none]) (st' := [.int a2, .int a1, .ref a0]) (sg := [(.aload_n 0, 0), (.iload_n 1, 0), (.iload_n 2, 0)]) (lSa_ok dd2) rfl ?_
  obtain ⟨_, o6, e5, m7, h⟩ := gOb_inv h
  refine Y.callN (yC.Vi (b := a0) (As := [.int a1, .int a2]) (st := []) (r := ("Partlister", T_X, 5)) hV.1 cb_X_needGap lk_X_45 in_X_needGap rfl se_X_needGap (lIa_ok dd3) rfl rfl (Nat.le_of_ble_eq_true rfl) (by decide) e5 m7) (k_X_needGap hV G4 a0 a1 a2) h (fun G8 _ h => ?_)
  refine Y.blk (pc' := 13) (L' := [some (.ref a0), some (.int a1), some (.int a2), some (.int a3), none]) (st' := [.int a3, .ref a0]) (sg := [(.aload_n 0, 0), (.iload_n 3, 0)]) (lSa_ok dd4) rfl ?_
  obtain ⟨_, o10, e9, m11, h⟩ := gOb_inv h
  refine Y.callN (yC.Vi (b := a0) (As := [.int a3]) (st := []) (r := ("Partlister", T_X, 5)) hV.1 cb_X_needKey lk_X_27 in_X_needKey rfl se_X_needKey (lIa_ok dd5) rfl rfl (Nat.le_of_ble_eq_true rfl) (by decide) e9 m11) (k_X_needKey hV G8 a0 a3) h (fun G12 _ h => ?_)
  refine Y.blk (pc' := 19) (L' := [some (.ref a0), some (.int a1), some (.int a2), some (.int a3), none]) (st' := [.int (nI 1), .int a1, .ref a0]) (sg := [(.aload_n 0, 0), (.iload_n 1, 0), (.iconst 1, nI 1)]) (lSa_ok dd6) rfl ?_
  obtain ⟨_, o14, e13, m15, h⟩ := gOb_inv h
  refine Y.callN (yC.Vi (b := a0) (As := [.int a1, .int (nI 1)]) (st := []) (r := ("Partlister", T_X, 5)) hV.1 cb_X_needRoom lk_X_30 in_X_needRoom rfl se_X_needRoom (lIa_ok dd7) rfl rfl (Nat.le_of_ble_eq_true rfl) (by decide) e13 m15) (k_X_needRoom hV G12 a0 a1 (nI 1)) h (fun G16 _ h => ?_)
  refine Y.blk (pc' := 24) (L' := [some (.ref a0), some (.int a1), some (.int a2), some (.int a3), none]) (st' := [.int a3, .ref a0]) (sg := [(.aload_n 0, 0), (.iload_n 3, 0)]) (lSa_ok dd8) rfl ?_
  obtain ⟨_, o18, e17, m19, h⟩ := gOb_inv h
  refine Y.callI (yC.Vi (b := a0) (As := [.int a3]) (st := []) (r := ("Partlister", T_X, 5)) hV.1 cb_X_make lk_X_38 in_X_make rfl se_X_make (lIa_ok dd9) rfl rfl (Nat.le_of_ble_eq_true rfl) (by decide) e17 m19) (k_X_make hV G16 a0 a3) h (fun v21 G20 _ h => ?_)
  refine Y.blk (pc' := 35) (L' := [some (.ref a0), some (.int a1), some (.int a2), some (.int a3), some (.int v21)]) (st' := [.int (-1), .int v21, .int a2, .int a1, .ref a0]) (sg := [(.istore 4, 0), (.aload_n 0, 0), (.iload_n 1, 0), (.iload_n 2, 0), (.iload 4, 0), (.iconst (-1), -1)]) (lSa_ok dd10) rfl ?_
  obtain ⟨_, o23, e22, m24, h⟩ := gOb_inv h
  refine Y.callN (yC.Vi (b := a0) (As := [.int a1, .int a2, .int v21, .int (-1)]) (st := []) (r := ("Partlister", T_X, 5)) hV.1 cb_X_bringIn lk_X_41 in_X_bringIn rfl se_X_bringIn (lIa_ok dd11) rfl rfl (Nat.le_of_ble_eq_true rfl) (by decide) e22 m24) (k_X_bringIn hV G20 a0 a1 a2 v21 (-1)) h (fun G25 _ h => ?_)
  refine Y.blk (pc' := 40) (L' := [some (.ref a0), some (.int a1), some (.int a2), some (.int a3), some (.int v21)]) (st' := [.int v21]) (sg := [(.iload 4, 0)]) (lSa_ok dd12) rfl ?_
  refine Y.callI (yC.S (As := [.int v21]) (st := []) hV.1 cb_X_tagOf lk_X_48 st_X_tagOf (lIa_ok dd13) rfl rfl (Nat.le_of_ble_eq_true rfl) (by decide)) (k_X_tagOf hV G25 v21) h (fun v28 G27 _ h => ?_)
  exact Y.iret rfl (lIa_ok dd14) h

def f_X_append (G : gH) (a0 : Nat) (a1 : Int32) (a2 : Int32) : gR :=
  gOb G a0 3 fun o2 => bV (f_X_needList G a0 a1) fun G4 => gOb G4 a0 3 fun o6 => bV (f_X_needList G4 a0 a2) fun G8 => gOb G8 a0 3 fun o10 => bV (f_X_needOtherRow G8 a0 a1 a2) fun G12 => gFA G12 a0 3 0 fun v13 => gOb G12 v13 1 fun o15 => bI (f_I_lengthOf G12 v13 a2) fun v18 G17 => gOb G17 a0 3 fun o20 => bV (f_X_needRoom G17 a0 a1 v18) fun G22 => gFA G22 a0 3 0 fun v23 => gOb G22 v23 1 fun o25 => bI (f_I_lengthOf G22 v23 a1) fun v28 G27 => gOb G27 a0 3 fun o30 => bI (f_X_bringAll G27 a0 a1 v28 a2) fun v33 G32 => gFA G32 a0 3 0 fun v34 => gOb G32 v34 1 fun o36 => bI (f_I_lengthOf G32 v34 a1) fun v39 G38 => rI v39 G38
theorem k_X_append {l : Launch} {D : va_G} {B : Nat} {O : State → Heap → Prop} (hV : zG l D B O) (G : gH) (a0 : Nat) (a1 : Int32) (a2 : Int32) : gMet (zVm l D B O) m_X_append 7 [.ref a0, .int a1, .int a2] G (f_X_append G a0 a1 a2) := by
  have hdd : lSa m_X_append 0 [(.aload_n 0, 0), (.iload_n 1, 0)] = true ∧ lIa m_X_append 2 (.invokevirtual 23) 3 = true ∧ lSa m_X_append 5 [(.aload_n 0, 0), (.iload_n 2, 0)] = true ∧ lIa m_X_append 7 (.invokevirtual 23) 3 = true ∧ lSa m_X_append 10 [(.aload_n 0, 0), (.iload_n 1, 0), (.iload_n 2, 0)] = true ∧ lIa m_X_append 13 (.invokevirtual 51) 3 = true ∧ lSa m_X_append 16 [(.aload_n 0, 0), (.iload_n 1, 0), (.aload_n 0, 0)] = true ∧ lIa m_X_append 19 (.getfield 10) 3 = true ∧ lSa m_X_append 22 [(.iload_n 2, 0)] = true ∧ lIa m_X_append 23 (.invokevirtual 34) 3 = true ∧ lIa m_X_append 26 (.invokevirtual 30) 3 = true ∧ lSa m_X_append 29 [(.aload_n 0, 0), (.iload_n 1, 0), (.aload_n 0, 0)] = true ∧ lIa m_X_append 32 (.getfield 10) 3 = true ∧ lSa m_X_append 35 [(.iload_n 1, 0)] = true ∧ lIa m_X_append 36 (.invokevirtual 34) 3 = true ∧ lSa m_X_append 39 [(.iload_n 2, 0)] = true ∧ lIa m_X_append 40 (.invokevirtual 54) 3 = true ∧ lSa m_X_append 43 [(.pop, 0), (.aload_n 0, 0)] = true ∧ lIa m_X_append 45 (.getfield 10) 3 = true ∧ lSa m_X_append 48 [(.iload_n 1, 0)] = true ∧ lIa m_X_append 49 (.invokevirtual 34) 3 = true ∧ lIa m_X_append 52 (.ireturn) 1 = true := by decide +kernel
  refine lA8 hdd (fun dd0 dd1 dd2 dd3 dd4 dd5 dd6 dd7 hdd => ?_)
  refine lA8 hdd (fun dd8 dd9 dd10 dd11 dd12 dd13 dd14 dd15 hdd => ?_)
  obtain ⟨dd16, dd17, dd18, dd19, dd20, dd21⟩ := hdd
  refine gMet.of (by decide +kernel) (Nat.le_of_ble_eq_true rfl) [some (.ref a0), some (.int a1), some (.int a2)] (fun ls h => zEn_ok (n := 3) h) ?_
  intro o Gf h
  unfold f_X_append at h
  refine Y.blk (pc' := 2) (L' := [some (.ref a0), some (.int a1), some (.int a2)]) (st' := [.int a1, .ref a0]) (sg := [(.aload_n 0, 0), (.iload_n 1, 0)]) (lSa_ok dd0) rfl ?_
  obtain ⟨_, o2, e1, m3, h⟩ := gOb_inv h
  refine Y.callN (yC.Vi (b := a0) (As := [.int a1]) (st := []) (r := ("Partlister", T_X, 5)) hV.1 cb_X_needList lk_X_23 in_X_needList rfl se_X_needList (lIa_ok dd1) rfl rfl (Nat.le_of_ble_eq_true rfl) (by decide) e1 m3) (k_X_needList hV G a0 a1) h (fun G4 _ h => ?_)
  refine Y.blk (pc' := 7) (L' := [some (.ref a0), some (.int a1), some (.int a2)]) (st' := [.int a2, .ref a0]) (sg := [(.aload_n 0, 0), (.iload_n 2, 0)]) (lSa_ok dd2) rfl ?_
  obtain ⟨_, o6, e5, m7, h⟩ := gOb_inv h
  refine Y.callN (yC.Vi (b := a0) (As := [.int a2]) (st := []) (r := ("Partlister", T_X, 5)) hV.1 cb_X_needList lk_X_23 in_X_needList rfl se_X_needList (lIa_ok dd3) rfl rfl (Nat.le_of_ble_eq_true rfl) (by decide) e5 m7) (k_X_needList hV G4 a0 a2) h (fun G8 _ h => ?_)
  refine Y.blk (pc' := 13) (L' := [some (.ref a0), some (.int a1), some (.int a2)]) (st' := [.int a2, .int a1, .ref a0]) (sg := [(.aload_n 0, 0), (.iload_n 1, 0), (.iload_n 2, 0)]) (lSa_ok dd4) rfl ?_
  obtain ⟨_, o10, e9, m11, h⟩ := gOb_inv h
  refine Y.callN (yC.Vi (b := a0) (As := [.int a1, .int a2]) (st := []) (r := ("Partlister", T_X, 5)) hV.1 cb_X_needOtherRow lk_X_51 in_X_needOtherRow rfl se_X_needOtherRow (lIa_ok dd5) rfl rfl (Nat.le_of_ble_eq_true rfl) (by decide) e9 m11) (k_X_needOtherRow hV G8 a0 a1 a2) h (fun G12 _ h => ?_)
  refine Y.blk (pc' := 19) (L' := [some (.ref a0), some (.int a1), some (.int a2)]) (st' := [.ref a0, .int a1, .ref a0]) (sg := [(.aload_n 0, 0), (.iload_n 1, 0), (.aload_n 0, 0)]) (lSa_ok dd6) rfl ?_
  refine Y.getA fl_X_10 (lIa_ok dd7) h (fun v13 h => ?_)
  refine Y.blk (pc' := 23) (L' := [some (.ref a0), some (.int a1), some (.int a2)]) (st' := [.int a2, .ref v13, .int a1, .ref a0]) (sg := [(.iload_n 2, 0)]) (lSa_ok dd8) rfl ?_
  obtain ⟨_, o15, e14, m16, h⟩ := gOb_inv h
  refine Y.callI (yC.Vi (b := v13) (As := [.int a2]) (st := [.int a1, .ref a0]) (r := ("Partlister$Lists", T_I, 7)) hV.1 cb_I_lengthOf lk_X_34 in_I_lengthOf rfl se_I_lengthOf (lIa_ok dd9) rfl rfl (Nat.le_of_ble_eq_true rfl) (by decide) e14 m16) (k_I_lengthOf hV G12 v13 a2) h (fun v18 G17 _ h => ?_)
  obtain ⟨_, o20, e19, m21, h⟩ := gOb_inv h
  refine Y.callN (yC.Vi (b := a0) (As := [.int a1, .int v18]) (st := []) (r := ("Partlister", T_X, 5)) hV.1 cb_X_needRoom lk_X_30 in_X_needRoom rfl se_X_needRoom (lIa_ok dd10) rfl rfl (Nat.le_of_ble_eq_true rfl) (by decide) e19 m21) (k_X_needRoom hV G17 a0 a1 v18) h (fun G22 _ h => ?_)
  refine Y.blk (pc' := 32) (L' := [some (.ref a0), some (.int a1), some (.int a2)]) (st' := [.ref a0, .int a1, .ref a0]) (sg := [(.aload_n 0, 0), (.iload_n 1, 0), (.aload_n 0, 0)]) (lSa_ok dd11) rfl ?_
  refine Y.getA fl_X_10 (lIa_ok dd12) h (fun v23 h => ?_)
  refine Y.blk (pc' := 36) (L' := [some (.ref a0), some (.int a1), some (.int a2)]) (st' := [.int a1, .ref v23, .int a1, .ref a0]) (sg := [(.iload_n 1, 0)]) (lSa_ok dd13) rfl ?_
  obtain ⟨_, o25, e24, m26, h⟩ := gOb_inv h
  refine Y.callI (yC.Vi (b := v23) (As := [.int a1]) (st := [.int a1, .ref a0]) (r := ("Partlister$Lists", T_I, 7)) hV.1 cb_I_lengthOf lk_X_34 in_I_lengthOf rfl se_I_lengthOf (lIa_ok dd14) rfl rfl (Nat.le_of_ble_eq_true rfl) (by decide) e24 m26) (k_I_lengthOf hV G22 v23 a1) h (fun v28 G27 _ h => ?_)
  refine Y.blk (pc' := 40) (L' := [some (.ref a0), some (.int a1), some (.int a2)]) (st' := [.int a2, .int v28, .int a1, .ref a0]) (sg := [(.iload_n 2, 0)]) (lSa_ok dd15) rfl ?_
  obtain ⟨_, o30, e29, m31, h⟩ := gOb_inv h
  refine Y.callI (yC.Vi (b := a0) (As := [.int a1, .int v28, .int a2]) (st := []) (r := ("Partlister", T_X, 5)) hV.1 cb_X_bringAll lk_X_54 in_X_bringAll rfl se_X_bringAll (lIa_ok dd16) rfl rfl (Nat.le_of_ble_eq_true rfl) (by decide) e29 m31) (k_X_bringAll hV G27 a0 a1 v28 a2) h (fun v33 G32 _ h => ?_)
  refine Y.blk (pc' := 45) (L' := [some (.ref a0), some (.int a1), some (.int a2)]) (st' := [.ref a0]) (sg := [(.pop, 0), (.aload_n 0, 0)]) (lSa_ok dd17) rfl ?_
  refine Y.getA fl_X_10 (lIa_ok dd18) h (fun v34 h => ?_)
  refine Y.blk (pc' := 49) (L' := [some (.ref a0), some (.int a1), some (.int a2)]) (st' := [.int a1, .ref v34]) (sg := [(.iload_n 1, 0)]) (lSa_ok dd19) rfl ?_
  obtain ⟨_, o36, e35, m37, h⟩ := gOb_inv h
  refine Y.callI (yC.Vi (b := v34) (As := [.int a1]) (st := []) (r := ("Partlister$Lists", T_I, 7)) hV.1 cb_I_lengthOf lk_X_34 in_I_lengthOf rfl se_I_lengthOf (lIa_ok dd20) rfl rfl (Nat.le_of_ble_eq_true rfl) (by decide) e35 m37) (k_I_lengthOf hV G32 v34 a1) h (fun v39 G38 _ h => ?_)
  exact Y.iret rfl (lIa_ok dd21) h

def f_X_keyOf (G : gH) (a0 : Int32) : gR :=
  rI (a0 &&& (nI 31)) G
theorem k_X_keyOf {l : Launch} {D : va_G} {B : Nat} {O : State → Heap → Prop} (hV : zG l D B O) (G : gH) (a0 : Int32) : gMet (zVm l D B O) m_X_keyOf 1 [.int a0] G (f_X_keyOf G a0) := by
  have hdd : lSa m_X_keyOf 0 [(.iload_n 0, 0), (.bipush 31, nI 31), (.iand, 0)] = true ∧ lIa m_X_keyOf 4 (.ireturn) 1 = true := by decide +kernel
  obtain ⟨dd0, dd1⟩ := hdd
  refine gMet.of (by decide +kernel) (Nat.le_of_ble_eq_true rfl) [some (.int a0)] (fun ls h => zEn_ok (n := 1) h) ?_
  intro o Gf h
  unfold f_X_keyOf at h
  refine Y.blk (pc' := 4) (L' := [some (.int a0)]) (st' := [.int (a0 &&& (nI 31))]) (sg := [(.iload_n 0, 0), (.bipush 31, nI 31), (.iand, 0)]) (lSa_ok dd0) rfl ?_
  exact Y.iret rfl (lIa_ok dd1) h

def f_I_keyAt (G : gH) (a0 : Nat) (a1 : Int32) (a2 : Int32) : gR :=
  gFA G a0 1 0 fun v1 => gOb G a0 1 fun o3 => bI (f_I_cellOf G a0 a1 a2) fun v6 G5 => gOb G5 v1 2 fun o8 => bI (f_N_read G5 v1 v6) fun v11 G10 => bI (f_X_keyOf G10 v11) fun v14 G13 => rI v14 G13
theorem k_I_keyAt {l : Launch} {D : va_G} {B : Nat} {O : State → Heap → Prop} (hV : zG l D B O) (G : gH) (a0 : Nat) (a1 : Int32) (a2 : Int32) : gMet (zVm l D B O) m_I_keyAt 3 [.ref a0, .int a1, .int a2] G (f_I_keyAt G a0 a1 a2) := by
  have hdd : lSa m_I_keyAt 0 [(.aload_n 0, 0)] = true ∧ lIa m_I_keyAt 1 (.getfield 14) 3 = true ∧ lSa m_I_keyAt 4 [(.aload_n 0, 0), (.iload_n 1, 0), (.iload_n 2, 0)] = true ∧ lIa m_I_keyAt 7 (.invokevirtual 43) 3 = true ∧ lIa m_I_keyAt 10 (.invokevirtual 39) 3 = true ∧ lIa m_I_keyAt 13 (.invokestatic 47) 3 = true ∧ lIa m_I_keyAt 16 (.ireturn) 1 = true := by decide +kernel
  obtain ⟨dd0, dd1, dd2, dd3, dd4, dd5, dd6⟩ := hdd
  refine gMet.of (by decide +kernel) (Nat.le_of_ble_eq_true rfl) [some (.ref a0), some (.int a1), some (.int a2)] (fun ls h => zEn_ok (n := 3) h) ?_
  intro o Gf h
  unfold f_I_keyAt at h
  refine Y.blk (pc' := 1) (L' := [some (.ref a0), some (.int a1), some (.int a2)]) (st' := [.ref a0]) (sg := [(.aload_n 0, 0)]) (lSa_ok dd0) rfl ?_
  refine Y.getA fl_I_14 (lIa_ok dd1) h (fun v1 h => ?_)
  refine Y.blk (pc' := 7) (L' := [some (.ref a0), some (.int a1), some (.int a2)]) (st' := [.int a2, .int a1, .ref a0, .ref v1]) (sg := [(.aload_n 0, 0), (.iload_n 1, 0), (.iload_n 2, 0)]) (lSa_ok dd2) rfl ?_
  obtain ⟨_, o3, e2, m4, h⟩ := gOb_inv h
  refine Y.callI (yC.Vi (b := a0) (As := [.int a1, .int a2]) (st := [.ref v1]) (r := ("Partlister$Lists", T_I, 7)) hV.1 cb_I_cellOf lk_I_43 in_I_cellOf rfl se_I_cellOf (lIa_ok dd3) rfl rfl (Nat.le_of_ble_eq_true rfl) (by decide) e2 m4) (k_I_cellOf hV G a0 a1 a2) h (fun v6 G5 _ h => ?_)
  obtain ⟨_, o8, e7, m9, h⟩ := gOb_inv h
  refine Y.callI (yC.Vi (b := v1) (As := [.int v6]) (st := []) (r := ("Partlister$Numbers", T_N, 1)) hV.1 cb_N_read lk_I_39 in_N_read rfl se_N_read (lIa_ok dd4) rfl rfl (Nat.le_of_ble_eq_true rfl) (by decide) e7 m9) (k_N_read hV G5 v1 v6) h (fun v11 G10 _ h => ?_)
  refine Y.callI (yC.SN (As := [.int v11]) (st := []) hV.1 cb_X_keyOf lk_I_47 st_X_keyOf (lIa_ok dd5) rfl rfl (Nat.le_of_ble_eq_true rfl) (by decide)) (k_X_keyOf hV G10 v11) h (fun v14 G13 _ h => ?_)
  exact Y.iret rfl (lIa_ok dd6) h

def f_I_keysOf_L11 (K35 : gH → Int32 → gR) : Nat → gH → Nat → Int32 → Int32 → Int32 → Int32 → gR
  | 0, _, _, _, _, _, _ => none
  | n + 1, G, x0, x1, x2, x3, x4 =>
    if x2 ≤ x4 then K35 G x3
    else gOb G x0 1 fun o7 => bI (f_I_keyAt G x0 x1 x4) fun v10 G9 => f_I_keysOf_L11 K35 n G9 x0 x1 x2 (x3 ||| ((nI 1) <<< (v10 &&& 31))) (x4 + (nI 1))
def f_I_keysOf (G : gH) (a0 : Nat) (a1 : Int32) : gR :=
  gOb G a0 1 fun o2 => bI (f_I_lengthOf G a0 a1) fun v5 G4 => f_I_keysOf_L11 (fun G13 x12 => rI x12 G13) zFu G4 a0 a1 v5 (nI 0) (nI 0)
theorem k_I_keysOf_L11 {l : Launch} {D : va_G} {B : Nat} {O : State → Heap → Prop} (hV : zG l D B O) {o : gO} {Gf : gH} (K35 : gH → Int32 → gR) (hK35 : ∀ (G : gH) (x3 : Int32), K35 G x3 = some (o, Gf) → Y (zVm l D B O) m_I_keysOf 4 o Gf 35 [none, none, none, some (.int x3), none] [] G) : ∀ (n : Nat) (G : gH) (x0 : Nat) (x1 : Int32) (x2 : Int32) (x3 : Int32) (x4 : Int32), f_I_keysOf_L11 K35 n G x0 x1 x2 x3 x4 = some (o, Gf) → Y (zVm l D B O) m_I_keysOf 4 o Gf 11 [some (.ref x0), some (.int x1), some (.int x2), some (.int x3), some (.int x4)] [] G := by
  have hdd : lSa m_I_keysOf 11 [(.iload 4, 0), (.iload_n 2, 0)] = true ∧ lIa m_I_keysOf 14 (.if_icmp .ge 21) 3 = true ∧ lSa m_I_keysOf 17 [(.iload_n 3, 0), (.iconst 1, nI 1), (.aload_n 0, 0), (.iload_n 1, 0), (.iload 4, 0)] = true ∧ lIa m_I_keysOf 23 (.invokevirtual 101) 3 = true ∧ lSa m_I_keysOf 26 [(.ishl, 0), (.ior, 0), (.istore_n 3, 0), (.iinc 4 1, nI 1)] = true ∧ lIa m_I_keysOf 32 (.goto (-21)) 3 = true := by decide +kernel
  obtain ⟨dd0, dd1, dd2, dd3, dd4, dd5⟩ := hdd
  intro n
  induction n with
  | zero => intro G x0 x1 x2 x3 x4 h; cases h
  | succ n ih =>
    intro G x0 x1 x2 x3 x4 h
    unfold f_I_keysOf_L11 at h
    refine Y.blk (pc' := 14) (L' := [some (.ref x0), some (.int x1), some (.int x2), some (.int x3), some (.int x4)]) (st' := [.int x2, .int x4]) (sg := [(.iload 4, 0), (.iload_n 2, 0)]) (lSa_ok dd0) rfl ?_
    refine Y.ic_ge (off := 21) (tgt := 35) (lIa_ok dd1) (by decide) h (fun c11 h => ?_) (fun c11 h => ?_)
    · refine Y.less (L' := [none, none, none, some (.int x3), none]) (zLe_none (zLe_none (zLe_none (zLe_some (zLe_none (zLe_nil)))))) ?_
      exact hK35 G x3 h
    · refine Y.blk (pc' := 23) (L' := [some (.ref x0), some (.int x1), some (.int x2), some (.int x3), some (.int x4)]) (st' := [.int x4, .int x1, .ref x0, .int (nI 1), .int x3]) (sg := [(.iload_n 3, 0), (.iconst 1, nI 1), (.aload_n 0, 0), (.iload_n 1, 0), (.iload 4, 0)]) (lSa_ok dd2) rfl ?_
      obtain ⟨_, o7, e6, m8, h⟩ := gOb_inv h
      refine Y.callI (yC.Vi (b := x0) (As := [.int x1, .int x4]) (st := [.int (nI 1), .int x3]) (r := ("Partlister$Lists", T_I, 7)) hV.1 cb_I_keyAt lk_I_101 in_I_keyAt rfl se_I_keyAt (lIa_ok dd3) rfl rfl (Nat.le_of_ble_eq_true rfl) (by decide) e6 m8) (k_I_keyAt hV G x0 x1 x4) h (fun v10 G9 _ h => ?_)
      refine Y.blk (pc' := 32) (L' := [some (.ref x0), some (.int x1), some (.int x2), some (.int (x3 ||| ((nI 1) <<< (v10 &&& 31)))), some (.int (x4 + (nI 1)))]) (st' := []) (sg := [(.ishl, 0), (.ior, 0), (.istore_n 3, 0), (.iinc 4 1, nI 1)]) (lSa_ok dd4) rfl ?_
      refine Y.goto (off := -21) (tgt := 11) (lIa_ok dd5) (by decide) ?_
      exact ih G9 x0 x1 x2 (x3 ||| ((nI 1) <<< (v10 &&& 31))) (x4 + (nI 1)) h
theorem k_I_keysOf {l : Launch} {D : va_G} {B : Nat} {O : State → Heap → Prop} (hV : zG l D B O) (G : gH) (a0 : Nat) (a1 : Int32) : gMet (zVm l D B O) m_I_keysOf 4 [.ref a0, .int a1] G (f_I_keysOf G a0 a1) := by
  have hdd : lSa m_I_keysOf 0 [(.aload_n 0, 0), (.iload_n 1, 0)] = true ∧ lIa m_I_keysOf 2 (.invokevirtual 59) 3 = true ∧ lSa m_I_keysOf 5 [(.istore_n 2, 0), (.iconst 0, nI 0), (.istore_n 3, 0), (.iconst 0, nI 0), (.istore 4, 0)] = true ∧ lSa m_I_keysOf 35 [(.iload_n 3, 0)] = true ∧ lIa m_I_keysOf 36 (.ireturn) 1 = true := by decide +kernel
  obtain ⟨dd0, dd1, dd2, dd3, dd4⟩ := hdd
  refine gMet.of (by decide +kernel) (Nat.le_of_ble_eq_true rfl) [some (.ref a0), some (.int a1), none, none, none] (fun ls h => zEn_ok (n := 5) h) ?_
  intro o Gf h
  unfold f_I_keysOf at h
  refine Y.blk (pc' := 2) (L' := [some (.ref a0), some (.int a1), none, none, none]) (st' := [.int a1, .ref a0]) (sg := [(.aload_n 0, 0), (.iload_n 1, 0)]) (lSa_ok dd0) rfl ?_
  obtain ⟨_, o2, e1, m3, h⟩ := gOb_inv h
  refine Y.callI (yC.Vi (b := a0) (As := [.int a1]) (st := []) (r := ("Partlister$Lists", T_I, 7)) hV.1 cb_I_lengthOf lk_I_59 in_I_lengthOf rfl se_I_lengthOf (lIa_ok dd1) rfl rfl (Nat.le_of_ble_eq_true rfl) (by decide) e1 m3) (k_I_lengthOf hV G a0 a1) h (fun v5 G4 _ h => ?_)
  refine Y.blk (pc' := 11) (L' := [some (.ref a0), some (.int a1), some (.int v5), some (.int (nI 0)), some (.int (nI 0))]) (st' := []) (sg := [(.istore_n 2, 0), (.iconst 0, nI 0), (.istore_n 3, 0), (.iconst 0, nI 0), (.istore 4, 0)]) (lSa_ok dd2) rfl ?_
  refine k_I_keysOf_L11 hV _ ?_  zFu G4 a0 a1 v5 (nI 0) (nI 0) h
  · intro G13 x12 h
    refine Y.blk (pc' := 36) (L' := [none, none, none, some (.int x12), none]) (st' := [.int x12]) (sg := [(.iload_n 3, 0)]) (lSa_ok dd3) rfl ?_
    exact Y.iret rfl (lIa_ok dd4) h

def f_I_shareNoKey (G : gH) (a0 : Nat) (a1 : Int32) (a2 : Int32) : gR :=
  gOb G a0 1 fun o2 => bI (f_I_keysOf G a0 a1) fun v5 G4 => gOb G4 a0 1 fun o7 => bI (f_I_keysOf G4 a0 a2) fun v10 G9 => if (v5 &&& v10) = 0 then rZ (nI 1) G9
  else rZ (nI 0) G9
theorem k_I_shareNoKey {l : Launch} {D : va_G} {B : Nat} {O : State → Heap → Prop} (hV : zG l D B O) (G : gH) (a0 : Nat) (a1 : Int32) (a2 : Int32) : gMet (zVm l D B O) m_I_shareNoKey 5 [.ref a0, .int a1, .int a2] G (f_I_shareNoKey G a0 a1 a2) := by
  have hdd : lSa m_I_shareNoKey 0 [(.aload_n 0, 0), (.iload_n 1, 0)] = true ∧ lIa m_I_shareNoKey 2 (.invokevirtual 104) 3 = true ∧ lSa m_I_shareNoKey 5 [(.aload_n 0, 0), (.iload_n 2, 0)] = true ∧ lIa m_I_shareNoKey 7 (.invokevirtual 104) 3 = true ∧ lSa m_I_shareNoKey 10 [(.iand, 0)] = true ∧ lIa m_I_shareNoKey 11 (.ifCond .ne 7) 3 = true ∧ lSa m_I_shareNoKey 14 [(.iconst 1, nI 1)] = true ∧ lIa m_I_shareNoKey 15 (.goto 4) 3 = true ∧ lIa m_I_shareNoKey 19 (.ireturn) 1 = true ∧ lSa m_I_shareNoKey 18 [(.iconst 0, nI 0)] = true := by decide +kernel
  refine lA8 hdd (fun dd0 dd1 dd2 dd3 dd4 dd5 dd6 dd7 hdd => ?_)
  obtain ⟨dd8, dd9⟩ := hdd
  refine gMet.of (by decide +kernel) (Nat.le_of_ble_eq_true rfl) [some (.ref a0), some (.int a1), some (.int a2)] (fun ls h => zEn_ok (n := 3) h) ?_
  intro o Gf h
  unfold f_I_shareNoKey at h
  refine Y.blk (pc' := 2) (L' := [some (.ref a0), some (.int a1), some (.int a2)]) (st' := [.int a1, .ref a0]) (sg := [(.aload_n 0, 0), (.iload_n 1, 0)]) (lSa_ok dd0) rfl ?_
  obtain ⟨_, o2, e1, m3, h⟩ := gOb_inv h
  refine Y.callI (yC.Vi (b := a0) (As := [.int a1]) (st := []) (r := ("Partlister$Lists", T_I, 7)) hV.1 cb_I_keysOf lk_I_104 in_I_keysOf rfl se_I_keysOf (lIa_ok dd1) rfl rfl (Nat.le_of_ble_eq_true rfl) (by decide) e1 m3) (k_I_keysOf hV G a0 a1) h (fun v5 G4 _ h => ?_)
  refine Y.blk (pc' := 7) (L' := [some (.ref a0), some (.int a1), some (.int a2)]) (st' := [.int a2, .ref a0, .int v5]) (sg := [(.aload_n 0, 0), (.iload_n 2, 0)]) (lSa_ok dd2) rfl ?_
  obtain ⟨_, o7, e6, m8, h⟩ := gOb_inv h
  refine Y.callI (yC.Vi (b := a0) (As := [.int a2]) (st := [.int v5]) (r := ("Partlister$Lists", T_I, 7)) hV.1 cb_I_keysOf lk_I_104 in_I_keysOf rfl se_I_keysOf (lIa_ok dd3) rfl rfl (Nat.le_of_ble_eq_true rfl) (by decide) e6 m8) (k_I_keysOf hV G4 a0 a2) h (fun v10 G9 _ h => ?_)
  refine Y.blk (pc' := 11) (L' := [some (.ref a0), some (.int a1), some (.int a2)]) (st' := [.int (v5 &&& v10)]) (sg := [(.iand, 0)]) (lSa_ok dd4) rfl ?_
  refine Y.if_ne (off := 7) (tgt := 18) (lIa_ok dd5) (by decide) h (fun c11 h => ?_) (fun c11 h => ?_)
  · refine Y.blk (pc' := 15) (L' := [some (.ref a0), some (.int a1), some (.int a2)]) (st' := [.int (nI 1)]) (sg := [(.iconst 1, nI 1)]) (lSa_ok dd6) rfl ?_
    refine Y.goto (off := 4) (tgt := 19) (lIa_ok dd7) (by decide) ?_
    exact Y.zret rfl (lIa_ok dd8) h
  · refine Y.blk (pc' := 19) (L' := [some (.ref a0), some (.int a1), some (.int a2)]) (st' := [.int (nI 0)]) (sg := [(.iconst 0, nI 0)]) (lSa_ok dd9) rfl ?_
    exact Y.zret rfl (lIa_ok dd8) h

def f_X_areApart (G : gH) (a0 : Nat) (a1 : Int32) (a2 : Int32) : gR :=
  gOb G a0 3 fun o2 => bV (f_X_needList G a0 a1) fun G4 => gOb G4 a0 3 fun o6 => bV (f_X_needList G4 a0 a2) fun G8 => gFA G8 a0 3 0 fun v9 => gOb G8 v9 1 fun o11 => bI (f_I_shareNoKey G8 v9 a1 a2) fun v14 G13 => rZ v14 G13
theorem k_X_areApart {l : Launch} {D : va_G} {B : Nat} {O : State → Heap → Prop} (hV : zG l D B O) (G : gH) (a0 : Nat) (a1 : Int32) (a2 : Int32) : gMet (zVm l D B O) m_X_areApart 7 [.ref a0, .int a1, .int a2] G (f_X_areApart G a0 a1 a2) := by
  have hdd : lSa m_X_areApart 0 [(.aload_n 0, 0), (.iload_n 1, 0)] = true ∧ lIa m_X_areApart 2 (.invokevirtual 23) 3 = true ∧ lSa m_X_areApart 5 [(.aload_n 0, 0), (.iload_n 2, 0)] = true ∧ lIa m_X_areApart 7 (.invokevirtual 23) 3 = true ∧ lSa m_X_areApart 10 [(.aload_n 0, 0)] = true ∧ lIa m_X_areApart 11 (.getfield 10) 3 = true ∧ lSa m_X_areApart 14 [(.iload_n 1, 0), (.iload_n 2, 0)] = true ∧ lIa m_X_areApart 16 (.invokevirtual 196) 3 = true ∧ lIa m_X_areApart 19 (.ireturn) 1 = true := by decide +kernel
  refine lA8 hdd (fun dd0 dd1 dd2 dd3 dd4 dd5 dd6 dd7 hdd => ?_)
  have dd8 := hdd
  refine gMet.of (by decide +kernel) (Nat.le_of_ble_eq_true rfl) [some (.ref a0), some (.int a1), some (.int a2)] (fun ls h => zEn_ok (n := 3) h) ?_
  intro o Gf h
  unfold f_X_areApart at h
  refine Y.blk (pc' := 2) (L' := [some (.ref a0), some (.int a1), some (.int a2)]) (st' := [.int a1, .ref a0]) (sg := [(.aload_n 0, 0), (.iload_n 1, 0)]) (lSa_ok dd0) rfl ?_
  obtain ⟨_, o2, e1, m3, h⟩ := gOb_inv h
  refine Y.callN (yC.Vi (b := a0) (As := [.int a1]) (st := []) (r := ("Partlister", T_X, 5)) hV.1 cb_X_needList lk_X_23 in_X_needList rfl se_X_needList (lIa_ok dd1) rfl rfl (Nat.le_of_ble_eq_true rfl) (by decide) e1 m3) (k_X_needList hV G a0 a1) h (fun G4 _ h => ?_)
  refine Y.blk (pc' := 7) (L' := [some (.ref a0), some (.int a1), some (.int a2)]) (st' := [.int a2, .ref a0]) (sg := [(.aload_n 0, 0), (.iload_n 2, 0)]) (lSa_ok dd2) rfl ?_
  obtain ⟨_, o6, e5, m7, h⟩ := gOb_inv h
  refine Y.callN (yC.Vi (b := a0) (As := [.int a2]) (st := []) (r := ("Partlister", T_X, 5)) hV.1 cb_X_needList lk_X_23 in_X_needList rfl se_X_needList (lIa_ok dd3) rfl rfl (Nat.le_of_ble_eq_true rfl) (by decide) e5 m7) (k_X_needList hV G4 a0 a2) h (fun G8 _ h => ?_)
  refine Y.blk (pc' := 11) (L' := [some (.ref a0), some (.int a1), some (.int a2)]) (st' := [.ref a0]) (sg := [(.aload_n 0, 0)]) (lSa_ok dd4) rfl ?_
  refine Y.getA fl_X_10 (lIa_ok dd5) h (fun v9 h => ?_)
  refine Y.blk (pc' := 16) (L' := [some (.ref a0), some (.int a1), some (.int a2)]) (st' := [.int a2, .int a1, .ref v9]) (sg := [(.iload_n 1, 0), (.iload_n 2, 0)]) (lSa_ok dd6) rfl ?_
  obtain ⟨_, o11, e10, m12, h⟩ := gOb_inv h
  refine Y.callI (yC.Vi (b := v9) (As := [.int a1, .int a2]) (st := []) (r := ("Partlister$Lists", T_I, 7)) hV.1 cb_I_shareNoKey lk_X_196 in_I_shareNoKey rfl se_I_shareNoKey (lIa_ok dd7) rfl rfl (Nat.le_of_ble_eq_true rfl) (by decide) e10 m12) (k_I_shareNoKey hV G8 v9 a1 a2) h (fun v14 G13 _ h => ?_)
  exact Y.zret rfl (lIa_ok dd8) h

def f_X_endAround_L11 (K39 : gH → Int32 → gR) : Nat → gH → Nat → Int32 → Int32 → Int32 → gR
  | 0, _, _, _, _, _ => none
  | n + 1, G, x0, x1, x2, x3 =>
    if (nI 3) ≤ x3 then K39 G x2
    else gOb G x0 3 fun o8 => bI (f_X_isOnRowOf G x0 x3 x1) fun v11 G10 => if v11 = 0 then f_X_endAround_L11 K39 n G10 x0 x1 x2 (x3 + (nI 1))
      else gFA G10 x0 3 1 fun v12 => gOb G10 v12 0 fun o14 => bV (f_U_finish G10 v12 x3) fun G16 => f_X_endAround_L11 K39 n G16 x0 x1 x2 (x3 + (nI 1))
def f_X_endAround (G : gH) (a0 : Nat) (a1 : Int32) : gR :=
  gFA G a0 3 0 fun v1 => gOb G v1 1 fun o3 => bI (f_I_endOthers G v1 a1) fun v6 G5 => f_X_endAround_L11 (fun G20 x19 => rI x19 G20) zFu G5 a0 a1 v6 (nI 0)
theorem k_X_endAround_L11 {l : Launch} {D : va_G} {B : Nat} {O : State → Heap → Prop} (hV : zG l D B O) {o : gO} {Gf : gH} (K39 : gH → Int32 → gR) (hK39 : ∀ (G : gH) (x2 : Int32), K39 G x2 = some (o, Gf) → Y (zVm l D B O) m_X_endAround 5 o Gf 39 [none, none, some (.int x2), none] [] G) : ∀ (n : Nat) (G : gH) (x0 : Nat) (x1 : Int32) (x2 : Int32) (x3 : Int32), f_X_endAround_L11 K39 n G x0 x1 x2 x3 = some (o, Gf) → Y (zVm l D B O) m_X_endAround 5 o Gf 11 [some (.ref x0), some (.int x1), some (.int x2), some (.int x3)] [] G := by
  have hdd : lSa m_X_endAround 11 [(.iload_n 3, 0), (.iconst 3, nI 3)] = true ∧ lIa m_X_endAround 13 (.if_icmp .ge 26) 3 = true ∧ lSa m_X_endAround 16 [(.aload_n 0, 0), (.iload_n 3, 0), (.iload_n 1, 0)] = true ∧ lIa m_X_endAround 19 (.invokevirtual 293) 3 = true ∧ lIa m_X_endAround 22 (.ifCond .eq 11) 3 = true ∧ lSa m_X_endAround 33 [(.iinc 3 1, nI 1)] = true ∧ lIa m_X_endAround 36 (.goto (-25)) 3 = true ∧ lSa m_X_endAround 25 [(.aload_n 0, 0)] = true ∧ lIa m_X_endAround 26 (.getfield 19) 3 = true ∧ lSa m_X_endAround 29 [(.iload_n 3, 0)] = true ∧ lIa m_X_endAround 30 (.invokevirtual 156) 3 = true := by decide +kernel
  refine lA8 hdd (fun dd0 dd1 dd2 dd3 dd4 dd5 dd6 dd7 hdd => ?_)
  obtain ⟨dd8, dd9, dd10⟩ := hdd
  intro n
  induction n with
  | zero => intro G x0 x1 x2 x3 h; cases h
  | succ n ih =>
    intro G x0 x1 x2 x3 h
    unfold f_X_endAround_L11 at h
    refine Y.blk (pc' := 13) (L' := [some (.ref x0), some (.int x1), some (.int x2), some (.int x3)]) (st' := [.int (nI 3), .int x3]) (sg := [(.iload_n 3, 0), (.iconst 3, nI 3)]) (lSa_ok dd0) rfl ?_
    refine Y.ic_ge (off := 26) (tgt := 39) (lIa_ok dd1) (by decide) h (fun c18 h => ?_) (fun c18 h => ?_)
    · refine Y.less (L' := [none, none, some (.int x2), none]) (zLe_none (zLe_none (zLe_some (zLe_none (zLe_nil))))) ?_
      exact hK39 G x2 h
    · refine Y.blk (pc' := 19) (L' := [some (.ref x0), some (.int x1), some (.int x2), some (.int x3)]) (st' := [.int x1, .int x3, .ref x0]) (sg := [(.aload_n 0, 0), (.iload_n 3, 0), (.iload_n 1, 0)]) (lSa_ok dd2) rfl ?_
      obtain ⟨_, o8, e7, m9, h⟩ := gOb_inv h
      refine Y.callI (yC.Vi (b := x0) (As := [.int x3, .int x1]) (st := []) (r := ("Partlister", T_X, 5)) hV.1 cb_X_isOnRowOf lk_X_293 in_X_isOnRowOf rfl se_X_isOnRowOf (lIa_ok dd3) rfl rfl (Nat.le_of_ble_eq_true rfl) (by decide) e7 m9) (k_X_isOnRowOf hV G x0 x3 x1) h (fun v11 G10 _ h => ?_)
      refine Y.if_eq (off := 11) (tgt := 33) (lIa_ok dd4) (by decide) h (fun c17 h => ?_) (fun c17 h => ?_)
      · refine Y.blk (pc' := 36) (L' := [some (.ref x0), some (.int x1), some (.int x2), some (.int (x3 + (nI 1)))]) (st' := []) (sg := [(.iinc 3 1, nI 1)]) (lSa_ok dd5) rfl ?_
        refine Y.goto (off := -25) (tgt := 11) (lIa_ok dd6) (by decide) ?_
        exact ih G10 x0 x1 x2 (x3 + (nI 1)) h
      · refine Y.blk (pc' := 26) (L' := [some (.ref x0), some (.int x1), some (.int x2), some (.int x3)]) (st' := [.ref x0]) (sg := [(.aload_n 0, 0)]) (lSa_ok dd7) rfl ?_
        refine Y.getA fl_X_19 (lIa_ok dd8) h (fun v12 h => ?_)
        refine Y.blk (pc' := 30) (L' := [some (.ref x0), some (.int x1), some (.int x2), some (.int x3)]) (st' := [.int x3, .ref v12]) (sg := [(.iload_n 3, 0)]) (lSa_ok dd9) rfl ?_
        obtain ⟨_, o14, e13, m15, h⟩ := gOb_inv h
        refine Y.callN (yC.Vi (b := v12) (As := [.int x3]) (st := []) (r := ("Partlister$Cursors", T_U, 5)) hV.1 cb_U_finish lk_X_156 in_U_finish rfl se_U_finish (lIa_ok dd10) rfl rfl (Nat.le_of_ble_eq_true rfl) (by decide) e13 m15) (k_U_finish hV G10 v12 x3) h (fun G16 _ h => ?_)
        refine Y.blk (pc' := 36) (L' := [some (.ref x0), some (.int x1), some (.int x2), some (.int (x3 + (nI 1)))]) (st' := []) (sg := [(.iinc 3 1, nI 1)]) (lSa_ok dd5) rfl ?_
        refine Y.goto (off := -25) (tgt := 11) (lIa_ok dd6) (by decide) ?_
        exact ih G16 x0 x1 x2 (x3 + (nI 1)) h
theorem k_X_endAround {l : Launch} {D : va_G} {B : Nat} {O : State → Heap → Prop} (hV : zG l D B O) (G : gH) (a0 : Nat) (a1 : Int32) : gMet (zVm l D B O) m_X_endAround 5 [.ref a0, .int a1] G (f_X_endAround G a0 a1) := by
  have hdd : lSa m_X_endAround 0 [(.aload_n 0, 0)] = true ∧ lIa m_X_endAround 1 (.getfield 10) 3 = true ∧ lSa m_X_endAround 4 [(.iload_n 1, 0)] = true ∧ lIa m_X_endAround 5 (.invokevirtual 290) 3 = true ∧ lSa m_X_endAround 8 [(.istore_n 2, 0), (.iconst 0, nI 0), (.istore_n 3, 0)] = true ∧ lSa m_X_endAround 39 [(.iload_n 2, 0)] = true ∧ lIa m_X_endAround 40 (.ireturn) 1 = true := by decide +kernel
  obtain ⟨dd0, dd1, dd2, dd3, dd4, dd5, dd6⟩ := hdd
  refine gMet.of (by decide +kernel) (Nat.le_of_ble_eq_true rfl) [some (.ref a0), some (.int a1), none, none] (fun ls h => zEn_ok (n := 4) h) ?_
  intro o Gf h
  unfold f_X_endAround at h
  refine Y.blk (pc' := 1) (L' := [some (.ref a0), some (.int a1), none, none]) (st' := [.ref a0]) (sg := [(.aload_n 0, 0)]) (lSa_ok dd0) rfl ?_
  refine Y.getA fl_X_10 (lIa_ok dd1) h (fun v1 h => ?_)
  refine Y.blk (pc' := 5) (L' := [some (.ref a0), some (.int a1), none, none]) (st' := [.int a1, .ref v1]) (sg := [(.iload_n 1, 0)]) (lSa_ok dd2) rfl ?_
  obtain ⟨_, o3, e2, m4, h⟩ := gOb_inv h
  refine Y.callI (yC.Vi (b := v1) (As := [.int a1]) (st := []) (r := ("Partlister$Lists", T_I, 7)) hV.1 cb_I_endOthers lk_X_290 in_I_endOthers rfl se_I_endOthers (lIa_ok dd3) rfl rfl (Nat.le_of_ble_eq_true rfl) (by decide) e2 m4) (k_I_endOthers hV G v1 a1) h (fun v6 G5 _ h => ?_)
  refine Y.blk (pc' := 11) (L' := [some (.ref a0), some (.int a1), some (.int v6), some (.int (nI 0))]) (st' := []) (sg := [(.istore_n 2, 0), (.iconst 0, nI 0), (.istore_n 3, 0)]) (lSa_ok dd4) rfl ?_
  refine k_X_endAround_L11 hV _ ?_  zFu G5 a0 a1 v6 (nI 0) h
  · intro G20 x19 h
    refine Y.blk (pc' := 40) (L' := [none, none, some (.int x19), none]) (st' := [.int x19]) (sg := [(.iload_n 2, 0)]) (lSa_ok dd5) rfl ?_
    exact Y.iret rfl (lIa_ok dd6) h

def f_X_needRow (G : gH) (a0 : Nat) (a1 : Int32) : gR :=
  if a1 < 0 then gThrow "java/lang/IndexOutOfBoundsException" G
  else if a1 < (nI 2) then rV G
    else gThrow "java/lang/IndexOutOfBoundsException" G
theorem k_X_needRow {l : Launch} {D : va_G} {B : Nat} {O : State → Heap → Prop} (hV : zG l D B O) (G : gH) (a0 : Nat) (a1 : Int32) : gMet (zVm l D B O) m_X_needRow 6 [.ref a0, .int a1] G (f_X_needRow G a0 a1) := by
  have hdd : lSa m_X_needRow 0 [(.iload_n 1, 0)] = true ∧ lIa m_X_needRow 1 (.ifCond .lt 8) 3 = true ∧ lIa m_X_needRow 9 (.new 125) 3 = true ∧ lIa m_X_needRow 12 (.dup) 1 = true ∧ lIa m_X_needRow 13 (.ldc_w 331) 3 = true ∧ lIa m_X_needRow 16 (.invokespecial 129) 3 = true ∧ lIa m_X_needRow 19 (.athrow) 1 = true ∧ lSa m_X_needRow 4 [(.iload_n 1, 0), (.iconst 2, nI 2)] = true ∧ lIa m_X_needRow 6 (.if_icmp .lt 14) 3 = true ∧ lIa m_X_needRow 20 (.return_) 1 = true := by decide +kernel
  refine lA8 hdd (fun dd0 dd1 dd2 dd3 dd4 dd5 dd6 dd7 hdd => ?_)
  obtain ⟨dd8, dd9⟩ := hdd
  refine gMet.of (by decide +kernel) (Nat.le_of_ble_eq_true rfl) [some (.ref a0), some (.int a1)] (fun ls h => zEn_ok (n := 2) h) ?_
  intro o Gf h
  unfold f_X_needRow at h
  refine Y.blk (pc' := 1) (L' := [some (.ref a0), some (.int a1)]) (st' := [.int a1]) (sg := [(.iload_n 1, 0)]) (lSa_ok dd0) rfl ?_
  refine Y.if_lt (off := 8) (tgt := 9) (lIa_ok dd1) (by decide) h (fun c2 h => ?_) (fun c2 h => ?_)
  · exact Y.throwSW (is := 331) (text := "row is not 0 or 1") (names := zNm) hV.1 (hV.2 _ _ _ (by decide +kernel)) (by decide +kernel) (by decide +kernel) ck_X_125 ini_IOE tw_X_129 tg_X_129 (by decide) (by decide) rfl (Nat.le_of_ble_eq_true rfl) (lIa_ok dd2) (lIa_ok dd3) (lIa_ok dd4) (lIa_ok dd5) (lIa_ok dd6) h
  · refine Y.blk (pc' := 6) (L' := [some (.ref a0), some (.int a1)]) (st' := [.int (nI 2), .int a1]) (sg := [(.iload_n 1, 0), (.iconst 2, nI 2)]) (lSa_ok dd7) rfl ?_
    refine Y.ic_lt (off := 14) (tgt := 20) (lIa_ok dd8) (by decide) h (fun c1 h => ?_) (fun c1 h => ?_)
    · exact Y.vret rfl (lIa_ok dd9) h
    · exact Y.throwSW (is := 331) (text := "row is not 0 or 1") (names := zNm) hV.1 (hV.2 _ _ _ (by decide +kernel)) (by decide +kernel) (by decide +kernel) ck_X_125 ini_IOE tw_X_129 tg_X_129 (by decide) (by decide) rfl (Nat.le_of_ble_eq_true rfl) (lIa_ok dd2) (lIa_ok dd3) (lIa_ok dd4) (lIa_ok dd5) (lIa_ok dd6) h

def f_I_copyToRow_L9 (K35 : gH → Nat → Int32 → Int32 → gR) : Nat → gH → Nat → Int32 → Int32 → Int32 → Int32 → gR
  | 0, _, _, _, _, _, _ => none
  | n + 1, G, x0, x1, x2, x3, x4 =>
    if x3 ≤ x4 then K35 G x0 x1 x3
    else gOb G x0 1 fun o7 => bI (f_I_thingAt G x0 x2 x4) fun v10 G9 => gOb G9 x0 1 fun o12 => bV (f_I_write G9 x0 x1 x4 v10) fun G14 => f_I_copyToRow_L9 K35 n G14 x0 x1 x2 x3 (x4 + (nI 1))
def f_I_copyToRow (G : gH) (a0 : Nat) (a1 : Int32) (a2 : Int32) : gR :=
  gOb G a0 1 fun o2 => bI (f_I_lengthOf G a0 a2) fun v5 G4 => f_I_copyToRow_L9 (fun G19 x16 x17 x18 => gFA G19 x16 1 1 fun v20 => gOb G19 v20 2 fun o22 => bV (f_N_write G19 v20 x17 x18) fun G24 => rV G24) zFu G4 a0 a1 a2 v5 (nI 0)
theorem k_I_copyToRow_L9 {l : Launch} {D : va_G} {B : Nat} {O : State → Heap → Prop} (hV : zG l D B O) {o : gO} {Gf : gH} (K35 : gH → Nat → Int32 → Int32 → gR) (hK35 : ∀ (G : gH) (x0 : Nat) (x1 : Int32) (x3 : Int32), K35 G x0 x1 x3 = some (o, Gf) → Y (zVm l D B O) m_I_copyToRow 4 o Gf 35 [some (.ref x0), some (.int x1), none, some (.int x3), none] [] G) : ∀ (n : Nat) (G : gH) (x0 : Nat) (x1 : Int32) (x2 : Int32) (x3 : Int32) (x4 : Int32), f_I_copyToRow_L9 K35 n G x0 x1 x2 x3 x4 = some (o, Gf) → Y (zVm l D B O) m_I_copyToRow 4 o Gf 9 [some (.ref x0), some (.int x1), some (.int x2), some (.int x3), some (.int x4)] [] G := by
  have hdd : lSa m_I_copyToRow 9 [(.iload 4, 0), (.iload_n 3, 0)] = true ∧ lIa m_I_copyToRow 12 (.if_icmp .ge 23) 3 = true ∧ lSa m_I_copyToRow 15 [(.aload_n 0, 0), (.iload_n 1, 0), (.iload 4, 0), (.aload_n 0, 0), (.iload_n 2, 0), (.iload 4, 0)] = true ∧ lIa m_I_copyToRow 23 (.invokevirtual 50) 3 = true ∧ lIa m_I_copyToRow 26 (.invokevirtual 53) 3 = true ∧ lSa m_I_copyToRow 29 [(.iinc 4 1, nI 1)] = true ∧ lIa m_I_copyToRow 32 (.goto (-23)) 3 = true := by decide +kernel
  obtain ⟨dd0, dd1, dd2, dd3, dd4, dd5, dd6⟩ := hdd
  intro n
  induction n with
  | zero => intro G x0 x1 x2 x3 x4 h; cases h
  | succ n ih =>
    intro G x0 x1 x2 x3 x4 h
    unfold f_I_copyToRow_L9 at h
    refine Y.blk (pc' := 12) (L' := [some (.ref x0), some (.int x1), some (.int x2), some (.int x3), some (.int x4)]) (st' := [.int x3, .int x4]) (sg := [(.iload 4, 0), (.iload_n 3, 0)]) (lSa_ok dd0) rfl ?_
    refine Y.ic_ge (off := 23) (tgt := 35) (lIa_ok dd1) (by decide) h (fun c15 h => ?_) (fun c15 h => ?_)
    · refine Y.less (L' := [some (.ref x0), some (.int x1), none, some (.int x3), none]) (zLe_some (zLe_some (zLe_none (zLe_some (zLe_none (zLe_nil)))))) ?_
      exact hK35 G x0 x1 x3 h
    · refine Y.blk (pc' := 23) (L' := [some (.ref x0), some (.int x1), some (.int x2), some (.int x3), some (.int x4)]) (st' := [.int x4, .int x2, .ref x0, .int x4, .int x1, .ref x0]) (sg := [(.aload_n 0, 0), (.iload_n 1, 0), (.iload 4, 0), (.aload_n 0, 0), (.iload_n 2, 0), (.iload 4, 0)]) (lSa_ok dd2) rfl ?_
      obtain ⟨_, o7, e6, m8, h⟩ := gOb_inv h
      refine Y.callI (yC.Vi (b := x0) (As := [.int x2, .int x4]) (st := [.int x4, .int x1, .ref x0]) (r := ("Partlister$Lists", T_I, 7)) hV.1 cb_I_thingAt lk_I_50 in_I_thingAt rfl se_I_thingAt (lIa_ok dd3) rfl rfl (Nat.le_of_ble_eq_true rfl) (by decide) e6 m8) (k_I_thingAt hV G x0 x2 x4) h (fun v10 G9 _ h => ?_)
      obtain ⟨_, o12, e11, m13, h⟩ := gOb_inv h
      refine Y.callN (yC.Vi (b := x0) (As := [.int x1, .int x4, .int v10]) (st := []) (r := ("Partlister$Lists", T_I, 7)) hV.1 cb_I_write lk_I_53 in_I_write rfl se_I_write (lIa_ok dd4) rfl rfl (Nat.le_of_ble_eq_true rfl) (by decide) e11 m13) (k_I_write hV G9 x0 x1 x4 v10) h (fun G14 _ h => ?_)
      refine Y.blk (pc' := 32) (L' := [some (.ref x0), some (.int x1), some (.int x2), some (.int x3), some (.int (x4 + (nI 1)))]) (st' := []) (sg := [(.iinc 4 1, nI 1)]) (lSa_ok dd5) rfl ?_
      refine Y.goto (off := -23) (tgt := 9) (lIa_ok dd6) (by decide) ?_
      exact ih G14 x0 x1 x2 x3 (x4 + (nI 1)) h
theorem k_I_copyToRow {l : Launch} {D : va_G} {B : Nat} {O : State → Heap → Prop} (hV : zG l D B O) (G : gH) (a0 : Nat) (a1 : Int32) (a2 : Int32) : gMet (zVm l D B O) m_I_copyToRow 4 [.ref a0, .int a1, .int a2] G (f_I_copyToRow G a0 a1 a2) := by
  have hdd : lSa m_I_copyToRow 0 [(.aload_n 0, 0), (.iload_n 2, 0)] = true ∧ lIa m_I_copyToRow 2 (.invokevirtual 59) 3 = true ∧ lSa m_I_copyToRow 5 [(.istore_n 3, 0), (.iconst 0, nI 0), (.istore 4, 0)] = true ∧ lSa m_I_copyToRow 35 [(.aload_n 0, 0)] = true ∧ lIa m_I_copyToRow 36 (.getfield 20) 3 = true ∧ lSa m_I_copyToRow 39 [(.iload_n 1, 0), (.iload_n 3, 0)] = true ∧ lIa m_I_copyToRow 41 (.invokevirtual 35) 3 = true ∧ lIa m_I_copyToRow 44 (.return_) 1 = true := by decide +kernel
  obtain ⟨dd0, dd1, dd2, dd3, dd4, dd5, dd6, dd7⟩ := hdd
  refine gMet.of (by decide +kernel) (Nat.le_of_ble_eq_true rfl) [some (.ref a0), some (.int a1), some (.int a2), none, none] (fun ls h => zEn_ok (n := 5) h) ?_
  intro o Gf h
  unfold f_I_copyToRow at h
  refine Y.blk (pc' := 2) (L' := [some (.ref a0), some (.int a1), some (.int a2), none, none]) (st' := [.int a2, .ref a0]) (sg := [(.aload_n 0, 0), (.iload_n 2, 0)]) (lSa_ok dd0) rfl ?_
  obtain ⟨_, o2, e1, m3, h⟩ := gOb_inv h
  refine Y.callI (yC.Vi (b := a0) (As := [.int a2]) (st := []) (r := ("Partlister$Lists", T_I, 7)) hV.1 cb_I_lengthOf lk_I_59 in_I_lengthOf rfl se_I_lengthOf (lIa_ok dd1) rfl rfl (Nat.le_of_ble_eq_true rfl) (by decide) e1 m3) (k_I_lengthOf hV G a0 a2) h (fun v5 G4 _ h => ?_)
  refine Y.blk (pc' := 9) (L' := [some (.ref a0), some (.int a1), some (.int a2), some (.int v5), some (.int (nI 0))]) (st' := []) (sg := [(.istore_n 3, 0), (.iconst 0, nI 0), (.istore 4, 0)]) (lSa_ok dd2) rfl ?_
  refine k_I_copyToRow_L9 hV _ ?_  zFu G4 a0 a1 a2 v5 (nI 0) h
  · intro G19 x16 x17 x18 h
    refine Y.blk (pc' := 36) (L' := [some (.ref x16), some (.int x17), none, some (.int x18), none]) (st' := [.ref x16]) (sg := [(.aload_n 0, 0)]) (lSa_ok dd3) rfl ?_
    refine Y.getA fl_I_20 (lIa_ok dd4) h (fun v20 h => ?_)
    refine Y.blk (pc' := 41) (L' := [some (.ref x16), some (.int x17), none, some (.int x18), none]) (st' := [.int x18, .int x17, .ref v20]) (sg := [(.iload_n 1, 0), (.iload_n 3, 0)]) (lSa_ok dd5) rfl ?_
    obtain ⟨_, o22, e21, m23, h⟩ := gOb_inv h
    refine Y.callN (yC.Vi (b := v20) (As := [.int x17, .int x18]) (st := []) (r := ("Partlister$Numbers", T_N, 1)) hV.1 cb_N_write lk_I_35 in_N_write rfl se_N_write (lIa_ok dd6) rfl rfl (Nat.le_of_ble_eq_true rfl) (by decide) e21 m23) (k_N_write hV G19 v20 x17 x18) h (fun G24 _ h => ?_)
    exact Y.vret rfl (lIa_ok dd7) h

def f_X_assign (G : gH) (a0 : Nat) (a1 : Int32) (a2 : Int32) : gR :=
  gOb G a0 3 fun o2 => bV (f_X_needRow G a0 a1) fun G4 => gOb G4 a0 3 fun o6 => bV (f_X_needList G4 a0 a2) fun G8 => gFA G8 a0 3 0 fun v9 => gOb G8 v9 1 fun o11 => bI (f_I_lengthOf G8 v9 a1) fun v14 G13 => gFA G13 a0 3 0 fun v15 => gOb G13 v15 1 fun o17 => bV (f_I_copyToRow G13 v15 a1 a2) fun G19 => gOb G19 a0 3 fun o21 => bI (f_X_endAround G19 a0 a1) fun v24 G23 => rI v14 G23
theorem k_X_assign {l : Launch} {D : va_G} {B : Nat} {O : State → Heap → Prop} (hV : zG l D B O) (G : gH) (a0 : Nat) (a1 : Int32) (a2 : Int32) : gMet (zVm l D B O) m_X_assign 7 [.ref a0, .int a1, .int a2] G (f_X_assign G a0 a1 a2) := by
  have hdd : lSa m_X_assign 0 [(.aload_n 0, 0), (.iload_n 1, 0)] = true ∧ lIa m_X_assign 2 (.invokevirtual 106) 3 = true ∧ lSa m_X_assign 5 [(.aload_n 0, 0), (.iload_n 2, 0)] = true ∧ lIa m_X_assign 7 (.invokevirtual 23) 3 = true ∧ lSa m_X_assign 10 [(.aload_n 0, 0)] = true ∧ lIa m_X_assign 11 (.getfield 10) 3 = true ∧ lSa m_X_assign 14 [(.iload_n 1, 0)] = true ∧ lIa m_X_assign 15 (.invokevirtual 34) 3 = true ∧ lSa m_X_assign 18 [(.istore_n 3, 0), (.aload_n 0, 0)] = true ∧ lIa m_X_assign 20 (.getfield 10) 3 = true ∧ lSa m_X_assign 23 [(.iload_n 1, 0), (.iload_n 2, 0)] = true ∧ lIa m_X_assign 25 (.invokevirtual 109) 3 = true ∧ lSa m_X_assign 28 [(.aload_n 0, 0), (.iload_n 1, 0)] = true ∧ lIa m_X_assign 30 (.invokevirtual 103) 3 = true ∧ lSa m_X_assign 33 [(.pop, 0), (.iload_n 3, 0)] = true ∧ lIa m_X_assign 35 (.ireturn) 1 = true := by decide +kernel
  refine lA8 hdd (fun dd0 dd1 dd2 dd3 dd4 dd5 dd6 dd7 hdd => ?_)
  obtain ⟨dd8, dd9, dd10, dd11, dd12, dd13, dd14, dd15⟩ := hdd
  refine gMet.of (by decide +kernel) (Nat.le_of_ble_eq_true rfl) [some (.ref a0), some (.int a1), some (.int a2), none] (fun ls h => zEn_ok (n := 4) h) ?_
  intro o Gf h
  unfold f_X_assign at h
  refine Y.blk (pc' := 2) (L' := [some (.ref a0), some (.int a1), some (.int a2), none]) (st' := [.int a1, .ref a0]) (sg := [(.aload_n 0, 0), (.iload_n 1, 0)]) (lSa_ok dd0) rfl ?_
  obtain ⟨_, o2, e1, m3, h⟩ := gOb_inv h
  refine Y.callN (yC.Vi (b := a0) (As := [.int a1]) (st := []) (r := ("Partlister", T_X, 5)) hV.1 cb_X_needRow lk_X_106 in_X_needRow rfl se_X_needRow (lIa_ok dd1) rfl rfl (Nat.le_of_ble_eq_true rfl) (by decide) e1 m3) (k_X_needRow hV G a0 a1) h (fun G4 _ h => ?_)
  refine Y.blk (pc' := 7) (L' := [some (.ref a0), some (.int a1), some (.int a2), none]) (st' := [.int a2, .ref a0]) (sg := [(.aload_n 0, 0), (.iload_n 2, 0)]) (lSa_ok dd2) rfl ?_
  obtain ⟨_, o6, e5, m7, h⟩ := gOb_inv h
  refine Y.callN (yC.Vi (b := a0) (As := [.int a2]) (st := []) (r := ("Partlister", T_X, 5)) hV.1 cb_X_needList lk_X_23 in_X_needList rfl se_X_needList (lIa_ok dd3) rfl rfl (Nat.le_of_ble_eq_true rfl) (by decide) e5 m7) (k_X_needList hV G4 a0 a2) h (fun G8 _ h => ?_)
  refine Y.blk (pc' := 11) (L' := [some (.ref a0), some (.int a1), some (.int a2), none]) (st' := [.ref a0]) (sg := [(.aload_n 0, 0)]) (lSa_ok dd4) rfl ?_
  refine Y.getA fl_X_10 (lIa_ok dd5) h (fun v9 h => ?_)
  refine Y.blk (pc' := 15) (L' := [some (.ref a0), some (.int a1), some (.int a2), none]) (st' := [.int a1, .ref v9]) (sg := [(.iload_n 1, 0)]) (lSa_ok dd6) rfl ?_
  obtain ⟨_, o11, e10, m12, h⟩ := gOb_inv h
  refine Y.callI (yC.Vi (b := v9) (As := [.int a1]) (st := []) (r := ("Partlister$Lists", T_I, 7)) hV.1 cb_I_lengthOf lk_X_34 in_I_lengthOf rfl se_I_lengthOf (lIa_ok dd7) rfl rfl (Nat.le_of_ble_eq_true rfl) (by decide) e10 m12) (k_I_lengthOf hV G8 v9 a1) h (fun v14 G13 _ h => ?_)
  refine Y.blk (pc' := 20) (L' := [some (.ref a0), some (.int a1), some (.int a2), some (.int v14)]) (st' := [.ref a0]) (sg := [(.istore_n 3, 0), (.aload_n 0, 0)]) (lSa_ok dd8) rfl ?_
  refine Y.getA fl_X_10 (lIa_ok dd9) h (fun v15 h => ?_)
  refine Y.blk (pc' := 25) (L' := [some (.ref a0), some (.int a1), some (.int a2), some (.int v14)]) (st' := [.int a2, .int a1, .ref v15]) (sg := [(.iload_n 1, 0), (.iload_n 2, 0)]) (lSa_ok dd10) rfl ?_
  obtain ⟨_, o17, e16, m18, h⟩ := gOb_inv h
  refine Y.callN (yC.Vi (b := v15) (As := [.int a1, .int a2]) (st := []) (r := ("Partlister$Lists", T_I, 7)) hV.1 cb_I_copyToRow lk_X_109 in_I_copyToRow rfl se_I_copyToRow (lIa_ok dd11) rfl rfl (Nat.le_of_ble_eq_true rfl) (by decide) e16 m18) (k_I_copyToRow hV G13 v15 a1 a2) h (fun G19 _ h => ?_)
  refine Y.blk (pc' := 30) (L' := [some (.ref a0), some (.int a1), some (.int a2), some (.int v14)]) (st' := [.int a1, .ref a0]) (sg := [(.aload_n 0, 0), (.iload_n 1, 0)]) (lSa_ok dd12) rfl ?_
  obtain ⟨_, o21, e20, m22, h⟩ := gOb_inv h
  refine Y.callI (yC.Vi (b := a0) (As := [.int a1]) (st := []) (r := ("Partlister", T_X, 5)) hV.1 cb_X_endAround lk_X_103 in_X_endAround rfl se_X_endAround (lIa_ok dd13) rfl rfl (Nat.le_of_ble_eq_true rfl) (by decide) e20 m22) (k_X_endAround hV G19 a0 a1) h (fun v24 G23 _ h => ?_)
  refine Y.blk (pc' := 35) (L' := [some (.ref a0), some (.int a1), some (.int a2), some (.int v14)]) (st' := [.int v14]) (sg := [(.pop, 0), (.iload_n 3, 0)]) (lSa_ok dd14) rfl ?_
  exact Y.iret rfl (lIa_ok dd15) h

def f_I_sweepOut_L41 (K107 : gH → Nat → Int32 → Int32 → Int32 → gR) : Nat → gH → Nat → Int32 → Int32 → Int32 → Int32 → Int32 → Int32 → Int32 → gR
  | 0, _, _, _, _, _, _, _, _, _ => none
  | n + 1, G, x0, x1, x2, x3, x5, x6, x7, x8 =>
    if x6 ≤ x8 then K107 G x0 x1 x6 x7
    else gOb G x0 1 fun o23 => bI (f_I_thingAt G x0 x3 x8) fun v26 G25 => if x5 ≤ x8 then (if (nI 0) = 0 then gOb G25 x0 1 fun o28 => bV (f_I_write G25 x0 x3 x7 v26) fun G30 => f_I_sweepOut_L41 K107 n G30 x0 x1 x2 x3 x5 x6 (x7 + (nI 1)) (x8 + (nI 1))
        else f_I_sweepOut_L41 K107 n G25 x0 x1 x2 x3 x5 x6 x7 (x8 + (nI 1)))
      else bI (f_X_keyOf G25 v26) fun v34 G33 => if ((x2 >>> (v34 &&& 31)) &&& (nI 1)) = (nI 1) then (if (nI 1) = 0 then gOb G33 x0 1 fun o36 => bV (f_I_write G33 x0 x3 x7 v26) fun G38 => f_I_sweepOut_L41 K107 n G38 x0 x1 x2 x3 x5 x6 (x7 + (nI 1)) (x8 + (nI 1))
          else f_I_sweepOut_L41 K107 n G33 x0 x1 x2 x3 x5 x6 x7 (x8 + (nI 1)))
        else if (nI 0) = 0 then gOb G33 x0 1 fun o41 => bV (f_I_write G33 x0 x3 x7 v26) fun G43 => f_I_sweepOut_L41 K107 n G43 x0 x1 x2 x3 x5 x6 (x7 + (nI 1)) (x8 + (nI 1))
          else f_I_sweepOut_L41 K107 n G33 x0 x1 x2 x3 x5 x6 x7 (x8 + (nI 1))
def f_I_sweepOut (G : gH) (a0 : Nat) (a1 : Int32) (a2 : Int32) : gR :=
  gOb G a0 1 fun o2 => bI (f_I_rowOf G a0 a1) fun v5 G4 => gFA G4 a0 1 4 fun v6 => gOb G4 v6 2 fun o8 => bI (f_N_read G4 v6 a1) fun v11 G10 => gOb G10 a0 1 fun o13 => bI (f_I_lengthOf G10 a0 a1) fun v16 G15 => gOb G15 a0 1 fun o18 => bI (f_I_lengthOf G15 a0 v5) fun v21 G20 => f_I_sweepOut_L41 (fun G52 x48 x49 x50 x51 => gOb G52 x48 1 fun o54 => bV (f_I_lengthen G52 x48 x49 (x51 - x50)) fun G56 => rI (x50 - x51) G56) zFu G20 a0 a1 a2 v5 (v11 + v16) v21 v11 v11
theorem k_I_sweepOut_L41 {l : Launch} {D : va_G} {B : Nat} {O : State → Heap → Prop} (hV : zG l D B O) {o : gO} {Gf : gH} (K107 : gH → Nat → Int32 → Int32 → Int32 → gR) (hK107 : ∀ (G : gH) (x0 : Nat) (x1 : Int32) (x6 : Int32) (x7 : Int32), K107 G x0 x1 x6 x7 = some (o, Gf) → Y (zVm l D B O) m_I_sweepOut 4 o Gf 107 [some (.ref x0), some (.int x1), none, none, none, none, some (.int x6), some (.int x7), none, none, none] [] G) : ∀ (n : Nat) (G : gH) (x0 : Nat) (x1 : Int32) (x2 : Int32) (x3 : Int32) (x5 : Int32) (x6 : Int32) (x7 : Int32) (x8 : Int32), f_I_sweepOut_L41 K107 n G x0 x1 x2 x3 x5 x6 x7 x8 = some (o, Gf) → Y (zVm l D B O) m_I_sweepOut 4 o Gf 41 [some (.ref x0), some (.int x1), some (.int x2), some (.int x3), none, some (.int x5), some (.int x6), some (.int x7), some (.int x8), none, none] [] G := by
  have hdd : lSa m_I_sweepOut 41 [(.iload 8, 0), (.iload 6, 0)] = true ∧ lIa m_I_sweepOut 45 (.if_icmp .ge 62) 3 = true ∧ lSa m_I_sweepOut 48 [(.aload_n 0, 0), (.iload_n 3, 0), (.iload 8, 0)] = true ∧ lIa m_I_sweepOut 52 (.invokevirtual 50) 3 = true ∧ lSa m_I_sweepOut 55 [(.istore 9, 0), (.iload 8, 0), (.iload 5, 0)] = true ∧ lIa m_I_sweepOut 61 (.if_icmp .ge 20) 3 = true ∧ lSa m_I_sweepOut 81 [(.iconst 0, nI 0), (.istore 10, 0), (.iload 10, 0)] = true ∧ lIa m_I_sweepOut 86 (.ifCond .ne 15) 3 = true ∧ lSa m_I_sweepOut 89 [(.aload_n 0, 0), (.iload_n 3, 0), (.iload 7, 0), (.iload 9, 0)] = true ∧ lIa m_I_sweepOut 95 (.invokevirtual 53) 3 = true ∧ lSa m_I_sweepOut 98 [(.iinc 7 1, nI 1), (.iinc 8 1, nI 1)] = true ∧ lIa m_I_sweepOut 104 (.goto (-63)) 3 = true ∧ lSa m_I_sweepOut 101 [(.iinc 8 1, nI 1)] = true ∧ lSa m_I_sweepOut 64 [(.iload_n 2, 0), (.iload 9, 0)] = true ∧ lIa m_I_sweepOut 67 (.invokestatic 47) 3 = true ∧ lSa m_I_sweepOut 70 [(.ishr, 0), (.iconst 1, nI 1), (.iand, 0), (.iconst 1, nI 1)] = true ∧ lIa m_I_sweepOut 74 (.if_icmp .ne 7) 3 = true ∧ lSa m_I_sweepOut 77 [(.iconst 1, nI 1)] = true ∧ lIa m_I_sweepOut 78 (.goto 4) 3 = true ∧ lSa m_I_sweepOut 82 [(.istore 10, 0), (.iload 10, 0)] = true := by decide +kernel
  refine lA8 hdd (fun dd0 dd1 dd2 dd3 dd4 dd5 dd6 dd7 hdd => ?_)
  refine lA8 hdd (fun dd8 dd9 dd10 dd11 dd12 dd13 dd14 dd15 hdd => ?_)
  obtain ⟨dd16, dd17, dd18, dd19⟩ := hdd
  intro n
  induction n with
  | zero => intro G x0 x1 x2 x3 x5 x6 x7 x8 h; cases h
  | succ n ih =>
    intro G x0 x1 x2 x3 x5 x6 x7 x8 h
    unfold f_I_sweepOut_L41 at h
    refine Y.blk (pc' := 45) (L' := [some (.ref x0), some (.int x1), some (.int x2), some (.int x3), none, some (.int x5), some (.int x6), some (.int x7), some (.int x8), none, none]) (st' := [.int x6, .int x8]) (sg := [(.iload 8, 0), (.iload 6, 0)]) (lSa_ok dd0) rfl ?_
    refine Y.ic_ge (off := 62) (tgt := 107) (lIa_ok dd1) (by decide) h (fun c47 h => ?_) (fun c47 h => ?_)
    · refine Y.less (L' := [some (.ref x0), some (.int x1), none, none, none, none, some (.int x6), some (.int x7), none, none, none]) (zLe_some (zLe_some (zLe_none (zLe_none (zLe_some (zLe_none (zLe_some (zLe_some (zLe_none (zLe_some (zLe_some (zLe_nil)))))))))))) ?_
      exact hK107 G x0 x1 x6 x7 h
    · refine Y.blk (pc' := 52) (L' := [some (.ref x0), some (.int x1), some (.int x2), some (.int x3), none, some (.int x5), some (.int x6), some (.int x7), some (.int x8), none, none]) (st' := [.int x8, .int x3, .ref x0]) (sg := [(.aload_n 0, 0), (.iload_n 3, 0), (.iload 8, 0)]) (lSa_ok dd2) rfl ?_
      obtain ⟨_, o23, e22, m24, h⟩ := gOb_inv h
      refine Y.callI (yC.Vi (b := x0) (As := [.int x3, .int x8]) (st := []) (r := ("Partlister$Lists", T_I, 7)) hV.1 cb_I_thingAt lk_I_50 in_I_thingAt rfl se_I_thingAt (lIa_ok dd3) rfl rfl (Nat.le_of_ble_eq_true rfl) (by decide) e22 m24) (k_I_thingAt hV G x0 x3 x8) h (fun v26 G25 _ h => ?_)
      refine Y.blk (pc' := 61) (L' := [some (.ref x0), some (.int x1), some (.int x2), some (.int x3), none, some (.int x5), some (.int x6), some (.int x7), some (.int x8), some (.int v26), none]) (st' := [.int x5, .int x8]) (sg := [(.istore 9, 0), (.iload 8, 0), (.iload 5, 0)]) (lSa_ok dd4) rfl ?_
      refine Y.ic_ge (off := 20) (tgt := 81) (lIa_ok dd5) (by decide) h (fun c46 h => ?_) (fun c46 h => ?_)
      · refine Y.blk (pc' := 86) (L' := [some (.ref x0), some (.int x1), some (.int x2), some (.int x3), none, some (.int x5), some (.int x6), some (.int x7), some (.int x8), some (.int v26), some (.int (nI 0))]) (st' := [.int (nI 0)]) (sg := [(.iconst 0, nI 0), (.istore 10, 0), (.iload 10, 0)]) (lSa_ok dd6) rfl ?_
        refine Y.if_ne (off := 15) (tgt := 101) (lIa_ok dd7) (by decide) h (fun c31 h => ?_) (fun c31 h => ?_)
        · refine Y.blk (pc' := 95) (L' := [some (.ref x0), some (.int x1), some (.int x2), some (.int x3), none, some (.int x5), some (.int x6), some (.int x7), some (.int x8), some (.int v26), some (.int (nI 0))]) (st' := [.int v26, .int x7, .int x3, .ref x0]) (sg := [(.aload_n 0, 0), (.iload_n 3, 0), (.iload 7, 0), (.iload 9, 0)]) (lSa_ok dd8) rfl ?_
          obtain ⟨_, o28, e27, m29, h⟩ := gOb_inv h
          refine Y.callN (yC.Vi (b := x0) (As := [.int x3, .int x7, .int v26]) (st := []) (r := ("Partlister$Lists", T_I, 7)) hV.1 cb_I_write lk_I_53 in_I_write rfl se_I_write (lIa_ok dd9) rfl rfl (Nat.le_of_ble_eq_true rfl) (by decide) e27 m29) (k_I_write hV G25 x0 x3 x7 v26) h (fun G30 _ h => ?_)
          refine Y.blk (pc' := 104) (L' := [some (.ref x0), some (.int x1), some (.int x2), some (.int x3), none, some (.int x5), some (.int x6), some (.int (x7 + (nI 1))), some (.int (x8 + (nI 1))), some (.int v26), some (.int (nI 0))]) (st' := []) (sg := [(.iinc 7 1, nI 1), (.iinc 8 1, nI 1)]) (lSa_ok dd10) rfl ?_
          refine Y.goto (off := -63) (tgt := 41) (lIa_ok dd11) (by decide) ?_
          refine Y.less (L' := [some (.ref x0), some (.int x1), some (.int x2), some (.int x3), none, some (.int x5), some (.int x6), some (.int (x7 + (nI 1))), some (.int (x8 + (nI 1))), none, none]) (zLe_some (zLe_some (zLe_some (zLe_some (zLe_some (zLe_some (zLe_some (zLe_some (zLe_some (zLe_none (zLe_none (zLe_nil)))))))))))) ?_
          exact ih G30 x0 x1 x2 x3 x5 x6 (x7 + (nI 1)) (x8 + (nI 1)) h
        · refine Y.blk (pc' := 104) (L' := [some (.ref x0), some (.int x1), some (.int x2), some (.int x3), none, some (.int x5), some (.int x6), some (.int x7), some (.int (x8 + (nI 1))), some (.int v26), some (.int (nI 0))]) (st' := []) (sg := [(.iinc 8 1, nI 1)]) (lSa_ok dd12) rfl ?_
          refine Y.goto (off := -63) (tgt := 41) (lIa_ok dd11) (by decide) ?_
          refine Y.less (L' := [some (.ref x0), some (.int x1), some (.int x2), some (.int x3), none, some (.int x5), some (.int x6), some (.int x7), some (.int (x8 + (nI 1))), none, none]) (zLe_some (zLe_some (zLe_some (zLe_some (zLe_some (zLe_some (zLe_some (zLe_some (zLe_some (zLe_none (zLe_none (zLe_nil)))))))))))) ?_
          exact ih G25 x0 x1 x2 x3 x5 x6 x7 (x8 + (nI 1)) h
      · refine Y.blk (pc' := 67) (L' := [some (.ref x0), some (.int x1), some (.int x2), some (.int x3), none, some (.int x5), some (.int x6), some (.int x7), some (.int x8), some (.int v26), none]) (st' := [.int v26, .int x2]) (sg := [(.iload_n 2, 0), (.iload 9, 0)]) (lSa_ok dd13) rfl ?_
        refine Y.callI (yC.SN (As := [.int v26]) (st := [.int x2]) hV.1 cb_X_keyOf lk_I_47 st_X_keyOf (lIa_ok dd14) rfl rfl (Nat.le_of_ble_eq_true rfl) (by decide)) (k_X_keyOf hV G25 v26) h (fun v34 G33 _ h => ?_)
        refine Y.blk (pc' := 74) (L' := [some (.ref x0), some (.int x1), some (.int x2), some (.int x3), none, some (.int x5), some (.int x6), some (.int x7), some (.int x8), some (.int v26), none]) (st' := [.int (nI 1), .int ((x2 >>> (v34 &&& 31)) &&& (nI 1))]) (sg := [(.ishr, 0), (.iconst 1, nI 1), (.iand, 0), (.iconst 1, nI 1)]) (lSa_ok dd15) rfl ?_
        refine Y.ic_ne (off := 7) (tgt := 81) (lIa_ok dd16) (by decide) h (fun c45 h => ?_) (fun c45 h => ?_)
        · refine Y.blk (pc' := 78) (L' := [some (.ref x0), some (.int x1), some (.int x2), some (.int x3), none, some (.int x5), some (.int x6), some (.int x7), some (.int x8), some (.int v26), none]) (st' := [.int (nI 1)]) (sg := [(.iconst 1, nI 1)]) (lSa_ok dd17) rfl ?_
          refine Y.goto (off := 4) (tgt := 82) (lIa_ok dd18) (by decide) ?_
          refine Y.blk (pc' := 86) (L' := [some (.ref x0), some (.int x1), some (.int x2), some (.int x3), none, some (.int x5), some (.int x6), some (.int x7), some (.int x8), some (.int v26), some (.int (nI 1))]) (st' := [.int (nI 1)]) (sg := [(.istore 10, 0), (.iload 10, 0)]) (lSa_ok dd19) rfl ?_
          refine Y.if_ne (off := 15) (tgt := 101) (lIa_ok dd7) (by decide) h (fun c39 h => ?_) (fun c39 h => ?_)
          · refine Y.blk (pc' := 95) (L' := [some (.ref x0), some (.int x1), some (.int x2), some (.int x3), none, some (.int x5), some (.int x6), some (.int x7), some (.int x8), some (.int v26), some (.int (nI 1))]) (st' := [.int v26, .int x7, .int x3, .ref x0]) (sg := [(.aload_n 0, 0), (.iload_n 3, 0), (.iload 7, 0), (.iload 9, 0)]) (lSa_ok dd8) rfl ?_
            obtain ⟨_, o36, e35, m37, h⟩ := gOb_inv h
            refine Y.callN (yC.Vi (b := x0) (As := [.int x3, .int x7, .int v26]) (st := []) (r := ("Partlister$Lists", T_I, 7)) hV.1 cb_I_write lk_I_53 in_I_write rfl se_I_write (lIa_ok dd9) rfl rfl (Nat.le_of_ble_eq_true rfl) (by decide) e35 m37) (k_I_write hV G33 x0 x3 x7 v26) h (fun G38 _ h => ?_)
            refine Y.blk (pc' := 104) (L' := [some (.ref x0), some (.int x1), some (.int x2), some (.int x3), none, some (.int x5), some (.int x6), some (.int (x7 + (nI 1))), some (.int (x8 + (nI 1))), some (.int v26), some (.int (nI 1))]) (st' := []) (sg := [(.iinc 7 1, nI 1), (.iinc 8 1, nI 1)]) (lSa_ok dd10) rfl ?_
            refine Y.goto (off := -63) (tgt := 41) (lIa_ok dd11) (by decide) ?_
            refine Y.less (L' := [some (.ref x0), some (.int x1), some (.int x2), some (.int x3), none, some (.int x5), some (.int x6), some (.int (x7 + (nI 1))), some (.int (x8 + (nI 1))), none, none]) (zLe_some (zLe_some (zLe_some (zLe_some (zLe_some (zLe_some (zLe_some (zLe_some (zLe_some (zLe_none (zLe_none (zLe_nil)))))))))))) ?_
            exact ih G38 x0 x1 x2 x3 x5 x6 (x7 + (nI 1)) (x8 + (nI 1)) h
          · refine Y.blk (pc' := 104) (L' := [some (.ref x0), some (.int x1), some (.int x2), some (.int x3), none, some (.int x5), some (.int x6), some (.int x7), some (.int (x8 + (nI 1))), some (.int v26), some (.int (nI 1))]) (st' := []) (sg := [(.iinc 8 1, nI 1)]) (lSa_ok dd12) rfl ?_
            refine Y.goto (off := -63) (tgt := 41) (lIa_ok dd11) (by decide) ?_
            refine Y.less (L' := [some (.ref x0), some (.int x1), some (.int x2), some (.int x3), none, some (.int x5), some (.int x6), some (.int x7), some (.int (x8 + (nI 1))), none, none]) (zLe_some (zLe_some (zLe_some (zLe_some (zLe_some (zLe_some (zLe_some (zLe_some (zLe_some (zLe_none (zLe_none (zLe_nil)))))))))))) ?_
            exact ih G33 x0 x1 x2 x3 x5 x6 x7 (x8 + (nI 1)) h
        · refine Y.blk (pc' := 86) (L' := [some (.ref x0), some (.int x1), some (.int x2), some (.int x3), none, some (.int x5), some (.int x6), some (.int x7), some (.int x8), some (.int v26), some (.int (nI 0))]) (st' := [.int (nI 0)]) (sg := [(.iconst 0, nI 0), (.istore 10, 0), (.iload 10, 0)]) (lSa_ok dd6) rfl ?_
          refine Y.if_ne (off := 15) (tgt := 101) (lIa_ok dd7) (by decide) h (fun c44 h => ?_) (fun c44 h => ?_)
          · refine Y.blk (pc' := 95) (L' := [some (.ref x0), some (.int x1), some (.int x2), some (.int x3), none, some (.int x5), some (.int x6), some (.int x7), some (.int x8), some (.int v26), some (.int (nI 0))]) (st' := [.int v26, .int x7, .int x3, .ref x0]) (sg := [(.aload_n 0, 0), (.iload_n 3, 0), (.iload 7, 0), (.iload 9, 0)]) (lSa_ok dd8) rfl ?_
            obtain ⟨_, o41, e40, m42, h⟩ := gOb_inv h
            refine Y.callN (yC.Vi (b := x0) (As := [.int x3, .int x7, .int v26]) (st := []) (r := ("Partlister$Lists", T_I, 7)) hV.1 cb_I_write lk_I_53 in_I_write rfl se_I_write (lIa_ok dd9) rfl rfl (Nat.le_of_ble_eq_true rfl) (by decide) e40 m42) (k_I_write hV G33 x0 x3 x7 v26) h (fun G43 _ h => ?_)
            refine Y.blk (pc' := 104) (L' := [some (.ref x0), some (.int x1), some (.int x2), some (.int x3), none, some (.int x5), some (.int x6), some (.int (x7 + (nI 1))), some (.int (x8 + (nI 1))), some (.int v26), some (.int (nI 0))]) (st' := []) (sg := [(.iinc 7 1, nI 1), (.iinc 8 1, nI 1)]) (lSa_ok dd10) rfl ?_
            refine Y.goto (off := -63) (tgt := 41) (lIa_ok dd11) (by decide) ?_
            refine Y.less (L' := [some (.ref x0), some (.int x1), some (.int x2), some (.int x3), none, some (.int x5), some (.int x6), some (.int (x7 + (nI 1))), some (.int (x8 + (nI 1))), none, none]) (zLe_some (zLe_some (zLe_some (zLe_some (zLe_some (zLe_some (zLe_some (zLe_some (zLe_some (zLe_none (zLe_none (zLe_nil)))))))))))) ?_
            exact ih G43 x0 x1 x2 x3 x5 x6 (x7 + (nI 1)) (x8 + (nI 1)) h
          · refine Y.blk (pc' := 104) (L' := [some (.ref x0), some (.int x1), some (.int x2), some (.int x3), none, some (.int x5), some (.int x6), some (.int x7), some (.int (x8 + (nI 1))), some (.int v26), some (.int (nI 0))]) (st' := []) (sg := [(.iinc 8 1, nI 1)]) (lSa_ok dd12) rfl ?_
            refine Y.goto (off := -63) (tgt := 41) (lIa_ok dd11) (by decide) ?_
            refine Y.less (L' := [some (.ref x0), some (.int x1), some (.int x2), some (.int x3), none, some (.int x5), some (.int x6), some (.int x7), some (.int (x8 + (nI 1))), none, none]) (zLe_some (zLe_some (zLe_some (zLe_some (zLe_some (zLe_some (zLe_some (zLe_some (zLe_some (zLe_none (zLe_none (zLe_nil)))))))))))) ?_
            exact ih G33 x0 x1 x2 x3 x5 x6 x7 (x8 + (nI 1)) h
theorem k_I_sweepOut {l : Launch} {D : va_G} {B : Nat} {O : State → Heap → Prop} (hV : zG l D B O) (G : gH) (a0 : Nat) (a1 : Int32) (a2 : Int32) : gMet (zVm l D B O) m_I_sweepOut 4 [.ref a0, .int a1, .int a2] G (f_I_sweepOut G a0 a1 a2) := by
  have hdd : lSa m_I_sweepOut 0 [(.aload_n 0, 0), (.iload_n 1, 0)] = true ∧ lIa m_I_sweepOut 2 (.invokevirtual 56) 3 = true ∧ lSa m_I_sweepOut 5 [(.istore_n 3, 0), (.aload_n 0, 0)] = true ∧ lIa m_I_sweepOut 7 (.getfield 29) 3 = true ∧ lSa m_I_sweepOut 10 [(.iload_n 1, 0)] = true ∧ lIa m_I_sweepOut 11 (.invokevirtual 39) 3 = true ∧ lSa m_I_sweepOut 14 [(.istore 4, 0), (.iload 4, 0), (.aload_n 0, 0), (.iload_n 1, 0)] = true ∧ lIa m_I_sweepOut 20 (.invokevirtual 59) 3 = true ∧ lSa m_I_sweepOut 23 [(.iadd, 0), (.istore 5, 0), (.aload_n 0, 0), (.iload_n 3, 0)] = true ∧ lIa m_I_sweepOut 28 (.invokevirtual 59) 3 = true ∧ lSa m_I_sweepOut 31 [(.istore 6, 0), (.iload 4, 0), (.istore 7, 0), (.iload 4, 0), (.istore 8, 0)] = true ∧ lSa m_I_sweepOut 107 [(.aload_n 0, 0), (.iload_n 1, 0), (.iload 7, 0), (.iload 6, 0), (.isub, 0)] = true ∧ lIa m_I_sweepOut 114 (.invokevirtual 62) 3 = true ∧ lSa m_I_sweepOut 117 [(.iload 6, 0), (.iload 7, 0), (.isub, 0)] = true ∧ lIa m_I_sweepOut 122 (.ireturn) 1 = true := by decide +kernel
  refine lA8 hdd (fun dd0 dd1 dd2 dd3 dd4 dd5 dd6 dd7 hdd => ?_)
  obtain ⟨dd8, dd9, dd10, dd11, dd12, dd13, dd14⟩ := hdd
  refine gMet.of (by decide +kernel) (Nat.le_of_ble_eq_true rfl) [some (.ref a0), some (.int a1), some (.int a2), none, none, none, none, none, none, none, none] (fun ls h => zEn_ok (n := 11) h) ?_
  intro o Gf h
  unfold f_I_sweepOut at h
  refine Y.blk (pc' := 2) (L' := [some (.ref a0), some (.int a1), some (.int a2), none, none, none, none, none, none, none, none]) (st' := [.int a1, .ref a0]) (sg := [(.aload_n 0, 0), (.iload_n 1, 0)]) (lSa_ok dd0) rfl ?_
  obtain ⟨_, o2, e1, m3, h⟩ := gOb_inv h
  refine Y.callI (yC.Vi (b := a0) (As := [.int a1]) (st := []) (r := ("Partlister$Lists", T_I, 7)) hV.1 cb_I_rowOf lk_I_56 in_I_rowOf rfl se_I_rowOf (lIa_ok dd1) rfl rfl (Nat.le_of_ble_eq_true rfl) (by decide) e1 m3) (k_I_rowOf hV G a0 a1) h (fun v5 G4 _ h => ?_)
  refine Y.blk (pc' := 7) (L' := [some (.ref a0), some (.int a1), some (.int a2), some (.int v5), none, none, none, none, none, none, none]) (st' := [.ref a0]) (sg := [(.istore_n 3, 0), (.aload_n 0, 0)]) (lSa_ok dd2) rfl ?_
  refine Y.getA fl_I_29 (lIa_ok dd3) h (fun v6 h => ?_)
  refine Y.blk (pc' := 11) (L' := [some (.ref a0), some (.int a1), some (.int a2), some (.int v5), none, none, none, none, none, none, none]) (st' := [.int a1, .ref v6]) (sg := [(.iload_n 1, 0)]) (lSa_ok dd4) rfl ?_
  obtain ⟨_, o8, e7, m9, h⟩ := gOb_inv h
  refine Y.callI (yC.Vi (b := v6) (As := [.int a1]) (st := []) (r := ("Partlister$Numbers", T_N, 1)) hV.1 cb_N_read lk_I_39 in_N_read rfl se_N_read (lIa_ok dd5) rfl rfl (Nat.le_of_ble_eq_true rfl) (by decide) e7 m9) (k_N_read hV G4 v6 a1) h (fun v11 G10 _ h => ?_)
  refine Y.blk (pc' := 20) (L' := [some (.ref a0), some (.int a1), some (.int a2), some (.int v5), some (.int v11), none, none, none, none, none, none]) (st' := [.int a1, .ref a0, .int v11]) (sg := [(.istore 4, 0), (.iload 4, 0), (.aload_n 0, 0), (.iload_n 1, 0)]) (lSa_ok dd6) rfl ?_
  obtain ⟨_, o13, e12, m14, h⟩ := gOb_inv h
  refine Y.callI (yC.Vi (b := a0) (As := [.int a1]) (st := [.int v11]) (r := ("Partlister$Lists", T_I, 7)) hV.1 cb_I_lengthOf lk_I_59 in_I_lengthOf rfl se_I_lengthOf (lIa_ok dd7) rfl rfl (Nat.le_of_ble_eq_true rfl) (by decide) e12 m14) (k_I_lengthOf hV G10 a0 a1) h (fun v16 G15 _ h => ?_)
  refine Y.blk (pc' := 28) (L' := [some (.ref a0), some (.int a1), some (.int a2), some (.int v5), some (.int v11), some (.int (v11 + v16)), none, none, none, none, none]) (st' := [.int v5, .ref a0]) (sg := [(.iadd, 0), (.istore 5, 0), (.aload_n 0, 0), (.iload_n 3, 0)]) (lSa_ok dd8) rfl ?_
  obtain ⟨_, o18, e17, m19, h⟩ := gOb_inv h
  refine Y.callI (yC.Vi (b := a0) (As := [.int v5]) (st := []) (r := ("Partlister$Lists", T_I, 7)) hV.1 cb_I_lengthOf lk_I_59 in_I_lengthOf rfl se_I_lengthOf (lIa_ok dd9) rfl rfl (Nat.le_of_ble_eq_true rfl) (by decide) e17 m19) (k_I_lengthOf hV G15 a0 v5) h (fun v21 G20 _ h => ?_)
  refine Y.blk (pc' := 41) (L' := [some (.ref a0), some (.int a1), some (.int a2), some (.int v5), some (.int v11), some (.int (v11 + v16)), some (.int v21), some (.int v11), some (.int v11), none, none]) (st' := []) (sg := [(.istore 6, 0), (.iload 4, 0), (.istore 7, 0), (.iload 4, 0), (.istore 8, 0)]) (lSa_ok dd10) rfl ?_
  refine Y.less (L' := [some (.ref a0), some (.int a1), some (.int a2), some (.int v5), none, some (.int (v11 + v16)), some (.int v21), some (.int v11), some (.int v11), none, none]) (zLe_some (zLe_some (zLe_some (zLe_some (zLe_none (zLe_some (zLe_some (zLe_some (zLe_some (zLe_some (zLe_some (zLe_nil)))))))))))) ?_
  refine k_I_sweepOut_L41 hV _ ?_  zFu G20 a0 a1 a2 v5 (v11 + v16) v21 v11 v11 h
  · intro G52 x48 x49 x50 x51 h
    refine Y.blk (pc' := 114) (L' := [some (.ref x48), some (.int x49), none, none, none, none, some (.int x50), some (.int x51), none, none, none]) (st' := [.int (x51 - x50), .int x49, .ref x48]) (sg := [(.aload_n 0, 0), (.iload_n 1, 0), (.iload 7, 0), (.iload 6, 0), (.isub, 0)]) (lSa_ok dd11) rfl ?_
    obtain ⟨_, o54, e53, m55, h⟩ := gOb_inv h
    refine Y.callN (yC.Vi (b := x48) (As := [.int x49, .int (x51 - x50)]) (st := []) (r := ("Partlister$Lists", T_I, 7)) hV.1 cb_I_lengthen lk_I_62 in_I_lengthen rfl se_I_lengthen (lIa_ok dd12) rfl rfl (Nat.le_of_ble_eq_true rfl) (by decide) e53 m55) (k_I_lengthen hV G52 x48 x49 (x51 - x50)) h (fun G56 _ h => ?_)
    refine Y.blk (pc' := 122) (L' := [some (.ref x48), some (.int x49), none, none, none, none, some (.int x50), some (.int x51), none, none, none]) (st' := [.int (x50 - x51)]) (sg := [(.iload 6, 0), (.iload 7, 0), (.isub, 0)]) (lSa_ok dd13) rfl ?_
    exact Y.iret rfl (lIa_ok dd14) h
end
section
def f_X_takeOutAll (G : gH) (a0 : Nat) (a1 : Int32) (a2 : Int32) : gR :=
  gFA G a0 3 0 fun v1 => gOb G v1 1 fun o3 => bI (f_I_sweepOut G v1 a1 a2) fun v6 G5 => if v6 ≤ 0 then rI v6 G5
  else gOb G5 a0 3 fun o8 => bV (f_X_endByLength G5 a0 a1 (-1)) fun G10 => rI v6 G10
theorem k_X_takeOutAll {l : Launch} {D : va_G} {B : Nat} {O : State → Heap → Prop} (hV : zG l D B O) (G : gH) (a0 : Nat) (a1 : Int32) (a2 : Int32) : gMet (zVm l D B O) m_X_takeOutAll 6 [.ref a0, .int a1, .int a2] G (f_X_takeOutAll G a0 a1 a2) := by
  have hdd : lSa m_X_takeOutAll 0 [(.aload_n 0, 0)] = true ∧ lIa m_X_takeOutAll 1 (.getfield 10) 3 = true ∧ lSa m_X_takeOutAll 4 [(.iload_n 1, 0), (.iload_n 2, 0)] = true ∧ lIa m_X_takeOutAll 6 (.invokevirtual 287) 3 = true ∧ lSa m_X_takeOutAll 9 [(.istore_n 3, 0), (.iload_n 3, 0)] = true ∧ lIa m_X_takeOutAll 11 (.ifCond .le 9) 3 = true ∧ lSa m_X_takeOutAll 20 [(.iload_n 3, 0)] = true ∧ lIa m_X_takeOutAll 21 (.ireturn) 1 = true ∧ lSa m_X_takeOutAll 14 [(.aload_n 0, 0), (.iload_n 1, 0), (.iconst (-1), -1)] = true ∧ lIa m_X_takeOutAll 17 (.invokevirtual 281) 3 = true := by decide +kernel
  refine lA8 hdd (fun dd0 dd1 dd2 dd3 dd4 dd5 dd6 dd7 hdd => ?_)
  obtain ⟨dd8, dd9⟩ := hdd
  refine gMet.of (by decide +kernel) (Nat.le_of_ble_eq_true rfl) [some (.ref a0), some (.int a1), some (.int a2), none] (fun ls h => zEn_ok (n := 4) h) ?_
  intro o Gf h
  unfold f_X_takeOutAll at h
  refine Y.blk (pc' := 1) (L' := [some (.ref a0), some (.int a1), some (.int a2), none]) (st' := [.ref a0]) (sg := [(.aload_n 0, 0)]) (lSa_ok dd0) rfl ?_
  refine Y.getA fl_X_10 (lIa_ok dd1) h (fun v1 h => ?_)
  refine Y.blk (pc' := 6) (L' := [some (.ref a0), some (.int a1), some (.int a2), none]) (st' := [.int a2, .int a1, .ref v1]) (sg := [(.iload_n 1, 0), (.iload_n 2, 0)]) (lSa_ok dd2) rfl ?_
  obtain ⟨_, o3, e2, m4, h⟩ := gOb_inv h
  refine Y.callI (yC.Vi (b := v1) (As := [.int a1, .int a2]) (st := []) (r := ("Partlister$Lists", T_I, 7)) hV.1 cb_I_sweepOut lk_X_287 in_I_sweepOut rfl se_I_sweepOut (lIa_ok dd3) rfl rfl (Nat.le_of_ble_eq_true rfl) (by decide) e2 m4) (k_I_sweepOut hV G v1 a1 a2) h (fun v6 G5 _ h => ?_)
  refine Y.blk (pc' := 11) (L' := [some (.ref a0), some (.int a1), some (.int a2), some (.int v6)]) (st' := [.int v6]) (sg := [(.istore_n 3, 0), (.iload_n 3, 0)]) (lSa_ok dd4) rfl ?_
  refine Y.if_le (off := 9) (tgt := 20) (lIa_ok dd5) (by decide) h (fun c11 h => ?_) (fun c11 h => ?_)
  · refine Y.blk (pc' := 21) (L' := [some (.ref a0), some (.int a1), some (.int a2), some (.int v6)]) (st' := [.int v6]) (sg := [(.iload_n 3, 0)]) (lSa_ok dd6) rfl ?_
    exact Y.iret rfl (lIa_ok dd7) h
  · refine Y.blk (pc' := 17) (L' := [some (.ref a0), some (.int a1), some (.int a2), some (.int v6)]) (st' := [.int (-1), .int a1, .ref a0]) (sg := [(.aload_n 0, 0), (.iload_n 1, 0), (.iconst (-1), -1)]) (lSa_ok dd8) rfl ?_
    obtain ⟨_, o8, e7, m9, h⟩ := gOb_inv h
    refine Y.callN (yC.Vi (b := a0) (As := [.int a1, .int (-1)]) (st := []) (r := ("Partlister", T_X, 5)) hV.1 cb_X_endByLength lk_X_281 in_X_endByLength rfl se_X_endByLength (lIa_ok dd9) rfl rfl (Nat.le_of_ble_eq_true rfl) (by decide) e7 m9) (k_X_endByLength hV G5 a0 a1 (-1)) h (fun G10 _ h => ?_)
    refine Y.blk (pc' := 21) (L' := [some (.ref a0), some (.int a1), some (.int a2), some (.int v6)]) (st' := [.int v6]) (sg := [(.iload_n 3, 0)]) (lSa_ok dd6) rfl ?_
    exact Y.iret rfl (lIa_ok dd7) h

def f_X_clear (G : gH) (a0 : Nat) (a1 : Int32) : gR :=
  gOb G a0 3 fun o2 => bV (f_X_needList G a0 a1) fun G4 => gOb G4 a0 3 fun o6 => bI (f_X_takeOutAll G4 a0 a1 (-1)) fun v9 G8 => rI v9 G8
theorem k_X_clear {l : Launch} {D : va_G} {B : Nat} {O : State → Heap → Prop} (hV : zG l D B O) (G : gH) (a0 : Nat) (a1 : Int32) : gMet (zVm l D B O) m_X_clear 7 [.ref a0, .int a1] G (f_X_clear G a0 a1) := by
  have hdd : lSa m_X_clear 0 [(.aload_n 0, 0), (.iload_n 1, 0)] = true ∧ lIa m_X_clear 2 (.invokevirtual 23) 3 = true ∧ lSa m_X_clear 5 [(.aload_n 0, 0), (.iload_n 1, 0), (.iconst (-1), -1)] = true ∧ lIa m_X_clear 8 (.invokevirtual 78) 3 = true ∧ lIa m_X_clear 11 (.ireturn) 1 = true := by decide +kernel
  obtain ⟨dd0, dd1, dd2, dd3, dd4⟩ := hdd
  refine gMet.of (by decide +kernel) (Nat.le_of_ble_eq_true rfl) [some (.ref a0), some (.int a1)] (fun ls h => zEn_ok (n := 2) h) ?_
  intro o Gf h
  unfold f_X_clear at h
  refine Y.blk (pc' := 2) (L' := [some (.ref a0), some (.int a1)]) (st' := [.int a1, .ref a0]) (sg := [(.aload_n 0, 0), (.iload_n 1, 0)]) (lSa_ok dd0) rfl ?_
  obtain ⟨_, o2, e1, m3, h⟩ := gOb_inv h
  refine Y.callN (yC.Vi (b := a0) (As := [.int a1]) (st := []) (r := ("Partlister", T_X, 5)) hV.1 cb_X_needList lk_X_23 in_X_needList rfl se_X_needList (lIa_ok dd1) rfl rfl (Nat.le_of_ble_eq_true rfl) (by decide) e1 m3) (k_X_needList hV G a0 a1) h (fun G4 _ h => ?_)
  refine Y.blk (pc' := 8) (L' := [some (.ref a0), some (.int a1)]) (st' := [.int (-1), .int a1, .ref a0]) (sg := [(.aload_n 0, 0), (.iload_n 1, 0), (.iconst (-1), -1)]) (lSa_ok dd2) rfl ?_
  obtain ⟨_, o6, e5, m7, h⟩ := gOb_inv h
  refine Y.callI (yC.Vi (b := a0) (As := [.int a1, .int (-1)]) (st := []) (r := ("Partlister", T_X, 5)) hV.1 cb_X_takeOutAll lk_X_78 in_X_takeOutAll rfl se_X_takeOutAll (lIa_ok dd3) rfl rfl (Nat.le_of_ble_eq_true rfl) (by decide) e5 m7) (k_X_takeOutAll hV G4 a0 a1 (-1)) h (fun v9 G8 _ h => ?_)
  exact Y.iret rfl (lIa_ok dd4) h

def f_X_needPart (G : gH) (a0 : Nat) (a1 : Int32) : gR :=
  if a1 < (nI 2) then gThrow "java/lang/IndexOutOfBoundsException" G
  else gFA G a0 3 0 fun v1 => gOb G v1 1 fun o3 => bI (f_I_isThere G v1 a1) fun v6 G5 => if v6 = 0 then gThrow "java/lang/IndexOutOfBoundsException" G5
    else rV G5
theorem k_X_needPart {l : Launch} {D : va_G} {B : Nat} {O : State → Heap → Prop} (hV : zG l D B O) (G : gH) (a0 : Nat) (a1 : Int32) : gMet (zVm l D B O) m_X_needPart 6 [.ref a0, .int a1] G (f_X_needPart G a0 a1) := by
  have hdd : lSa m_X_needPart 0 [(.iload_n 1, 0), (.iconst 2, nI 2)] = true ∧ lIa m_X_needPart 2 (.if_icmp .lt 14) 3 = true ∧ lIa m_X_needPart 16 (.new 125) 3 = true ∧ lIa m_X_needPart 19 (.dup) 1 = true ∧ lIa m_X_needPart 20 (.ldc_w 333) 3 = true ∧ lIa m_X_needPart 23 (.invokespecial 129) 3 = true ∧ lIa m_X_needPart 26 (.athrow) 1 = true ∧ lSa m_X_needPart 5 [(.aload_n 0, 0)] = true ∧ lIa m_X_needPart 6 (.getfield 10) 3 = true ∧ lSa m_X_needPart 9 [(.iload_n 1, 0)] = true ∧ lIa m_X_needPart 10 (.invokevirtual 155) 3 = true ∧ lIa m_X_needPart 13 (.ifCond .ne 14) 3 = true ∧ lIa m_X_needPart 27 (.return_) 1 = true := by decide +kernel
  refine lA8 hdd (fun dd0 dd1 dd2 dd3 dd4 dd5 dd6 dd7 hdd => ?_)
  obtain ⟨dd8, dd9, dd10, dd11, dd12⟩ := hdd
  refine gMet.of (by decide +kernel) (Nat.le_of_ble_eq_true rfl) [some (.ref a0), some (.int a1)] (fun ls h => zEn_ok (n := 2) h) ?_
  intro o Gf h
  unfold f_X_needPart at h
  refine Y.blk (pc' := 2) (L' := [some (.ref a0), some (.int a1)]) (st' := [.int (nI 2), .int a1]) (sg := [(.iload_n 1, 0), (.iconst 2, nI 2)]) (lSa_ok dd0) rfl ?_
  refine Y.ic_lt (off := 14) (tgt := 16) (lIa_ok dd1) (by decide) h (fun c8 h => ?_) (fun c8 h => ?_)
  · exact Y.throwSW (is := 333) (text := "there is no such PART") (names := zNm) hV.1 (hV.2 _ _ _ (by decide +kernel)) (by decide +kernel) (by decide +kernel) ck_X_125 ini_IOE tw_X_129 tg_X_129 (by decide) (by decide) rfl (Nat.le_of_ble_eq_true rfl) (lIa_ok dd2) (lIa_ok dd3) (lIa_ok dd4) (lIa_ok dd5) (lIa_ok dd6) h
  · refine Y.blk (pc' := 6) (L' := [some (.ref a0), some (.int a1)]) (st' := [.ref a0]) (sg := [(.aload_n 0, 0)]) (lSa_ok dd7) rfl ?_
    refine Y.getA fl_X_10 (lIa_ok dd8) h (fun v1 h => ?_)
    refine Y.blk (pc' := 10) (L' := [some (.ref a0), some (.int a1)]) (st' := [.int a1, .ref v1]) (sg := [(.iload_n 1, 0)]) (lSa_ok dd9) rfl ?_
    obtain ⟨_, o3, e2, m4, h⟩ := gOb_inv h
    refine Y.callI (yC.Vi (b := v1) (As := [.int a1]) (st := []) (r := ("Partlister$Lists", T_I, 7)) hV.1 cb_I_isThere lk_X_155 in_I_isThere rfl se_I_isThere (lIa_ok dd10) rfl rfl (Nat.le_of_ble_eq_true rfl) (by decide) e2 m4) (k_I_isThere hV G v1 a1) h (fun v6 G5 _ h => ?_)
    refine Y.if_ne (off := 14) (tgt := 27) (lIa_ok dd11) (by decide) h (fun c7 h => ?_) (fun c7 h => ?_)
    · exact Y.throwSW (is := 333) (text := "there is no such PART") (names := zNm) hV.1 (hV.2 _ _ _ (by decide +kernel)) (by decide +kernel) (by decide +kernel) ck_X_125 ini_IOE tw_X_129 tg_X_129 (by decide) (by decide) rfl (Nat.le_of_ble_eq_true rfl) (lIa_ok dd2) (lIa_ok dd3) (lIa_ok dd4) (lIa_ok dd5) (lIa_ok dd6) h
    · exact Y.vret rfl (lIa_ok dd12) h

def f_I_endWithin_L4 (K41 : gH → Int32 → gR) : Nat → gH → Nat → Int32 → Int32 → Int32 → gR
  | 0, _, _, _, _, _ => none
  | n + 1, G, x0, x1, x2, x3 =>
    if (nI 6) ≤ x3 then K41 G x2
    else gOb G x0 1 fun o2 => bI (f_I_isThere G x0 x3) fun v5 G4 => if v5 = 0 then f_I_endWithin_L4 K41 n G4 x0 x1 x2 (x3 + (nI 1))
      else gOb G4 x0 1 fun o7 => bI (f_I_isWithin G4 x0 x3 x1) fun v10 G9 => if v10 = 0 then f_I_endWithin_L4 K41 n G9 x0 x1 x2 (x3 + (nI 1))
        else gOb G9 x0 1 fun o12 => bV (f_I_finish G9 x0 x3) fun G14 => f_I_endWithin_L4 K41 n G14 x0 x1 (x2 + (nI 1)) (x3 + (nI 1))
def f_I_endWithin (G : gH) (a0 : Nat) (a1 : Int32) : gR :=
  f_I_endWithin_L4 (fun G19 x18 => rI x18 G19) zFu G a0 a1 (nI 0) (nI 2)
theorem k_I_endWithin_L4 {l : Launch} {D : va_G} {B : Nat} {O : State → Heap → Prop} (hV : zG l D B O) {o : gO} {Gf : gH} (K41 : gH → Int32 → gR) (hK41 : ∀ (G : gH) (x2 : Int32), K41 G x2 = some (o, Gf) → Y (zVm l D B O) m_I_endWithin 3 o Gf 41 [none, none, some (.int x2), none] [] G) : ∀ (n : Nat) (G : gH) (x0 : Nat) (x1 : Int32) (x2 : Int32) (x3 : Int32), f_I_endWithin_L4 K41 n G x0 x1 x2 x3 = some (o, Gf) → Y (zVm l D B O) m_I_endWithin 3 o Gf 4 [some (.ref x0), some (.int x1), some (.int x2), some (.int x3)] [] G := by
  have hdd : lSa m_I_endWithin 4 [(.iload_n 3, 0), (.bipush 6, nI 6)] = true ∧ lIa m_I_endWithin 7 (.if_icmp .ge 34) 3 = true ∧ lSa m_I_endWithin 10 [(.aload_n 0, 0), (.iload_n 3, 0)] = true ∧ lIa m_I_endWithin 12 (.invokevirtual 86) 3 = true ∧ lIa m_I_endWithin 15 (.ifCond .eq 20) 3 = true ∧ lSa m_I_endWithin 35 [(.iinc 3 1, nI 1)] = true ∧ lIa m_I_endWithin 38 (.goto (-34)) 3 = true ∧ lSa m_I_endWithin 18 [(.aload_n 0, 0), (.iload_n 3, 0), (.iload_n 1, 0)] = true ∧ lIa m_I_endWithin 21 (.invokevirtual 90) 3 = true ∧ lIa m_I_endWithin 24 (.ifCond .eq 11) 3 = true ∧ lSa m_I_endWithin 27 [(.aload_n 0, 0), (.iload_n 3, 0)] = true ∧ lIa m_I_endWithin 29 (.invokevirtual 94) 3 = true ∧ lSa m_I_endWithin 32 [(.iinc 2 1, nI 1), (.iinc 3 1, nI 1)] = true := by decide +kernel
  refine lA8 hdd (fun dd0 dd1 dd2 dd3 dd4 dd5 dd6 dd7 hdd => ?_)
  obtain ⟨dd8, dd9, dd10, dd11, dd12⟩ := hdd
  intro n
  induction n with
  | zero => intro G x0 x1 x2 x3 h; cases h
  | succ n ih =>
    intro G x0 x1 x2 x3 h
    unfold f_I_endWithin_L4 at h
    refine Y.blk (pc' := 7) (L' := [some (.ref x0), some (.int x1), some (.int x2), some (.int x3)]) (st' := [.int (nI 6), .int x3]) (sg := [(.iload_n 3, 0), (.bipush 6, nI 6)]) (lSa_ok dd0) rfl ?_
    refine Y.ic_ge (off := 34) (tgt := 41) (lIa_ok dd1) (by decide) h (fun c17 h => ?_) (fun c17 h => ?_)
    · refine Y.less (L' := [none, none, some (.int x2), none]) (zLe_none (zLe_none (zLe_some (zLe_none (zLe_nil))))) ?_
      exact hK41 G x2 h
    · refine Y.blk (pc' := 12) (L' := [some (.ref x0), some (.int x1), some (.int x2), some (.int x3)]) (st' := [.int x3, .ref x0]) (sg := [(.aload_n 0, 0), (.iload_n 3, 0)]) (lSa_ok dd2) rfl ?_
      obtain ⟨_, o2, e1, m3, h⟩ := gOb_inv h
      refine Y.callI (yC.Vi (b := x0) (As := [.int x3]) (st := []) (r := ("Partlister$Lists", T_I, 7)) hV.1 cb_I_isThere lk_I_86 in_I_isThere rfl se_I_isThere (lIa_ok dd3) rfl rfl (Nat.le_of_ble_eq_true rfl) (by decide) e1 m3) (k_I_isThere hV G x0 x3) h (fun v5 G4 _ h => ?_)
      refine Y.if_eq (off := 20) (tgt := 35) (lIa_ok dd4) (by decide) h (fun c16 h => ?_) (fun c16 h => ?_)
      · refine Y.blk (pc' := 38) (L' := [some (.ref x0), some (.int x1), some (.int x2), some (.int (x3 + (nI 1)))]) (st' := []) (sg := [(.iinc 3 1, nI 1)]) (lSa_ok dd5) rfl ?_
        refine Y.goto (off := -34) (tgt := 4) (lIa_ok dd6) (by decide) ?_
        exact ih G4 x0 x1 x2 (x3 + (nI 1)) h
      · refine Y.blk (pc' := 21) (L' := [some (.ref x0), some (.int x1), some (.int x2), some (.int x3)]) (st' := [.int x1, .int x3, .ref x0]) (sg := [(.aload_n 0, 0), (.iload_n 3, 0), (.iload_n 1, 0)]) (lSa_ok dd7) rfl ?_
        obtain ⟨_, o7, e6, m8, h⟩ := gOb_inv h
        refine Y.callI (yC.Vi (b := x0) (As := [.int x3, .int x1]) (st := []) (r := ("Partlister$Lists", T_I, 7)) hV.1 cb_I_isWithin lk_I_90 in_I_isWithin rfl se_I_isWithin (lIa_ok dd8) rfl rfl (Nat.le_of_ble_eq_true rfl) (by decide) e6 m8) (k_I_isWithin hV G4 x0 x3 x1) h (fun v10 G9 _ h => ?_)
        refine Y.if_eq (off := 11) (tgt := 35) (lIa_ok dd9) (by decide) h (fun c15 h => ?_) (fun c15 h => ?_)
        · refine Y.blk (pc' := 38) (L' := [some (.ref x0), some (.int x1), some (.int x2), some (.int (x3 + (nI 1)))]) (st' := []) (sg := [(.iinc 3 1, nI 1)]) (lSa_ok dd5) rfl ?_
          refine Y.goto (off := -34) (tgt := 4) (lIa_ok dd6) (by decide) ?_
          exact ih G9 x0 x1 x2 (x3 + (nI 1)) h
        · refine Y.blk (pc' := 29) (L' := [some (.ref x0), some (.int x1), some (.int x2), some (.int x3)]) (st' := [.int x3, .ref x0]) (sg := [(.aload_n 0, 0), (.iload_n 3, 0)]) (lSa_ok dd10) rfl ?_
          obtain ⟨_, o12, e11, m13, h⟩ := gOb_inv h
          refine Y.callN (yC.Vi (b := x0) (As := [.int x3]) (st := []) (r := ("Partlister$Lists", T_I, 7)) hV.1 cb_I_finish lk_I_94 in_I_finish rfl se_I_finish (lIa_ok dd11) rfl rfl (Nat.le_of_ble_eq_true rfl) (by decide) e11 m13) (k_I_finish hV G9 x0 x3) h (fun G14 _ h => ?_)
          refine Y.blk (pc' := 38) (L' := [some (.ref x0), some (.int x1), some (.int (x2 + (nI 1))), some (.int (x3 + (nI 1)))]) (st' := []) (sg := [(.iinc 2 1, nI 1), (.iinc 3 1, nI 1)]) (lSa_ok dd12) rfl ?_
          refine Y.goto (off := -34) (tgt := 4) (lIa_ok dd6) (by decide) ?_
          exact ih G14 x0 x1 (x2 + (nI 1)) (x3 + (nI 1)) h
theorem k_I_endWithin {l : Launch} {D : va_G} {B : Nat} {O : State → Heap → Prop} (hV : zG l D B O) (G : gH) (a0 : Nat) (a1 : Int32) : gMet (zVm l D B O) m_I_endWithin 3 [.ref a0, .int a1] G (f_I_endWithin G a0 a1) := by
  have hdd : lSa m_I_endWithin 0 [(.iconst 0, nI 0), (.istore_n 2, 0), (.iconst 2, nI 2), (.istore_n 3, 0)] = true ∧ lSa m_I_endWithin 41 [(.iload_n 2, 0)] = true ∧ lIa m_I_endWithin 42 (.ireturn) 1 = true := by decide +kernel
  obtain ⟨dd0, dd1, dd2⟩ := hdd
  refine gMet.of (by decide +kernel) (Nat.le_of_ble_eq_true rfl) [some (.ref a0), some (.int a1), none, none] (fun ls h => zEn_ok (n := 4) h) ?_
  intro o Gf h
  unfold f_I_endWithin at h
  refine Y.blk (pc' := 4) (L' := [some (.ref a0), some (.int a1), some (.int (nI 0)), some (.int (nI 2))]) (st' := []) (sg := [(.iconst 0, nI 0), (.istore_n 2, 0), (.iconst 2, nI 2), (.istore_n 3, 0)]) (lSa_ok dd0) rfl ?_
  refine k_I_endWithin_L4 hV _ ?_  zFu G a0 a1 (nI 0) (nI 2) h
  · intro G19 x18 h
    refine Y.blk (pc' := 42) (L' := [none, none, some (.int x18), none]) (st' := [.int x18]) (sg := [(.iload_n 2, 0)]) (lSa_ok dd1) rfl ?_
    exact Y.iret rfl (lIa_ok dd2) h

def f_X_close_L16 (K64 : gH → Int32 → gR) : Nat → gH → Nat → Int32 → Int32 → gR
  | 0, _, _, _, _ => none
  | n + 1, G, x0, x2, x3 =>
    if (nI 3) ≤ x3 then K64 G x2
    else gFA G x0 3 1 fun v11 => gOb G v11 0 fun o13 => bI (f_U_isThere G v11 x3) fun v16 G15 => if v16 = 0 then f_X_close_L16 K64 n G15 x0 x2 (x3 + (nI 1))
      else gFA G15 x0 3 0 fun v17 => gFA G15 x0 3 1 fun v18 => gOb G15 v18 0 fun o20 => bI (f_U_listOf G15 v18 x3) fun v23 G22 => gOb G22 v17 1 fun o25 => bI (f_I_isThere G22 v17 v23) fun v28 G27 => if v28 = 0 then gFA G27 x0 3 1 fun v29 => gOb G27 v29 0 fun o31 => bV (f_U_finish G27 v29 x3) fun G33 => f_X_close_L16 K64 n G33 x0 x2 (x3 + (nI 1))
        else f_X_close_L16 K64 n G27 x0 x2 (x3 + (nI 1))
def f_X_close (G : gH) (a0 : Nat) (a1 : Int32) : gR :=
  gOb G a0 3 fun o2 => bV (f_X_needPart G a0 a1) fun G4 => gFA G4 a0 3 0 fun v5 => gOb G4 v5 1 fun o7 => bI (f_I_endWithin G4 v5 a1) fun v10 G9 => f_X_close_L16 (fun G38 x37 => rI x37 G38) zFu G9 a0 v10 (nI 0)
theorem k_X_close_L16 {l : Launch} {D : va_G} {B : Nat} {O : State → Heap → Prop} (hV : zG l D B O) {o : gO} {Gf : gH} (K64 : gH → Int32 → gR) (hK64 : ∀ (G : gH) (x2 : Int32), K64 G x2 = some (o, Gf) → Y (zVm l D B O) m_X_close 7 o Gf 64 [none, none, some (.int x2), none] [] G) : ∀ (n : Nat) (G : gH) (x0 : Nat) (x2 : Int32) (x3 : Int32), f_X_close_L16 K64 n G x0 x2 x3 = some (o, Gf) → Y (zVm l D B O) m_X_close 7 o Gf 16 [some (.ref x0), none, some (.int x2), some (.int x3)] [] G := by
  have hdd : lSa m_X_close 16 [(.iload_n 3, 0), (.iconst 3, nI 3)] = true ∧ lIa m_X_close 18 (.if_icmp .ge 46) 3 = true ∧ lSa m_X_close 21 [(.aload_n 0, 0)] = true ∧ lIa m_X_close 22 (.getfield 19) 3 = true ∧ lSa m_X_close 25 [(.iload_n 3, 0)] = true ∧ lIa m_X_close 26 (.invokevirtual 148) 3 = true ∧ lIa m_X_close 29 (.ifCond .eq 29) 3 = true ∧ lSa m_X_close 58 [(.iinc 3 1, nI 1)] = true ∧ lIa m_X_close 61 (.goto (-45)) 3 = true ∧ lSa m_X_close 32 [(.aload_n 0, 0)] = true ∧ lIa m_X_close 33 (.getfield 10) 3 = true ∧ lSa m_X_close 36 [(.aload_n 0, 0)] = true ∧ lIa m_X_close 37 (.getfield 19) 3 = true ∧ lSa m_X_close 40 [(.iload_n 3, 0)] = true ∧ lIa m_X_close 41 (.invokevirtual 152) 3 = true ∧ lIa m_X_close 44 (.invokevirtual 155) 3 = true ∧ lIa m_X_close 47 (.ifCond .ne 11) 3 = true ∧ lSa m_X_close 50 [(.aload_n 0, 0)] = true ∧ lIa m_X_close 51 (.getfield 19) 3 = true ∧ lSa m_X_close 54 [(.iload_n 3, 0)] = true ∧ lIa m_X_close 55 (.invokevirtual 156) 3 = true := by decide +kernel
  refine lA8 hdd (fun dd0 dd1 dd2 dd3 dd4 dd5 dd6 dd7 hdd => ?_)
  refine lA8 hdd (fun dd8 dd9 dd10 dd11 dd12 dd13 dd14 dd15 hdd => ?_)
  obtain ⟨dd16, dd17, dd18, dd19, dd20⟩ := hdd
  intro n
  induction n with
  | zero => intro G x0 x2 x3 h; cases h
  | succ n ih =>
    intro G x0 x2 x3 h
    unfold f_X_close_L16 at h
    refine Y.blk (pc' := 18) (L' := [some (.ref x0), none, some (.int x2), some (.int x3)]) (st' := [.int (nI 3), .int x3]) (sg := [(.iload_n 3, 0), (.iconst 3, nI 3)]) (lSa_ok dd0) rfl ?_
    refine Y.ic_ge (off := 46) (tgt := 64) (lIa_ok dd1) (by decide) h (fun c36 h => ?_) (fun c36 h => ?_)
    · refine Y.less (L' := [none, none, some (.int x2), none]) (zLe_none (zLe_some (zLe_some (zLe_none (zLe_nil))))) ?_
      exact hK64 G x2 h
    · refine Y.blk (pc' := 22) (L' := [some (.ref x0), none, some (.int x2), some (.int x3)]) (st' := [.ref x0]) (sg := [(.aload_n 0, 0)]) (lSa_ok dd2) rfl ?_
      refine Y.getA fl_X_19 (lIa_ok dd3) h (fun v11 h => ?_)
      refine Y.blk (pc' := 26) (L' := [some (.ref x0), none, some (.int x2), some (.int x3)]) (st' := [.int x3, .ref v11]) (sg := [(.iload_n 3, 0)]) (lSa_ok dd4) rfl ?_
      obtain ⟨_, o13, e12, m14, h⟩ := gOb_inv h
      refine Y.callI (yC.Vi (b := v11) (As := [.int x3]) (st := []) (r := ("Partlister$Cursors", T_U, 5)) hV.1 cb_U_isThere lk_X_148 in_U_isThere rfl se_U_isThere (lIa_ok dd5) rfl rfl (Nat.le_of_ble_eq_true rfl) (by decide) e12 m14) (k_U_isThere hV G v11 x3) h (fun v16 G15 _ h => ?_)
      refine Y.if_eq (off := 29) (tgt := 58) (lIa_ok dd6) (by decide) h (fun c35 h => ?_) (fun c35 h => ?_)
      · refine Y.blk (pc' := 61) (L' := [some (.ref x0), none, some (.int x2), some (.int (x3 + (nI 1)))]) (st' := []) (sg := [(.iinc 3 1, nI 1)]) (lSa_ok dd7) rfl ?_
        refine Y.goto (off := -45) (tgt := 16) (lIa_ok dd8) (by decide) ?_
        exact ih G15 x0 x2 (x3 + (nI 1)) h
      · refine Y.blk (pc' := 33) (L' := [some (.ref x0), none, some (.int x2), some (.int x3)]) (st' := [.ref x0]) (sg := [(.aload_n 0, 0)]) (lSa_ok dd9) rfl ?_
        refine Y.getA fl_X_10 (lIa_ok dd10) h (fun v17 h => ?_)
        refine Y.blk (pc' := 37) (L' := [some (.ref x0), none, some (.int x2), some (.int x3)]) (st' := [.ref x0, .ref v17]) (sg := [(.aload_n 0, 0)]) (lSa_ok dd11) rfl ?_
        refine Y.getA fl_X_19 (lIa_ok dd12) h (fun v18 h => ?_)
        refine Y.blk (pc' := 41) (L' := [some (.ref x0), none, some (.int x2), some (.int x3)]) (st' := [.int x3, .ref v18, .ref v17]) (sg := [(.iload_n 3, 0)]) (lSa_ok dd13) rfl ?_
        obtain ⟨_, o20, e19, m21, h⟩ := gOb_inv h
        refine Y.callI (yC.Vi (b := v18) (As := [.int x3]) (st := [.ref v17]) (r := ("Partlister$Cursors", T_U, 5)) hV.1 cb_U_listOf lk_X_152 in_U_listOf rfl se_U_listOf (lIa_ok dd14) rfl rfl (Nat.le_of_ble_eq_true rfl) (by decide) e19 m21) (k_U_listOf hV G15 v18 x3) h (fun v23 G22 _ h => ?_)
        obtain ⟨_, o25, e24, m26, h⟩ := gOb_inv h
        refine Y.callI (yC.Vi (b := v17) (As := [.int v23]) (st := []) (r := ("Partlister$Lists", T_I, 7)) hV.1 cb_I_isThere lk_X_155 in_I_isThere rfl se_I_isThere (lIa_ok dd15) rfl rfl (Nat.le_of_ble_eq_true rfl) (by decide) e24 m26) (k_I_isThere hV G22 v17 v23) h (fun v28 G27 _ h => ?_)
        refine Y.if_ne (off := 11) (tgt := 58) (lIa_ok dd16) (by decide) h (fun c34 h => ?_) (fun c34 h => ?_)
        · refine Y.blk (pc' := 51) (L' := [some (.ref x0), none, some (.int x2), some (.int x3)]) (st' := [.ref x0]) (sg := [(.aload_n 0, 0)]) (lSa_ok dd17) rfl ?_
          refine Y.getA fl_X_19 (lIa_ok dd18) h (fun v29 h => ?_)
          refine Y.blk (pc' := 55) (L' := [some (.ref x0), none, some (.int x2), some (.int x3)]) (st' := [.int x3, .ref v29]) (sg := [(.iload_n 3, 0)]) (lSa_ok dd19) rfl ?_
          obtain ⟨_, o31, e30, m32, h⟩ := gOb_inv h
          refine Y.callN (yC.Vi (b := v29) (As := [.int x3]) (st := []) (r := ("Partlister$Cursors", T_U, 5)) hV.1 cb_U_finish lk_X_156 in_U_finish rfl se_U_finish (lIa_ok dd20) rfl rfl (Nat.le_of_ble_eq_true rfl) (by decide) e30 m32) (k_U_finish hV G27 v29 x3) h (fun G33 _ h => ?_)
          refine Y.blk (pc' := 61) (L' := [some (.ref x0), none, some (.int x2), some (.int (x3 + (nI 1)))]) (st' := []) (sg := [(.iinc 3 1, nI 1)]) (lSa_ok dd7) rfl ?_
          refine Y.goto (off := -45) (tgt := 16) (lIa_ok dd8) (by decide) ?_
          exact ih G33 x0 x2 (x3 + (nI 1)) h
        · refine Y.blk (pc' := 61) (L' := [some (.ref x0), none, some (.int x2), some (.int (x3 + (nI 1)))]) (st' := []) (sg := [(.iinc 3 1, nI 1)]) (lSa_ok dd7) rfl ?_
          refine Y.goto (off := -45) (tgt := 16) (lIa_ok dd8) (by decide) ?_
          exact ih G27 x0 x2 (x3 + (nI 1)) h
theorem k_X_close {l : Launch} {D : va_G} {B : Nat} {O : State → Heap → Prop} (hV : zG l D B O) (G : gH) (a0 : Nat) (a1 : Int32) : gMet (zVm l D B O) m_X_close 7 [.ref a0, .int a1] G (f_X_close G a0 a1) := by
  have hdd : lSa m_X_close 0 [(.aload_n 0, 0), (.iload_n 1, 0)] = true ∧ lIa m_X_close 2 (.invokevirtual 142) 3 = true ∧ lSa m_X_close 5 [(.aload_n 0, 0)] = true ∧ lIa m_X_close 6 (.getfield 10) 3 = true ∧ lSa m_X_close 9 [(.iload_n 1, 0)] = true ∧ lIa m_X_close 10 (.invokevirtual 145) 3 = true ∧ lSa m_X_close 13 [(.istore_n 2, 0), (.iconst 0, nI 0), (.istore_n 3, 0)] = true ∧ lSa m_X_close 64 [(.iload_n 2, 0)] = true ∧ lIa m_X_close 65 (.ireturn) 1 = true := by decide +kernel
  refine lA8 hdd (fun dd0 dd1 dd2 dd3 dd4 dd5 dd6 dd7 hdd => ?_)
  have dd8 := hdd
  refine gMet.of (by decide +kernel) (Nat.le_of_ble_eq_true rfl) [some (.ref a0), some (.int a1), none, none] (fun ls h => zEn_ok (n := 4) h) ?_
  intro o Gf h
  unfold f_X_close at h
  refine Y.blk (pc' := 2) (L' := [some (.ref a0), some (.int a1), none, none]) (st' := [.int a1, .ref a0]) (sg := [(.aload_n 0, 0), (.iload_n 1, 0)]) (lSa_ok dd0) rfl ?_
  obtain ⟨_, o2, e1, m3, h⟩ := gOb_inv h
  refine Y.callN (yC.Vi (b := a0) (As := [.int a1]) (st := []) (r := ("Partlister", T_X, 5)) hV.1 cb_X_needPart lk_X_142 in_X_needPart rfl se_X_needPart (lIa_ok dd1) rfl rfl (Nat.le_of_ble_eq_true rfl) (by decide) e1 m3) (k_X_needPart hV G a0 a1) h (fun G4 _ h => ?_)
  refine Y.blk (pc' := 6) (L' := [some (.ref a0), some (.int a1), none, none]) (st' := [.ref a0]) (sg := [(.aload_n 0, 0)]) (lSa_ok dd2) rfl ?_
  refine Y.getA fl_X_10 (lIa_ok dd3) h (fun v5 h => ?_)
  refine Y.blk (pc' := 10) (L' := [some (.ref a0), some (.int a1), none, none]) (st' := [.int a1, .ref v5]) (sg := [(.iload_n 1, 0)]) (lSa_ok dd4) rfl ?_
  obtain ⟨_, o7, e6, m8, h⟩ := gOb_inv h
  refine Y.callI (yC.Vi (b := v5) (As := [.int a1]) (st := []) (r := ("Partlister$Lists", T_I, 7)) hV.1 cb_I_endWithin lk_X_145 in_I_endWithin rfl se_I_endWithin (lIa_ok dd5) rfl rfl (Nat.le_of_ble_eq_true rfl) (by decide) e6 m8) (k_I_endWithin hV G4 v5 a1) h (fun v10 G9 _ h => ?_)
  refine Y.blk (pc' := 16) (L' := [some (.ref a0), some (.int a1), some (.int v10), some (.int (nI 0))]) (st' := []) (sg := [(.istore_n 2, 0), (.iconst 0, nI 0), (.istore_n 3, 0)]) (lSa_ok dd6) rfl ?_
  refine Y.less (L' := [some (.ref a0), none, some (.int v10), some (.int (nI 0))]) (zLe_some (zLe_none (zLe_some (zLe_some (zLe_nil))))) ?_
  refine k_X_close_L16 hV _ ?_  zFu G9 a0 v10 (nI 0) h
  · intro G38 x37 h
    refine Y.blk (pc' := 65) (L' := [none, none, some (.int x37), none]) (st' := [.int x37]) (sg := [(.iload_n 2, 0)]) (lSa_ok dd7) rfl ?_
    exact Y.iret rfl (lIa_ok dd8) h

def f_X_countDigits_L9 (K33 : gH → Int32 → gR) : Nat → gH → Int32 → Int32 → Int32 → gR
  | 0, _, _, _, _ => none
  | n + 1, G, x1, x2, x3 =>
    if (nI 10) ≤ x3 then K33 G x1
    else if x2 ≤ 0 then K33 G x1
      else gDiv x2 (nI 10) fun v2 => f_X_countDigits_L9 K33 n G (x1 + (nI 1)) v2 (x3 + (nI 1))
def f_X_countDigits (G : gH) (a0 : Int32) : gR :=
  gDiv a0 (nI 10) fun v1 => f_X_countDigits_L9 (fun G6 x5 => rI x5 G6) zFu G (nI 1) v1 (nI 1)
theorem k_X_countDigits_L9 {l : Launch} {D : va_G} {B : Nat} {O : State → Heap → Prop} (hV : zG l D B O) {o : gO} {Gf : gH} (K33 : gH → Int32 → gR) (hK33 : ∀ (G : gH) (x1 : Int32), K33 G x1 = some (o, Gf) → Y (zVm l D B O) m_X_countDigits 1 o Gf 33 [none, some (.int x1), none, none] [] G) : ∀ (n : Nat) (G : gH) (x1 : Int32) (x2 : Int32) (x3 : Int32), f_X_countDigits_L9 K33 n G x1 x2 x3 = some (o, Gf) → Y (zVm l D B O) m_X_countDigits 1 o Gf 9 [none, some (.int x1), some (.int x2), some (.int x3)] [] G := by
  have hdd : lSa m_X_countDigits 9 [(.iload_n 3, 0), (.bipush 10, nI 10)] = true ∧ lIa m_X_countDigits 12 (.if_icmp .ge 21) 3 = true ∧ lSa m_X_countDigits 15 [(.iload_n 2, 0)] = true ∧ lIa m_X_countDigits 16 (.ifCond .le 17) 3 = true ∧ lSa m_X_countDigits 19 [(.iinc 1 1, nI 1), (.iload_n 2, 0), (.bipush 10, nI 10)] = true ∧ lIa m_X_countDigits 25 (.idiv) 1 = true ∧ lSa m_X_countDigits 26 [(.istore_n 2, 0), (.iinc 3 1, nI 1)] = true ∧ lIa m_X_countDigits 30 (.goto (-21)) 3 = true := by decide +kernel
  obtain ⟨dd0, dd1, dd2, dd3, dd4, dd5, dd6, dd7⟩ := hdd
  intro n
  induction n with
  | zero => intro G x1 x2 x3 h; cases h
  | succ n ih =>
    intro G x1 x2 x3 h
    unfold f_X_countDigits_L9 at h
    refine Y.blk (pc' := 12) (L' := [none, some (.int x1), some (.int x2), some (.int x3)]) (st' := [.int (nI 10), .int x3]) (sg := [(.iload_n 3, 0), (.bipush 10, nI 10)]) (lSa_ok dd0) rfl ?_
    refine Y.ic_ge (off := 21) (tgt := 33) (lIa_ok dd1) (by decide) h (fun c4 h => ?_) (fun c4 h => ?_)
    · refine Y.less (L' := [none, some (.int x1), none, none]) (zLe_some (zLe_some (zLe_none (zLe_none (zLe_nil))))) ?_
      exact hK33 G x1 h
    · refine Y.blk (pc' := 16) (L' := [none, some (.int x1), some (.int x2), some (.int x3)]) (st' := [.int x2]) (sg := [(.iload_n 2, 0)]) (lSa_ok dd2) rfl ?_
      refine Y.if_le (off := 17) (tgt := 33) (lIa_ok dd3) (by decide) h (fun c3 h => ?_) (fun c3 h => ?_)
      · refine Y.less (L' := [none, some (.int x1), none, none]) (zLe_some (zLe_some (zLe_none (zLe_none (zLe_nil))))) ?_
        exact hK33 G x1 h
      · refine Y.blk (pc' := 25) (L' := [none, some (.int (x1 + (nI 1))), some (.int x2), some (.int x3)]) (st' := [.int (nI 10), .int x2]) (sg := [(.iinc 1 1, nI 1), (.iload_n 2, 0), (.bipush 10, nI 10)]) (lSa_ok dd4) rfl ?_
        refine Y.idiv (lIa_ok dd5) h (fun v2 h => ?_)
        refine Y.blk (pc' := 30) (L' := [none, some (.int (x1 + (nI 1))), some (.int v2), some (.int (x3 + (nI 1)))]) (st' := []) (sg := [(.istore_n 2, 0), (.iinc 3 1, nI 1)]) (lSa_ok dd6) rfl ?_
        refine Y.goto (off := -21) (tgt := 9) (lIa_ok dd7) (by decide) ?_
        exact ih G (x1 + (nI 1)) v2 (x3 + (nI 1)) h
theorem k_X_countDigits {l : Launch} {D : va_G} {B : Nat} {O : State → Heap → Prop} (hV : zG l D B O) (G : gH) (a0 : Int32) : gMet (zVm l D B O) m_X_countDigits 1 [.int a0] G (f_X_countDigits G a0) := by
  have hdd : lSa m_X_countDigits 0 [(.iconst 1, nI 1), (.istore_n 1, 0), (.iload_n 0, 0), (.bipush 10, nI 10)] = true ∧ lIa m_X_countDigits 5 (.idiv) 1 = true ∧ lSa m_X_countDigits 6 [(.istore_n 2, 0), (.iconst 1, nI 1), (.istore_n 3, 0)] = true ∧ lSa m_X_countDigits 33 [(.iload_n 1, 0)] = true ∧ lIa m_X_countDigits 34 (.ireturn) 1 = true := by decide +kernel
  obtain ⟨dd0, dd1, dd2, dd3, dd4⟩ := hdd
  refine gMet.of (by decide +kernel) (Nat.le_of_ble_eq_true rfl) [some (.int a0), none, none, none] (fun ls h => zEn_ok (n := 4) h) ?_
  intro o Gf h
  unfold f_X_countDigits at h
  refine Y.blk (pc' := 5) (L' := [some (.int a0), some (.int (nI 1)), none, none]) (st' := [.int (nI 10), .int a0]) (sg := [(.iconst 1, nI 1), (.istore_n 1, 0), (.iload_n 0, 0), (.bipush 10, nI 10)]) (lSa_ok dd0) rfl ?_
  refine Y.idiv (lIa_ok dd1) h (fun v1 h => ?_)
  refine Y.blk (pc' := 9) (L' := [some (.int a0), some (.int (nI 1)), some (.int v1), some (.int (nI 1))]) (st' := []) (sg := [(.istore_n 2, 0), (.iconst 1, nI 1), (.istore_n 3, 0)]) (lSa_ok dd2) rfl ?_
  refine Y.less (L' := [none, some (.int (nI 1)), some (.int v1), some (.int (nI 1))]) (zLe_none (zLe_some (zLe_some (zLe_some (zLe_nil))))) ?_
  refine k_X_countDigits_L9 hV _ ?_  zFu G (nI 1) v1 (nI 1) h
  · intro G6 x5 h
    refine Y.blk (pc' := 34) (L' := [none, some (.int x5), none, none]) (st' := [.int x5]) (sg := [(.iload_n 1, 0)]) (lSa_ok dd3) rfl ?_
    exact Y.iret rfl (lIa_ok dd4) h

def f_X_countSigns_L22 (K68 : gH → Int32 → gR) : Nat → gH → Nat → Int32 → Int32 → Int32 → Int32 → gR
  | 0, _, _, _, _, _, _ => none
  | n + 1, G, x0, x1, x2, x3, x4 =>
    if x2 ≤ x4 then K68 G x3
    else gFA G x0 3 0 fun v7 => gOb G v7 1 fun o9 => bI (f_I_thingAt G v7 x1 x4) fun v12 G11 => bI (f_X_keyOf G11 v12) fun v15 G14 => bI (f_X_countDigits G14 v15) fun v18 G17 => bI (f_X_tagOf G17 v12) fun v21 G20 => bI (f_X_countDigits G20 v21) fun v24 G23 => f_X_countSigns_L22 K68 n G23 x0 x1 x2 (x3 + ((v18 + (nI 1)) + v24)) (x4 + (nI 1))
def f_X_countSigns (G : gH) (a0 : Nat) (a1 : Int32) : gR :=
  gFA G a0 3 0 fun v1 => gOb G v1 1 fun o3 => bI (f_I_lengthOf G v1 a1) fun v6 G5 => if v6 = 0 then rI (nI 1) G5
  else f_X_countSigns_L22 (fun G27 x26 => rI x26 G27) zFu G5 a0 a1 v6 (v6 - (nI 1)) (nI 0)
theorem k_X_countSigns_L22 {l : Launch} {D : va_G} {B : Nat} {O : State → Heap → Prop} (hV : zG l D B O) {o : gO} {Gf : gH} (K68 : gH → Int32 → gR) (hK68 : ∀ (G : gH) (x3 : Int32), K68 G x3 = some (o, Gf) → Y (zVm l D B O) m_X_countSigns 4 o Gf 68 [none, none, none, some (.int x3), none, none] [] G) : ∀ (n : Nat) (G : gH) (x0 : Nat) (x1 : Int32) (x2 : Int32) (x3 : Int32) (x4 : Int32), f_X_countSigns_L22 K68 n G x0 x1 x2 x3 x4 = some (o, Gf) → Y (zVm l D B O) m_X_countSigns 4 o Gf 22 [some (.ref x0), some (.int x1), some (.int x2), some (.int x3), some (.int x4), none] [] G := by
  have hdd : lSa m_X_countSigns 22 [(.iload 4, 0), (.iload_n 2, 0)] = true ∧ lIa m_X_countSigns 25 (.if_icmp .ge 43) 3 = true ∧ lSa m_X_countSigns 28 [(.aload_n 0, 0)] = true ∧ lIa m_X_countSigns 29 (.getfield 10) 3 = true ∧ lSa m_X_countSigns 32 [(.iload_n 1, 0), (.iload 4, 0)] = true ∧ lIa m_X_countSigns 35 (.invokevirtual 94) 3 = true ∧ lSa m_X_countSigns 38 [(.istore 5, 0), (.iload_n 3, 0), (.iload 5, 0)] = true ∧ lIa m_X_countSigns 43 (.invokestatic 97) 3 = true ∧ lIa m_X_countSigns 46 (.invokestatic 326) 3 = true ∧ lSa m_X_countSigns 49 [(.iconst 1, nI 1), (.iadd, 0), (.iload 5, 0)] = true ∧ lIa m_X_countSigns 53 (.invokestatic 48) 3 = true ∧ lIa m_X_countSigns 56 (.invokestatic 326) 3 = true ∧ lSa m_X_countSigns 59 [(.iadd, 0), (.iadd, 0), (.istore_n 3, 0), (.iinc 4 1, nI 1)] = true ∧ lIa m_X_countSigns 65 (.goto (-43)) 3 = true := by decide +kernel
  refine lA8 hdd (fun dd0 dd1 dd2 dd3 dd4 dd5 dd6 dd7 hdd => ?_)
  obtain ⟨dd8, dd9, dd10, dd11, dd12, dd13⟩ := hdd
  intro n
  induction n with
  | zero => intro G x0 x1 x2 x3 x4 h; cases h
  | succ n ih =>
    intro G x0 x1 x2 x3 x4 h
    unfold f_X_countSigns_L22 at h
    refine Y.blk (pc' := 25) (L' := [some (.ref x0), some (.int x1), some (.int x2), some (.int x3), some (.int x4), none]) (st' := [.int x2, .int x4]) (sg := [(.iload 4, 0), (.iload_n 2, 0)]) (lSa_ok dd0) rfl ?_
    refine Y.ic_ge (off := 43) (tgt := 68) (lIa_ok dd1) (by decide) h (fun c25 h => ?_) (fun c25 h => ?_)
    · refine Y.less (L' := [none, none, none, some (.int x3), none, none]) (zLe_none (zLe_none (zLe_none (zLe_some (zLe_none (zLe_some (zLe_nil))))))) ?_
      exact hK68 G x3 h
    · refine Y.blk (pc' := 29) (L' := [some (.ref x0), some (.int x1), some (.int x2), some (.int x3), some (.int x4), none]) (st' := [.ref x0]) (sg := [(.aload_n 0, 0)]) (lSa_ok dd2) rfl ?_
      refine Y.getA fl_X_10 (lIa_ok dd3) h (fun v7 h => ?_)
      refine Y.blk (pc' := 35) (L' := [some (.ref x0), some (.int x1), some (.int x2), some (.int x3), some (.int x4), none]) (st' := [.int x4, .int x1, .ref v7]) (sg := [(.iload_n 1, 0), (.iload 4, 0)]) (lSa_ok dd4) rfl ?_
      obtain ⟨_, o9, e8, m10, h⟩ := gOb_inv h
      refine Y.callI (yC.Vi (b := v7) (As := [.int x1, .int x4]) (st := []) (r := ("Partlister$Lists", T_I, 7)) hV.1 cb_I_thingAt lk_X_94 in_I_thingAt rfl se_I_thingAt (lIa_ok dd5) rfl rfl (Nat.le_of_ble_eq_true rfl) (by decide) e8 m10) (k_I_thingAt hV G v7 x1 x4) h (fun v12 G11 _ h => ?_)
      refine Y.blk (pc' := 43) (L' := [some (.ref x0), some (.int x1), some (.int x2), some (.int x3), some (.int x4), some (.int v12)]) (st' := [.int v12, .int x3]) (sg := [(.istore 5, 0), (.iload_n 3, 0), (.iload 5, 0)]) (lSa_ok dd6) rfl ?_
      refine Y.callI (yC.S (As := [.int v12]) (st := [.int x3]) hV.1 cb_X_keyOf lk_X_97 st_X_keyOf (lIa_ok dd7) rfl rfl (Nat.le_of_ble_eq_true rfl) (by decide)) (k_X_keyOf hV G11 v12) h (fun v15 G14 _ h => ?_)
      refine Y.callI (yC.S (As := [.int v15]) (st := [.int x3]) hV.1 cb_X_countDigits lk_X_326 st_X_countDigits (lIa_ok dd8) rfl rfl (Nat.le_of_ble_eq_true rfl) (by decide)) (k_X_countDigits hV G14 v15) h (fun v18 G17 _ h => ?_)
      refine Y.blk (pc' := 53) (L' := [some (.ref x0), some (.int x1), some (.int x2), some (.int x3), some (.int x4), some (.int v12)]) (st' := [.int v12, .int (v18 + (nI 1)), .int x3]) (sg := [(.iconst 1, nI 1), (.iadd, 0), (.iload 5, 0)]) (lSa_ok dd9) rfl ?_
      refine Y.callI (yC.S (As := [.int v12]) (st := [.int (v18 + (nI 1)), .int x3]) hV.1 cb_X_tagOf lk_X_48 st_X_tagOf (lIa_ok dd10) rfl rfl (Nat.le_of_ble_eq_true rfl) (by decide)) (k_X_tagOf hV G17 v12) h (fun v21 G20 _ h => ?_)
      refine Y.callI (yC.S (As := [.int v21]) (st := [.int (v18 + (nI 1)), .int x3]) hV.1 cb_X_countDigits lk_X_326 st_X_countDigits (lIa_ok dd11) rfl rfl (Nat.le_of_ble_eq_true rfl) (by decide)) (k_X_countDigits hV G20 v21) h (fun v24 G23 _ h => ?_)
      refine Y.blk (pc' := 65) (L' := [some (.ref x0), some (.int x1), some (.int x2), some (.int (x3 + ((v18 + (nI 1)) + v24))), some (.int (x4 + (nI 1))), some (.int v12)]) (st' := []) (sg := [(.iadd, 0), (.iadd, 0), (.istore_n 3, 0), (.iinc 4 1, nI 1)]) (lSa_ok dd12) rfl ?_
      refine Y.goto (off := -43) (tgt := 22) (lIa_ok dd13) (by decide) ?_
      refine Y.less (L' := [some (.ref x0), some (.int x1), some (.int x2), some (.int (x3 + ((v18 + (nI 1)) + v24))), some (.int (x4 + (nI 1))), none]) (zLe_some (zLe_some (zLe_some (zLe_some (zLe_some (zLe_none (zLe_nil))))))) ?_
      exact ih G23 x0 x1 x2 (x3 + ((v18 + (nI 1)) + v24)) (x4 + (nI 1)) h
theorem k_X_countSigns {l : Launch} {D : va_G} {B : Nat} {O : State → Heap → Prop} (hV : zG l D B O) (G : gH) (a0 : Nat) (a1 : Int32) : gMet (zVm l D B O) m_X_countSigns 4 [.ref a0, .int a1] G (f_X_countSigns G a0 a1) := by
  have hdd : lSa m_X_countSigns 0 [(.aload_n 0, 0)] = true ∧ lIa m_X_countSigns 1 (.getfield 10) 3 = true ∧ lSa m_X_countSigns 4 [(.iload_n 1, 0)] = true ∧ lIa m_X_countSigns 5 (.invokevirtual 34) 3 = true ∧ lSa m_X_countSigns 8 [(.istore_n 2, 0), (.iload_n 2, 0)] = true ∧ lIa m_X_countSigns 10 (.ifCond .ne 5) 3 = true ∧ lSa m_X_countSigns 13 [(.iconst 1, nI 1)] = true ∧ lIa m_X_countSigns 14 (.ireturn) 1 = true ∧ lSa m_X_countSigns 15 [(.iload_n 2, 0), (.iconst 1, nI 1), (.isub, 0), (.istore_n 3, 0), (.iconst 0, nI 0), (.istore 4, 0)] = true ∧ lSa m_X_countSigns 68 [(.iload_n 3, 0)] = true ∧ lIa m_X_countSigns 69 (.ireturn) 1 = true := by decide +kernel
  refine lA8 hdd (fun dd0 dd1 dd2 dd3 dd4 dd5 dd6 dd7 hdd => ?_)
  obtain ⟨dd8, dd9, dd10⟩ := hdd
  refine gMet.of (by decide +kernel) (Nat.le_of_ble_eq_true rfl) [some (.ref a0), some (.int a1), none, none, none, none] (fun ls h => zEn_ok (n := 6) h) ?_
  intro o Gf h
  unfold f_X_countSigns at h
  refine Y.blk (pc' := 1) (L' := [some (.ref a0), some (.int a1), none, none, none, none]) (st' := [.ref a0]) (sg := [(.aload_n 0, 0)]) (lSa_ok dd0) rfl ?_
  refine Y.getA fl_X_10 (lIa_ok dd1) h (fun v1 h => ?_)
  refine Y.blk (pc' := 5) (L' := [some (.ref a0), some (.int a1), none, none, none, none]) (st' := [.int a1, .ref v1]) (sg := [(.iload_n 1, 0)]) (lSa_ok dd2) rfl ?_
  obtain ⟨_, o3, e2, m4, h⟩ := gOb_inv h
  refine Y.callI (yC.Vi (b := v1) (As := [.int a1]) (st := []) (r := ("Partlister$Lists", T_I, 7)) hV.1 cb_I_lengthOf lk_X_34 in_I_lengthOf rfl se_I_lengthOf (lIa_ok dd3) rfl rfl (Nat.le_of_ble_eq_true rfl) (by decide) e2 m4) (k_I_lengthOf hV G v1 a1) h (fun v6 G5 _ h => ?_)
  refine Y.blk (pc' := 10) (L' := [some (.ref a0), some (.int a1), some (.int v6), none, none, none]) (st' := [.int v6]) (sg := [(.istore_n 2, 0), (.iload_n 2, 0)]) (lSa_ok dd4) rfl ?_
  refine Y.if_ne (off := 5) (tgt := 15) (lIa_ok dd5) (by decide) h (fun c28 h => ?_) (fun c28 h => ?_)
  · refine Y.blk (pc' := 14) (L' := [some (.ref a0), some (.int a1), some (.int v6), none, none, none]) (st' := [.int (nI 1)]) (sg := [(.iconst 1, nI 1)]) (lSa_ok dd6) rfl ?_
    exact Y.iret rfl (lIa_ok dd7) h
  · refine Y.blk (pc' := 22) (L' := [some (.ref a0), some (.int a1), some (.int v6), some (.int (v6 - (nI 1))), some (.int (nI 0)), none]) (st' := []) (sg := [(.iload_n 2, 0), (.iconst 1, nI 1), (.isub, 0), (.istore_n 3, 0), (.iconst 0, nI 0), (.istore 4, 0)]) (lSa_ok dd8) rfl ?_
    refine k_X_countSigns_L22 hV _ ?_  zFu G5 a0 a1 v6 (v6 - (nI 1)) (nI 0) h
    · intro G27 x26 h
      refine Y.blk (pc' := 69) (L' := [none, none, none, some (.int x26), none, none]) (st' := [.int x26]) (sg := [(.iload_n 3, 0)]) (lSa_ok dd9) rfl ?_
      exact Y.iret rfl (lIa_ok dd10) h

def f_U_freeCursor_L2 (K15 : gH → Int32 → gR) (K23 : gH → gR) : Nat → gH → Nat → Int32 → gR
  | 0, _, _, _ => none
  | n + 1, G, x0, x1 =>
    if (nI 3) ≤ x1 then K23 G
    else gOb G x0 0 fun o2 => bI (f_U_isThere G x0 x1) fun v5 G4 => if v5 = 0 then K15 G4 x1
      else f_U_freeCursor_L2 K15 K23 n G4 x0 (x1 + (nI 1))
def f_U_freeCursor (G : gH) (a0 : Nat) : gR :=
  f_U_freeCursor_L2 (fun G9 x8 => rI x8 G9) (fun G10 => rI (-1) G10) zFu G a0 (nI 0)
theorem k_U_freeCursor_L2 {l : Launch} {D : va_G} {B : Nat} {O : State → Heap → Prop} (hV : zG l D B O) {o : gO} {Gf : gH} (K15 : gH → Int32 → gR) (K23 : gH → gR) (hK15 : ∀ (G : gH) (x1 : Int32), K15 G x1 = some (o, Gf) → Y (zVm l D B O) m_U_freeCursor 4 o Gf 15 [none, some (.int x1)] [] G) (hK23 : ∀ (G : gH), K23 G  = some (o, Gf) → Y (zVm l D B O) m_U_freeCursor 4 o Gf 23 [none, none] [] G) : ∀ (n : Nat) (G : gH) (x0 : Nat) (x1 : Int32), f_U_freeCursor_L2 K15 K23 n G x0 x1 = some (o, Gf) → Y (zVm l D B O) m_U_freeCursor 4 o Gf 2 [some (.ref x0), some (.int x1)] [] G := by
  have hdd : lSa m_U_freeCursor 2 [(.iload_n 1, 0), (.iconst 3, nI 3)] = true ∧ lIa m_U_freeCursor 4 (.if_icmp .ge 19) 3 = true ∧ lSa m_U_freeCursor 7 [(.aload_n 0, 0), (.iload_n 1, 0)] = true ∧ lIa m_U_freeCursor 9 (.invokevirtual 37) 3 = true ∧ lIa m_U_freeCursor 12 (.ifCond .ne 5) 3 = true ∧ lSa m_U_freeCursor 17 [(.iinc 1 1, nI 1)] = true ∧ lIa m_U_freeCursor 20 (.goto (-18)) 3 = true := by decide +kernel
  obtain ⟨dd0, dd1, dd2, dd3, dd4, dd5, dd6⟩ := hdd
  intro n
  induction n with
  | zero => intro G x0 x1 h; cases h
  | succ n ih =>
    intro G x0 x1 h
    unfold f_U_freeCursor_L2 at h
    refine Y.blk (pc' := 4) (L' := [some (.ref x0), some (.int x1)]) (st' := [.int (nI 3), .int x1]) (sg := [(.iload_n 1, 0), (.iconst 3, nI 3)]) (lSa_ok dd0) rfl ?_
    refine Y.ic_ge (off := 19) (tgt := 23) (lIa_ok dd1) (by decide) h (fun c7 h => ?_) (fun c7 h => ?_)
    · refine Y.less (L' := [none, none]) (zLe_none (zLe_none (zLe_nil))) ?_
      exact hK23 G  h
    · refine Y.blk (pc' := 9) (L' := [some (.ref x0), some (.int x1)]) (st' := [.int x1, .ref x0]) (sg := [(.aload_n 0, 0), (.iload_n 1, 0)]) (lSa_ok dd2) rfl ?_
      obtain ⟨_, o2, e1, m3, h⟩ := gOb_inv h
      refine Y.callI (yC.Vi (b := x0) (As := [.int x1]) (st := []) (r := ("Partlister$Cursors", T_U, 5)) hV.1 cb_U_isThere lk_U_37 in_U_isThere rfl se_U_isThere (lIa_ok dd3) rfl rfl (Nat.le_of_ble_eq_true rfl) (by decide) e1 m3) (k_U_isThere hV G x0 x1) h (fun v5 G4 _ h => ?_)
      refine Y.if_ne (off := 5) (tgt := 17) (lIa_ok dd4) (by decide) h (fun c6 h => ?_) (fun c6 h => ?_)
      · refine Y.less (L' := [none, some (.int x1)]) (zLe_none (zLe_some (zLe_nil))) ?_
        exact hK15 G4 x1 h
      · refine Y.blk (pc' := 20) (L' := [some (.ref x0), some (.int (x1 + (nI 1)))]) (st' := []) (sg := [(.iinc 1 1, nI 1)]) (lSa_ok dd5) rfl ?_
        refine Y.goto (off := -18) (tgt := 2) (lIa_ok dd6) (by decide) ?_
        exact ih G4 x0 (x1 + (nI 1)) h
theorem k_U_freeCursor {l : Launch} {D : va_G} {B : Nat} {O : State → Heap → Prop} (hV : zG l D B O) (G : gH) (a0 : Nat) : gMet (zVm l D B O) m_U_freeCursor 4 [.ref a0] G (f_U_freeCursor G a0) := by
  have hdd : lSa m_U_freeCursor 0 [(.iconst 0, nI 0), (.istore_n 1, 0)] = true ∧ lSa m_U_freeCursor 15 [(.iload_n 1, 0)] = true ∧ lIa m_U_freeCursor 16 (.ireturn) 1 = true ∧ lSa m_U_freeCursor 23 [(.iconst (-1), -1)] = true ∧ lIa m_U_freeCursor 24 (.ireturn) 1 = true := by decide +kernel
  obtain ⟨dd0, dd1, dd2, dd3, dd4⟩ := hdd
  refine gMet.of (by decide +kernel) (Nat.le_of_ble_eq_true rfl) [some (.ref a0), none] (fun ls h => zEn_ok (n := 2) h) ?_
  intro o Gf h
  unfold f_U_freeCursor at h
  refine Y.blk (pc' := 2) (L' := [some (.ref a0), some (.int (nI 0))]) (st' := []) (sg := [(.iconst 0, nI 0), (.istore_n 1, 0)]) (lSa_ok dd0) rfl ?_
  refine k_U_freeCursor_L2 hV _ _ ?_ ?_  zFu G a0 (nI 0) h
  · intro G9 x8 h
    refine Y.blk (pc' := 16) (L' := [none, some (.int x8)]) (st' := [.int x8]) (sg := [(.iload_n 1, 0)]) (lSa_ok dd1) rfl ?_
    exact Y.iret rfl (lIa_ok dd2) h
  · intro G10 h
    refine Y.blk (pc' := 24) (L' := [none, none]) (st' := [.int (-1)]) (sg := [(.iconst (-1), -1)]) (lSa_ok dd3) rfl ?_
    exact Y.iret rfl (lIa_ok dd4) h

def f_U_stand (G : gH) (a0 : Nat) (a1 : Int32) (a2 : Int32) (a3 : Int32) : gR :=
  gFA G a0 0 2 fun v1 => gOb G v1 2 fun o3 => bV (f_N_write G v1 a1 a2) fun G5 => gFA G5 a0 0 3 fun v6 => gOb G5 v6 2 fun o8 => bV (f_N_write G5 v6 a1 a3) fun G10 => rV G10
theorem k_U_stand {l : Launch} {D : va_G} {B : Nat} {O : State → Heap → Prop} (hV : zG l D B O) (G : gH) (a0 : Nat) (a1 : Int32) (a2 : Int32) (a3 : Int32) : gMet (zVm l D B O) m_U_stand 2 [.ref a0, .int a1, .int a2, .int a3] G (f_U_stand G a0 a1 a2 a3) := by
  have hdd : lSa m_U_stand 0 [(.aload_n 0, 0)] = true ∧ lIa m_U_stand 1 (.getfield 23) 3 = true ∧ lSa m_U_stand 4 [(.iload_n 1, 0), (.iload_n 2, 0)] = true ∧ lIa m_U_stand 6 (.invokevirtual 40) 3 = true ∧ lSa m_U_stand 9 [(.aload_n 0, 0)] = true ∧ lIa m_U_stand 10 (.getfield 26) 3 = true ∧ lSa m_U_stand 13 [(.iload_n 1, 0), (.iload_n 3, 0)] = true ∧ lIa m_U_stand 15 (.invokevirtual 40) 3 = true ∧ lIa m_U_stand 18 (.return_) 1 = true := by decide +kernel
  refine lA8 hdd (fun dd0 dd1 dd2 dd3 dd4 dd5 dd6 dd7 hdd => ?_)
  have dd8 := hdd
  refine gMet.of (by decide +kernel) (Nat.le_of_ble_eq_true rfl) [some (.ref a0), some (.int a1), some (.int a2), some (.int a3)] (fun ls h => zEn_ok (n := 4) h) ?_
  intro o Gf h
  unfold f_U_stand at h
  refine Y.blk (pc' := 1) (L' := [some (.ref a0), some (.int a1), some (.int a2), some (.int a3)]) (st' := [.ref a0]) (sg := [(.aload_n 0, 0)]) (lSa_ok dd0) rfl ?_
  refine Y.getA fl_U_23 (lIa_ok dd1) h (fun v1 h => ?_)
  refine Y.blk (pc' := 6) (L' := [some (.ref a0), some (.int a1), some (.int a2), some (.int a3)]) (st' := [.int a2, .int a1, .ref v1]) (sg := [(.iload_n 1, 0), (.iload_n 2, 0)]) (lSa_ok dd2) rfl ?_
  obtain ⟨_, o3, e2, m4, h⟩ := gOb_inv h
  refine Y.callN (yC.Vi (b := v1) (As := [.int a1, .int a2]) (st := []) (r := ("Partlister$Numbers", T_N, 1)) hV.1 cb_N_write lk_U_40 in_N_write rfl se_N_write (lIa_ok dd3) rfl rfl (Nat.le_of_ble_eq_true rfl) (by decide) e2 m4) (k_N_write hV G v1 a1 a2) h (fun G5 _ h => ?_)
  refine Y.blk (pc' := 10) (L' := [some (.ref a0), some (.int a1), some (.int a2), some (.int a3)]) (st' := [.ref a0]) (sg := [(.aload_n 0, 0)]) (lSa_ok dd4) rfl ?_
  refine Y.getA fl_U_26 (lIa_ok dd5) h (fun v6 h => ?_)
  refine Y.blk (pc' := 15) (L' := [some (.ref a0), some (.int a1), some (.int a2), some (.int a3)]) (st' := [.int a3, .int a1, .ref v6]) (sg := [(.iload_n 1, 0), (.iload_n 3, 0)]) (lSa_ok dd6) rfl ?_
  obtain ⟨_, o8, e7, m9, h⟩ := gOb_inv h
  refine Y.callN (yC.Vi (b := v6) (As := [.int a1, .int a3]) (st := []) (r := ("Partlister$Numbers", T_N, 1)) hV.1 cb_N_write lk_U_40 in_N_write rfl se_N_write (lIa_ok dd7) rfl rfl (Nat.le_of_ble_eq_true rfl) (by decide) e7 m9) (k_N_write hV G5 v6 a1 a3) h (fun G10 _ h => ?_)
  exact Y.vret rfl (lIa_ok dd8) h

def f_U_start (G : gH) (a0 : Nat) (a1 : Int32) (a2 : Int32) (a3 : Int32) : gR :=
  gFA G a0 0 0 fun v1 => gOb G v1 2 fun o3 => bV (f_N_write G v1 a1 (nI 1)) fun G5 => gFA G5 a0 0 1 fun v6 => gOb G5 v6 2 fun o8 => bV (f_N_write G5 v6 a1 a2) fun G10 => gOb G10 a0 0 fun o12 => bV (f_U_stand G10 a0 a1 a3 (-1)) fun G14 => rV G14
theorem k_U_start {l : Launch} {D : va_G} {B : Nat} {O : State → Heap → Prop} (hV : zG l D B O) (G : gH) (a0 : Nat) (a1 : Int32) (a2 : Int32) (a3 : Int32) : gMet (zVm l D B O) m_U_start 3 [.ref a0, .int a1, .int a2, .int a3] G (f_U_start G a0 a1 a2 a3) := by
  have hdd : lSa m_U_start 0 [(.aload_n 0, 0)] = true ∧ lIa m_U_start 1 (.getfield 14) 3 = true ∧ lSa m_U_start 4 [(.iload_n 1, 0), (.iconst 1, nI 1)] = true ∧ lIa m_U_start 6 (.invokevirtual 40) 3 = true ∧ lSa m_U_start 9 [(.aload_n 0, 0)] = true ∧ lIa m_U_start 10 (.getfield 20) 3 = true ∧ lSa m_U_start 13 [(.iload_n 1, 0), (.iload_n 2, 0)] = true ∧ lIa m_U_start 15 (.invokevirtual 40) 3 = true ∧ lSa m_U_start 18 [(.aload_n 0, 0), (.iload_n 1, 0), (.iload_n 3, 0), (.iconst (-1), -1)] = true ∧ lIa m_U_start 22 (.invokevirtual 44) 3 = true ∧ lIa m_U_start 25 (.return_) 1 = true := by decide +kernel
  refine lA8 hdd (fun dd0 dd1 dd2 dd3 dd4 dd5 dd6 dd7 hdd => ?_)
  obtain ⟨dd8, dd9, dd10⟩ := hdd
  refine gMet.of (by decide +kernel) (Nat.le_of_ble_eq_true rfl) [some (.ref a0), some (.int a1), some (.int a2), some (.int a3)] (fun ls h => zEn_ok (n := 4) h) ?_
  intro o Gf h
  unfold f_U_start at h
  refine Y.blk (pc' := 1) (L' := [some (.ref a0), some (.int a1), some (.int a2), some (.int a3)]) (st' := [.ref a0]) (sg := [(.aload_n 0, 0)]) (lSa_ok dd0) rfl ?_
  refine Y.getA fl_U_14 (lIa_ok dd1) h (fun v1 h => ?_)
  refine Y.blk (pc' := 6) (L' := [some (.ref a0), some (.int a1), some (.int a2), some (.int a3)]) (st' := [.int (nI 1), .int a1, .ref v1]) (sg := [(.iload_n 1, 0), (.iconst 1, nI 1)]) (lSa_ok dd2) rfl ?_
  obtain ⟨_, o3, e2, m4, h⟩ := gOb_inv h
  refine Y.callN (yC.Vi (b := v1) (As := [.int a1, .int (nI 1)]) (st := []) (r := ("Partlister$Numbers", T_N, 1)) hV.1 cb_N_write lk_U_40 in_N_write rfl se_N_write (lIa_ok dd3) rfl rfl (Nat.le_of_ble_eq_true rfl) (by decide) e2 m4) (k_N_write hV G v1 a1 (nI 1)) h (fun G5 _ h => ?_)
  refine Y.blk (pc' := 10) (L' := [some (.ref a0), some (.int a1), some (.int a2), some (.int a3)]) (st' := [.ref a0]) (sg := [(.aload_n 0, 0)]) (lSa_ok dd4) rfl ?_
  refine Y.getA fl_U_20 (lIa_ok dd5) h (fun v6 h => ?_)
  refine Y.blk (pc' := 15) (L' := [some (.ref a0), some (.int a1), some (.int a2), some (.int a3)]) (st' := [.int a2, .int a1, .ref v6]) (sg := [(.iload_n 1, 0), (.iload_n 2, 0)]) (lSa_ok dd6) rfl ?_
  obtain ⟨_, o8, e7, m9, h⟩ := gOb_inv h
  refine Y.callN (yC.Vi (b := v6) (As := [.int a1, .int a2]) (st := []) (r := ("Partlister$Numbers", T_N, 1)) hV.1 cb_N_write lk_U_40 in_N_write rfl se_N_write (lIa_ok dd7) rfl rfl (Nat.le_of_ble_eq_true rfl) (by decide) e7 m9) (k_N_write hV G5 v6 a1 a2) h (fun G10 _ h => ?_)
  refine Y.blk (pc' := 22) (L' := [some (.ref a0), some (.int a1), some (.int a2), some (.int a3)]) (st' := [.int (-1), .int a3, .int a1, .ref a0]) (sg := [(.aload_n 0, 0), (.iload_n 1, 0), (.iload_n 3, 0), (.iconst (-1), -1)]) (lSa_ok dd8) rfl ?_
  obtain ⟨_, o12, e11, m13, h⟩ := gOb_inv h
  refine Y.callN (yC.Vi (b := a0) (As := [.int a1, .int a3, .int (-1)]) (st := []) (r := ("Partlister$Cursors", T_U, 5)) hV.1 cb_U_stand lk_U_44 in_U_stand rfl se_U_stand (lIa_ok dd9) rfl rfl (Nat.le_of_ble_eq_true rfl) (by decide) e11 m13) (k_U_stand hV G10 a0 a1 a3 (-1)) h (fun G14 _ h => ?_)
  exact Y.vret rfl (lIa_ok dd10) h

def f_X_cursor (G : gH) (a0 : Nat) (a1 : Int32) (a2 : Int32) : gR :=
  gOb G a0 3 fun o2 => bV (f_X_needList G a0 a1) fun G4 => gOb G4 a0 3 fun o6 => bV (f_X_needGap G4 a0 a1 a2) fun G8 => gFA G8 a0 3 1 fun v9 => gOb G8 v9 0 fun o11 => bI (f_U_freeCursor G8 v9) fun v14 G13 => if v14 = (-1) then gThrow "java/lang/IllegalStateException" G13
  else gFA G13 a0 3 1 fun v15 => gOb G13 v15 0 fun o17 => bV (f_U_start G13 v15 v14 a1 a2) fun G19 => rI v14 G19
theorem k_X_cursor {l : Launch} {D : va_G} {B : Nat} {O : State → Heap → Prop} (hV : zG l D B O) (G : gH) (a0 : Nat) (a1 : Int32) (a2 : Int32) : gMet (zVm l D B O) m_X_cursor 7 [.ref a0, .int a1, .int a2] G (f_X_cursor G a0 a1 a2) := by
  have hdd : lSa m_X_cursor 0 [(.aload_n 0, 0), (.iload_n 1, 0)] = true ∧ lIa m_X_cursor 2 (.invokevirtual 23) 3 = true ∧ lSa m_X_cursor 5 [(.aload_n 0, 0), (.iload_n 1, 0), (.iload_n 2, 0)] = true ∧ lIa m_X_cursor 8 (.invokevirtual 45) 3 = true ∧ lSa m_X_cursor 11 [(.aload_n 0, 0)] = true ∧ lIa m_X_cursor 12 (.getfield 19) 3 = true ∧ lIa m_X_cursor 15 (.invokevirtual 159) 3 = true ∧ lSa m_X_cursor 18 [(.istore_n 3, 0), (.iload_n 3, 0), (.iconst (-1), -1)] = true ∧ lIa m_X_cursor 21 (.if_icmp .ne 13) 3 = true ∧ lIa m_X_cursor 24 (.new 134) 3 = true ∧ lIa m_X_cursor 27 (.dup) 1 = true ∧ lIa m_X_cursor 28 (.ldc 162) 2 = true ∧ lIa m_X_cursor 30 (.invokespecial 138) 3 = true ∧ lIa m_X_cursor 33 (.athrow) 1 = true ∧ lSa m_X_cursor 34 [(.aload_n 0, 0)] = true ∧ lIa m_X_cursor 35 (.getfield 19) 3 = true ∧ lSa m_X_cursor 38 [(.iload_n 3, 0), (.iload_n 1, 0), (.iload_n 2, 0)] = true ∧ lIa m_X_cursor 41 (.invokevirtual 164) 3 = true ∧ lSa m_X_cursor 44 [(.iload_n 3, 0)] = true ∧ lIa m_X_cursor 45 (.ireturn) 1 = true := by decide +kernel
  refine lA8 hdd (fun dd0 dd1 dd2 dd3 dd4 dd5 dd6 dd7 hdd => ?_)
  refine lA8 hdd (fun dd8 dd9 dd10 dd11 dd12 dd13 dd14 dd15 hdd => ?_)
  obtain ⟨dd16, dd17, dd18, dd19⟩ := hdd
  refine gMet.of (by decide +kernel) (Nat.le_of_ble_eq_true rfl) [some (.ref a0), some (.int a1), some (.int a2), none] (fun ls h => zEn_ok (n := 4) h) ?_
  intro o Gf h
  unfold f_X_cursor at h
  refine Y.blk (pc' := 2) (L' := [some (.ref a0), some (.int a1), some (.int a2), none]) (st' := [.int a1, .ref a0]) (sg := [(.aload_n 0, 0), (.iload_n 1, 0)]) (lSa_ok dd0) rfl ?_
  obtain ⟨_, o2, e1, m3, h⟩ := gOb_inv h
  refine Y.callN (yC.Vi (b := a0) (As := [.int a1]) (st := []) (r := ("Partlister", T_X, 5)) hV.1 cb_X_needList lk_X_23 in_X_needList rfl se_X_needList (lIa_ok dd1) rfl rfl (Nat.le_of_ble_eq_true rfl) (by decide) e1 m3) (k_X_needList hV G a0 a1) h (fun G4 _ h => ?_)
  refine Y.blk (pc' := 8) (L' := [some (.ref a0), some (.int a1), some (.int a2), none]) (st' := [.int a2, .int a1, .ref a0]) (sg := [(.aload_n 0, 0), (.iload_n 1, 0), (.iload_n 2, 0)]) (lSa_ok dd2) rfl ?_
  obtain ⟨_, o6, e5, m7, h⟩ := gOb_inv h
  refine Y.callN (yC.Vi (b := a0) (As := [.int a1, .int a2]) (st := []) (r := ("Partlister", T_X, 5)) hV.1 cb_X_needGap lk_X_45 in_X_needGap rfl se_X_needGap (lIa_ok dd3) rfl rfl (Nat.le_of_ble_eq_true rfl) (by decide) e5 m7) (k_X_needGap hV G4 a0 a1 a2) h (fun G8 _ h => ?_)
  refine Y.blk (pc' := 12) (L' := [some (.ref a0), some (.int a1), some (.int a2), none]) (st' := [.ref a0]) (sg := [(.aload_n 0, 0)]) (lSa_ok dd4) rfl ?_
  refine Y.getA fl_X_19 (lIa_ok dd5) h (fun v9 h => ?_)
  obtain ⟨_, o11, e10, m12, h⟩ := gOb_inv h
  refine Y.callI (yC.Vi (b := v9) (As := []) (st := []) (r := ("Partlister$Cursors", T_U, 5)) hV.1 cb_U_freeCursor lk_X_159 in_U_freeCursor rfl se_U_freeCursor (lIa_ok dd6) rfl rfl (Nat.le_of_ble_eq_true rfl) (by decide) e10 m12) (k_U_freeCursor hV G8 v9) h (fun v14 G13 _ h => ?_)
  refine Y.blk (pc' := 21) (L' := [some (.ref a0), some (.int a1), some (.int a2), some (.int v14)]) (st' := [.int (-1), .int v14]) (sg := [(.istore_n 3, 0), (.iload_n 3, 0), (.iconst (-1), -1)]) (lSa_ok dd7) rfl ?_
  refine Y.ic_ne (off := 13) (tgt := 34) (lIa_ok dd8) (by decide) h (fun c20 h => ?_) (fun c20 h => ?_)
  · exact Y.throwS (is := 162) (text := "there are three CURSORS") (names := zNm) hV.1 (hV.2 _ _ _ (by decide +kernel)) (by decide +kernel) (by decide +kernel) ck_X_134 ini_ISE tw_X_138 tg_X_138 (by decide) (by decide) rfl (Nat.le_of_ble_eq_true rfl) (lIa_ok dd9) (lIa_ok dd10) (lIa_ok dd11) (lIa_ok dd12) (lIa_ok dd13) h
  · refine Y.blk (pc' := 35) (L' := [some (.ref a0), some (.int a1), some (.int a2), some (.int v14)]) (st' := [.ref a0]) (sg := [(.aload_n 0, 0)]) (lSa_ok dd14) rfl ?_
    refine Y.getA fl_X_19 (lIa_ok dd15) h (fun v15 h => ?_)
    refine Y.blk (pc' := 41) (L' := [some (.ref a0), some (.int a1), some (.int a2), some (.int v14)]) (st' := [.int a2, .int a1, .int v14, .ref v15]) (sg := [(.iload_n 3, 0), (.iload_n 1, 0), (.iload_n 2, 0)]) (lSa_ok dd16) rfl ?_
    obtain ⟨_, o17, e16, m18, h⟩ := gOb_inv h
    refine Y.callN (yC.Vi (b := v15) (As := [.int v14, .int a1, .int a2]) (st := []) (r := ("Partlister$Cursors", T_U, 5)) hV.1 cb_U_start lk_X_164 in_U_start rfl se_U_start (lIa_ok dd17) rfl rfl (Nat.le_of_ble_eq_true rfl) (by decide) e16 m18) (k_U_start hV G13 v15 v14 a1 a2) h (fun G19 _ h => ?_)
    refine Y.blk (pc' := 45) (L' := [some (.ref a0), some (.int a1), some (.int a2), some (.int v14)]) (st' := [.int v14]) (sg := [(.iload_n 3, 0)]) (lSa_ok dd18) rfl ?_
    exact Y.iret rfl (lIa_ok dd19) h

def f_X_mix (G : gH) (a0 : Int64) (a2 : Int64) : gR :=
  rL ((a0 * (lN 31)) + a2) G
theorem k_X_mix {l : Launch} {D : va_G} {B : Nat} {O : State → Heap → Prop} (hV : zG l D B O) (G : gH) (a0 : Int64) (a2 : Int64) : gMet (zVm l D B O) m_X_mix 1 [.long a0, .long a2] G (f_X_mix G a0 a2) := by
  have hdd : lSa m_X_mix 0 [(.lload_n 0, 0)] = true ∧ lIa m_X_mix 1 (.ldc2_w 321) 3 = true ∧ lSa m_X_mix 4 [(.lmul, 0), (.lload_n 2, 0), (.ladd, 0)] = true ∧ lIa m_X_mix 7 (.lreturn) 1 = true := by decide +kernel
  obtain ⟨dd0, dd1, dd2, dd3⟩ := hdd
  refine gMet.of (by decide +kernel) (Nat.le_of_ble_eq_true rfl) [some (.long a0), none, some (.long a2), none] (fun ls h => zEn_ok (n := 4) h) ?_
  intro o Gf h
  unfold f_X_mix at h
  refine Y.blk (pc' := 1) (L' := [some (.long a0), none, some (.long a2), none]) (st' := [.long a0]) (sg := [(.lload_n 0, 0)]) (lSa_ok dd0) rfl ?_
  refine Y.ldc2 (v := lN 31) co_X_321 (lIa_ok dd1) ?_
  refine Y.blk (pc' := 7) (L' := [some (.long a0), none, some (.long a2), none]) (st' := [.long ((a0 * (lN 31)) + a2)]) (sg := [(.lmul, 0), (.lload_n 2, 0), (.ladd, 0)]) (lSa_ok dd2) rfl ?_
  exact Y.lret rfl (lIa_ok dd3) h

def f_I_countOf_L12 (K38 : gH → Int32 → gR) : Nat → gH → Nat → Int32 → Int32 → Int32 → Int32 → Int32 → gR
  | 0, _, _, _, _, _, _, _ => none
  | n + 1, G, x0, x1, x2, x3, x4, x5 =>
    if x3 ≤ x5 then K38 G x4
    else gOb G x0 1 fun o7 => bI (f_I_keyAt G x0 x1 x5) fun v10 G9 => if v10 = x2 then f_I_countOf_L12 K38 n G9 x0 x1 x2 x3 (x4 + (nI 1)) (x5 + (nI 1))
      else f_I_countOf_L12 K38 n G9 x0 x1 x2 x3 x4 (x5 + (nI 1))
def f_I_countOf (G : gH) (a0 : Nat) (a1 : Int32) (a2 : Int32) : gR :=
  gOb G a0 1 fun o2 => bI (f_I_lengthOf G a0 a1) fun v5 G4 => f_I_countOf_L12 (fun G14 x13 => rI x13 G14) zFu G4 a0 a1 a2 v5 (nI 0) (nI 0)
theorem k_I_countOf_L12 {l : Launch} {D : va_G} {B : Nat} {O : State → Heap → Prop} (hV : zG l D B O) {o : gO} {Gf : gH} (K38 : gH → Int32 → gR) (hK38 : ∀ (G : gH) (x4 : Int32), K38 G x4 = some (o, Gf) → Y (zVm l D B O) m_I_countOf 4 o Gf 38 [none, none, none, none, some (.int x4), none] [] G) : ∀ (n : Nat) (G : gH) (x0 : Nat) (x1 : Int32) (x2 : Int32) (x3 : Int32) (x4 : Int32) (x5 : Int32), f_I_countOf_L12 K38 n G x0 x1 x2 x3 x4 x5 = some (o, Gf) → Y (zVm l D B O) m_I_countOf 4 o Gf 12 [some (.ref x0), some (.int x1), some (.int x2), some (.int x3), some (.int x4), some (.int x5)] [] G := by
  have hdd : lSa m_I_countOf 12 [(.iload 5, 0), (.iload_n 3, 0)] = true ∧ lIa m_I_countOf 15 (.if_icmp .ge 23) 3 = true ∧ lSa m_I_countOf 18 [(.aload_n 0, 0), (.iload_n 1, 0), (.iload 5, 0)] = true ∧ lIa m_I_countOf 22 (.invokevirtual 101) 3 = true ∧ lSa m_I_countOf 25 [(.iload_n 2, 0)] = true ∧ lIa m_I_countOf 26 (.if_icmp .ne 6) 3 = true ∧ lSa m_I_countOf 29 [(.iinc 4 1, nI 1), (.iinc 5 1, nI 1)] = true ∧ lIa m_I_countOf 35 (.goto (-23)) 3 = true ∧ lSa m_I_countOf 32 [(.iinc 5 1, nI 1)] = true := by decide +kernel
  refine lA8 hdd (fun dd0 dd1 dd2 dd3 dd4 dd5 dd6 dd7 hdd => ?_)
  have dd8 := hdd
  intro n
  induction n with
  | zero => intro G x0 x1 x2 x3 x4 x5 h; cases h
  | succ n ih =>
    intro G x0 x1 x2 x3 x4 x5 h
    unfold f_I_countOf_L12 at h
    refine Y.blk (pc' := 15) (L' := [some (.ref x0), some (.int x1), some (.int x2), some (.int x3), some (.int x4), some (.int x5)]) (st' := [.int x3, .int x5]) (sg := [(.iload 5, 0), (.iload_n 3, 0)]) (lSa_ok dd0) rfl ?_
    refine Y.ic_ge (off := 23) (tgt := 38) (lIa_ok dd1) (by decide) h (fun c12 h => ?_) (fun c12 h => ?_)
    · refine Y.less (L' := [none, none, none, none, some (.int x4), none]) (zLe_none (zLe_none (zLe_none (zLe_none (zLe_some (zLe_none (zLe_nil))))))) ?_
      exact hK38 G x4 h
    · refine Y.blk (pc' := 22) (L' := [some (.ref x0), some (.int x1), some (.int x2), some (.int x3), some (.int x4), some (.int x5)]) (st' := [.int x5, .int x1, .ref x0]) (sg := [(.aload_n 0, 0), (.iload_n 1, 0), (.iload 5, 0)]) (lSa_ok dd2) rfl ?_
      obtain ⟨_, o7, e6, m8, h⟩ := gOb_inv h
      refine Y.callI (yC.Vi (b := x0) (As := [.int x1, .int x5]) (st := []) (r := ("Partlister$Lists", T_I, 7)) hV.1 cb_I_keyAt lk_I_101 in_I_keyAt rfl se_I_keyAt (lIa_ok dd3) rfl rfl (Nat.le_of_ble_eq_true rfl) (by decide) e6 m8) (k_I_keyAt hV G x0 x1 x5) h (fun v10 G9 _ h => ?_)
      refine Y.blk (pc' := 26) (L' := [some (.ref x0), some (.int x1), some (.int x2), some (.int x3), some (.int x4), some (.int x5)]) (st' := [.int x2, .int v10]) (sg := [(.iload_n 2, 0)]) (lSa_ok dd4) rfl ?_
      refine Y.ic_ne (off := 6) (tgt := 32) (lIa_ok dd5) (by decide) h (fun c11 h => ?_) (fun c11 h => ?_)
      · refine Y.blk (pc' := 35) (L' := [some (.ref x0), some (.int x1), some (.int x2), some (.int x3), some (.int (x4 + (nI 1))), some (.int (x5 + (nI 1)))]) (st' := []) (sg := [(.iinc 4 1, nI 1), (.iinc 5 1, nI 1)]) (lSa_ok dd6) rfl ?_
        refine Y.goto (off := -23) (tgt := 12) (lIa_ok dd7) (by decide) ?_
        exact ih G9 x0 x1 x2 x3 (x4 + (nI 1)) (x5 + (nI 1)) h
      · refine Y.blk (pc' := 35) (L' := [some (.ref x0), some (.int x1), some (.int x2), some (.int x3), some (.int x4), some (.int (x5 + (nI 1)))]) (st' := []) (sg := [(.iinc 5 1, nI 1)]) (lSa_ok dd8) rfl ?_
        refine Y.goto (off := -23) (tgt := 12) (lIa_ok dd7) (by decide) ?_
        exact ih G9 x0 x1 x2 x3 x4 (x5 + (nI 1)) h
theorem k_I_countOf {l : Launch} {D : va_G} {B : Nat} {O : State → Heap → Prop} (hV : zG l D B O) (G : gH) (a0 : Nat) (a1 : Int32) (a2 : Int32) : gMet (zVm l D B O) m_I_countOf 4 [.ref a0, .int a1, .int a2] G (f_I_countOf G a0 a1 a2) := by
  have hdd : lSa m_I_countOf 0 [(.aload_n 0, 0), (.iload_n 1, 0)] = true ∧ lIa m_I_countOf 2 (.invokevirtual 59) 3 = true ∧ lSa m_I_countOf 5 [(.istore_n 3, 0), (.iconst 0, nI 0), (.istore 4, 0), (.iconst 0, nI 0), (.istore 5, 0)] = true ∧ lSa m_I_countOf 38 [(.iload 4, 0)] = true ∧ lIa m_I_countOf 40 (.ireturn) 1 = true := by decide +kernel
  obtain ⟨dd0, dd1, dd2, dd3, dd4⟩ := hdd
  refine gMet.of (by decide +kernel) (Nat.le_of_ble_eq_true rfl) [some (.ref a0), some (.int a1), some (.int a2), none, none, none] (fun ls h => zEn_ok (n := 6) h) ?_
  intro o Gf h
  unfold f_I_countOf at h
  refine Y.blk (pc' := 2) (L' := [some (.ref a0), some (.int a1), some (.int a2), none, none, none]) (st' := [.int a1, .ref a0]) (sg := [(.aload_n 0, 0), (.iload_n 1, 0)]) (lSa_ok dd0) rfl ?_
  obtain ⟨_, o2, e1, m3, h⟩ := gOb_inv h
  refine Y.callI (yC.Vi (b := a0) (As := [.int a1]) (st := []) (r := ("Partlister$Lists", T_I, 7)) hV.1 cb_I_lengthOf lk_I_59 in_I_lengthOf rfl se_I_lengthOf (lIa_ok dd1) rfl rfl (Nat.le_of_ble_eq_true rfl) (by decide) e1 m3) (k_I_lengthOf hV G a0 a1) h (fun v5 G4 _ h => ?_)
  refine Y.blk (pc' := 12) (L' := [some (.ref a0), some (.int a1), some (.int a2), some (.int v5), some (.int (nI 0)), some (.int (nI 0))]) (st' := []) (sg := [(.istore_n 3, 0), (.iconst 0, nI 0), (.istore 4, 0), (.iconst 0, nI 0), (.istore 5, 0)]) (lSa_ok dd2) rfl ?_
  refine k_I_countOf_L12 hV _ ?_  zFu G4 a0 a1 a2 v5 (nI 0) (nI 0) h
  · intro G14 x13 h
    refine Y.blk (pc' := 40) (L' := [none, none, none, none, some (.int x13), none]) (st' := [.int x13]) (sg := [(.iload 4, 0)]) (lSa_ok dd3) rfl ?_
    exact Y.iret rfl (lIa_ok dd4) h

def f_I_extremeKey_L12 (K64 : gH → Int32 → gR) : Nat → gH → Nat → Int32 → Int32 → Int32 → Int32 → Int32 → gR
  | 0, _, _, _, _, _, _, _ => none
  | n + 1, G, x0, x1, x2, x3, x4, x5 =>
    if x3 ≤ x5 then K64 G x4
    else gOb G x0 1 fun o7 => bI (f_I_keyAt G x0 x1 x5) fun v10 G9 => if x4 = (-1) then f_I_extremeKey_L12 K64 n G9 x0 x1 x2 x3 v10 (x5 + (nI 1))
      else if x2 = 0 then (if v10 ≤ x4 then f_I_extremeKey_L12 K64 n G9 x0 x1 x2 x3 x4 (x5 + (nI 1))
          else f_I_extremeKey_L12 K64 n G9 x0 x1 x2 x3 v10 (x5 + (nI 1)))
        else if x4 ≤ v10 then f_I_extremeKey_L12 K64 n G9 x0 x1 x2 x3 x4 (x5 + (nI 1))
          else f_I_extremeKey_L12 K64 n G9 x0 x1 x2 x3 v10 (x5 + (nI 1))
def f_I_extremeKey (G : gH) (a0 : Nat) (a1 : Int32) (a2 : Int32) : gR :=
  gOb G a0 1 fun o2 => bI (f_I_lengthOf G a0 a1) fun v5 G4 => f_I_extremeKey_L12 (fun G17 x16 => rI x16 G17) zFu G4 a0 a1 a2 v5 (-1) (nI 0)
theorem k_I_extremeKey_L12 {l : Launch} {D : va_G} {B : Nat} {O : State → Heap → Prop} (hV : zG l D B O) {o : gO} {Gf : gH} (K64 : gH → Int32 → gR) (hK64 : ∀ (G : gH) (x4 : Int32), K64 G x4 = some (o, Gf) → Y (zVm l D B O) m_I_extremeKey 4 o Gf 64 [none, none, none, none, some (.int x4), none, none] [] G) : ∀ (n : Nat) (G : gH) (x0 : Nat) (x1 : Int32) (x2 : Int32) (x3 : Int32) (x4 : Int32) (x5 : Int32), f_I_extremeKey_L12 K64 n G x0 x1 x2 x3 x4 x5 = some (o, Gf) → Y (zVm l D B O) m_I_extremeKey 4 o Gf 12 [some (.ref x0), some (.int x1), some (.int x2), some (.int x3), some (.int x4), some (.int x5), none] [] G := by
  have hdd : lSa m_I_extremeKey 12 [(.iload 5, 0), (.iload_n 3, 0)] = true ∧ lIa m_I_extremeKey 15 (.if_icmp .ge 49) 3 = true ∧ lSa m_I_extremeKey 18 [(.aload_n 0, 0), (.iload_n 1, 0), (.iload 5, 0)] = true ∧ lIa m_I_extremeKey 22 (.invokevirtual 101) 3 = true ∧ lSa m_I_extremeKey 25 [(.istore 6, 0), (.iload 4, 0), (.iconst (-1), -1)] = true ∧ lIa m_I_extremeKey 30 (.if_icmp .eq 24) 3 = true ∧ lSa m_I_extremeKey 54 [(.iload 6, 0), (.istore 4, 0), (.iinc 5 1, nI 1)] = true ∧ lIa m_I_extremeKey 61 (.goto (-49)) 3 = true ∧ lSa m_I_extremeKey 33 [(.iload_n 2, 0)] = true ∧ lIa m_I_extremeKey 34 (.ifCond .eq 13) 3 = true ∧ lSa m_I_extremeKey 47 [(.iload 6, 0), (.iload 4, 0)] = true ∧ lIa m_I_extremeKey 51 (.if_icmp .le 7) 3 = true ∧ lSa m_I_extremeKey 58 [(.iinc 5 1, nI 1)] = true ∧ lSa m_I_extremeKey 37 [(.iload 6, 0), (.iload 4, 0)] = true ∧ lIa m_I_extremeKey 41 (.if_icmp .ge 17) 3 = true ∧ lIa m_I_extremeKey 44 (.goto 10) 3 = true := by decide +kernel
  refine lA8 hdd (fun dd0 dd1 dd2 dd3 dd4 dd5 dd6 dd7 hdd => ?_)
  obtain ⟨dd8, dd9, dd10, dd11, dd12, dd13, dd14, dd15⟩ := hdd
  intro n
  induction n with
  | zero => intro G x0 x1 x2 x3 x4 x5 h; cases h
  | succ n ih =>
    intro G x0 x1 x2 x3 x4 x5 h
    unfold f_I_extremeKey_L12 at h
    refine Y.blk (pc' := 15) (L' := [some (.ref x0), some (.int x1), some (.int x2), some (.int x3), some (.int x4), some (.int x5), none]) (st' := [.int x3, .int x5]) (sg := [(.iload 5, 0), (.iload_n 3, 0)]) (lSa_ok dd0) rfl ?_
    refine Y.ic_ge (off := 49) (tgt := 64) (lIa_ok dd1) (by decide) h (fun c15 h => ?_) (fun c15 h => ?_)
    · refine Y.less (L' := [none, none, none, none, some (.int x4), none, none]) (zLe_none (zLe_none (zLe_none (zLe_none (zLe_some (zLe_none (zLe_some (zLe_nil)))))))) ?_
      exact hK64 G x4 h
    · refine Y.blk (pc' := 22) (L' := [some (.ref x0), some (.int x1), some (.int x2), some (.int x3), some (.int x4), some (.int x5), none]) (st' := [.int x5, .int x1, .ref x0]) (sg := [(.aload_n 0, 0), (.iload_n 1, 0), (.iload 5, 0)]) (lSa_ok dd2) rfl ?_
      obtain ⟨_, o7, e6, m8, h⟩ := gOb_inv h
      refine Y.callI (yC.Vi (b := x0) (As := [.int x1, .int x5]) (st := []) (r := ("Partlister$Lists", T_I, 7)) hV.1 cb_I_keyAt lk_I_101 in_I_keyAt rfl se_I_keyAt (lIa_ok dd3) rfl rfl (Nat.le_of_ble_eq_true rfl) (by decide) e6 m8) (k_I_keyAt hV G x0 x1 x5) h (fun v10 G9 _ h => ?_)
      refine Y.blk (pc' := 30) (L' := [some (.ref x0), some (.int x1), some (.int x2), some (.int x3), some (.int x4), some (.int x5), some (.int v10)]) (st' := [.int (-1), .int x4]) (sg := [(.istore 6, 0), (.iload 4, 0), (.iconst (-1), -1)]) (lSa_ok dd4) rfl ?_
      refine Y.ic_eq (off := 24) (tgt := 54) (lIa_ok dd5) (by decide) h (fun c14 h => ?_) (fun c14 h => ?_)
      · refine Y.blk (pc' := 61) (L' := [some (.ref x0), some (.int x1), some (.int x2), some (.int x3), some (.int v10), some (.int (x5 + (nI 1))), some (.int v10)]) (st' := []) (sg := [(.iload 6, 0), (.istore 4, 0), (.iinc 5 1, nI 1)]) (lSa_ok dd6) rfl ?_
        refine Y.goto (off := -49) (tgt := 12) (lIa_ok dd7) (by decide) ?_
        refine Y.less (L' := [some (.ref x0), some (.int x1), some (.int x2), some (.int x3), some (.int v10), some (.int (x5 + (nI 1))), none]) (zLe_some (zLe_some (zLe_some (zLe_some (zLe_some (zLe_some (zLe_none (zLe_nil)))))))) ?_
        exact ih G9 x0 x1 x2 x3 v10 (x5 + (nI 1)) h
      · refine Y.blk (pc' := 34) (L' := [some (.ref x0), some (.int x1), some (.int x2), some (.int x3), some (.int x4), some (.int x5), some (.int v10)]) (st' := [.int x2]) (sg := [(.iload_n 2, 0)]) (lSa_ok dd8) rfl ?_
        refine Y.if_eq (off := 13) (tgt := 47) (lIa_ok dd9) (by decide) h (fun c13 h => ?_) (fun c13 h => ?_)
        · refine Y.blk (pc' := 51) (L' := [some (.ref x0), some (.int x1), some (.int x2), some (.int x3), some (.int x4), some (.int x5), some (.int v10)]) (st' := [.int x4, .int v10]) (sg := [(.iload 6, 0), (.iload 4, 0)]) (lSa_ok dd10) rfl ?_
          refine Y.ic_le (off := 7) (tgt := 58) (lIa_ok dd11) (by decide) h (fun c11 h => ?_) (fun c11 h => ?_)
          · refine Y.blk (pc' := 61) (L' := [some (.ref x0), some (.int x1), some (.int x2), some (.int x3), some (.int x4), some (.int (x5 + (nI 1))), some (.int v10)]) (st' := []) (sg := [(.iinc 5 1, nI 1)]) (lSa_ok dd12) rfl ?_
            refine Y.goto (off := -49) (tgt := 12) (lIa_ok dd7) (by decide) ?_
            refine Y.less (L' := [some (.ref x0), some (.int x1), some (.int x2), some (.int x3), some (.int x4), some (.int (x5 + (nI 1))), none]) (zLe_some (zLe_some (zLe_some (zLe_some (zLe_some (zLe_some (zLe_none (zLe_nil)))))))) ?_
            exact ih G9 x0 x1 x2 x3 x4 (x5 + (nI 1)) h
          · refine Y.blk (pc' := 61) (L' := [some (.ref x0), some (.int x1), some (.int x2), some (.int x3), some (.int v10), some (.int (x5 + (nI 1))), some (.int v10)]) (st' := []) (sg := [(.iload 6, 0), (.istore 4, 0), (.iinc 5 1, nI 1)]) (lSa_ok dd6) rfl ?_
            refine Y.goto (off := -49) (tgt := 12) (lIa_ok dd7) (by decide) ?_
            refine Y.less (L' := [some (.ref x0), some (.int x1), some (.int x2), some (.int x3), some (.int v10), some (.int (x5 + (nI 1))), none]) (zLe_some (zLe_some (zLe_some (zLe_some (zLe_some (zLe_some (zLe_none (zLe_nil)))))))) ?_
            exact ih G9 x0 x1 x2 x3 v10 (x5 + (nI 1)) h
        · refine Y.blk (pc' := 41) (L' := [some (.ref x0), some (.int x1), some (.int x2), some (.int x3), some (.int x4), some (.int x5), some (.int v10)]) (st' := [.int x4, .int v10]) (sg := [(.iload 6, 0), (.iload 4, 0)]) (lSa_ok dd13) rfl ?_
          refine Y.ic_ge (off := 17) (tgt := 58) (lIa_ok dd14) (by decide) h (fun c12 h => ?_) (fun c12 h => ?_)
          · refine Y.blk (pc' := 61) (L' := [some (.ref x0), some (.int x1), some (.int x2), some (.int x3), some (.int x4), some (.int (x5 + (nI 1))), some (.int v10)]) (st' := []) (sg := [(.iinc 5 1, nI 1)]) (lSa_ok dd12) rfl ?_
            refine Y.goto (off := -49) (tgt := 12) (lIa_ok dd7) (by decide) ?_
            refine Y.less (L' := [some (.ref x0), some (.int x1), some (.int x2), some (.int x3), some (.int x4), some (.int (x5 + (nI 1))), none]) (zLe_some (zLe_some (zLe_some (zLe_some (zLe_some (zLe_some (zLe_none (zLe_nil)))))))) ?_
            exact ih G9 x0 x1 x2 x3 x4 (x5 + (nI 1)) h
          · refine Y.goto (off := 10) (tgt := 54) (lIa_ok dd15) (by decide) ?_
            refine Y.blk (pc' := 61) (L' := [some (.ref x0), some (.int x1), some (.int x2), some (.int x3), some (.int v10), some (.int (x5 + (nI 1))), some (.int v10)]) (st' := []) (sg := [(.iload 6, 0), (.istore 4, 0), (.iinc 5 1, nI 1)]) (lSa_ok dd6) rfl ?_
            refine Y.goto (off := -49) (tgt := 12) (lIa_ok dd7) (by decide) ?_
            refine Y.less (L' := [some (.ref x0), some (.int x1), some (.int x2), some (.int x3), some (.int v10), some (.int (x5 + (nI 1))), none]) (zLe_some (zLe_some (zLe_some (zLe_some (zLe_some (zLe_some (zLe_none (zLe_nil)))))))) ?_
            exact ih G9 x0 x1 x2 x3 v10 (x5 + (nI 1)) h
theorem k_I_extremeKey {l : Launch} {D : va_G} {B : Nat} {O : State → Heap → Prop} (hV : zG l D B O) (G : gH) (a0 : Nat) (a1 : Int32) (a2 : Int32) : gMet (zVm l D B O) m_I_extremeKey 4 [.ref a0, .int a1, .int a2] G (f_I_extremeKey G a0 a1 a2) := by
  have hdd : lSa m_I_extremeKey 0 [(.aload_n 0, 0), (.iload_n 1, 0)] = true ∧ lIa m_I_extremeKey 2 (.invokevirtual 59) 3 = true ∧ lSa m_I_extremeKey 5 [(.istore_n 3, 0), (.iconst (-1), -1), (.istore 4, 0), (.iconst 0, nI 0), (.istore 5, 0)] = true ∧ lSa m_I_extremeKey 64 [(.iload 4, 0)] = true ∧ lIa m_I_extremeKey 66 (.ireturn) 1 = true := by decide +kernel
  obtain ⟨dd0, dd1, dd2, dd3, dd4⟩ := hdd
  refine gMet.of (by decide +kernel) (Nat.le_of_ble_eq_true rfl) [some (.ref a0), some (.int a1), some (.int a2), none, none, none, none] (fun ls h => zEn_ok (n := 7) h) ?_
  intro o Gf h
  unfold f_I_extremeKey at h
  refine Y.blk (pc' := 2) (L' := [some (.ref a0), some (.int a1), some (.int a2), none, none, none, none]) (st' := [.int a1, .ref a0]) (sg := [(.aload_n 0, 0), (.iload_n 1, 0)]) (lSa_ok dd0) rfl ?_
  obtain ⟨_, o2, e1, m3, h⟩ := gOb_inv h
  refine Y.callI (yC.Vi (b := a0) (As := [.int a1]) (st := []) (r := ("Partlister$Lists", T_I, 7)) hV.1 cb_I_lengthOf lk_I_59 in_I_lengthOf rfl se_I_lengthOf (lIa_ok dd1) rfl rfl (Nat.le_of_ble_eq_true rfl) (by decide) e1 m3) (k_I_lengthOf hV G a0 a1) h (fun v5 G4 _ h => ?_)
  refine Y.blk (pc' := 12) (L' := [some (.ref a0), some (.int a1), some (.int a2), some (.int v5), some (.int (-1)), some (.int (nI 0)), none]) (st' := []) (sg := [(.istore_n 3, 0), (.iconst (-1), -1), (.istore 4, 0), (.iconst 0, nI 0), (.istore 5, 0)]) (lSa_ok dd2) rfl ?_
  refine k_I_extremeKey_L12 hV _ ?_  zFu G4 a0 a1 a2 v5 (-1) (nI 0) h
  · intro G17 x16 h
    refine Y.blk (pc' := 66) (L' := [none, none, none, none, some (.int x16), none, none]) (st' := [.int x16]) (sg := [(.iload 4, 0)]) (lSa_ok dd3) rfl ?_
    exact Y.iret rfl (lIa_ok dd4) h
end
section
def f_I_firstOf_L9 (K26 : gH → Int32 → gR) (K35 : gH → gR) : Nat → gH → Nat → Int32 → Int32 → Int32 → Int32 → gR
  | 0, _, _, _, _, _, _ => none
  | n + 1, G, x0, x1, x2, x3, x4 =>
    if x3 ≤ x4 then K35 G
    else gOb G x0 1 fun o7 => bI (f_I_keyAt G x0 x1 x4) fun v10 G9 => if v10 = x2 then K26 G9 x4
      else f_I_firstOf_L9 K26 K35 n G9 x0 x1 x2 x3 (x4 + (nI 1))
def f_I_firstOf (G : gH) (a0 : Nat) (a1 : Int32) (a2 : Int32) : gR :=
  gOb G a0 1 fun o2 => bI (f_I_lengthOf G a0 a1) fun v5 G4 => f_I_firstOf_L9 (fun G14 x13 => rI x13 G14) (fun G15 => rI (-1) G15) zFu G4 a0 a1 a2 v5 (nI 0)
theorem k_I_firstOf_L9 {l : Launch} {D : va_G} {B : Nat} {O : State → Heap → Prop} (hV : zG l D B O) {o : gO} {Gf : gH} (K26 : gH → Int32 → gR) (K35 : gH → gR) (hK26 : ∀ (G : gH) (x4 : Int32), K26 G x4 = some (o, Gf) → Y (zVm l D B O) m_I_firstOf 4 o Gf 26 [none, none, none, none, some (.int x4)] [] G) (hK35 : ∀ (G : gH), K35 G  = some (o, Gf) → Y (zVm l D B O) m_I_firstOf 4 o Gf 35 [none, none, none, none, none] [] G) : ∀ (n : Nat) (G : gH) (x0 : Nat) (x1 : Int32) (x2 : Int32) (x3 : Int32) (x4 : Int32), f_I_firstOf_L9 K26 K35 n G x0 x1 x2 x3 x4 = some (o, Gf) → Y (zVm l D B O) m_I_firstOf 4 o Gf 9 [some (.ref x0), some (.int x1), some (.int x2), some (.int x3), some (.int x4)] [] G := by
  have hdd : lSa m_I_firstOf 9 [(.iload 4, 0), (.iload_n 3, 0)] = true ∧ lIa m_I_firstOf 12 (.if_icmp .ge 23) 3 = true ∧ lSa m_I_firstOf 15 [(.aload_n 0, 0), (.iload_n 1, 0), (.iload 4, 0)] = true ∧ lIa m_I_firstOf 19 (.invokevirtual 101) 3 = true ∧ lSa m_I_firstOf 22 [(.iload_n 2, 0)] = true ∧ lIa m_I_firstOf 23 (.if_icmp .ne 6) 3 = true ∧ lSa m_I_firstOf 29 [(.iinc 4 1, nI 1)] = true ∧ lIa m_I_firstOf 32 (.goto (-23)) 3 = true := by decide +kernel
  obtain ⟨dd0, dd1, dd2, dd3, dd4, dd5, dd6, dd7⟩ := hdd
  intro n
  induction n with
  | zero => intro G x0 x1 x2 x3 x4 h; cases h
  | succ n ih =>
    intro G x0 x1 x2 x3 x4 h
    unfold f_I_firstOf_L9 at h
    refine Y.blk (pc' := 12) (L' := [some (.ref x0), some (.int x1), some (.int x2), some (.int x3), some (.int x4)]) (st' := [.int x3, .int x4]) (sg := [(.iload 4, 0), (.iload_n 3, 0)]) (lSa_ok dd0) rfl ?_
    refine Y.ic_ge (off := 23) (tgt := 35) (lIa_ok dd1) (by decide) h (fun c12 h => ?_) (fun c12 h => ?_)
    · refine Y.less (L' := [none, none, none, none, none]) (zLe_none (zLe_none (zLe_none (zLe_none (zLe_none (zLe_nil)))))) ?_
      exact hK35 G  h
    · refine Y.blk (pc' := 19) (L' := [some (.ref x0), some (.int x1), some (.int x2), some (.int x3), some (.int x4)]) (st' := [.int x4, .int x1, .ref x0]) (sg := [(.aload_n 0, 0), (.iload_n 1, 0), (.iload 4, 0)]) (lSa_ok dd2) rfl ?_
      obtain ⟨_, o7, e6, m8, h⟩ := gOb_inv h
      refine Y.callI (yC.Vi (b := x0) (As := [.int x1, .int x4]) (st := []) (r := ("Partlister$Lists", T_I, 7)) hV.1 cb_I_keyAt lk_I_101 in_I_keyAt rfl se_I_keyAt (lIa_ok dd3) rfl rfl (Nat.le_of_ble_eq_true rfl) (by decide) e6 m8) (k_I_keyAt hV G x0 x1 x4) h (fun v10 G9 _ h => ?_)
      refine Y.blk (pc' := 23) (L' := [some (.ref x0), some (.int x1), some (.int x2), some (.int x3), some (.int x4)]) (st' := [.int x2, .int v10]) (sg := [(.iload_n 2, 0)]) (lSa_ok dd4) rfl ?_
      refine Y.ic_ne (off := 6) (tgt := 29) (lIa_ok dd5) (by decide) h (fun c11 h => ?_) (fun c11 h => ?_)
      · refine Y.less (L' := [none, none, none, none, some (.int x4)]) (zLe_none (zLe_none (zLe_none (zLe_none (zLe_some (zLe_nil)))))) ?_
        exact hK26 G9 x4 h
      · refine Y.blk (pc' := 32) (L' := [some (.ref x0), some (.int x1), some (.int x2), some (.int x3), some (.int (x4 + (nI 1)))]) (st' := []) (sg := [(.iinc 4 1, nI 1)]) (lSa_ok dd6) rfl ?_
        refine Y.goto (off := -23) (tgt := 9) (lIa_ok dd7) (by decide) ?_
        exact ih G9 x0 x1 x2 x3 (x4 + (nI 1)) h
theorem k_I_firstOf {l : Launch} {D : va_G} {B : Nat} {O : State → Heap → Prop} (hV : zG l D B O) (G : gH) (a0 : Nat) (a1 : Int32) (a2 : Int32) : gMet (zVm l D B O) m_I_firstOf 4 [.ref a0, .int a1, .int a2] G (f_I_firstOf G a0 a1 a2) := by
  have hdd : lSa m_I_firstOf 0 [(.aload_n 0, 0), (.iload_n 1, 0)] = true ∧ lIa m_I_firstOf 2 (.invokevirtual 59) 3 = true ∧ lSa m_I_firstOf 5 [(.istore_n 3, 0), (.iconst 0, nI 0), (.istore 4, 0)] = true ∧ lSa m_I_firstOf 26 [(.iload 4, 0)] = true ∧ lIa m_I_firstOf 28 (.ireturn) 1 = true ∧ lSa m_I_firstOf 35 [(.iconst (-1), -1)] = true ∧ lIa m_I_firstOf 36 (.ireturn) 1 = true := by decide +kernel
  obtain ⟨dd0, dd1, dd2, dd3, dd4, dd5, dd6⟩ := hdd
  refine gMet.of (by decide +kernel) (Nat.le_of_ble_eq_true rfl) [some (.ref a0), some (.int a1), some (.int a2), none, none] (fun ls h => zEn_ok (n := 5) h) ?_
  intro o Gf h
  unfold f_I_firstOf at h
  refine Y.blk (pc' := 2) (L' := [some (.ref a0), some (.int a1), some (.int a2), none, none]) (st' := [.int a1, .ref a0]) (sg := [(.aload_n 0, 0), (.iload_n 1, 0)]) (lSa_ok dd0) rfl ?_
  obtain ⟨_, o2, e1, m3, h⟩ := gOb_inv h
  refine Y.callI (yC.Vi (b := a0) (As := [.int a1]) (st := []) (r := ("Partlister$Lists", T_I, 7)) hV.1 cb_I_lengthOf lk_I_59 in_I_lengthOf rfl se_I_lengthOf (lIa_ok dd1) rfl rfl (Nat.le_of_ble_eq_true rfl) (by decide) e1 m3) (k_I_lengthOf hV G a0 a1) h (fun v5 G4 _ h => ?_)
  refine Y.blk (pc' := 9) (L' := [some (.ref a0), some (.int a1), some (.int a2), some (.int v5), some (.int (nI 0))]) (st' := []) (sg := [(.istore_n 3, 0), (.iconst 0, nI 0), (.istore 4, 0)]) (lSa_ok dd2) rfl ?_
  refine k_I_firstOf_L9 hV _ _ ?_ ?_  zFu G4 a0 a1 a2 v5 (nI 0) h
  · intro G14 x13 h
    refine Y.blk (pc' := 28) (L' := [none, none, none, none, some (.int x13)]) (st' := [.int x13]) (sg := [(.iload 4, 0)]) (lSa_ok dd3) rfl ?_
    exact Y.iret rfl (lIa_ok dd4) h
  · intro G15 h
    refine Y.blk (pc' := 36) (L' := [none, none, none, none, none]) (st' := [.int (-1)]) (sg := [(.iconst (-1), -1)]) (lSa_ok dd5) rfl ?_
    exact Y.iret rfl (lIa_ok dd6) h

def f_I_hashOf_L11 (K36 : gH → Int32 → gR) : Nat → gH → Nat → Int32 → Int32 → Int32 → Int32 → gR
  | 0, _, _, _, _, _, _ => none
  | n + 1, G, x0, x1, x2, x3, x4 =>
    if x2 ≤ x4 then K36 G x3
    else gOb G x0 1 fun o7 => bI (f_I_keyAt G x0 x1 x4) fun v10 G9 => f_I_hashOf_L11 K36 n G9 x0 x1 x2 ((x3 * (nI 31)) + v10) (x4 + (nI 1))
def f_I_hashOf (G : gH) (a0 : Nat) (a1 : Int32) : gR :=
  gOb G a0 1 fun o2 => bI (f_I_lengthOf G a0 a1) fun v5 G4 => f_I_hashOf_L11 (fun G13 x12 => rI x12 G13) zFu G4 a0 a1 v5 (nI 1) (nI 0)
theorem k_I_hashOf_L11 {l : Launch} {D : va_G} {B : Nat} {O : State → Heap → Prop} (hV : zG l D B O) {o : gO} {Gf : gH} (K36 : gH → Int32 → gR) (hK36 : ∀ (G : gH) (x3 : Int32), K36 G x3 = some (o, Gf) → Y (zVm l D B O) m_I_hashOf 4 o Gf 36 [none, none, none, some (.int x3), none] [] G) : ∀ (n : Nat) (G : gH) (x0 : Nat) (x1 : Int32) (x2 : Int32) (x3 : Int32) (x4 : Int32), f_I_hashOf_L11 K36 n G x0 x1 x2 x3 x4 = some (o, Gf) → Y (zVm l D B O) m_I_hashOf 4 o Gf 11 [some (.ref x0), some (.int x1), some (.int x2), some (.int x3), some (.int x4)] [] G := by
  have hdd : lSa m_I_hashOf 11 [(.iload 4, 0), (.iload_n 2, 0)] = true ∧ lIa m_I_hashOf 14 (.if_icmp .ge 22) 3 = true ∧ lSa m_I_hashOf 17 [(.iload_n 3, 0), (.bipush 31, nI 31), (.imul, 0), (.aload_n 0, 0), (.iload_n 1, 0), (.iload 4, 0)] = true ∧ lIa m_I_hashOf 25 (.invokevirtual 101) 3 = true ∧ lSa m_I_hashOf 28 [(.iadd, 0), (.istore_n 3, 0), (.iinc 4 1, nI 1)] = true ∧ lIa m_I_hashOf 33 (.goto (-22)) 3 = true := by decide +kernel
  obtain ⟨dd0, dd1, dd2, dd3, dd4, dd5⟩ := hdd
  intro n
  induction n with
  | zero => intro G x0 x1 x2 x3 x4 h; cases h
  | succ n ih =>
    intro G x0 x1 x2 x3 x4 h
    unfold f_I_hashOf_L11 at h
    refine Y.blk (pc' := 14) (L' := [some (.ref x0), some (.int x1), some (.int x2), some (.int x3), some (.int x4)]) (st' := [.int x2, .int x4]) (sg := [(.iload 4, 0), (.iload_n 2, 0)]) (lSa_ok dd0) rfl ?_
    refine Y.ic_ge (off := 22) (tgt := 36) (lIa_ok dd1) (by decide) h (fun c11 h => ?_) (fun c11 h => ?_)
    · refine Y.less (L' := [none, none, none, some (.int x3), none]) (zLe_none (zLe_none (zLe_none (zLe_some (zLe_none (zLe_nil)))))) ?_
      exact hK36 G x3 h
    · refine Y.blk (pc' := 25) (L' := [some (.ref x0), some (.int x1), some (.int x2), some (.int x3), some (.int x4)]) (st' := [.int x4, .int x1, .ref x0, .int (x3 * (nI 31))]) (sg := [(.iload_n 3, 0), (.bipush 31, nI 31), (.imul, 0), (.aload_n 0, 0), (.iload_n 1, 0), (.iload 4, 0)]) (lSa_ok dd2) rfl ?_
      obtain ⟨_, o7, e6, m8, h⟩ := gOb_inv h
      refine Y.callI (yC.Vi (b := x0) (As := [.int x1, .int x4]) (st := [.int (x3 * (nI 31))]) (r := ("Partlister$Lists", T_I, 7)) hV.1 cb_I_keyAt lk_I_101 in_I_keyAt rfl se_I_keyAt (lIa_ok dd3) rfl rfl (Nat.le_of_ble_eq_true rfl) (by decide) e6 m8) (k_I_keyAt hV G x0 x1 x4) h (fun v10 G9 _ h => ?_)
      refine Y.blk (pc' := 33) (L' := [some (.ref x0), some (.int x1), some (.int x2), some (.int ((x3 * (nI 31)) + v10)), some (.int (x4 + (nI 1)))]) (st' := []) (sg := [(.iadd, 0), (.istore_n 3, 0), (.iinc 4 1, nI 1)]) (lSa_ok dd4) rfl ?_
      refine Y.goto (off := -22) (tgt := 11) (lIa_ok dd5) (by decide) ?_
      exact ih G9 x0 x1 x2 ((x3 * (nI 31)) + v10) (x4 + (nI 1)) h
theorem k_I_hashOf {l : Launch} {D : va_G} {B : Nat} {O : State → Heap → Prop} (hV : zG l D B O) (G : gH) (a0 : Nat) (a1 : Int32) : gMet (zVm l D B O) m_I_hashOf 4 [.ref a0, .int a1] G (f_I_hashOf G a0 a1) := by
  have hdd : lSa m_I_hashOf 0 [(.aload_n 0, 0), (.iload_n 1, 0)] = true ∧ lIa m_I_hashOf 2 (.invokevirtual 59) 3 = true ∧ lSa m_I_hashOf 5 [(.istore_n 2, 0), (.iconst 1, nI 1), (.istore_n 3, 0), (.iconst 0, nI 0), (.istore 4, 0)] = true ∧ lSa m_I_hashOf 36 [(.iload_n 3, 0)] = true ∧ lIa m_I_hashOf 37 (.ireturn) 1 = true := by decide +kernel
  obtain ⟨dd0, dd1, dd2, dd3, dd4⟩ := hdd
  refine gMet.of (by decide +kernel) (Nat.le_of_ble_eq_true rfl) [some (.ref a0), some (.int a1), none, none, none] (fun ls h => zEn_ok (n := 5) h) ?_
  intro o Gf h
  unfold f_I_hashOf at h
  refine Y.blk (pc' := 2) (L' := [some (.ref a0), some (.int a1), none, none, none]) (st' := [.int a1, .ref a0]) (sg := [(.aload_n 0, 0), (.iload_n 1, 0)]) (lSa_ok dd0) rfl ?_
  obtain ⟨_, o2, e1, m3, h⟩ := gOb_inv h
  refine Y.callI (yC.Vi (b := a0) (As := [.int a1]) (st := []) (r := ("Partlister$Lists", T_I, 7)) hV.1 cb_I_lengthOf lk_I_59 in_I_lengthOf rfl se_I_lengthOf (lIa_ok dd1) rfl rfl (Nat.le_of_ble_eq_true rfl) (by decide) e1 m3) (k_I_lengthOf hV G a0 a1) h (fun v5 G4 _ h => ?_)
  refine Y.blk (pc' := 11) (L' := [some (.ref a0), some (.int a1), some (.int v5), some (.int (nI 1)), some (.int (nI 0))]) (st' := []) (sg := [(.istore_n 2, 0), (.iconst 1, nI 1), (.istore_n 3, 0), (.iconst 0, nI 0), (.istore 4, 0)]) (lSa_ok dd2) rfl ?_
  refine k_I_hashOf_L11 hV _ ?_  zFu G4 a0 a1 v5 (nI 1) (nI 0) h
  · intro G13 x12 h
    refine Y.blk (pc' := 37) (L' := [none, none, none, some (.int x12), none]) (st' := [.int x12]) (sg := [(.iload_n 3, 0)]) (lSa_ok dd3) rfl ?_
    exact Y.iret rfl (lIa_ok dd4) h

def f_I_lastOf_L8 (K22 : gH → Int32 → gR) (K30 : gH → gR) : Nat → gH → Nat → Int32 → Int32 → Int32 → gR
  | 0, _, _, _, _, _ => none
  | n + 1, G, x0, x1, x2, x3 =>
    if x3 < 0 then K30 G
    else gOb G x0 1 fun o7 => bI (f_I_keyAt G x0 x1 x3) fun v10 G9 => if v10 = x2 then K22 G9 x3
      else f_I_lastOf_L8 K22 K30 n G9 x0 x1 x2 (x3 + (-1))
def f_I_lastOf (G : gH) (a0 : Nat) (a1 : Int32) (a2 : Int32) : gR :=
  gOb G a0 1 fun o2 => bI (f_I_lengthOf G a0 a1) fun v5 G4 => f_I_lastOf_L8 (fun G14 x13 => rI x13 G14) (fun G15 => rI (-1) G15) zFu G4 a0 a1 a2 (v5 - (nI 1))
theorem k_I_lastOf_L8 {l : Launch} {D : va_G} {B : Nat} {O : State → Heap → Prop} (hV : zG l D B O) {o : gO} {Gf : gH} (K22 : gH → Int32 → gR) (K30 : gH → gR) (hK22 : ∀ (G : gH) (x3 : Int32), K22 G x3 = some (o, Gf) → Y (zVm l D B O) m_I_lastOf 4 o Gf 22 [none, none, none, some (.int x3)] [] G) (hK30 : ∀ (G : gH), K30 G  = some (o, Gf) → Y (zVm l D B O) m_I_lastOf 4 o Gf 30 [none, none, none, none] [] G) : ∀ (n : Nat) (G : gH) (x0 : Nat) (x1 : Int32) (x2 : Int32) (x3 : Int32), f_I_lastOf_L8 K22 K30 n G x0 x1 x2 x3 = some (o, Gf) → Y (zVm l D B O) m_I_lastOf 4 o Gf 8 [some (.ref x0), some (.int x1), some (.int x2), some (.int x3)] [] G := by
  have hdd : lSa m_I_lastOf 8 [(.iload_n 3, 0)] = true ∧ lIa m_I_lastOf 9 (.ifCond .lt 21) 3 = true ∧ lSa m_I_lastOf 12 [(.aload_n 0, 0), (.iload_n 1, 0), (.iload_n 3, 0)] = true ∧ lIa m_I_lastOf 15 (.invokevirtual 101) 3 = true ∧ lSa m_I_lastOf 18 [(.iload_n 2, 0)] = true ∧ lIa m_I_lastOf 19 (.if_icmp .ne 5) 3 = true ∧ lSa m_I_lastOf 24 [(.iinc 3 (-1), -1)] = true ∧ lIa m_I_lastOf 27 (.goto (-19)) 3 = true := by decide +kernel
  obtain ⟨dd0, dd1, dd2, dd3, dd4, dd5, dd6, dd7⟩ := hdd
  intro n
  induction n with
  | zero => intro G x0 x1 x2 x3 h; cases h
  | succ n ih =>
    intro G x0 x1 x2 x3 h
    unfold f_I_lastOf_L8 at h
    refine Y.blk (pc' := 9) (L' := [some (.ref x0), some (.int x1), some (.int x2), some (.int x3)]) (st' := [.int x3]) (sg := [(.iload_n 3, 0)]) (lSa_ok dd0) rfl ?_
    refine Y.if_lt (off := 21) (tgt := 30) (lIa_ok dd1) (by decide) h (fun c12 h => ?_) (fun c12 h => ?_)
    · refine Y.less (L' := [none, none, none, none]) (zLe_none (zLe_none (zLe_none (zLe_none (zLe_nil))))) ?_
      exact hK30 G  h
    · refine Y.blk (pc' := 15) (L' := [some (.ref x0), some (.int x1), some (.int x2), some (.int x3)]) (st' := [.int x3, .int x1, .ref x0]) (sg := [(.aload_n 0, 0), (.iload_n 1, 0), (.iload_n 3, 0)]) (lSa_ok dd2) rfl ?_
      obtain ⟨_, o7, e6, m8, h⟩ := gOb_inv h
      refine Y.callI (yC.Vi (b := x0) (As := [.int x1, .int x3]) (st := []) (r := ("Partlister$Lists", T_I, 7)) hV.1 cb_I_keyAt lk_I_101 in_I_keyAt rfl se_I_keyAt (lIa_ok dd3) rfl rfl (Nat.le_of_ble_eq_true rfl) (by decide) e6 m8) (k_I_keyAt hV G x0 x1 x3) h (fun v10 G9 _ h => ?_)
      refine Y.blk (pc' := 19) (L' := [some (.ref x0), some (.int x1), some (.int x2), some (.int x3)]) (st' := [.int x2, .int v10]) (sg := [(.iload_n 2, 0)]) (lSa_ok dd4) rfl ?_
      refine Y.ic_ne (off := 5) (tgt := 24) (lIa_ok dd5) (by decide) h (fun c11 h => ?_) (fun c11 h => ?_)
      · refine Y.less (L' := [none, none, none, some (.int x3)]) (zLe_none (zLe_none (zLe_none (zLe_some (zLe_nil))))) ?_
        exact hK22 G9 x3 h
      · refine Y.blk (pc' := 27) (L' := [some (.ref x0), some (.int x1), some (.int x2), some (.int (x3 + (-1)))]) (st' := []) (sg := [(.iinc 3 (-1), -1)]) (lSa_ok dd6) rfl ?_
        refine Y.goto (off := -19) (tgt := 8) (lIa_ok dd7) (by decide) ?_
        exact ih G9 x0 x1 x2 (x3 + (-1)) h
theorem k_I_lastOf {l : Launch} {D : va_G} {B : Nat} {O : State → Heap → Prop} (hV : zG l D B O) (G : gH) (a0 : Nat) (a1 : Int32) (a2 : Int32) : gMet (zVm l D B O) m_I_lastOf 4 [.ref a0, .int a1, .int a2] G (f_I_lastOf G a0 a1 a2) := by
  have hdd : lSa m_I_lastOf 0 [(.aload_n 0, 0), (.iload_n 1, 0)] = true ∧ lIa m_I_lastOf 2 (.invokevirtual 59) 3 = true ∧ lSa m_I_lastOf 5 [(.iconst 1, nI 1), (.isub, 0), (.istore_n 3, 0)] = true ∧ lSa m_I_lastOf 22 [(.iload_n 3, 0)] = true ∧ lIa m_I_lastOf 23 (.ireturn) 1 = true ∧ lSa m_I_lastOf 30 [(.iconst (-1), -1)] = true ∧ lIa m_I_lastOf 31 (.ireturn) 1 = true := by decide +kernel
  obtain ⟨dd0, dd1, dd2, dd3, dd4, dd5, dd6⟩ := hdd
  refine gMet.of (by decide +kernel) (Nat.le_of_ble_eq_true rfl) [some (.ref a0), some (.int a1), some (.int a2), none] (fun ls h => zEn_ok (n := 4) h) ?_
  intro o Gf h
  unfold f_I_lastOf at h
  refine Y.blk (pc' := 2) (L' := [some (.ref a0), some (.int a1), some (.int a2), none]) (st' := [.int a1, .ref a0]) (sg := [(.aload_n 0, 0), (.iload_n 1, 0)]) (lSa_ok dd0) rfl ?_
  obtain ⟨_, o2, e1, m3, h⟩ := gOb_inv h
  refine Y.callI (yC.Vi (b := a0) (As := [.int a1]) (st := []) (r := ("Partlister$Lists", T_I, 7)) hV.1 cb_I_lengthOf lk_I_59 in_I_lengthOf rfl se_I_lengthOf (lIa_ok dd1) rfl rfl (Nat.le_of_ble_eq_true rfl) (by decide) e1 m3) (k_I_lengthOf hV G a0 a1) h (fun v5 G4 _ h => ?_)
  refine Y.blk (pc' := 8) (L' := [some (.ref a0), some (.int a1), some (.int a2), some (.int (v5 - (nI 1)))]) (st' := []) (sg := [(.iconst 1, nI 1), (.isub, 0), (.istore_n 3, 0)]) (lSa_ok dd2) rfl ?_
  refine k_I_lastOf_L8 hV _ _ ?_ ?_  zFu G4 a0 a1 a2 (v5 - (nI 1)) h
  · intro G14 x13 h
    refine Y.blk (pc' := 23) (L' := [none, none, none, some (.int x13)]) (st' := [.int x13]) (sg := [(.iload_n 3, 0)]) (lSa_ok dd3) rfl ?_
    exact Y.iret rfl (lIa_ok dd4) h
  · intro G15 h
    refine Y.blk (pc' := 31) (L' := [none, none, none, none]) (st' := [.int (-1)]) (sg := [(.iconst (-1), -1)]) (lSa_ok dd5) rfl ?_
    exact Y.iret rfl (lIa_ok dd6) h

def f_I_worthOf (G : gH) (a0 : Nat) (a1 : Int32) (a2 : Int32) : gR :=
  gFA G a0 1 2 fun v1 => gOb G v1 2 fun o3 => bI (f_N_read G v1 a1) fun v6 G5 => if a2.toInt = 0 then (rI v6 G5)
  else if a2.toInt = 1 then (gFA G5 a0 1 4 fun v8 => gOb G5 v8 2 fun o10 => bI (f_N_read G5 v8 a1) fun v13 G12 => gFA G12 a0 1 4 fun v14 => gOb G12 v14 2 fun o16 => bI (f_N_read G12 v14 v6) fun v19 G18 => rI (v13 - v19) G18)
  else if a2.toInt = 2 then (gOb G5 a0 1 fun o22 => bI (f_I_rowOf G5 a0 a1) fun v25 G24 => rI v25 G24)
  else gFA G5 a0 1 4 fun v27 => gOb G5 v27 2 fun o29 => bI (f_N_read G5 v27 a1) fun v32 G31 => rI v32 G31
theorem k_I_worthOf {l : Launch} {D : va_G} {B : Nat} {O : State → Heap → Prop} (hV : zG l D B O) (G : gH) (a0 : Nat) (a1 : Int32) (a2 : Int32) : gMet (zVm l D B O) m_I_worthOf 3 [.ref a0, .int a1, .int a2] G (f_I_worthOf G a0 a1 a2) := by
  have hdd : lSa m_I_worthOf 0 [(.aload_n 0, 0)] = true ∧ lIa m_I_worthOf 1 (.getfield 23) 3 = true ∧ lSa m_I_worthOf 4 [(.iload_n 1, 0)] = true ∧ lIa m_I_worthOf 5 (.invokevirtual 39) 3 = true ∧ lSa m_I_worthOf 8 [(.istore_n 3, 0), (.iload_n 2, 0)] = true ∧ lSa m_I_worthOf 36 [(.iload_n 3, 0)] = true ∧ lIa m_I_worthOf 37 (.ireturn) 1 = true ∧ lSa m_I_worthOf 38 [(.aload_n 0, 0)] = true ∧ lIa m_I_worthOf 39 (.getfield 29) 3 = true ∧ lSa m_I_worthOf 42 [(.iload_n 1, 0)] = true ∧ lIa m_I_worthOf 43 (.invokevirtual 39) 3 = true ∧ lSa m_I_worthOf 46 [(.aload_n 0, 0)] = true ∧ lIa m_I_worthOf 47 (.getfield 29) 3 = true ∧ lSa m_I_worthOf 50 [(.iload_n 3, 0)] = true ∧ lIa m_I_worthOf 51 (.invokevirtual 39) 3 = true ∧ lSa m_I_worthOf 54 [(.isub, 0)] = true ∧ lIa m_I_worthOf 55 (.ireturn) 1 = true ∧ lSa m_I_worthOf 56 [(.aload_n 0, 0), (.iload_n 1, 0)] = true ∧ lIa m_I_worthOf 58 (.invokevirtual 56) 3 = true ∧ lIa m_I_worthOf 61 (.ireturn) 1 = true ∧ lSa m_I_worthOf 62 [(.aload_n 0, 0)] = true ∧ lIa m_I_worthOf 63 (.getfield 29) 3 = true ∧ lSa m_I_worthOf 66 [(.iload_n 1, 0)] = true ∧ lIa m_I_worthOf 67 (.invokevirtual 39) 3 = true ∧ lIa m_I_worthOf 70 (.ireturn) 1 = true := by decide +kernel
  refine lA8 hdd (fun dd0 dd1 dd2 dd3 dd4 dd5 dd6 dd7 hdd => ?_)
  refine lA8 hdd (fun dd8 dd9 dd10 dd11 dd12 dd13 dd14 dd15 hdd => ?_)
  refine lA8 hdd (fun dd16 dd17 dd18 dd19 dd20 dd21 dd22 dd23 hdd => ?_)
  have dd24 := hdd
  refine gMet.of (by decide +kernel) (Nat.le_of_ble_eq_true rfl) [some (.ref a0), some (.int a1), some (.int a2), none] (fun ls h => zEn_ok (n := 4) h) ?_
  intro o Gf h
  unfold f_I_worthOf at h
  refine Y.blk (pc' := 1) (L' := [some (.ref a0), some (.int a1), some (.int a2), none]) (st' := [.ref a0]) (sg := [(.aload_n 0, 0)]) (lSa_ok dd0) rfl ?_
  refine Y.getA fl_I_23 (lIa_ok dd1) h (fun v1 h => ?_)
  refine Y.blk (pc' := 5) (L' := [some (.ref a0), some (.int a1), some (.int a2), none]) (st' := [.int a1, .ref v1]) (sg := [(.iload_n 1, 0)]) (lSa_ok dd2) rfl ?_
  obtain ⟨_, o3, e2, m4, h⟩ := gOb_inv h
  refine Y.callI (yC.Vi (b := v1) (As := [.int a1]) (st := []) (r := ("Partlister$Numbers", T_N, 1)) hV.1 cb_N_read lk_I_39 in_N_read rfl se_N_read (lIa_ok dd3) rfl rfl (Nat.le_of_ble_eq_true rfl) (by decide) e2 m4) (k_N_read hV G v1 a1) h (fun v6 G5 _ h => ?_)
  refine Y.blk (pc' := 10) (L' := [some (.ref a0), some (.int a1), some (.int a2), some (.int v6)]) (st' := [.int a2]) (sg := [(.istore_n 3, 0), (.iload_n 2, 0)]) (lSa_ok dd4) rfl ?_
  refine Y.swC (j := 0) (off := 26) (tgt := 36) (dflt := 52) (lo := 0) (hi := 2) (offs := #[26, 28, 46]) (len := 26) (by decide +kernel) (by decide) (by decide) (by decide) h (fun c7 h => ?_) (fun c7 h => ?_)
  · refine Y.blk (pc' := 37) (L' := [some (.ref a0), some (.int a1), some (.int a2), some (.int v6)]) (st' := [.int v6]) (sg := [(.iload_n 3, 0)]) (lSa_ok dd5) rfl ?_
    exact Y.iret rfl (lIa_ok dd6) h
  refine Y.swC (j := 1) (off := 28) (tgt := 38) (dflt := 52) (lo := 0) (hi := 2) (offs := #[26, 28, 46]) (len := 26) (by decide +kernel) (by decide) (by decide) (by decide) h (fun c20 h => ?_) (fun c20 h => ?_)
  · refine Y.blk (pc' := 39) (L' := [some (.ref a0), some (.int a1), some (.int a2), some (.int v6)]) (st' := [.ref a0]) (sg := [(.aload_n 0, 0)]) (lSa_ok dd7) rfl ?_
    refine Y.getA fl_I_29 (lIa_ok dd8) h (fun v8 h => ?_)
    refine Y.blk (pc' := 43) (L' := [some (.ref a0), some (.int a1), some (.int a2), some (.int v6)]) (st' := [.int a1, .ref v8]) (sg := [(.iload_n 1, 0)]) (lSa_ok dd9) rfl ?_
    obtain ⟨_, o10, e9, m11, h⟩ := gOb_inv h
    refine Y.callI (yC.Vi (b := v8) (As := [.int a1]) (st := []) (r := ("Partlister$Numbers", T_N, 1)) hV.1 cb_N_read lk_I_39 in_N_read rfl se_N_read (lIa_ok dd10) rfl rfl (Nat.le_of_ble_eq_true rfl) (by decide) e9 m11) (k_N_read hV G5 v8 a1) h (fun v13 G12 _ h => ?_)
    refine Y.blk (pc' := 47) (L' := [some (.ref a0), some (.int a1), some (.int a2), some (.int v6)]) (st' := [.ref a0, .int v13]) (sg := [(.aload_n 0, 0)]) (lSa_ok dd11) rfl ?_
    refine Y.getA fl_I_29 (lIa_ok dd12) h (fun v14 h => ?_)
    refine Y.blk (pc' := 51) (L' := [some (.ref a0), some (.int a1), some (.int a2), some (.int v6)]) (st' := [.int v6, .ref v14, .int v13]) (sg := [(.iload_n 3, 0)]) (lSa_ok dd13) rfl ?_
    obtain ⟨_, o16, e15, m17, h⟩ := gOb_inv h
    refine Y.callI (yC.Vi (b := v14) (As := [.int v6]) (st := [.int v13]) (r := ("Partlister$Numbers", T_N, 1)) hV.1 cb_N_read lk_I_39 in_N_read rfl se_N_read (lIa_ok dd14) rfl rfl (Nat.le_of_ble_eq_true rfl) (by decide) e15 m17) (k_N_read hV G12 v14 v6) h (fun v19 G18 _ h => ?_)
    refine Y.blk (pc' := 55) (L' := [some (.ref a0), some (.int a1), some (.int a2), some (.int v6)]) (st' := [.int (v13 - v19)]) (sg := [(.isub, 0)]) (lSa_ok dd15) rfl ?_
    exact Y.iret rfl (lIa_ok dd16) h
  refine Y.swC (j := 2) (off := 46) (tgt := 56) (dflt := 52) (lo := 0) (hi := 2) (offs := #[26, 28, 46]) (len := 26) (by decide +kernel) (by decide) (by decide) (by decide) h (fun c26 h => ?_) (fun c26 h => ?_)
  · refine Y.blk (pc' := 58) (L' := [some (.ref a0), some (.int a1), some (.int a2), some (.int v6)]) (st' := [.int a1, .ref a0]) (sg := [(.aload_n 0, 0), (.iload_n 1, 0)]) (lSa_ok dd17) rfl ?_
    obtain ⟨_, o22, e21, m23, h⟩ := gOb_inv h
    refine Y.callI (yC.Vi (b := a0) (As := [.int a1]) (st := []) (r := ("Partlister$Lists", T_I, 7)) hV.1 cb_I_rowOf lk_I_56 in_I_rowOf rfl se_I_rowOf (lIa_ok dd18) rfl rfl (Nat.le_of_ble_eq_true rfl) (by decide) e21 m23) (k_I_rowOf hV G5 a0 a1) h (fun v25 G24 _ h => ?_)
    exact Y.iret rfl (lIa_ok dd19) h
  refine Y.swOut (dflt := 52) (lo := 0) (hi := 2) (offs := #[26, 28, 46]) (len := 26) (tgt := 62) (by decide +kernel) (by omega) (by decide) ?_
  refine Y.blk (pc' := 63) (L' := [some (.ref a0), some (.int a1), some (.int a2), some (.int v6)]) (st' := [.ref a0]) (sg := [(.aload_n 0, 0)]) (lSa_ok dd20) rfl ?_
  refine Y.getA fl_I_29 (lIa_ok dd21) h (fun v27 h => ?_)
  refine Y.blk (pc' := 67) (L' := [some (.ref a0), some (.int a1), some (.int a2), some (.int v6)]) (st' := [.int a1, .ref v27]) (sg := [(.iload_n 1, 0)]) (lSa_ok dd22) rfl ?_
  obtain ⟨_, o29, e28, m30, h⟩ := gOb_inv h
  refine Y.callI (yC.Vi (b := v27) (As := [.int a1]) (st := []) (r := ("Partlister$Numbers", T_N, 1)) hV.1 cb_N_read lk_I_39 in_N_read rfl se_N_read (lIa_ok dd23) rfl rfl (Nat.le_of_ble_eq_true rfl) (by decide) e28 m30) (k_N_read hV G5 v27 a1) h (fun v32 G31 _ h => ?_)
  exact Y.iret rfl (lIa_ok dd24) h

def f_X_mixList_L16 (K63 : gH → Nat → Int32 → Int64 → gR) : Nat → gH → Nat → Int32 → Int64 → Int32 → Int32 → gR
  | 0, _, _, _, _, _, _ => none
  | n + 1, G, x0, x3, x4, x6, x7 =>
    if x6 ≤ x7 then K63 G x0 x3 x4
    else gFA G x0 3 0 fun v7 => gOb G v7 1 fun o9 => bI (f_I_thingAt G v7 x3 x7) fun v12 G11 => bI (f_X_keyOf G11 v12) fun v15 G14 => bL (f_X_mix G14 x4 v15.toInt64) fun v18 G17 => bI (f_X_tagOf G17 v12) fun v21 G20 => bL (f_X_mix G20 v18 v21.toInt64) fun v24 G23 => f_X_mixList_L16 K63 n G23 x0 x3 v24 x6 (x7 + (nI 1))
def f_X_mixList_L188 (K218 : gH → Int64 → gR) : Nat → gH → Nat → Int32 → Int64 → Int32 → gR
  | 0, _, _, _, _, _ => none
  | n + 1, G, x0, x3, x4, x7 =>
    if (nI 4) ≤ x7 then K218 G x4
    else gFA G x0 3 0 fun v92 => gOb G v92 1 fun o94 => bI (f_I_worthOf G v92 x3 x7) fun v97 G96 => bL (f_X_mix G96 x4 v97.toInt64) fun v100 G99 => f_X_mixList_L188 K218 n G99 x0 x3 v100 (x7 + (nI 1))
def f_X_mixList (G : gH) (a0 : Nat) (a1 : Int64) (a3 : Int32) : gR :=
  gFA G a0 3 0 fun v1 => gOb G v1 1 fun o3 => bI (f_I_lengthOf G v1 a3) fun v6 G5 => f_X_mixList_L16 (fun G29 x26 x27 x28 => gFA G29 x26 3 0 fun v30 => gOb G29 v30 1 fun o32 => bI (f_I_hashOf G29 v30 x27) fun v35 G34 => bL (f_X_mix G34 x28 v35.toInt64) fun v38 G37 => gFA G37 x26 3 0 fun v39 => gOb G37 v39 1 fun o41 => bI (f_I_extremeKey G37 v39 x27 (nI 1)) fun v44 G43 => bL (f_X_mix G43 v38 v44.toInt64) fun v47 G46 => gFA G46 x26 3 0 fun v48 => gOb G46 v48 1 fun o50 => bI (f_I_extremeKey G46 v48 x27 (nI 0)) fun v53 G52 => bL (f_X_mix G52 v47 v53.toInt64) fun v56 G55 => gFA G55 x26 3 0 fun v57 => gOb G55 v57 1 fun o59 => bI (f_I_firstOf G55 v57 x27 (nI 7)) fun v62 G61 => bL (f_X_mix G61 v56 v62.toInt64) fun v65 G64 => gFA G64 x26 3 0 fun v66 => gOb G64 v66 1 fun o68 => bI (f_I_lastOf G64 v66 x27 (nI 7)) fun v71 G70 => bL (f_X_mix G70 v65 v71.toInt64) fun v74 G73 => gFA G73 x26 3 0 fun v75 => gOb G73 v75 1 fun o77 => bI (f_I_countOf G73 v75 x27 (nI 7)) fun v80 G79 => bL (f_X_mix G79 v74 v80.toInt64) fun v83 G82 => gOb G82 x26 3 fun o85 => bI (f_X_countSigns G82 x26 x27) fun v88 G87 => bL (f_X_mix G87 v83 v88.toInt64) fun v91 G90 => if x27 < (nI 2) then rL v91 G90
    else f_X_mixList_L188 (fun G103 x102 => rL x102 G103) zFu G90 x26 x27 v91 (nI 0)) zFu G5 a0 a3 a1 v6 (nI 0)
theorem k_X_mixList_L16 {l : Launch} {D : va_G} {B : Nat} {O : State → Heap → Prop} (hV : zG l D B O) {o : gO} {Gf : gH} (K63 : gH → Nat → Int32 → Int64 → gR) (hK63 : ∀ (G : gH) (x0 : Nat) (x3 : Int32) (x4 : Int64), K63 G x0 x3 x4 = some (o, Gf) → Y (zVm l D B O) m_X_mixList 5 o Gf 63 [some (.ref x0), none, none, some (.int x3), some (.long x4), none, none, none, none] [] G) : ∀ (n : Nat) (G : gH) (x0 : Nat) (x3 : Int32) (x4 : Int64) (x6 : Int32) (x7 : Int32), f_X_mixList_L16 K63 n G x0 x3 x4 x6 x7 = some (o, Gf) → Y (zVm l D B O) m_X_mixList 5 o Gf 16 [some (.ref x0), none, none, some (.int x3), some (.long x4), none, some (.int x6), some (.int x7), none] [] G := by
  have hdd : lSa m_X_mixList 16 [(.iload 7, 0), (.iload 6, 0)] = true ∧ lIa m_X_mixList 20 (.if_icmp .ge 43) 3 = true ∧ lSa m_X_mixList 23 [(.aload_n 0, 0)] = true ∧ lIa m_X_mixList 24 (.getfield 10) 3 = true ∧ lSa m_X_mixList 27 [(.iload_n 3, 0), (.iload 7, 0)] = true ∧ lIa m_X_mixList 30 (.invokevirtual 94) 3 = true ∧ lSa m_X_mixList 33 [(.istore 8, 0), (.lload 4, 0), (.iload 8, 0)] = true ∧ lIa m_X_mixList 39 (.invokestatic 97) 3 = true ∧ lSa m_X_mixList 42 [(.i2l, 0)] = true ∧ lIa m_X_mixList 43 (.invokestatic 263) 3 = true ∧ lSa m_X_mixList 46 [(.iload 8, 0)] = true ∧ lIa m_X_mixList 48 (.invokestatic 48) 3 = true ∧ lSa m_X_mixList 51 [(.i2l, 0)] = true ∧ lIa m_X_mixList 52 (.invokestatic 263) 3 = true ∧ lSa m_X_mixList 55 [(.lstore 4, 0), (.iinc 7 1, nI 1)] = true ∧ lIa m_X_mixList 60 (.goto (-44)) 3 = true := by decide +kernel
  refine lA8 hdd (fun dd0 dd1 dd2 dd3 dd4 dd5 dd6 dd7 hdd => ?_)
  obtain ⟨dd8, dd9, dd10, dd11, dd12, dd13, dd14, dd15⟩ := hdd
  intro n
  induction n with
  | zero => intro G x0 x3 x4 x6 x7 h; cases h
  | succ n ih =>
    intro G x0 x3 x4 x6 x7 h
    unfold f_X_mixList_L16 at h
    refine Y.blk (pc' := 20) (L' := [some (.ref x0), none, none, some (.int x3), some (.long x4), none, some (.int x6), some (.int x7), none]) (st' := [.int x6, .int x7]) (sg := [(.iload 7, 0), (.iload 6, 0)]) (lSa_ok dd0) rfl ?_
    refine Y.ic_ge (off := 43) (tgt := 63) (lIa_ok dd1) (by decide) h (fun c25 h => ?_) (fun c25 h => ?_)
    · refine Y.less (L' := [some (.ref x0), none, none, some (.int x3), some (.long x4), none, none, none, none]) (zLe_some (zLe_some (zLe_some (zLe_some (zLe_some (zLe_some (zLe_none (zLe_none (zLe_some (zLe_nil)))))))))) ?_
      exact hK63 G x0 x3 x4 h
    · refine Y.blk (pc' := 24) (L' := [some (.ref x0), none, none, some (.int x3), some (.long x4), none, some (.int x6), some (.int x7), none]) (st' := [.ref x0]) (sg := [(.aload_n 0, 0)]) (lSa_ok dd2) rfl ?_
      refine Y.getA fl_X_10 (lIa_ok dd3) h (fun v7 h => ?_)
      refine Y.blk (pc' := 30) (L' := [some (.ref x0), none, none, some (.int x3), some (.long x4), none, some (.int x6), some (.int x7), none]) (st' := [.int x7, .int x3, .ref v7]) (sg := [(.iload_n 3, 0), (.iload 7, 0)]) (lSa_ok dd4) rfl ?_
      obtain ⟨_, o9, e8, m10, h⟩ := gOb_inv h
      refine Y.callI (yC.Vi (b := v7) (As := [.int x3, .int x7]) (st := []) (r := ("Partlister$Lists", T_I, 7)) hV.1 cb_I_thingAt lk_X_94 in_I_thingAt rfl se_I_thingAt (lIa_ok dd5) rfl rfl (Nat.le_of_ble_eq_true rfl) (by decide) e8 m10) (k_I_thingAt hV G v7 x3 x7) h (fun v12 G11 _ h => ?_)
      refine Y.blk (pc' := 39) (L' := [some (.ref x0), none, none, some (.int x3), some (.long x4), none, some (.int x6), some (.int x7), some (.int v12)]) (st' := [.int v12, .long x4]) (sg := [(.istore 8, 0), (.lload 4, 0), (.iload 8, 0)]) (lSa_ok dd6) rfl ?_
      refine Y.callI (yC.S (As := [.int v12]) (st := [.long x4]) hV.1 cb_X_keyOf lk_X_97 st_X_keyOf (lIa_ok dd7) rfl rfl (Nat.le_of_ble_eq_true rfl) (by decide)) (k_X_keyOf hV G11 v12) h (fun v15 G14 _ h => ?_)
      refine Y.blk (pc' := 43) (L' := [some (.ref x0), none, none, some (.int x3), some (.long x4), none, some (.int x6), some (.int x7), some (.int v12)]) (st' := [.long v15.toInt64, .long x4]) (sg := [(.i2l, 0)]) (lSa_ok dd8) rfl ?_
      refine Y.callL (yC.S (As := [.long x4, .long v15.toInt64]) (st := []) hV.1 cb_X_mix lk_X_263 st_X_mix (lIa_ok dd9) rfl rfl (Nat.le_of_ble_eq_true rfl) (by decide)) (k_X_mix hV G14 x4 v15.toInt64) h (fun v18 G17 _ h => ?_)
      refine Y.blk (pc' := 48) (L' := [some (.ref x0), none, none, some (.int x3), some (.long x4), none, some (.int x6), some (.int x7), some (.int v12)]) (st' := [.int v12, .long v18]) (sg := [(.iload 8, 0)]) (lSa_ok dd10) rfl ?_
      refine Y.callI (yC.S (As := [.int v12]) (st := [.long v18]) hV.1 cb_X_tagOf lk_X_48 st_X_tagOf (lIa_ok dd11) rfl rfl (Nat.le_of_ble_eq_true rfl) (by decide)) (k_X_tagOf hV G17 v12) h (fun v21 G20 _ h => ?_)
      refine Y.blk (pc' := 52) (L' := [some (.ref x0), none, none, some (.int x3), some (.long x4), none, some (.int x6), some (.int x7), some (.int v12)]) (st' := [.long v21.toInt64, .long v18]) (sg := [(.i2l, 0)]) (lSa_ok dd12) rfl ?_
      refine Y.callL (yC.S (As := [.long v18, .long v21.toInt64]) (st := []) hV.1 cb_X_mix lk_X_263 st_X_mix (lIa_ok dd13) rfl rfl (Nat.le_of_ble_eq_true rfl) (by decide)) (k_X_mix hV G20 v18 v21.toInt64) h (fun v24 G23 _ h => ?_)
      refine Y.blk (pc' := 60) (L' := [some (.ref x0), none, none, some (.int x3), some (.long v24), none, some (.int x6), some (.int (x7 + (nI 1))), some (.int v12)]) (st' := []) (sg := [(.lstore 4, 0), (.iinc 7 1, nI 1)]) (lSa_ok dd14) rfl ?_
      refine Y.goto (off := -44) (tgt := 16) (lIa_ok dd15) (by decide) ?_
      refine Y.less (L' := [some (.ref x0), none, none, some (.int x3), some (.long v24), none, some (.int x6), some (.int (x7 + (nI 1))), none]) (zLe_some (zLe_some (zLe_some (zLe_some (zLe_some (zLe_some (zLe_some (zLe_some (zLe_none (zLe_nil)))))))))) ?_
      exact ih G23 x0 x3 v24 x6 (x7 + (nI 1)) h
theorem k_X_mixList_L188 {l : Launch} {D : va_G} {B : Nat} {O : State → Heap → Prop} (hV : zG l D B O) {o : gO} {Gf : gH} (K218 : gH → Int64 → gR) (hK218 : ∀ (G : gH) (x4 : Int64), K218 G x4 = some (o, Gf) → Y (zVm l D B O) m_X_mixList 5 o Gf 218 [none, none, none, none, some (.long x4), none, none, none, none] [] G) : ∀ (n : Nat) (G : gH) (x0 : Nat) (x3 : Int32) (x4 : Int64) (x7 : Int32), f_X_mixList_L188 K218 n G x0 x3 x4 x7 = some (o, Gf) → Y (zVm l D B O) m_X_mixList 5 o Gf 188 [some (.ref x0), none, none, some (.int x3), some (.long x4), none, none, some (.int x7), none] [] G := by
  have hdd : lSa m_X_mixList 188 [(.iload 7, 0), (.iconst 4, nI 4)] = true ∧ lIa m_X_mixList 191 (.if_icmp .ge 27) 3 = true ∧ lSa m_X_mixList 194 [(.lload 4, 0), (.aload_n 0, 0)] = true ∧ lIa m_X_mixList 197 (.getfield 10) 3 = true ∧ lSa m_X_mixList 200 [(.iload_n 3, 0), (.iload 7, 0)] = true ∧ lIa m_X_mixList 203 (.invokevirtual 238) 3 = true ∧ lSa m_X_mixList 206 [(.i2l, 0)] = true ∧ lIa m_X_mixList 207 (.invokestatic 263) 3 = true ∧ lSa m_X_mixList 210 [(.lstore 4, 0), (.iinc 7 1, nI 1)] = true ∧ lIa m_X_mixList 215 (.goto (-27)) 3 = true := by decide +kernel
  refine lA8 hdd (fun dd0 dd1 dd2 dd3 dd4 dd5 dd6 dd7 hdd => ?_)
  obtain ⟨dd8, dd9⟩ := hdd
  intro n
  induction n with
  | zero => intro G x0 x3 x4 x7 h; cases h
  | succ n ih =>
    intro G x0 x3 x4 x7 h
    unfold f_X_mixList_L188 at h
    refine Y.blk (pc' := 191) (L' := [some (.ref x0), none, none, some (.int x3), some (.long x4), none, none, some (.int x7), none]) (st' := [.int (nI 4), .int x7]) (sg := [(.iload 7, 0), (.iconst 4, nI 4)]) (lSa_ok dd0) rfl ?_
    refine Y.ic_ge (off := 27) (tgt := 218) (lIa_ok dd1) (by decide) h (fun c101 h => ?_) (fun c101 h => ?_)
    · refine Y.less (L' := [none, none, none, none, some (.long x4), none, none, none, none]) (zLe_none (zLe_some (zLe_some (zLe_none (zLe_some (zLe_some (zLe_some (zLe_none (zLe_some (zLe_nil)))))))))) ?_
      exact hK218 G x4 h
    · refine Y.blk (pc' := 197) (L' := [some (.ref x0), none, none, some (.int x3), some (.long x4), none, none, some (.int x7), none]) (st' := [.ref x0, .long x4]) (sg := [(.lload 4, 0), (.aload_n 0, 0)]) (lSa_ok dd2) rfl ?_
      refine Y.getA fl_X_10 (lIa_ok dd3) h (fun v92 h => ?_)
      refine Y.blk (pc' := 203) (L' := [some (.ref x0), none, none, some (.int x3), some (.long x4), none, none, some (.int x7), none]) (st' := [.int x7, .int x3, .ref v92, .long x4]) (sg := [(.iload_n 3, 0), (.iload 7, 0)]) (lSa_ok dd4) rfl ?_
      obtain ⟨_, o94, e93, m95, h⟩ := gOb_inv h
      refine Y.callI (yC.Vi (b := v92) (As := [.int x3, .int x7]) (st := [.long x4]) (r := ("Partlister$Lists", T_I, 7)) hV.1 cb_I_worthOf lk_X_238 in_I_worthOf rfl se_I_worthOf (lIa_ok dd5) rfl rfl (Nat.le_of_ble_eq_true rfl) (by decide) e93 m95) (k_I_worthOf hV G v92 x3 x7) h (fun v97 G96 _ h => ?_)
      refine Y.blk (pc' := 207) (L' := [some (.ref x0), none, none, some (.int x3), some (.long x4), none, none, some (.int x7), none]) (st' := [.long v97.toInt64, .long x4]) (sg := [(.i2l, 0)]) (lSa_ok dd6) rfl ?_
      refine Y.callL (yC.S (As := [.long x4, .long v97.toInt64]) (st := []) hV.1 cb_X_mix lk_X_263 st_X_mix (lIa_ok dd7) rfl rfl (Nat.le_of_ble_eq_true rfl) (by decide)) (k_X_mix hV G96 x4 v97.toInt64) h (fun v100 G99 _ h => ?_)
      refine Y.blk (pc' := 215) (L' := [some (.ref x0), none, none, some (.int x3), some (.long v100), none, none, some (.int (x7 + (nI 1))), none]) (st' := []) (sg := [(.lstore 4, 0), (.iinc 7 1, nI 1)]) (lSa_ok dd8) rfl ?_
      refine Y.goto (off := -27) (tgt := 188) (lIa_ok dd9) (by decide) ?_
      exact ih G99 x0 x3 v100 (x7 + (nI 1)) h
theorem k_X_mixList {l : Launch} {D : va_G} {B : Nat} {O : State → Heap → Prop} (hV : zG l D B O) (G : gH) (a0 : Nat) (a1 : Int64) (a3 : Int32) : gMet (zVm l D B O) m_X_mixList 5 [.ref a0, .long a1, .int a3] G (f_X_mixList G a0 a1 a3) := by
  have hdd : lSa m_X_mixList 0 [(.lload_n 1, 0), (.lstore 4, 0), (.aload_n 0, 0)] = true ∧ lIa m_X_mixList 4 (.getfield 10) 3 = true ∧ lSa m_X_mixList 7 [(.iload_n 3, 0)] = true ∧ lIa m_X_mixList 8 (.invokevirtual 34) 3 = true ∧ lSa m_X_mixList 11 [(.istore 6, 0), (.iconst 0, nI 0), (.istore 7, 0)] = true ∧ lSa m_X_mixList 63 [(.lload 4, 0), (.aload_n 0, 0)] = true ∧ lIa m_X_mixList 66 (.getfield 10) 3 = true ∧ lSa m_X_mixList 69 [(.iload_n 3, 0)] = true ∧ lIa m_X_mixList 70 (.invokevirtual 217) 3 = true ∧ lSa m_X_mixList 73 [(.i2l, 0)] = true ∧ lIa m_X_mixList 74 (.invokestatic 263) 3 = true ∧ lSa m_X_mixList 77 [(.lstore 4, 0), (.lload 4, 0), (.aload_n 0, 0)] = true ∧ lIa m_X_mixList 82 (.getfield 10) 3 = true ∧ lSa m_X_mixList 85 [(.iload_n 3, 0), (.iconst 1, nI 1)] = true ∧ lIa m_X_mixList 87 (.invokevirtual 213) 3 = true ∧ lSa m_X_mixList 90 [(.i2l, 0)] = true ∧ lIa m_X_mixList 91 (.invokestatic 263) 3 = true ∧ lSa m_X_mixList 94 [(.lstore 4, 0), (.lload 4, 0), (.aload_n 0, 0)] = true ∧ lIa m_X_mixList 99 (.getfield 10) 3 = true ∧ lSa m_X_mixList 102 [(.iload_n 3, 0), (.iconst 0, nI 0)] = true ∧ lIa m_X_mixList 104 (.invokevirtual 213) 3 = true ∧ lSa m_X_mixList 107 [(.i2l, 0)] = true ∧ lIa m_X_mixList 108 (.invokestatic 263) 3 = true ∧ lSa m_X_mixList 111 [(.lstore 4, 0), (.lload 4, 0), (.aload_n 0, 0)] = true ∧ lIa m_X_mixList 116 (.getfield 10) 3 = true ∧ lSa m_X_mixList 119 [(.iload_n 3, 0), (.bipush 7, nI 7)] = true ∧ lIa m_X_mixList 122 (.invokevirtual 72) 3 = true ∧ lSa m_X_mixList 125 [(.i2l, 0)] = true ∧ lIa m_X_mixList 126 (.invokestatic 263) 3 = true ∧ lSa m_X_mixList 129 [(.lstore 4, 0), (.lload 4, 0), (.aload_n 0, 0)] = true ∧ lIa m_X_mixList 134 (.getfield 10) 3 = true ∧ lSa m_X_mixList 137 [(.iload_n 3, 0), (.bipush 7, nI 7)] = true ∧ lIa m_X_mixList 140 (.invokevirtual 187) 3 = true ∧ lSa m_X_mixList 143 [(.i2l, 0)] = true ∧ lIa m_X_mixList 144 (.invokestatic 263) 3 = true ∧ lSa m_X_mixList 147 [(.lstore 4, 0), (.lload 4, 0), (.aload_n 0, 0)] = true ∧ lIa m_X_mixList 152 (.getfield 10) 3 = true ∧ lSa m_X_mixList 155 [(.iload_n 3, 0), (.bipush 7, nI 7)] = true ∧ lIa m_X_mixList 158 (.invokevirtual 189) 3 = true ∧ lSa m_X_mixList 161 [(.i2l, 0)] = true ∧ lIa m_X_mixList 162 (.invokestatic 263) 3 = true ∧ lSa m_X_mixList 165 [(.lstore 4, 0), (.lload 4, 0), (.aload_n 0, 0), (.iload_n 3, 0)] = true ∧ lIa m_X_mixList 171 (.invokevirtual 323) 3 = true ∧ lSa m_X_mixList 174 [(.i2l, 0)] = true ∧ lIa m_X_mixList 175 (.invokestatic 263) 3 = true ∧ lSa m_X_mixList 178 [(.lstore 4, 0), (.iload_n 3, 0), (.iconst 2, nI 2)] = true ∧ lIa m_X_mixList 182 (.if_icmp .lt 36) 3 = true ∧ lSa m_X_mixList 218 [(.lload 4, 0)] = true ∧ lIa m_X_mixList 220 (.lreturn) 1 = true ∧ lSa m_X_mixList 185 [(.iconst 0, nI 0), (.istore 7, 0)] = true := by decide +kernel
  refine lA8 hdd (fun dd0 dd1 dd2 dd3 dd4 dd5 dd6 dd7 hdd => ?_)
  refine lA8 hdd (fun dd8 dd9 dd10 dd11 dd12 dd13 dd14 dd15 hdd => ?_)
  refine lA8 hdd (fun dd16 dd17 dd18 dd19 dd20 dd21 dd22 dd23 hdd => ?_)
  refine lA8 hdd (fun dd24 dd25 dd26 dd27 dd28 dd29 dd30 dd31 hdd => ?_)
  refine lA8 hdd (fun dd32 dd33 dd34 dd35 dd36 dd37 dd38 dd39 hdd => ?_)
  refine lA8 hdd (fun dd40 dd41 dd42 dd43 dd44 dd45 dd46 dd47 hdd => ?_)
  obtain ⟨dd48, dd49⟩ := hdd
  refine gMet.of (by decide +kernel) (Nat.le_of_ble_eq_true rfl) [some (.ref a0), some (.long a1), none, some (.int a3), none, none, none, none, none] (fun ls h => zEn_ok (n := 9) h) ?_
  intro o Gf h
  unfold f_X_mixList at h
  refine Y.blk (pc' := 4) (L' := [some (.ref a0), some (.long a1), none, some (.int a3), some (.long a1), none, none, none, none]) (st' := [.ref a0]) (sg := [(.lload_n 1, 0), (.lstore 4, 0), (.aload_n 0, 0)]) (lSa_ok dd0) rfl ?_
  refine Y.getA fl_X_10 (lIa_ok dd1) h (fun v1 h => ?_)
  refine Y.blk (pc' := 8) (L' := [some (.ref a0), some (.long a1), none, some (.int a3), some (.long a1), none, none, none, none]) (st' := [.int a3, .ref v1]) (sg := [(.iload_n 3, 0)]) (lSa_ok dd2) rfl ?_
  obtain ⟨_, o3, e2, m4, h⟩ := gOb_inv h
  refine Y.callI (yC.Vi (b := v1) (As := [.int a3]) (st := []) (r := ("Partlister$Lists", T_I, 7)) hV.1 cb_I_lengthOf lk_X_34 in_I_lengthOf rfl se_I_lengthOf (lIa_ok dd3) rfl rfl (Nat.le_of_ble_eq_true rfl) (by decide) e2 m4) (k_I_lengthOf hV G v1 a3) h (fun v6 G5 _ h => ?_)
  refine Y.blk (pc' := 16) (L' := [some (.ref a0), some (.long a1), none, some (.int a3), some (.long a1), none, some (.int v6), some (.int (nI 0)), none]) (st' := []) (sg := [(.istore 6, 0), (.iconst 0, nI 0), (.istore 7, 0)]) (lSa_ok dd4) rfl ?_
  refine Y.less (L' := [some (.ref a0), none, none, some (.int a3), some (.long a1), none, some (.int v6), some (.int (nI 0)), none]) (zLe_some (zLe_none (zLe_some (zLe_some (zLe_some (zLe_some (zLe_some (zLe_some (zLe_some (zLe_nil)))))))))) ?_
  refine k_X_mixList_L16 hV _ ?_  zFu G5 a0 a3 a1 v6 (nI 0) h
  · intro G29 x26 x27 x28 h
    refine Y.blk (pc' := 66) (L' := [some (.ref x26), none, none, some (.int x27), some (.long x28), none, none, none, none]) (st' := [.ref x26, .long x28]) (sg := [(.lload 4, 0), (.aload_n 0, 0)]) (lSa_ok dd5) rfl ?_
    refine Y.getA fl_X_10 (lIa_ok dd6) h (fun v30 h => ?_)
    refine Y.blk (pc' := 70) (L' := [some (.ref x26), none, none, some (.int x27), some (.long x28), none, none, none, none]) (st' := [.int x27, .ref v30, .long x28]) (sg := [(.iload_n 3, 0)]) (lSa_ok dd7) rfl ?_
    obtain ⟨_, o32, e31, m33, h⟩ := gOb_inv h
    refine Y.callI (yC.Vi (b := v30) (As := [.int x27]) (st := [.long x28]) (r := ("Partlister$Lists", T_I, 7)) hV.1 cb_I_hashOf lk_X_217 in_I_hashOf rfl se_I_hashOf (lIa_ok dd8) rfl rfl (Nat.le_of_ble_eq_true rfl) (by decide) e31 m33) (k_I_hashOf hV G29 v30 x27) h (fun v35 G34 _ h => ?_)
    refine Y.blk (pc' := 74) (L' := [some (.ref x26), none, none, some (.int x27), some (.long x28), none, none, none, none]) (st' := [.long v35.toInt64, .long x28]) (sg := [(.i2l, 0)]) (lSa_ok dd9) rfl ?_
    refine Y.callL (yC.S (As := [.long x28, .long v35.toInt64]) (st := []) hV.1 cb_X_mix lk_X_263 st_X_mix (lIa_ok dd10) rfl rfl (Nat.le_of_ble_eq_true rfl) (by decide)) (k_X_mix hV G34 x28 v35.toInt64) h (fun v38 G37 _ h => ?_)
    refine Y.blk (pc' := 82) (L' := [some (.ref x26), none, none, some (.int x27), some (.long v38), none, none, none, none]) (st' := [.ref x26, .long v38]) (sg := [(.lstore 4, 0), (.lload 4, 0), (.aload_n 0, 0)]) (lSa_ok dd11) rfl ?_
    refine Y.getA fl_X_10 (lIa_ok dd12) h (fun v39 h => ?_)
    refine Y.blk (pc' := 87) (L' := [some (.ref x26), none, none, some (.int x27), some (.long v38), none, none, none, none]) (st' := [.int (nI 1), .int x27, .ref v39, .long v38]) (sg := [(.iload_n 3, 0), (.iconst 1, nI 1)]) (lSa_ok dd13) rfl ?_
    obtain ⟨_, o41, e40, m42, h⟩ := gOb_inv h
    refine Y.callI (yC.Vi (b := v39) (As := [.int x27, .int (nI 1)]) (st := [.long v38]) (r := ("Partlister$Lists", T_I, 7)) hV.1 cb_I_extremeKey lk_X_213 in_I_extremeKey rfl se_I_extremeKey (lIa_ok dd14) rfl rfl (Nat.le_of_ble_eq_true rfl) (by decide) e40 m42) (k_I_extremeKey hV G37 v39 x27 (nI 1)) h (fun v44 G43 _ h => ?_)
    refine Y.blk (pc' := 91) (L' := [some (.ref x26), none, none, some (.int x27), some (.long v38), none, none, none, none]) (st' := [.long v44.toInt64, .long v38]) (sg := [(.i2l, 0)]) (lSa_ok dd15) rfl ?_
    refine Y.callL (yC.S (As := [.long v38, .long v44.toInt64]) (st := []) hV.1 cb_X_mix lk_X_263 st_X_mix (lIa_ok dd16) rfl rfl (Nat.le_of_ble_eq_true rfl) (by decide)) (k_X_mix hV G43 v38 v44.toInt64) h (fun v47 G46 _ h => ?_)
    refine Y.blk (pc' := 99) (L' := [some (.ref x26), none, none, some (.int x27), some (.long v47), none, none, none, none]) (st' := [.ref x26, .long v47]) (sg := [(.lstore 4, 0), (.lload 4, 0), (.aload_n 0, 0)]) (lSa_ok dd17) rfl ?_
    refine Y.getA fl_X_10 (lIa_ok dd18) h (fun v48 h => ?_)
    refine Y.blk (pc' := 104) (L' := [some (.ref x26), none, none, some (.int x27), some (.long v47), none, none, none, none]) (st' := [.int (nI 0), .int x27, .ref v48, .long v47]) (sg := [(.iload_n 3, 0), (.iconst 0, nI 0)]) (lSa_ok dd19) rfl ?_
    obtain ⟨_, o50, e49, m51, h⟩ := gOb_inv h
    refine Y.callI (yC.Vi (b := v48) (As := [.int x27, .int (nI 0)]) (st := [.long v47]) (r := ("Partlister$Lists", T_I, 7)) hV.1 cb_I_extremeKey lk_X_213 in_I_extremeKey rfl se_I_extremeKey (lIa_ok dd20) rfl rfl (Nat.le_of_ble_eq_true rfl) (by decide) e49 m51) (k_I_extremeKey hV G46 v48 x27 (nI 0)) h (fun v53 G52 _ h => ?_)
    refine Y.blk (pc' := 108) (L' := [some (.ref x26), none, none, some (.int x27), some (.long v47), none, none, none, none]) (st' := [.long v53.toInt64, .long v47]) (sg := [(.i2l, 0)]) (lSa_ok dd21) rfl ?_
    refine Y.callL (yC.S (As := [.long v47, .long v53.toInt64]) (st := []) hV.1 cb_X_mix lk_X_263 st_X_mix (lIa_ok dd22) rfl rfl (Nat.le_of_ble_eq_true rfl) (by decide)) (k_X_mix hV G52 v47 v53.toInt64) h (fun v56 G55 _ h => ?_)
    refine Y.blk (pc' := 116) (L' := [some (.ref x26), none, none, some (.int x27), some (.long v56), none, none, none, none]) (st' := [.ref x26, .long v56]) (sg := [(.lstore 4, 0), (.lload 4, 0), (.aload_n 0, 0)]) (lSa_ok dd23) rfl ?_
    refine Y.getA fl_X_10 (lIa_ok dd24) h (fun v57 h => ?_)
    refine Y.blk (pc' := 122) (L' := [some (.ref x26), none, none, some (.int x27), some (.long v56), none, none, none, none]) (st' := [.int (nI 7), .int x27, .ref v57, .long v56]) (sg := [(.iload_n 3, 0), (.bipush 7, nI 7)]) (lSa_ok dd25) rfl ?_
    obtain ⟨_, o59, e58, m60, h⟩ := gOb_inv h
    refine Y.callI (yC.Vi (b := v57) (As := [.int x27, .int (nI 7)]) (st := [.long v56]) (r := ("Partlister$Lists", T_I, 7)) hV.1 cb_I_firstOf lk_X_72 in_I_firstOf rfl se_I_firstOf (lIa_ok dd26) rfl rfl (Nat.le_of_ble_eq_true rfl) (by decide) e58 m60) (k_I_firstOf hV G55 v57 x27 (nI 7)) h (fun v62 G61 _ h => ?_)
    refine Y.blk (pc' := 126) (L' := [some (.ref x26), none, none, some (.int x27), some (.long v56), none, none, none, none]) (st' := [.long v62.toInt64, .long v56]) (sg := [(.i2l, 0)]) (lSa_ok dd27) rfl ?_
    refine Y.callL (yC.S (As := [.long v56, .long v62.toInt64]) (st := []) hV.1 cb_X_mix lk_X_263 st_X_mix (lIa_ok dd28) rfl rfl (Nat.le_of_ble_eq_true rfl) (by decide)) (k_X_mix hV G61 v56 v62.toInt64) h (fun v65 G64 _ h => ?_)
    refine Y.blk (pc' := 134) (L' := [some (.ref x26), none, none, some (.int x27), some (.long v65), none, none, none, none]) (st' := [.ref x26, .long v65]) (sg := [(.lstore 4, 0), (.lload 4, 0), (.aload_n 0, 0)]) (lSa_ok dd29) rfl ?_
    refine Y.getA fl_X_10 (lIa_ok dd30) h (fun v66 h => ?_)
    refine Y.blk (pc' := 140) (L' := [some (.ref x26), none, none, some (.int x27), some (.long v65), none, none, none, none]) (st' := [.int (nI 7), .int x27, .ref v66, .long v65]) (sg := [(.iload_n 3, 0), (.bipush 7, nI 7)]) (lSa_ok dd31) rfl ?_
    obtain ⟨_, o68, e67, m69, h⟩ := gOb_inv h
    refine Y.callI (yC.Vi (b := v66) (As := [.int x27, .int (nI 7)]) (st := [.long v65]) (r := ("Partlister$Lists", T_I, 7)) hV.1 cb_I_lastOf lk_X_187 in_I_lastOf rfl se_I_lastOf (lIa_ok dd32) rfl rfl (Nat.le_of_ble_eq_true rfl) (by decide) e67 m69) (k_I_lastOf hV G64 v66 x27 (nI 7)) h (fun v71 G70 _ h => ?_)
    refine Y.blk (pc' := 144) (L' := [some (.ref x26), none, none, some (.int x27), some (.long v65), none, none, none, none]) (st' := [.long v71.toInt64, .long v65]) (sg := [(.i2l, 0)]) (lSa_ok dd33) rfl ?_
    refine Y.callL (yC.S (As := [.long v65, .long v71.toInt64]) (st := []) hV.1 cb_X_mix lk_X_263 st_X_mix (lIa_ok dd34) rfl rfl (Nat.le_of_ble_eq_true rfl) (by decide)) (k_X_mix hV G70 v65 v71.toInt64) h (fun v74 G73 _ h => ?_)
    refine Y.blk (pc' := 152) (L' := [some (.ref x26), none, none, some (.int x27), some (.long v74), none, none, none, none]) (st' := [.ref x26, .long v74]) (sg := [(.lstore 4, 0), (.lload 4, 0), (.aload_n 0, 0)]) (lSa_ok dd35) rfl ?_
    refine Y.getA fl_X_10 (lIa_ok dd36) h (fun v75 h => ?_)
    refine Y.blk (pc' := 158) (L' := [some (.ref x26), none, none, some (.int x27), some (.long v74), none, none, none, none]) (st' := [.int (nI 7), .int x27, .ref v75, .long v74]) (sg := [(.iload_n 3, 0), (.bipush 7, nI 7)]) (lSa_ok dd37) rfl ?_
    obtain ⟨_, o77, e76, m78, h⟩ := gOb_inv h
    refine Y.callI (yC.Vi (b := v75) (As := [.int x27, .int (nI 7)]) (st := [.long v74]) (r := ("Partlister$Lists", T_I, 7)) hV.1 cb_I_countOf lk_X_189 in_I_countOf rfl se_I_countOf (lIa_ok dd38) rfl rfl (Nat.le_of_ble_eq_true rfl) (by decide) e76 m78) (k_I_countOf hV G73 v75 x27 (nI 7)) h (fun v80 G79 _ h => ?_)
    refine Y.blk (pc' := 162) (L' := [some (.ref x26), none, none, some (.int x27), some (.long v74), none, none, none, none]) (st' := [.long v80.toInt64, .long v74]) (sg := [(.i2l, 0)]) (lSa_ok dd39) rfl ?_
    refine Y.callL (yC.S (As := [.long v74, .long v80.toInt64]) (st := []) hV.1 cb_X_mix lk_X_263 st_X_mix (lIa_ok dd40) rfl rfl (Nat.le_of_ble_eq_true rfl) (by decide)) (k_X_mix hV G79 v74 v80.toInt64) h (fun v83 G82 _ h => ?_)
    refine Y.blk (pc' := 171) (L' := [some (.ref x26), none, none, some (.int x27), some (.long v83), none, none, none, none]) (st' := [.int x27, .ref x26, .long v83]) (sg := [(.lstore 4, 0), (.lload 4, 0), (.aload_n 0, 0), (.iload_n 3, 0)]) (lSa_ok dd41) rfl ?_
    obtain ⟨_, o85, e84, m86, h⟩ := gOb_inv h
    refine Y.callI (yC.Vi (b := x26) (As := [.int x27]) (st := [.long v83]) (r := ("Partlister", T_X, 5)) hV.1 cb_X_countSigns lk_X_323 in_X_countSigns rfl se_X_countSigns (lIa_ok dd42) rfl rfl (Nat.le_of_ble_eq_true rfl) (by decide) e84 m86) (k_X_countSigns hV G82 x26 x27) h (fun v88 G87 _ h => ?_)
    refine Y.blk (pc' := 175) (L' := [some (.ref x26), none, none, some (.int x27), some (.long v83), none, none, none, none]) (st' := [.long v88.toInt64, .long v83]) (sg := [(.i2l, 0)]) (lSa_ok dd43) rfl ?_
    refine Y.callL (yC.S (As := [.long v83, .long v88.toInt64]) (st := []) hV.1 cb_X_mix lk_X_263 st_X_mix (lIa_ok dd44) rfl rfl (Nat.le_of_ble_eq_true rfl) (by decide)) (k_X_mix hV G87 v83 v88.toInt64) h (fun v91 G90 _ h => ?_)
    refine Y.blk (pc' := 182) (L' := [some (.ref x26), none, none, some (.int x27), some (.long v91), none, none, none, none]) (st' := [.int (nI 2), .int x27]) (sg := [(.lstore 4, 0), (.iload_n 3, 0), (.iconst 2, nI 2)]) (lSa_ok dd45) rfl ?_
    refine Y.ic_lt (off := 36) (tgt := 218) (lIa_ok dd46) (by decide) h (fun c104 h => ?_) (fun c104 h => ?_)
    · refine Y.blk (pc' := 220) (L' := [some (.ref x26), none, none, some (.int x27), some (.long v91), none, none, none, none]) (st' := [.long v91]) (sg := [(.lload 4, 0)]) (lSa_ok dd47) rfl ?_
      exact Y.lret rfl (lIa_ok dd48) h
    · refine Y.blk (pc' := 188) (L' := [some (.ref x26), none, none, some (.int x27), some (.long v91), none, none, some (.int (nI 0)), none]) (st' := []) (sg := [(.iconst 0, nI 0), (.istore 7, 0)]) (lSa_ok dd49) rfl ?_
      refine k_X_mixList_L188 hV _ ?_  zFu G90 x26 x27 v91 (nI 0) h
      · intro G103 x102 h
        refine Y.blk (pc' := 220) (L' := [none, none, none, none, some (.long x102), none, none, none, none]) (st' := [.long x102]) (sg := [(.lload 4, 0)]) (lSa_ok dd47) rfl ?_
        exact Y.lret rfl (lIa_ok dd48) h

def f_I_holdsKeys (G : gH) (a0 : Nat) (a1 : Int32) (a2 : Int32) : gR :=
  gOb G a0 1 fun o2 => bI (f_I_keysOf G a0 a2) fun v5 G4 => gOb G4 a0 1 fun o7 => bI (f_I_keysOf G4 a0 a1) fun v10 G9 => if (v5 &&& (v10 ^^^ (-1))) = 0 then rZ (nI 1) G9
  else rZ (nI 0) G9
theorem k_I_holdsKeys {l : Launch} {D : va_G} {B : Nat} {O : State → Heap → Prop} (hV : zG l D B O) (G : gH) (a0 : Nat) (a1 : Int32) (a2 : Int32) : gMet (zVm l D B O) m_I_holdsKeys 5 [.ref a0, .int a1, .int a2] G (f_I_holdsKeys G a0 a1 a2) := by
  have hdd : lSa m_I_holdsKeys 0 [(.aload_n 0, 0), (.iload_n 2, 0)] = true ∧ lIa m_I_holdsKeys 2 (.invokevirtual 104) 3 = true ∧ lSa m_I_holdsKeys 5 [(.aload_n 0, 0), (.iload_n 1, 0)] = true ∧ lIa m_I_holdsKeys 7 (.invokevirtual 104) 3 = true ∧ lSa m_I_holdsKeys 10 [(.iconst (-1), -1), (.ixor, 0), (.iand, 0)] = true ∧ lIa m_I_holdsKeys 13 (.ifCond .ne 7) 3 = true ∧ lSa m_I_holdsKeys 16 [(.iconst 1, nI 1)] = true ∧ lIa m_I_holdsKeys 17 (.goto 4) 3 = true ∧ lIa m_I_holdsKeys 21 (.ireturn) 1 = true ∧ lSa m_I_holdsKeys 20 [(.iconst 0, nI 0)] = true := by decide +kernel
  refine lA8 hdd (fun dd0 dd1 dd2 dd3 dd4 dd5 dd6 dd7 hdd => ?_)
  obtain ⟨dd8, dd9⟩ := hdd
  refine gMet.of (by decide +kernel) (Nat.le_of_ble_eq_true rfl) [some (.ref a0), some (.int a1), some (.int a2)] (fun ls h => zEn_ok (n := 3) h) ?_
  intro o Gf h
  unfold f_I_holdsKeys at h
  refine Y.blk (pc' := 2) (L' := [some (.ref a0), some (.int a1), some (.int a2)]) (st' := [.int a2, .ref a0]) (sg := [(.aload_n 0, 0), (.iload_n 2, 0)]) (lSa_ok dd0) rfl ?_
  obtain ⟨_, o2, e1, m3, h⟩ := gOb_inv h
  refine Y.callI (yC.Vi (b := a0) (As := [.int a2]) (st := []) (r := ("Partlister$Lists", T_I, 7)) hV.1 cb_I_keysOf lk_I_104 in_I_keysOf rfl se_I_keysOf (lIa_ok dd1) rfl rfl (Nat.le_of_ble_eq_true rfl) (by decide) e1 m3) (k_I_keysOf hV G a0 a2) h (fun v5 G4 _ h => ?_)
  refine Y.blk (pc' := 7) (L' := [some (.ref a0), some (.int a1), some (.int a2)]) (st' := [.int a1, .ref a0, .int v5]) (sg := [(.aload_n 0, 0), (.iload_n 1, 0)]) (lSa_ok dd2) rfl ?_
  obtain ⟨_, o7, e6, m8, h⟩ := gOb_inv h
  refine Y.callI (yC.Vi (b := a0) (As := [.int a1]) (st := [.int v5]) (r := ("Partlister$Lists", T_I, 7)) hV.1 cb_I_keysOf lk_I_104 in_I_keysOf rfl se_I_keysOf (lIa_ok dd3) rfl rfl (Nat.le_of_ble_eq_true rfl) (by decide) e6 m8) (k_I_keysOf hV G4 a0 a1) h (fun v10 G9 _ h => ?_)
  refine Y.blk (pc' := 13) (L' := [some (.ref a0), some (.int a1), some (.int a2)]) (st' := [.int (v5 &&& (v10 ^^^ (-1)))]) (sg := [(.iconst (-1), -1), (.ixor, 0), (.iand, 0)]) (lSa_ok dd4) rfl ?_
  refine Y.if_ne (off := 7) (tgt := 20) (lIa_ok dd5) (by decide) h (fun c11 h => ?_) (fun c11 h => ?_)
  · refine Y.blk (pc' := 17) (L' := [some (.ref a0), some (.int a1), some (.int a2)]) (st' := [.int (nI 1)]) (sg := [(.iconst 1, nI 1)]) (lSa_ok dd6) rfl ?_
    refine Y.goto (off := 4) (tgt := 21) (lIa_ok dd7) (by decide) ?_
    exact Y.zret rfl (lIa_ok dd8) h
  · refine Y.blk (pc' := 21) (L' := [some (.ref a0), some (.int a1), some (.int a2)]) (st' := [.int (nI 0)]) (sg := [(.iconst 0, nI 0)]) (lSa_ok dd9) rfl ?_
    exact Y.zret rfl (lIa_ok dd8) h

def f_I_matchFrom_L10 (K36 : gH → gR) (K44 : gH → gR) : Nat → gH → Nat → Int32 → Int32 → Int32 → Int32 → Int32 → gR
  | 0, _, _, _, _, _, _, _ => none
  | n + 1, G, x0, x1, x2, x3, x4, x5 =>
    if x4 ≤ x5 then K44 G
    else gOb G x0 1 fun o7 => bI (f_I_keyAt G x0 x1 (x2 + x5)) fun v10 G9 => gOb G9 x0 1 fun o12 => bI (f_I_keyAt G9 x0 x3 x5) fun v15 G14 => if v10 = v15 then f_I_matchFrom_L10 K36 K44 n G14 x0 x1 x2 x3 x4 (x5 + (nI 1))
      else K36 G14
def f_I_matchFrom (G : gH) (a0 : Nat) (a1 : Int32) (a2 : Int32) (a3 : Int32) : gR :=
  gOb G a0 1 fun o2 => bI (f_I_lengthOf G a0 a3) fun v5 G4 => f_I_matchFrom_L10 (fun G18 => rZ (nI 0) G18) (fun G19 => rZ (nI 1) G19) zFu G4 a0 a1 a2 a3 v5 (nI 0)
theorem k_I_matchFrom_L10 {l : Launch} {D : va_G} {B : Nat} {O : State → Heap → Prop} (hV : zG l D B O) {o : gO} {Gf : gH} (K36 : gH → gR) (K44 : gH → gR) (hK36 : ∀ (G : gH), K36 G  = some (o, Gf) → Y (zVm l D B O) m_I_matchFrom 4 o Gf 36 [none, none, none, none, none, none] [] G) (hK44 : ∀ (G : gH), K44 G  = some (o, Gf) → Y (zVm l D B O) m_I_matchFrom 4 o Gf 44 [none, none, none, none, none, none] [] G) : ∀ (n : Nat) (G : gH) (x0 : Nat) (x1 : Int32) (x2 : Int32) (x3 : Int32) (x4 : Int32) (x5 : Int32), f_I_matchFrom_L10 K36 K44 n G x0 x1 x2 x3 x4 x5 = some (o, Gf) → Y (zVm l D B O) m_I_matchFrom 4 o Gf 10 [some (.ref x0), some (.int x1), some (.int x2), some (.int x3), some (.int x4), some (.int x5)] [] G := by
  have hdd : lSa m_I_matchFrom 10 [(.iload 5, 0), (.iload 4, 0)] = true ∧ lIa m_I_matchFrom 14 (.if_icmp .ge 30) 3 = true ∧ lSa m_I_matchFrom 17 [(.aload_n 0, 0), (.iload_n 1, 0), (.iload_n 2, 0), (.iload 5, 0), (.iadd, 0)] = true ∧ lIa m_I_matchFrom 23 (.invokevirtual 101) 3 = true ∧ lSa m_I_matchFrom 26 [(.aload_n 0, 0), (.iload_n 3, 0), (.iload 5, 0)] = true ∧ lIa m_I_matchFrom 30 (.invokevirtual 101) 3 = true ∧ lIa m_I_matchFrom 33 (.if_icmp .eq 5) 3 = true ∧ lSa m_I_matchFrom 38 [(.iinc 5 1, nI 1)] = true ∧ lIa m_I_matchFrom 41 (.goto (-31)) 3 = true := by decide +kernel
  refine lA8 hdd (fun dd0 dd1 dd2 dd3 dd4 dd5 dd6 dd7 hdd => ?_)
  have dd8 := hdd
  intro n
  induction n with
  | zero => intro G x0 x1 x2 x3 x4 x5 h; cases h
  | succ n ih =>
    intro G x0 x1 x2 x3 x4 x5 h
    unfold f_I_matchFrom_L10 at h
    refine Y.blk (pc' := 14) (L' := [some (.ref x0), some (.int x1), some (.int x2), some (.int x3), some (.int x4), some (.int x5)]) (st' := [.int x4, .int x5]) (sg := [(.iload 5, 0), (.iload 4, 0)]) (lSa_ok dd0) rfl ?_
    refine Y.ic_ge (off := 30) (tgt := 44) (lIa_ok dd1) (by decide) h (fun c17 h => ?_) (fun c17 h => ?_)
    · refine Y.less (L' := [none, none, none, none, none, none]) (zLe_none (zLe_none (zLe_none (zLe_none (zLe_none (zLe_none (zLe_nil))))))) ?_
      exact hK44 G  h
    · refine Y.blk (pc' := 23) (L' := [some (.ref x0), some (.int x1), some (.int x2), some (.int x3), some (.int x4), some (.int x5)]) (st' := [.int (x2 + x5), .int x1, .ref x0]) (sg := [(.aload_n 0, 0), (.iload_n 1, 0), (.iload_n 2, 0), (.iload 5, 0), (.iadd, 0)]) (lSa_ok dd2) rfl ?_
      obtain ⟨_, o7, e6, m8, h⟩ := gOb_inv h
      refine Y.callI (yC.Vi (b := x0) (As := [.int x1, .int (x2 + x5)]) (st := []) (r := ("Partlister$Lists", T_I, 7)) hV.1 cb_I_keyAt lk_I_101 in_I_keyAt rfl se_I_keyAt (lIa_ok dd3) rfl rfl (Nat.le_of_ble_eq_true rfl) (by decide) e6 m8) (k_I_keyAt hV G x0 x1 (x2 + x5)) h (fun v10 G9 _ h => ?_)
      refine Y.blk (pc' := 30) (L' := [some (.ref x0), some (.int x1), some (.int x2), some (.int x3), some (.int x4), some (.int x5)]) (st' := [.int x5, .int x3, .ref x0, .int v10]) (sg := [(.aload_n 0, 0), (.iload_n 3, 0), (.iload 5, 0)]) (lSa_ok dd4) rfl ?_
      obtain ⟨_, o12, e11, m13, h⟩ := gOb_inv h
      refine Y.callI (yC.Vi (b := x0) (As := [.int x3, .int x5]) (st := [.int v10]) (r := ("Partlister$Lists", T_I, 7)) hV.1 cb_I_keyAt lk_I_101 in_I_keyAt rfl se_I_keyAt (lIa_ok dd5) rfl rfl (Nat.le_of_ble_eq_true rfl) (by decide) e11 m13) (k_I_keyAt hV G9 x0 x3 x5) h (fun v15 G14 _ h => ?_)
      refine Y.ic_eq (off := 5) (tgt := 38) (lIa_ok dd6) (by decide) h (fun c16 h => ?_) (fun c16 h => ?_)
      · refine Y.blk (pc' := 41) (L' := [some (.ref x0), some (.int x1), some (.int x2), some (.int x3), some (.int x4), some (.int (x5 + (nI 1)))]) (st' := []) (sg := [(.iinc 5 1, nI 1)]) (lSa_ok dd7) rfl ?_
        refine Y.goto (off := -31) (tgt := 10) (lIa_ok dd8) (by decide) ?_
        exact ih G14 x0 x1 x2 x3 x4 (x5 + (nI 1)) h
      · refine Y.less (L' := [none, none, none, none, none, none]) (zLe_none (zLe_none (zLe_none (zLe_none (zLe_none (zLe_none (zLe_nil))))))) ?_
        exact hK36 G14  h
theorem k_I_matchFrom {l : Launch} {D : va_G} {B : Nat} {O : State → Heap → Prop} (hV : zG l D B O) (G : gH) (a0 : Nat) (a1 : Int32) (a2 : Int32) (a3 : Int32) : gMet (zVm l D B O) m_I_matchFrom 4 [.ref a0, .int a1, .int a2, .int a3] G (f_I_matchFrom G a0 a1 a2 a3) := by
  have hdd : lSa m_I_matchFrom 0 [(.aload_n 0, 0), (.iload_n 3, 0)] = true ∧ lIa m_I_matchFrom 2 (.invokevirtual 59) 3 = true ∧ lSa m_I_matchFrom 5 [(.istore 4, 0), (.iconst 0, nI 0), (.istore 5, 0)] = true ∧ lSa m_I_matchFrom 36 [(.iconst 0, nI 0)] = true ∧ lIa m_I_matchFrom 37 (.ireturn) 1 = true ∧ lSa m_I_matchFrom 44 [(.iconst 1, nI 1)] = true ∧ lIa m_I_matchFrom 45 (.ireturn) 1 = true := by decide +kernel
  obtain ⟨dd0, dd1, dd2, dd3, dd4, dd5, dd6⟩ := hdd
  refine gMet.of (by decide +kernel) (Nat.le_of_ble_eq_true rfl) [some (.ref a0), some (.int a1), some (.int a2), some (.int a3), none, none] (fun ls h => zEn_ok (n := 6) h) ?_
  intro o Gf h
  unfold f_I_matchFrom at h
  refine Y.blk (pc' := 2) (L' := [some (.ref a0), some (.int a1), some (.int a2), some (.int a3), none, none]) (st' := [.int a3, .ref a0]) (sg := [(.aload_n 0, 0), (.iload_n 3, 0)]) (lSa_ok dd0) rfl ?_
  obtain ⟨_, o2, e1, m3, h⟩ := gOb_inv h
  refine Y.callI (yC.Vi (b := a0) (As := [.int a3]) (st := []) (r := ("Partlister$Lists", T_I, 7)) hV.1 cb_I_lengthOf lk_I_59 in_I_lengthOf rfl se_I_lengthOf (lIa_ok dd1) rfl rfl (Nat.le_of_ble_eq_true rfl) (by decide) e1 m3) (k_I_lengthOf hV G a0 a3) h (fun v5 G4 _ h => ?_)
  refine Y.blk (pc' := 10) (L' := [some (.ref a0), some (.int a1), some (.int a2), some (.int a3), some (.int v5), some (.int (nI 0))]) (st' := []) (sg := [(.istore 4, 0), (.iconst 0, nI 0), (.istore 5, 0)]) (lSa_ok dd2) rfl ?_
  refine k_I_matchFrom_L10 hV _ _ ?_ ?_  zFu G4 a0 a1 a2 a3 v5 (nI 0) h
  · intro G18 h
    refine Y.blk (pc' := 37) (L' := [none, none, none, none, none, none]) (st' := [.int (nI 0)]) (sg := [(.iconst 0, nI 0)]) (lSa_ok dd3) rfl ?_
    exact Y.zret rfl (lIa_ok dd4) h
  · intro G19 h
    refine Y.blk (pc' := 45) (L' := [none, none, none, none, none, none]) (st' := [.int (nI 1)]) (sg := [(.iconst 1, nI 1)]) (lSa_ok dd5) rfl ?_
    exact Y.zret rfl (lIa_ok dd6) h

def f_I_matchWholly (G : gH) (a0 : Nat) (a1 : Int32) (a2 : Int32) : gR :=
  gOb G a0 1 fun o2 => bI (f_I_lengthOf G a0 a1) fun v5 G4 => gOb G4 a0 1 fun o7 => bI (f_I_lengthOf G4 a0 a2) fun v10 G9 => if v5 = v10 then (gOb G9 a0 1 fun o12 => bI (f_I_matchFrom G9 a0 a1 (nI 0) a2) fun v15 G14 => if v15 = 0 then rZ (nI 0) G14
    else rZ (nI 1) G14)
  else rZ (nI 0) G9
theorem k_I_matchWholly {l : Launch} {D : va_G} {B : Nat} {O : State → Heap → Prop} (hV : zG l D B O) (G : gH) (a0 : Nat) (a1 : Int32) (a2 : Int32) : gMet (zVm l D B O) m_I_matchWholly 5 [.ref a0, .int a1, .int a2] G (f_I_matchWholly G a0 a1 a2) := by
  have hdd : lSa m_I_matchWholly 0 [(.aload_n 0, 0), (.iload_n 1, 0)] = true ∧ lIa m_I_matchWholly 2 (.invokevirtual 59) 3 = true ∧ lSa m_I_matchWholly 5 [(.aload_n 0, 0), (.iload_n 2, 0)] = true ∧ lIa m_I_matchWholly 7 (.invokevirtual 59) 3 = true ∧ lIa m_I_matchWholly 10 (.if_icmp .ne 17) 3 = true ∧ lSa m_I_matchWholly 13 [(.aload_n 0, 0), (.iload_n 1, 0), (.iconst 0, nI 0), (.iload_n 2, 0)] = true ∧ lIa m_I_matchWholly 17 (.invokevirtual 107) 3 = true ∧ lIa m_I_matchWholly 20 (.ifCond .eq 7) 3 = true ∧ lSa m_I_matchWholly 27 [(.iconst 0, nI 0)] = true ∧ lIa m_I_matchWholly 28 (.ireturn) 1 = true ∧ lSa m_I_matchWholly 23 [(.iconst 1, nI 1)] = true ∧ lIa m_I_matchWholly 24 (.goto 4) 3 = true := by decide +kernel
  refine lA8 hdd (fun dd0 dd1 dd2 dd3 dd4 dd5 dd6 dd7 hdd => ?_)
  obtain ⟨dd8, dd9, dd10, dd11⟩ := hdd
  refine gMet.of (by decide +kernel) (Nat.le_of_ble_eq_true rfl) [some (.ref a0), some (.int a1), some (.int a2)] (fun ls h => zEn_ok (n := 3) h) ?_
  intro o Gf h
  unfold f_I_matchWholly at h
  refine Y.blk (pc' := 2) (L' := [some (.ref a0), some (.int a1), some (.int a2)]) (st' := [.int a1, .ref a0]) (sg := [(.aload_n 0, 0), (.iload_n 1, 0)]) (lSa_ok dd0) rfl ?_
  obtain ⟨_, o2, e1, m3, h⟩ := gOb_inv h
  refine Y.callI (yC.Vi (b := a0) (As := [.int a1]) (st := []) (r := ("Partlister$Lists", T_I, 7)) hV.1 cb_I_lengthOf lk_I_59 in_I_lengthOf rfl se_I_lengthOf (lIa_ok dd1) rfl rfl (Nat.le_of_ble_eq_true rfl) (by decide) e1 m3) (k_I_lengthOf hV G a0 a1) h (fun v5 G4 _ h => ?_)
  refine Y.blk (pc' := 7) (L' := [some (.ref a0), some (.int a1), some (.int a2)]) (st' := [.int a2, .ref a0, .int v5]) (sg := [(.aload_n 0, 0), (.iload_n 2, 0)]) (lSa_ok dd2) rfl ?_
  obtain ⟨_, o7, e6, m8, h⟩ := gOb_inv h
  refine Y.callI (yC.Vi (b := a0) (As := [.int a2]) (st := [.int v5]) (r := ("Partlister$Lists", T_I, 7)) hV.1 cb_I_lengthOf lk_I_59 in_I_lengthOf rfl se_I_lengthOf (lIa_ok dd3) rfl rfl (Nat.le_of_ble_eq_true rfl) (by decide) e6 m8) (k_I_lengthOf hV G4 a0 a2) h (fun v10 G9 _ h => ?_)
  refine Y.ic_ne (off := 17) (tgt := 27) (lIa_ok dd4) (by decide) h (fun c17 h => ?_) (fun c17 h => ?_)
  · refine Y.blk (pc' := 17) (L' := [some (.ref a0), some (.int a1), some (.int a2)]) (st' := [.int a2, .int (nI 0), .int a1, .ref a0]) (sg := [(.aload_n 0, 0), (.iload_n 1, 0), (.iconst 0, nI 0), (.iload_n 2, 0)]) (lSa_ok dd5) rfl ?_
    obtain ⟨_, o12, e11, m13, h⟩ := gOb_inv h
    refine Y.callI (yC.Vi (b := a0) (As := [.int a1, .int (nI 0), .int a2]) (st := []) (r := ("Partlister$Lists", T_I, 7)) hV.1 cb_I_matchFrom lk_I_107 in_I_matchFrom rfl se_I_matchFrom (lIa_ok dd6) rfl rfl (Nat.le_of_ble_eq_true rfl) (by decide) e11 m13) (k_I_matchFrom hV G9 a0 a1 (nI 0) a2) h (fun v15 G14 _ h => ?_)
    refine Y.if_eq (off := 7) (tgt := 27) (lIa_ok dd7) (by decide) h (fun c16 h => ?_) (fun c16 h => ?_)
    · refine Y.blk (pc' := 28) (L' := [some (.ref a0), some (.int a1), some (.int a2)]) (st' := [.int (nI 0)]) (sg := [(.iconst 0, nI 0)]) (lSa_ok dd8) rfl ?_
      exact Y.zret rfl (lIa_ok dd9) h
    · refine Y.blk (pc' := 24) (L' := [some (.ref a0), some (.int a1), some (.int a2)]) (st' := [.int (nI 1)]) (sg := [(.iconst 1, nI 1)]) (lSa_ok dd10) rfl ?_
      refine Y.goto (off := 4) (tgt := 28) (lIa_ok dd11) (by decide) ?_
      exact Y.zret rfl (lIa_ok dd9) h
  · refine Y.blk (pc' := 28) (L' := [some (.ref a0), some (.int a1), some (.int a2)]) (st' := [.int (nI 0)]) (sg := [(.iconst 0, nI 0)]) (lSa_ok dd8) rfl ?_
    exact Y.zret rfl (lIa_ok dd9) h

def f_I_placeOf_L15 (K32 : gH → Int32 → gR) (K41 : gH → gR) : Nat → gH → Nat → Int32 → Int32 → Int32 → Int32 → gR
  | 0, _, _, _, _, _, _ => none
  | n + 1, G, x0, x1, x2, x3, x4 =>
    if x3 < x4 then K41 G
    else gOb G x0 1 fun o12 => bI (f_I_matchFrom G x0 x1 x4 x2) fun v15 G14 => if v15 = 0 then f_I_placeOf_L15 K32 K41 n G14 x0 x1 x2 x3 (x4 + (nI 1))
      else K32 G14 x4
def f_I_placeOf (G : gH) (a0 : Nat) (a1 : Int32) (a2 : Int32) : gR :=
  gOb G a0 1 fun o2 => bI (f_I_lengthOf G a0 a1) fun v5 G4 => gOb G4 a0 1 fun o7 => bI (f_I_lengthOf G4 a0 a2) fun v10 G9 => f_I_placeOf_L15 (fun G19 x18 => rI x18 G19) (fun G20 => rI (-1) G20) zFu G9 a0 a1 a2 (v5 - v10) (nI 0)
theorem k_I_placeOf_L15 {l : Launch} {D : va_G} {B : Nat} {O : State → Heap → Prop} (hV : zG l D B O) {o : gO} {Gf : gH} (K32 : gH → Int32 → gR) (K41 : gH → gR) (hK32 : ∀ (G : gH) (x4 : Int32), K32 G x4 = some (o, Gf) → Y (zVm l D B O) m_I_placeOf 5 o Gf 32 [none, none, none, none, some (.int x4)] [] G) (hK41 : ∀ (G : gH), K41 G  = some (o, Gf) → Y (zVm l D B O) m_I_placeOf 5 o Gf 41 [none, none, none, none, none] [] G) : ∀ (n : Nat) (G : gH) (x0 : Nat) (x1 : Int32) (x2 : Int32) (x3 : Int32) (x4 : Int32), f_I_placeOf_L15 K32 K41 n G x0 x1 x2 x3 x4 = some (o, Gf) → Y (zVm l D B O) m_I_placeOf 5 o Gf 15 [some (.ref x0), some (.int x1), some (.int x2), some (.int x3), some (.int x4)] [] G := by
  have hdd : lSa m_I_placeOf 15 [(.iload 4, 0), (.iload_n 3, 0)] = true ∧ lIa m_I_placeOf 18 (.if_icmp .gt 23) 3 = true ∧ lSa m_I_placeOf 21 [(.aload_n 0, 0), (.iload_n 1, 0), (.iload 4, 0), (.iload_n 2, 0)] = true ∧ lIa m_I_placeOf 26 (.invokevirtual 107) 3 = true ∧ lIa m_I_placeOf 29 (.ifCond .eq 6) 3 = true ∧ lSa m_I_placeOf 35 [(.iinc 4 1, nI 1)] = true ∧ lIa m_I_placeOf 38 (.goto (-23)) 3 = true := by decide +kernel
  obtain ⟨dd0, dd1, dd2, dd3, dd4, dd5, dd6⟩ := hdd
  intro n
  induction n with
  | zero => intro G x0 x1 x2 x3 x4 h; cases h
  | succ n ih =>
    intro G x0 x1 x2 x3 x4 h
    unfold f_I_placeOf_L15 at h
    refine Y.blk (pc' := 18) (L' := [some (.ref x0), some (.int x1), some (.int x2), some (.int x3), some (.int x4)]) (st' := [.int x3, .int x4]) (sg := [(.iload 4, 0), (.iload_n 3, 0)]) (lSa_ok dd0) rfl ?_
    refine Y.ic_gt (off := 23) (tgt := 41) (lIa_ok dd1) (by decide) h (fun c17 h => ?_) (fun c17 h => ?_)
    · refine Y.less (L' := [none, none, none, none, none]) (zLe_none (zLe_none (zLe_none (zLe_none (zLe_none (zLe_nil)))))) ?_
      exact hK41 G  h
    · refine Y.blk (pc' := 26) (L' := [some (.ref x0), some (.int x1), some (.int x2), some (.int x3), some (.int x4)]) (st' := [.int x2, .int x4, .int x1, .ref x0]) (sg := [(.aload_n 0, 0), (.iload_n 1, 0), (.iload 4, 0), (.iload_n 2, 0)]) (lSa_ok dd2) rfl ?_
      obtain ⟨_, o12, e11, m13, h⟩ := gOb_inv h
      refine Y.callI (yC.Vi (b := x0) (As := [.int x1, .int x4, .int x2]) (st := []) (r := ("Partlister$Lists", T_I, 7)) hV.1 cb_I_matchFrom lk_I_107 in_I_matchFrom rfl se_I_matchFrom (lIa_ok dd3) rfl rfl (Nat.le_of_ble_eq_true rfl) (by decide) e11 m13) (k_I_matchFrom hV G x0 x1 x4 x2) h (fun v15 G14 _ h => ?_)
      refine Y.if_eq (off := 6) (tgt := 35) (lIa_ok dd4) (by decide) h (fun c16 h => ?_) (fun c16 h => ?_)
      · refine Y.blk (pc' := 38) (L' := [some (.ref x0), some (.int x1), some (.int x2), some (.int x3), some (.int (x4 + (nI 1)))]) (st' := []) (sg := [(.iinc 4 1, nI 1)]) (lSa_ok dd5) rfl ?_
        refine Y.goto (off := -23) (tgt := 15) (lIa_ok dd6) (by decide) ?_
        exact ih G14 x0 x1 x2 x3 (x4 + (nI 1)) h
      · refine Y.less (L' := [none, none, none, none, some (.int x4)]) (zLe_none (zLe_none (zLe_none (zLe_none (zLe_some (zLe_nil)))))) ?_
        exact hK32 G14 x4 h
theorem k_I_placeOf {l : Launch} {D : va_G} {B : Nat} {O : State → Heap → Prop} (hV : zG l D B O) (G : gH) (a0 : Nat) (a1 : Int32) (a2 : Int32) : gMet (zVm l D B O) m_I_placeOf 5 [.ref a0, .int a1, .int a2] G (f_I_placeOf G a0 a1 a2) := by
  have hdd : lSa m_I_placeOf 0 [(.aload_n 0, 0), (.iload_n 1, 0)] = true ∧ lIa m_I_placeOf 2 (.invokevirtual 59) 3 = true ∧ lSa m_I_placeOf 5 [(.aload_n 0, 0), (.iload_n 2, 0)] = true ∧ lIa m_I_placeOf 7 (.invokevirtual 59) 3 = true ∧ lSa m_I_placeOf 10 [(.isub, 0), (.istore_n 3, 0), (.iconst 0, nI 0), (.istore 4, 0)] = true ∧ lSa m_I_placeOf 32 [(.iload 4, 0)] = true ∧ lIa m_I_placeOf 34 (.ireturn) 1 = true ∧ lSa m_I_placeOf 41 [(.iconst (-1), -1)] = true ∧ lIa m_I_placeOf 42 (.ireturn) 1 = true := by decide +kernel
  refine lA8 hdd (fun dd0 dd1 dd2 dd3 dd4 dd5 dd6 dd7 hdd => ?_)
  have dd8 := hdd
  refine gMet.of (by decide +kernel) (Nat.le_of_ble_eq_true rfl) [some (.ref a0), some (.int a1), some (.int a2), none, none] (fun ls h => zEn_ok (n := 5) h) ?_
  intro o Gf h
  unfold f_I_placeOf at h
  refine Y.blk (pc' := 2) (L' := [some (.ref a0), some (.int a1), some (.int a2), none, none]) (st' := [.int a1, .ref a0]) (sg := [(.aload_n 0, 0), (.iload_n 1, 0)]) (lSa_ok dd0) rfl ?_
  obtain ⟨_, o2, e1, m3, h⟩ := gOb_inv h
  refine Y.callI (yC.Vi (b := a0) (As := [.int a1]) (st := []) (r := ("Partlister$Lists", T_I, 7)) hV.1 cb_I_lengthOf lk_I_59 in_I_lengthOf rfl se_I_lengthOf (lIa_ok dd1) rfl rfl (Nat.le_of_ble_eq_true rfl) (by decide) e1 m3) (k_I_lengthOf hV G a0 a1) h (fun v5 G4 _ h => ?_)
  refine Y.blk (pc' := 7) (L' := [some (.ref a0), some (.int a1), some (.int a2), none, none]) (st' := [.int a2, .ref a0, .int v5]) (sg := [(.aload_n 0, 0), (.iload_n 2, 0)]) (lSa_ok dd2) rfl ?_
  obtain ⟨_, o7, e6, m8, h⟩ := gOb_inv h
  refine Y.callI (yC.Vi (b := a0) (As := [.int a2]) (st := [.int v5]) (r := ("Partlister$Lists", T_I, 7)) hV.1 cb_I_lengthOf lk_I_59 in_I_lengthOf rfl se_I_lengthOf (lIa_ok dd3) rfl rfl (Nat.le_of_ble_eq_true rfl) (by decide) e6 m8) (k_I_lengthOf hV G4 a0 a2) h (fun v10 G9 _ h => ?_)
  refine Y.blk (pc' := 15) (L' := [some (.ref a0), some (.int a1), some (.int a2), some (.int (v5 - v10)), some (.int (nI 0))]) (st' := []) (sg := [(.isub, 0), (.istore_n 3, 0), (.iconst 0, nI 0), (.istore 4, 0)]) (lSa_ok dd4) rfl ?_
  refine k_I_placeOf_L15 hV _ _ ?_ ?_  zFu G9 a0 a1 a2 (v5 - v10) (nI 0) h
  · intro G19 x18 h
    refine Y.blk (pc' := 34) (L' := [none, none, none, none, some (.int x18)]) (st' := [.int x18]) (sg := [(.iload 4, 0)]) (lSa_ok dd5) rfl ?_
    exact Y.iret rfl (lIa_ok dd6) h
  · intro G20 h
    refine Y.blk (pc' := 42) (L' := [none, none, none, none, none]) (st' := [.int (-1)]) (sg := [(.iconst (-1), -1)]) (lSa_ok dd7) rfl ?_
    exact Y.iret rfl (lIa_ok dd8) h
end
section
def f_X_mixPair (G : gH) (a0 : Nat) (a1 : Int64) (a3 : Int32) (a4 : Int32) : gR :=
  gFA G a0 3 0 fun v1 => gOb G v1 1 fun o3 => bI (f_I_matchWholly G v1 a3 a4) fun v6 G5 => if v6 = 0 then (bL (f_X_mix G5 a1 (lN 0)) fun v9 G8 => gFA G8 a0 3 0 fun v10 => gOb G8 v10 1 fun o12 => bI (f_I_holdsKeys G8 v10 a3 a4) fun v15 G14 => if v15 = 0 then (bL (f_X_mix G14 v9 (lN 0)) fun v18 G17 => gFA G17 a0 3 0 fun v19 => gOb G17 v19 1 fun o21 => bI (f_I_shareNoKey G17 v19 a3 a4) fun v24 G23 => if v24 = 0 then bL (f_X_mix G23 v18 (lN 0)) fun v27 G26 => gFA G26 a0 3 0 fun v28 => gOb G26 v28 1 fun o30 => bI (f_I_placeOf G26 v28 a3 a4) fun v33 G32 => bL (f_X_mix G32 v27 v33.toInt64) fun v36 G35 => rL v36 G35
      else bL (f_X_mix G23 v18 (lN 1)) fun v39 G38 => gFA G38 a0 3 0 fun v40 => gOb G38 v40 1 fun o42 => bI (f_I_placeOf G38 v40 a3 a4) fun v45 G44 => bL (f_X_mix G44 v39 v45.toInt64) fun v48 G47 => rL v48 G47)
    else bL (f_X_mix G14 v9 (lN 1)) fun v52 G51 => gFA G51 a0 3 0 fun v53 => gOb G51 v53 1 fun o55 => bI (f_I_shareNoKey G51 v53 a3 a4) fun v58 G57 => if v58 = 0 then bL (f_X_mix G57 v52 (lN 0)) fun v61 G60 => gFA G60 a0 3 0 fun v62 => gOb G60 v62 1 fun o64 => bI (f_I_placeOf G60 v62 a3 a4) fun v67 G66 => bL (f_X_mix G66 v61 v67.toInt64) fun v70 G69 => rL v70 G69
      else bL (f_X_mix G57 v52 (lN 1)) fun v73 G72 => gFA G72 a0 3 0 fun v74 => gOb G72 v74 1 fun o76 => bI (f_I_placeOf G72 v74 a3 a4) fun v79 G78 => bL (f_X_mix G78 v73 v79.toInt64) fun v82 G81 => rL v82 G81)
  else bL (f_X_mix G5 a1 (lN 1)) fun v87 G86 => gFA G86 a0 3 0 fun v88 => gOb G86 v88 1 fun o90 => bI (f_I_holdsKeys G86 v88 a3 a4) fun v93 G92 => if v93 = 0 then (bL (f_X_mix G92 v87 (lN 0)) fun v96 G95 => gFA G95 a0 3 0 fun v97 => gOb G95 v97 1 fun o99 => bI (f_I_shareNoKey G95 v97 a3 a4) fun v102 G101 => if v102 = 0 then bL (f_X_mix G101 v96 (lN 0)) fun v105 G104 => gFA G104 a0 3 0 fun v106 => gOb G104 v106 1 fun o108 => bI (f_I_placeOf G104 v106 a3 a4) fun v111 G110 => bL (f_X_mix G110 v105 v111.toInt64) fun v114 G113 => rL v114 G113
      else bL (f_X_mix G101 v96 (lN 1)) fun v117 G116 => gFA G116 a0 3 0 fun v118 => gOb G116 v118 1 fun o120 => bI (f_I_placeOf G116 v118 a3 a4) fun v123 G122 => bL (f_X_mix G122 v117 v123.toInt64) fun v126 G125 => rL v126 G125)
    else bL (f_X_mix G92 v87 (lN 1)) fun v130 G129 => gFA G129 a0 3 0 fun v131 => gOb G129 v131 1 fun o133 => bI (f_I_shareNoKey G129 v131 a3 a4) fun v136 G135 => if v136 = 0 then bL (f_X_mix G135 v130 (lN 0)) fun v139 G138 => gFA G138 a0 3 0 fun v140 => gOb G138 v140 1 fun o142 => bI (f_I_placeOf G138 v140 a3 a4) fun v145 G144 => bL (f_X_mix G144 v139 v145.toInt64) fun v148 G147 => rL v148 G147
      else bL (f_X_mix G135 v130 (lN 1)) fun v151 G150 => gFA G150 a0 3 0 fun v152 => gOb G150 v152 1 fun o154 => bI (f_I_placeOf G150 v152 a3 a4) fun v157 G156 => bL (f_X_mix G156 v151 v157.toInt64) fun v160 G159 => rL v160 G159
theorem k_X_mixPair {l : Launch} {D : va_G} {B : Nat} {O : State → Heap → Prop} (hV : zG l D B O) (G : gH) (a0 : Nat) (a1 : Int64) (a3 : Int32) (a4 : Int32) : gMet (zVm l D B O) m_X_mixPair 6 [.ref a0, .long a1, .int a3, .int a4] G (f_X_mixPair G a0 a1 a3 a4) := by
  have hdd : lSa m_X_mixPair 0 [(.lload_n 1, 0), (.aload_n 0, 0)] = true ∧ lIa m_X_mixPair 2 (.getfield 10) 3 = true ∧ lSa m_X_mixPair 5 [(.iload_n 3, 0), (.iload 4, 0)] = true ∧ lIa m_X_mixPair 8 (.invokevirtual 199) 3 = true ∧ lIa m_X_mixPair 11 (.ifCond .eq 7) 3 = true ∧ lSa m_X_mixPair 18 [(.lconst 0, 0)] = true ∧ lIa m_X_mixPair 19 (.invokestatic 263) 3 = true ∧ lSa m_X_mixPair 22 [(.lstore 5, 0), (.lload 5, 0), (.aload_n 0, 0)] = true ∧ lIa m_X_mixPair 27 (.getfield 10) 3 = true ∧ lSa m_X_mixPair 30 [(.iload_n 3, 0), (.iload 4, 0)] = true ∧ lIa m_X_mixPair 33 (.invokevirtual 192) 3 = true ∧ lIa m_X_mixPair 36 (.ifCond .eq 7) 3 = true ∧ lSa m_X_mixPair 43 [(.lconst 0, 0)] = true ∧ lIa m_X_mixPair 44 (.invokestatic 263) 3 = true ∧ lSa m_X_mixPair 47 [(.lstore 5, 0), (.lload 5, 0), (.aload_n 0, 0)] = true ∧ lIa m_X_mixPair 52 (.getfield 10) 3 = true ∧ lSa m_X_mixPair 55 [(.iload_n 3, 0), (.iload 4, 0)] = true ∧ lIa m_X_mixPair 58 (.invokevirtual 196) 3 = true ∧ lIa m_X_mixPair 61 (.ifCond .eq 7) 3 = true ∧ lSa m_X_mixPair 68 [(.lconst 0, 0)] = true ∧ lIa m_X_mixPair 69 (.invokestatic 263) 3 = true ∧ lSa m_X_mixPair 72 [(.lstore 5, 0), (.lload 5, 0), (.aload_n 0, 0)] = true ∧ lIa m_X_mixPair 77 (.getfield 10) 3 = true ∧ lSa m_X_mixPair 80 [(.iload_n 3, 0), (.iload 4, 0)] = true ∧ lIa m_X_mixPair 83 (.invokevirtual 202) 3 = true ∧ lSa m_X_mixPair 86 [(.i2l, 0)] = true ∧ lIa m_X_mixPair 87 (.invokestatic 263) 3 = true ∧ lIa m_X_mixPair 90 (.lreturn) 1 = true ∧ lSa m_X_mixPair 64 [(.lconst 1, 0)] = true ∧ lIa m_X_mixPair 65 (.goto 4) 3 = true ∧ lSa m_X_mixPair 39 [(.lconst 1, 0)] = true ∧ lIa m_X_mixPair 40 (.goto 4) 3 = true ∧ lSa m_X_mixPair 14 [(.lconst 1, 0)] = true ∧ lIa m_X_mixPair 15 (.goto 4) 3 = true := by decide +kernel
  refine lA8 hdd (fun dd0 dd1 dd2 dd3 dd4 dd5 dd6 dd7 hdd => ?_)
  refine lA8 hdd (fun dd8 dd9 dd10 dd11 dd12 dd13 dd14 dd15 hdd => ?_)
  refine lA8 hdd (fun dd16 dd17 dd18 dd19 dd20 dd21 dd22 dd23 hdd => ?_)
  refine lA8 hdd (fun dd24 dd25 dd26 dd27 dd28 dd29 dd30 dd31 hdd => ?_)
  obtain ⟨dd32, dd33⟩ := hdd
  refine gMet.of (by decide +kernel) (Nat.le_of_ble_eq_true rfl) [some (.ref a0), some (.long a1), none, some (.int a3), some (.int a4), none, none] (fun ls h => zEn_ok (n := 7) h) ?_
  intro o Gf h
  unfold f_X_mixPair at h
  refine Y.blk (pc' := 2) (L' := [some (.ref a0), some (.long a1), none, some (.int a3), some (.int a4), none, none]) (st' := [.ref a0, .long a1]) (sg := [(.lload_n 1, 0), (.aload_n 0, 0)]) (lSa_ok dd0) rfl ?_
  refine Y.getA fl_X_10 (lIa_ok dd1) h (fun v1 h => ?_)
  refine Y.blk (pc' := 8) (L' := [some (.ref a0), some (.long a1), none, some (.int a3), some (.int a4), none, none]) (st' := [.int a4, .int a3, .ref v1, .long a1]) (sg := [(.iload_n 3, 0), (.iload 4, 0)]) (lSa_ok dd2) rfl ?_
  obtain ⟨_, o3, e2, m4, h⟩ := gOb_inv h
  refine Y.callI (yC.Vi (b := v1) (As := [.int a3, .int a4]) (st := [.long a1]) (r := ("Partlister$Lists", T_I, 7)) hV.1 cb_I_matchWholly lk_X_199 in_I_matchWholly rfl se_I_matchWholly (lIa_ok dd3) rfl rfl (Nat.le_of_ble_eq_true rfl) (by decide) e2 m4) (k_I_matchWholly hV G v1 a3 a4) h (fun v6 G5 _ h => ?_)
  refine Y.if_eq (off := 7) (tgt := 18) (lIa_ok dd4) (by decide) h (fun c163 h => ?_) (fun c163 h => ?_)
  · refine Y.blk (pc' := 19) (L' := [some (.ref a0), some (.long a1), none, some (.int a3), some (.int a4), none, none]) (st' := [.long (lN 0), .long a1]) (sg := [(.lconst 0, 0)]) (lSa_ok dd5) rfl ?_
    refine Y.callL (yC.S (As := [.long a1, .long (lN 0)]) (st := []) hV.1 cb_X_mix lk_X_263 st_X_mix (lIa_ok dd6) rfl rfl (Nat.le_of_ble_eq_true rfl) (by decide)) (k_X_mix hV G5 a1 (lN 0)) h (fun v9 G8 _ h => ?_)
    refine Y.blk (pc' := 27) (L' := [some (.ref a0), some (.long a1), none, some (.int a3), some (.int a4), some (.long v9), none]) (st' := [.ref a0, .long v9]) (sg := [(.lstore 5, 0), (.lload 5, 0), (.aload_n 0, 0)]) (lSa_ok dd7) rfl ?_
    refine Y.getA fl_X_10 (lIa_ok dd8) h (fun v10 h => ?_)
    refine Y.blk (pc' := 33) (L' := [some (.ref a0), some (.long a1), none, some (.int a3), some (.int a4), some (.long v9), none]) (st' := [.int a4, .int a3, .ref v10, .long v9]) (sg := [(.iload_n 3, 0), (.iload 4, 0)]) (lSa_ok dd9) rfl ?_
    obtain ⟨_, o12, e11, m13, h⟩ := gOb_inv h
    refine Y.callI (yC.Vi (b := v10) (As := [.int a3, .int a4]) (st := [.long v9]) (r := ("Partlister$Lists", T_I, 7)) hV.1 cb_I_holdsKeys lk_X_192 in_I_holdsKeys rfl se_I_holdsKeys (lIa_ok dd10) rfl rfl (Nat.le_of_ble_eq_true rfl) (by decide) e11 m13) (k_I_holdsKeys hV G8 v10 a3 a4) h (fun v15 G14 _ h => ?_)
    refine Y.if_eq (off := 7) (tgt := 43) (lIa_ok dd11) (by decide) h (fun c84 h => ?_) (fun c84 h => ?_)
    · refine Y.blk (pc' := 44) (L' := [some (.ref a0), some (.long a1), none, some (.int a3), some (.int a4), some (.long v9), none]) (st' := [.long (lN 0), .long v9]) (sg := [(.lconst 0, 0)]) (lSa_ok dd12) rfl ?_
      refine Y.callL (yC.S (As := [.long v9, .long (lN 0)]) (st := []) hV.1 cb_X_mix lk_X_263 st_X_mix (lIa_ok dd13) rfl rfl (Nat.le_of_ble_eq_true rfl) (by decide)) (k_X_mix hV G14 v9 (lN 0)) h (fun v18 G17 _ h => ?_)
      refine Y.blk (pc' := 52) (L' := [some (.ref a0), some (.long a1), none, some (.int a3), some (.int a4), some (.long v18), none]) (st' := [.ref a0, .long v18]) (sg := [(.lstore 5, 0), (.lload 5, 0), (.aload_n 0, 0)]) (lSa_ok dd14) rfl ?_
      refine Y.getA fl_X_10 (lIa_ok dd15) h (fun v19 h => ?_)
      refine Y.blk (pc' := 58) (L' := [some (.ref a0), some (.long a1), none, some (.int a3), some (.int a4), some (.long v18), none]) (st' := [.int a4, .int a3, .ref v19, .long v18]) (sg := [(.iload_n 3, 0), (.iload 4, 0)]) (lSa_ok dd16) rfl ?_
      obtain ⟨_, o21, e20, m22, h⟩ := gOb_inv h
      refine Y.callI (yC.Vi (b := v19) (As := [.int a3, .int a4]) (st := [.long v18]) (r := ("Partlister$Lists", T_I, 7)) hV.1 cb_I_shareNoKey lk_X_196 in_I_shareNoKey rfl se_I_shareNoKey (lIa_ok dd17) rfl rfl (Nat.le_of_ble_eq_true rfl) (by decide) e20 m22) (k_I_shareNoKey hV G17 v19 a3 a4) h (fun v24 G23 _ h => ?_)
      refine Y.if_eq (off := 7) (tgt := 68) (lIa_ok dd18) (by decide) h (fun c49 h => ?_) (fun c49 h => ?_)
      · refine Y.blk (pc' := 69) (L' := [some (.ref a0), some (.long a1), none, some (.int a3), some (.int a4), some (.long v18), none]) (st' := [.long (lN 0), .long v18]) (sg := [(.lconst 0, 0)]) (lSa_ok dd19) rfl ?_
        refine Y.callL (yC.S (As := [.long v18, .long (lN 0)]) (st := []) hV.1 cb_X_mix lk_X_263 st_X_mix (lIa_ok dd20) rfl rfl (Nat.le_of_ble_eq_true rfl) (by decide)) (k_X_mix hV G23 v18 (lN 0)) h (fun v27 G26 _ h => ?_)
        refine Y.blk (pc' := 77) (L' := [some (.ref a0), some (.long a1), none, some (.int a3), some (.int a4), some (.long v27), none]) (st' := [.ref a0, .long v27]) (sg := [(.lstore 5, 0), (.lload 5, 0), (.aload_n 0, 0)]) (lSa_ok dd21) rfl ?_
        refine Y.getA fl_X_10 (lIa_ok dd22) h (fun v28 h => ?_)
        refine Y.blk (pc' := 83) (L' := [some (.ref a0), some (.long a1), none, some (.int a3), some (.int a4), some (.long v27), none]) (st' := [.int a4, .int a3, .ref v28, .long v27]) (sg := [(.iload_n 3, 0), (.iload 4, 0)]) (lSa_ok dd23) rfl ?_
        obtain ⟨_, o30, e29, m31, h⟩ := gOb_inv h
        refine Y.callI (yC.Vi (b := v28) (As := [.int a3, .int a4]) (st := [.long v27]) (r := ("Partlister$Lists", T_I, 7)) hV.1 cb_I_placeOf lk_X_202 in_I_placeOf rfl se_I_placeOf (lIa_ok dd24) rfl rfl (Nat.le_of_ble_eq_true rfl) (by decide) e29 m31) (k_I_placeOf hV G26 v28 a3 a4) h (fun v33 G32 _ h => ?_)
        refine Y.blk (pc' := 87) (L' := [some (.ref a0), some (.long a1), none, some (.int a3), some (.int a4), some (.long v27), none]) (st' := [.long v33.toInt64, .long v27]) (sg := [(.i2l, 0)]) (lSa_ok dd25) rfl ?_
        refine Y.callL (yC.S (As := [.long v27, .long v33.toInt64]) (st := []) hV.1 cb_X_mix lk_X_263 st_X_mix (lIa_ok dd26) rfl rfl (Nat.le_of_ble_eq_true rfl) (by decide)) (k_X_mix hV G32 v27 v33.toInt64) h (fun v36 G35 _ h => ?_)
        exact Y.lret rfl (lIa_ok dd27) h
      · refine Y.blk (pc' := 65) (L' := [some (.ref a0), some (.long a1), none, some (.int a3), some (.int a4), some (.long v18), none]) (st' := [.long (lN 1), .long v18]) (sg := [(.lconst 1, 0)]) (lSa_ok dd28) rfl ?_
        refine Y.goto (off := 4) (tgt := 69) (lIa_ok dd29) (by decide) ?_
        refine Y.callL (yC.S (As := [.long v18, .long (lN 1)]) (st := []) hV.1 cb_X_mix lk_X_263 st_X_mix (lIa_ok dd20) rfl rfl (Nat.le_of_ble_eq_true rfl) (by decide)) (k_X_mix hV G23 v18 (lN 1)) h (fun v39 G38 _ h => ?_)
        refine Y.blk (pc' := 77) (L' := [some (.ref a0), some (.long a1), none, some (.int a3), some (.int a4), some (.long v39), none]) (st' := [.ref a0, .long v39]) (sg := [(.lstore 5, 0), (.lload 5, 0), (.aload_n 0, 0)]) (lSa_ok dd21) rfl ?_
        refine Y.getA fl_X_10 (lIa_ok dd22) h (fun v40 h => ?_)
        refine Y.blk (pc' := 83) (L' := [some (.ref a0), some (.long a1), none, some (.int a3), some (.int a4), some (.long v39), none]) (st' := [.int a4, .int a3, .ref v40, .long v39]) (sg := [(.iload_n 3, 0), (.iload 4, 0)]) (lSa_ok dd23) rfl ?_
        obtain ⟨_, o42, e41, m43, h⟩ := gOb_inv h
        refine Y.callI (yC.Vi (b := v40) (As := [.int a3, .int a4]) (st := [.long v39]) (r := ("Partlister$Lists", T_I, 7)) hV.1 cb_I_placeOf lk_X_202 in_I_placeOf rfl se_I_placeOf (lIa_ok dd24) rfl rfl (Nat.le_of_ble_eq_true rfl) (by decide) e41 m43) (k_I_placeOf hV G38 v40 a3 a4) h (fun v45 G44 _ h => ?_)
        refine Y.blk (pc' := 87) (L' := [some (.ref a0), some (.long a1), none, some (.int a3), some (.int a4), some (.long v39), none]) (st' := [.long v45.toInt64, .long v39]) (sg := [(.i2l, 0)]) (lSa_ok dd25) rfl ?_
        refine Y.callL (yC.S (As := [.long v39, .long v45.toInt64]) (st := []) hV.1 cb_X_mix lk_X_263 st_X_mix (lIa_ok dd26) rfl rfl (Nat.le_of_ble_eq_true rfl) (by decide)) (k_X_mix hV G44 v39 v45.toInt64) h (fun v48 G47 _ h => ?_)
        exact Y.lret rfl (lIa_ok dd27) h
    · refine Y.blk (pc' := 40) (L' := [some (.ref a0), some (.long a1), none, some (.int a3), some (.int a4), some (.long v9), none]) (st' := [.long (lN 1), .long v9]) (sg := [(.lconst 1, 0)]) (lSa_ok dd30) rfl ?_
      refine Y.goto (off := 4) (tgt := 44) (lIa_ok dd31) (by decide) ?_
      refine Y.callL (yC.S (As := [.long v9, .long (lN 1)]) (st := []) hV.1 cb_X_mix lk_X_263 st_X_mix (lIa_ok dd13) rfl rfl (Nat.le_of_ble_eq_true rfl) (by decide)) (k_X_mix hV G14 v9 (lN 1)) h (fun v52 G51 _ h => ?_)
      refine Y.blk (pc' := 52) (L' := [some (.ref a0), some (.long a1), none, some (.int a3), some (.int a4), some (.long v52), none]) (st' := [.ref a0, .long v52]) (sg := [(.lstore 5, 0), (.lload 5, 0), (.aload_n 0, 0)]) (lSa_ok dd14) rfl ?_
      refine Y.getA fl_X_10 (lIa_ok dd15) h (fun v53 h => ?_)
      refine Y.blk (pc' := 58) (L' := [some (.ref a0), some (.long a1), none, some (.int a3), some (.int a4), some (.long v52), none]) (st' := [.int a4, .int a3, .ref v53, .long v52]) (sg := [(.iload_n 3, 0), (.iload 4, 0)]) (lSa_ok dd16) rfl ?_
      obtain ⟨_, o55, e54, m56, h⟩ := gOb_inv h
      refine Y.callI (yC.Vi (b := v53) (As := [.int a3, .int a4]) (st := [.long v52]) (r := ("Partlister$Lists", T_I, 7)) hV.1 cb_I_shareNoKey lk_X_196 in_I_shareNoKey rfl se_I_shareNoKey (lIa_ok dd17) rfl rfl (Nat.le_of_ble_eq_true rfl) (by decide) e54 m56) (k_I_shareNoKey hV G51 v53 a3 a4) h (fun v58 G57 _ h => ?_)
      refine Y.if_eq (off := 7) (tgt := 68) (lIa_ok dd18) (by decide) h (fun c83 h => ?_) (fun c83 h => ?_)
      · refine Y.blk (pc' := 69) (L' := [some (.ref a0), some (.long a1), none, some (.int a3), some (.int a4), some (.long v52), none]) (st' := [.long (lN 0), .long v52]) (sg := [(.lconst 0, 0)]) (lSa_ok dd19) rfl ?_
        refine Y.callL (yC.S (As := [.long v52, .long (lN 0)]) (st := []) hV.1 cb_X_mix lk_X_263 st_X_mix (lIa_ok dd20) rfl rfl (Nat.le_of_ble_eq_true rfl) (by decide)) (k_X_mix hV G57 v52 (lN 0)) h (fun v61 G60 _ h => ?_)
        refine Y.blk (pc' := 77) (L' := [some (.ref a0), some (.long a1), none, some (.int a3), some (.int a4), some (.long v61), none]) (st' := [.ref a0, .long v61]) (sg := [(.lstore 5, 0), (.lload 5, 0), (.aload_n 0, 0)]) (lSa_ok dd21) rfl ?_
        refine Y.getA fl_X_10 (lIa_ok dd22) h (fun v62 h => ?_)
        refine Y.blk (pc' := 83) (L' := [some (.ref a0), some (.long a1), none, some (.int a3), some (.int a4), some (.long v61), none]) (st' := [.int a4, .int a3, .ref v62, .long v61]) (sg := [(.iload_n 3, 0), (.iload 4, 0)]) (lSa_ok dd23) rfl ?_
        obtain ⟨_, o64, e63, m65, h⟩ := gOb_inv h
        refine Y.callI (yC.Vi (b := v62) (As := [.int a3, .int a4]) (st := [.long v61]) (r := ("Partlister$Lists", T_I, 7)) hV.1 cb_I_placeOf lk_X_202 in_I_placeOf rfl se_I_placeOf (lIa_ok dd24) rfl rfl (Nat.le_of_ble_eq_true rfl) (by decide) e63 m65) (k_I_placeOf hV G60 v62 a3 a4) h (fun v67 G66 _ h => ?_)
        refine Y.blk (pc' := 87) (L' := [some (.ref a0), some (.long a1), none, some (.int a3), some (.int a4), some (.long v61), none]) (st' := [.long v67.toInt64, .long v61]) (sg := [(.i2l, 0)]) (lSa_ok dd25) rfl ?_
        refine Y.callL (yC.S (As := [.long v61, .long v67.toInt64]) (st := []) hV.1 cb_X_mix lk_X_263 st_X_mix (lIa_ok dd26) rfl rfl (Nat.le_of_ble_eq_true rfl) (by decide)) (k_X_mix hV G66 v61 v67.toInt64) h (fun v70 G69 _ h => ?_)
        exact Y.lret rfl (lIa_ok dd27) h
      · refine Y.blk (pc' := 65) (L' := [some (.ref a0), some (.long a1), none, some (.int a3), some (.int a4), some (.long v52), none]) (st' := [.long (lN 1), .long v52]) (sg := [(.lconst 1, 0)]) (lSa_ok dd28) rfl ?_
        refine Y.goto (off := 4) (tgt := 69) (lIa_ok dd29) (by decide) ?_
        refine Y.callL (yC.S (As := [.long v52, .long (lN 1)]) (st := []) hV.1 cb_X_mix lk_X_263 st_X_mix (lIa_ok dd20) rfl rfl (Nat.le_of_ble_eq_true rfl) (by decide)) (k_X_mix hV G57 v52 (lN 1)) h (fun v73 G72 _ h => ?_)
        refine Y.blk (pc' := 77) (L' := [some (.ref a0), some (.long a1), none, some (.int a3), some (.int a4), some (.long v73), none]) (st' := [.ref a0, .long v73]) (sg := [(.lstore 5, 0), (.lload 5, 0), (.aload_n 0, 0)]) (lSa_ok dd21) rfl ?_
        refine Y.getA fl_X_10 (lIa_ok dd22) h (fun v74 h => ?_)
        refine Y.blk (pc' := 83) (L' := [some (.ref a0), some (.long a1), none, some (.int a3), some (.int a4), some (.long v73), none]) (st' := [.int a4, .int a3, .ref v74, .long v73]) (sg := [(.iload_n 3, 0), (.iload 4, 0)]) (lSa_ok dd23) rfl ?_
        obtain ⟨_, o76, e75, m77, h⟩ := gOb_inv h
        refine Y.callI (yC.Vi (b := v74) (As := [.int a3, .int a4]) (st := [.long v73]) (r := ("Partlister$Lists", T_I, 7)) hV.1 cb_I_placeOf lk_X_202 in_I_placeOf rfl se_I_placeOf (lIa_ok dd24) rfl rfl (Nat.le_of_ble_eq_true rfl) (by decide) e75 m77) (k_I_placeOf hV G72 v74 a3 a4) h (fun v79 G78 _ h => ?_)
        refine Y.blk (pc' := 87) (L' := [some (.ref a0), some (.long a1), none, some (.int a3), some (.int a4), some (.long v73), none]) (st' := [.long v79.toInt64, .long v73]) (sg := [(.i2l, 0)]) (lSa_ok dd25) rfl ?_
        refine Y.callL (yC.S (As := [.long v73, .long v79.toInt64]) (st := []) hV.1 cb_X_mix lk_X_263 st_X_mix (lIa_ok dd26) rfl rfl (Nat.le_of_ble_eq_true rfl) (by decide)) (k_X_mix hV G78 v73 v79.toInt64) h (fun v82 G81 _ h => ?_)
        exact Y.lret rfl (lIa_ok dd27) h
  · refine Y.blk (pc' := 15) (L' := [some (.ref a0), some (.long a1), none, some (.int a3), some (.int a4), none, none]) (st' := [.long (lN 1), .long a1]) (sg := [(.lconst 1, 0)]) (lSa_ok dd32) rfl ?_
    refine Y.goto (off := 4) (tgt := 19) (lIa_ok dd33) (by decide) ?_
    refine Y.callL (yC.S (As := [.long a1, .long (lN 1)]) (st := []) hV.1 cb_X_mix lk_X_263 st_X_mix (lIa_ok dd6) rfl rfl (Nat.le_of_ble_eq_true rfl) (by decide)) (k_X_mix hV G5 a1 (lN 1)) h (fun v87 G86 _ h => ?_)
    refine Y.blk (pc' := 27) (L' := [some (.ref a0), some (.long a1), none, some (.int a3), some (.int a4), some (.long v87), none]) (st' := [.ref a0, .long v87]) (sg := [(.lstore 5, 0), (.lload 5, 0), (.aload_n 0, 0)]) (lSa_ok dd7) rfl ?_
    refine Y.getA fl_X_10 (lIa_ok dd8) h (fun v88 h => ?_)
    refine Y.blk (pc' := 33) (L' := [some (.ref a0), some (.long a1), none, some (.int a3), some (.int a4), some (.long v87), none]) (st' := [.int a4, .int a3, .ref v88, .long v87]) (sg := [(.iload_n 3, 0), (.iload 4, 0)]) (lSa_ok dd9) rfl ?_
    obtain ⟨_, o90, e89, m91, h⟩ := gOb_inv h
    refine Y.callI (yC.Vi (b := v88) (As := [.int a3, .int a4]) (st := [.long v87]) (r := ("Partlister$Lists", T_I, 7)) hV.1 cb_I_holdsKeys lk_X_192 in_I_holdsKeys rfl se_I_holdsKeys (lIa_ok dd10) rfl rfl (Nat.le_of_ble_eq_true rfl) (by decide) e89 m91) (k_I_holdsKeys hV G86 v88 a3 a4) h (fun v93 G92 _ h => ?_)
    refine Y.if_eq (off := 7) (tgt := 43) (lIa_ok dd11) (by decide) h (fun c162 h => ?_) (fun c162 h => ?_)
    · refine Y.blk (pc' := 44) (L' := [some (.ref a0), some (.long a1), none, some (.int a3), some (.int a4), some (.long v87), none]) (st' := [.long (lN 0), .long v87]) (sg := [(.lconst 0, 0)]) (lSa_ok dd12) rfl ?_
      refine Y.callL (yC.S (As := [.long v87, .long (lN 0)]) (st := []) hV.1 cb_X_mix lk_X_263 st_X_mix (lIa_ok dd13) rfl rfl (Nat.le_of_ble_eq_true rfl) (by decide)) (k_X_mix hV G92 v87 (lN 0)) h (fun v96 G95 _ h => ?_)
      refine Y.blk (pc' := 52) (L' := [some (.ref a0), some (.long a1), none, some (.int a3), some (.int a4), some (.long v96), none]) (st' := [.ref a0, .long v96]) (sg := [(.lstore 5, 0), (.lload 5, 0), (.aload_n 0, 0)]) (lSa_ok dd14) rfl ?_
      refine Y.getA fl_X_10 (lIa_ok dd15) h (fun v97 h => ?_)
      refine Y.blk (pc' := 58) (L' := [some (.ref a0), some (.long a1), none, some (.int a3), some (.int a4), some (.long v96), none]) (st' := [.int a4, .int a3, .ref v97, .long v96]) (sg := [(.iload_n 3, 0), (.iload 4, 0)]) (lSa_ok dd16) rfl ?_
      obtain ⟨_, o99, e98, m100, h⟩ := gOb_inv h
      refine Y.callI (yC.Vi (b := v97) (As := [.int a3, .int a4]) (st := [.long v96]) (r := ("Partlister$Lists", T_I, 7)) hV.1 cb_I_shareNoKey lk_X_196 in_I_shareNoKey rfl se_I_shareNoKey (lIa_ok dd17) rfl rfl (Nat.le_of_ble_eq_true rfl) (by decide) e98 m100) (k_I_shareNoKey hV G95 v97 a3 a4) h (fun v102 G101 _ h => ?_)
      refine Y.if_eq (off := 7) (tgt := 68) (lIa_ok dd18) (by decide) h (fun c127 h => ?_) (fun c127 h => ?_)
      · refine Y.blk (pc' := 69) (L' := [some (.ref a0), some (.long a1), none, some (.int a3), some (.int a4), some (.long v96), none]) (st' := [.long (lN 0), .long v96]) (sg := [(.lconst 0, 0)]) (lSa_ok dd19) rfl ?_
        refine Y.callL (yC.S (As := [.long v96, .long (lN 0)]) (st := []) hV.1 cb_X_mix lk_X_263 st_X_mix (lIa_ok dd20) rfl rfl (Nat.le_of_ble_eq_true rfl) (by decide)) (k_X_mix hV G101 v96 (lN 0)) h (fun v105 G104 _ h => ?_)
        refine Y.blk (pc' := 77) (L' := [some (.ref a0), some (.long a1), none, some (.int a3), some (.int a4), some (.long v105), none]) (st' := [.ref a0, .long v105]) (sg := [(.lstore 5, 0), (.lload 5, 0), (.aload_n 0, 0)]) (lSa_ok dd21) rfl ?_
        refine Y.getA fl_X_10 (lIa_ok dd22) h (fun v106 h => ?_)
        refine Y.blk (pc' := 83) (L' := [some (.ref a0), some (.long a1), none, some (.int a3), some (.int a4), some (.long v105), none]) (st' := [.int a4, .int a3, .ref v106, .long v105]) (sg := [(.iload_n 3, 0), (.iload 4, 0)]) (lSa_ok dd23) rfl ?_
        obtain ⟨_, o108, e107, m109, h⟩ := gOb_inv h
        refine Y.callI (yC.Vi (b := v106) (As := [.int a3, .int a4]) (st := [.long v105]) (r := ("Partlister$Lists", T_I, 7)) hV.1 cb_I_placeOf lk_X_202 in_I_placeOf rfl se_I_placeOf (lIa_ok dd24) rfl rfl (Nat.le_of_ble_eq_true rfl) (by decide) e107 m109) (k_I_placeOf hV G104 v106 a3 a4) h (fun v111 G110 _ h => ?_)
        refine Y.blk (pc' := 87) (L' := [some (.ref a0), some (.long a1), none, some (.int a3), some (.int a4), some (.long v105), none]) (st' := [.long v111.toInt64, .long v105]) (sg := [(.i2l, 0)]) (lSa_ok dd25) rfl ?_
        refine Y.callL (yC.S (As := [.long v105, .long v111.toInt64]) (st := []) hV.1 cb_X_mix lk_X_263 st_X_mix (lIa_ok dd26) rfl rfl (Nat.le_of_ble_eq_true rfl) (by decide)) (k_X_mix hV G110 v105 v111.toInt64) h (fun v114 G113 _ h => ?_)
        exact Y.lret rfl (lIa_ok dd27) h
      · refine Y.blk (pc' := 65) (L' := [some (.ref a0), some (.long a1), none, some (.int a3), some (.int a4), some (.long v96), none]) (st' := [.long (lN 1), .long v96]) (sg := [(.lconst 1, 0)]) (lSa_ok dd28) rfl ?_
        refine Y.goto (off := 4) (tgt := 69) (lIa_ok dd29) (by decide) ?_
        refine Y.callL (yC.S (As := [.long v96, .long (lN 1)]) (st := []) hV.1 cb_X_mix lk_X_263 st_X_mix (lIa_ok dd20) rfl rfl (Nat.le_of_ble_eq_true rfl) (by decide)) (k_X_mix hV G101 v96 (lN 1)) h (fun v117 G116 _ h => ?_)
        refine Y.blk (pc' := 77) (L' := [some (.ref a0), some (.long a1), none, some (.int a3), some (.int a4), some (.long v117), none]) (st' := [.ref a0, .long v117]) (sg := [(.lstore 5, 0), (.lload 5, 0), (.aload_n 0, 0)]) (lSa_ok dd21) rfl ?_
        refine Y.getA fl_X_10 (lIa_ok dd22) h (fun v118 h => ?_)
        refine Y.blk (pc' := 83) (L' := [some (.ref a0), some (.long a1), none, some (.int a3), some (.int a4), some (.long v117), none]) (st' := [.int a4, .int a3, .ref v118, .long v117]) (sg := [(.iload_n 3, 0), (.iload 4, 0)]) (lSa_ok dd23) rfl ?_
        obtain ⟨_, o120, e119, m121, h⟩ := gOb_inv h
        refine Y.callI (yC.Vi (b := v118) (As := [.int a3, .int a4]) (st := [.long v117]) (r := ("Partlister$Lists", T_I, 7)) hV.1 cb_I_placeOf lk_X_202 in_I_placeOf rfl se_I_placeOf (lIa_ok dd24) rfl rfl (Nat.le_of_ble_eq_true rfl) (by decide) e119 m121) (k_I_placeOf hV G116 v118 a3 a4) h (fun v123 G122 _ h => ?_)
        refine Y.blk (pc' := 87) (L' := [some (.ref a0), some (.long a1), none, some (.int a3), some (.int a4), some (.long v117), none]) (st' := [.long v123.toInt64, .long v117]) (sg := [(.i2l, 0)]) (lSa_ok dd25) rfl ?_
        refine Y.callL (yC.S (As := [.long v117, .long v123.toInt64]) (st := []) hV.1 cb_X_mix lk_X_263 st_X_mix (lIa_ok dd26) rfl rfl (Nat.le_of_ble_eq_true rfl) (by decide)) (k_X_mix hV G122 v117 v123.toInt64) h (fun v126 G125 _ h => ?_)
        exact Y.lret rfl (lIa_ok dd27) h
    · refine Y.blk (pc' := 40) (L' := [some (.ref a0), some (.long a1), none, some (.int a3), some (.int a4), some (.long v87), none]) (st' := [.long (lN 1), .long v87]) (sg := [(.lconst 1, 0)]) (lSa_ok dd30) rfl ?_
      refine Y.goto (off := 4) (tgt := 44) (lIa_ok dd31) (by decide) ?_
      refine Y.callL (yC.S (As := [.long v87, .long (lN 1)]) (st := []) hV.1 cb_X_mix lk_X_263 st_X_mix (lIa_ok dd13) rfl rfl (Nat.le_of_ble_eq_true rfl) (by decide)) (k_X_mix hV G92 v87 (lN 1)) h (fun v130 G129 _ h => ?_)
      refine Y.blk (pc' := 52) (L' := [some (.ref a0), some (.long a1), none, some (.int a3), some (.int a4), some (.long v130), none]) (st' := [.ref a0, .long v130]) (sg := [(.lstore 5, 0), (.lload 5, 0), (.aload_n 0, 0)]) (lSa_ok dd14) rfl ?_
      refine Y.getA fl_X_10 (lIa_ok dd15) h (fun v131 h => ?_)
      refine Y.blk (pc' := 58) (L' := [some (.ref a0), some (.long a1), none, some (.int a3), some (.int a4), some (.long v130), none]) (st' := [.int a4, .int a3, .ref v131, .long v130]) (sg := [(.iload_n 3, 0), (.iload 4, 0)]) (lSa_ok dd16) rfl ?_
      obtain ⟨_, o133, e132, m134, h⟩ := gOb_inv h
      refine Y.callI (yC.Vi (b := v131) (As := [.int a3, .int a4]) (st := [.long v130]) (r := ("Partlister$Lists", T_I, 7)) hV.1 cb_I_shareNoKey lk_X_196 in_I_shareNoKey rfl se_I_shareNoKey (lIa_ok dd17) rfl rfl (Nat.le_of_ble_eq_true rfl) (by decide) e132 m134) (k_I_shareNoKey hV G129 v131 a3 a4) h (fun v136 G135 _ h => ?_)
      refine Y.if_eq (off := 7) (tgt := 68) (lIa_ok dd18) (by decide) h (fun c161 h => ?_) (fun c161 h => ?_)
      · refine Y.blk (pc' := 69) (L' := [some (.ref a0), some (.long a1), none, some (.int a3), some (.int a4), some (.long v130), none]) (st' := [.long (lN 0), .long v130]) (sg := [(.lconst 0, 0)]) (lSa_ok dd19) rfl ?_
        refine Y.callL (yC.S (As := [.long v130, .long (lN 0)]) (st := []) hV.1 cb_X_mix lk_X_263 st_X_mix (lIa_ok dd20) rfl rfl (Nat.le_of_ble_eq_true rfl) (by decide)) (k_X_mix hV G135 v130 (lN 0)) h (fun v139 G138 _ h => ?_)
        refine Y.blk (pc' := 77) (L' := [some (.ref a0), some (.long a1), none, some (.int a3), some (.int a4), some (.long v139), none]) (st' := [.ref a0, .long v139]) (sg := [(.lstore 5, 0), (.lload 5, 0), (.aload_n 0, 0)]) (lSa_ok dd21) rfl ?_
        refine Y.getA fl_X_10 (lIa_ok dd22) h (fun v140 h => ?_)
        refine Y.blk (pc' := 83) (L' := [some (.ref a0), some (.long a1), none, some (.int a3), some (.int a4), some (.long v139), none]) (st' := [.int a4, .int a3, .ref v140, .long v139]) (sg := [(.iload_n 3, 0), (.iload 4, 0)]) (lSa_ok dd23) rfl ?_
        obtain ⟨_, o142, e141, m143, h⟩ := gOb_inv h
        refine Y.callI (yC.Vi (b := v140) (As := [.int a3, .int a4]) (st := [.long v139]) (r := ("Partlister$Lists", T_I, 7)) hV.1 cb_I_placeOf lk_X_202 in_I_placeOf rfl se_I_placeOf (lIa_ok dd24) rfl rfl (Nat.le_of_ble_eq_true rfl) (by decide) e141 m143) (k_I_placeOf hV G138 v140 a3 a4) h (fun v145 G144 _ h => ?_)
        refine Y.blk (pc' := 87) (L' := [some (.ref a0), some (.long a1), none, some (.int a3), some (.int a4), some (.long v139), none]) (st' := [.long v145.toInt64, .long v139]) (sg := [(.i2l, 0)]) (lSa_ok dd25) rfl ?_
        refine Y.callL (yC.S (As := [.long v139, .long v145.toInt64]) (st := []) hV.1 cb_X_mix lk_X_263 st_X_mix (lIa_ok dd26) rfl rfl (Nat.le_of_ble_eq_true rfl) (by decide)) (k_X_mix hV G144 v139 v145.toInt64) h (fun v148 G147 _ h => ?_)
        exact Y.lret rfl (lIa_ok dd27) h
      · refine Y.blk (pc' := 65) (L' := [some (.ref a0), some (.long a1), none, some (.int a3), some (.int a4), some (.long v130), none]) (st' := [.long (lN 1), .long v130]) (sg := [(.lconst 1, 0)]) (lSa_ok dd28) rfl ?_
        refine Y.goto (off := 4) (tgt := 69) (lIa_ok dd29) (by decide) ?_
        refine Y.callL (yC.S (As := [.long v130, .long (lN 1)]) (st := []) hV.1 cb_X_mix lk_X_263 st_X_mix (lIa_ok dd20) rfl rfl (Nat.le_of_ble_eq_true rfl) (by decide)) (k_X_mix hV G135 v130 (lN 1)) h (fun v151 G150 _ h => ?_)
        refine Y.blk (pc' := 77) (L' := [some (.ref a0), some (.long a1), none, some (.int a3), some (.int a4), some (.long v151), none]) (st' := [.ref a0, .long v151]) (sg := [(.lstore 5, 0), (.lload 5, 0), (.aload_n 0, 0)]) (lSa_ok dd21) rfl ?_
        refine Y.getA fl_X_10 (lIa_ok dd22) h (fun v152 h => ?_)
        refine Y.blk (pc' := 83) (L' := [some (.ref a0), some (.long a1), none, some (.int a3), some (.int a4), some (.long v151), none]) (st' := [.int a4, .int a3, .ref v152, .long v151]) (sg := [(.iload_n 3, 0), (.iload 4, 0)]) (lSa_ok dd23) rfl ?_
        obtain ⟨_, o154, e153, m155, h⟩ := gOb_inv h
        refine Y.callI (yC.Vi (b := v152) (As := [.int a3, .int a4]) (st := [.long v151]) (r := ("Partlister$Lists", T_I, 7)) hV.1 cb_I_placeOf lk_X_202 in_I_placeOf rfl se_I_placeOf (lIa_ok dd24) rfl rfl (Nat.le_of_ble_eq_true rfl) (by decide) e153 m155) (k_I_placeOf hV G150 v152 a3 a4) h (fun v157 G156 _ h => ?_)
        refine Y.blk (pc' := 87) (L' := [some (.ref a0), some (.long a1), none, some (.int a3), some (.int a4), some (.long v151), none]) (st' := [.long v157.toInt64, .long v151]) (sg := [(.i2l, 0)]) (lSa_ok dd25) rfl ?_
        refine Y.callL (yC.S (As := [.long v151, .long v157.toInt64]) (st := []) hV.1 cb_X_mix lk_X_263 st_X_mix (lIa_ok dd26) rfl rfl (Nat.le_of_ble_eq_true rfl) (by decide)) (k_X_mix hV G156 v151 v157.toInt64) h (fun v160 G159 _ h => ?_)
        exact Y.lret rfl (lIa_ok dd27) h

def f_U_lastOf (G : gH) (a0 : Nat) (a1 : Int32) : gR :=
  gFA G a0 0 3 fun v1 => gOb G v1 2 fun o3 => bI (f_N_read G v1 a1) fun v6 G5 => rI v6 G5
theorem k_U_lastOf {l : Launch} {D : va_G} {B : Nat} {O : State → Heap → Prop} (hV : zG l D B O) (G : gH) (a0 : Nat) (a1 : Int32) : gMet (zVm l D B O) m_U_lastOf 2 [.ref a0, .int a1] G (f_U_lastOf G a0 a1) := by
  have hdd : lSa m_U_lastOf 0 [(.aload_n 0, 0)] = true ∧ lIa m_U_lastOf 1 (.getfield 26) 3 = true ∧ lSa m_U_lastOf 4 [(.iload_n 1, 0)] = true ∧ lIa m_U_lastOf 5 (.invokevirtual 33) 3 = true ∧ lIa m_U_lastOf 8 (.ireturn) 1 = true := by decide +kernel
  obtain ⟨dd0, dd1, dd2, dd3, dd4⟩ := hdd
  refine gMet.of (by decide +kernel) (Nat.le_of_ble_eq_true rfl) [some (.ref a0), some (.int a1)] (fun ls h => zEn_ok (n := 2) h) ?_
  intro o Gf h
  unfold f_U_lastOf at h
  refine Y.blk (pc' := 1) (L' := [some (.ref a0), some (.int a1)]) (st' := [.ref a0]) (sg := [(.aload_n 0, 0)]) (lSa_ok dd0) rfl ?_
  refine Y.getA fl_U_26 (lIa_ok dd1) h (fun v1 h => ?_)
  refine Y.blk (pc' := 5) (L' := [some (.ref a0), some (.int a1)]) (st' := [.int a1, .ref v1]) (sg := [(.iload_n 1, 0)]) (lSa_ok dd2) rfl ?_
  obtain ⟨_, o3, e2, m4, h⟩ := gOb_inv h
  refine Y.callI (yC.Vi (b := v1) (As := [.int a1]) (st := []) (r := ("Partlister$Numbers", T_N, 1)) hV.1 cb_N_read lk_U_33 in_N_read rfl se_N_read (lIa_ok dd3) rfl rfl (Nat.le_of_ble_eq_true rfl) (by decide) e2 m4) (k_N_read hV G v1 a1) h (fun v6 G5 _ h => ?_)
  exact Y.iret rfl (lIa_ok dd4) h

def f_U_nextOf (G : gH) (a0 : Nat) (a1 : Int32) : gR :=
  gFA G a0 0 2 fun v1 => gOb G v1 2 fun o3 => bI (f_N_read G v1 a1) fun v6 G5 => rI v6 G5
theorem k_U_nextOf {l : Launch} {D : va_G} {B : Nat} {O : State → Heap → Prop} (hV : zG l D B O) (G : gH) (a0 : Nat) (a1 : Int32) : gMet (zVm l D B O) m_U_nextOf 2 [.ref a0, .int a1] G (f_U_nextOf G a0 a1) := by
  have hdd : lSa m_U_nextOf 0 [(.aload_n 0, 0)] = true ∧ lIa m_U_nextOf 1 (.getfield 23) 3 = true ∧ lSa m_U_nextOf 4 [(.iload_n 1, 0)] = true ∧ lIa m_U_nextOf 5 (.invokevirtual 33) 3 = true ∧ lIa m_U_nextOf 8 (.ireturn) 1 = true := by decide +kernel
  obtain ⟨dd0, dd1, dd2, dd3, dd4⟩ := hdd
  refine gMet.of (by decide +kernel) (Nat.le_of_ble_eq_true rfl) [some (.ref a0), some (.int a1)] (fun ls h => zEn_ok (n := 2) h) ?_
  intro o Gf h
  unfold f_U_nextOf at h
  refine Y.blk (pc' := 1) (L' := [some (.ref a0), some (.int a1)]) (st' := [.ref a0]) (sg := [(.aload_n 0, 0)]) (lSa_ok dd0) rfl ?_
  refine Y.getA fl_U_23 (lIa_ok dd1) h (fun v1 h => ?_)
  refine Y.blk (pc' := 5) (L' := [some (.ref a0), some (.int a1)]) (st' := [.int a1, .ref v1]) (sg := [(.iload_n 1, 0)]) (lSa_ok dd2) rfl ?_
  obtain ⟨_, o3, e2, m4, h⟩ := gOb_inv h
  refine Y.callI (yC.Vi (b := v1) (As := [.int a1]) (st := []) (r := ("Partlister$Numbers", T_N, 1)) hV.1 cb_N_read lk_U_33 in_N_read rfl se_N_read (lIa_ok dd3) rfl rfl (Nat.le_of_ble_eq_true rfl) (by decide) e2 m4) (k_N_read hV G v1 a1) h (fun v6 G5 _ h => ?_)
  exact Y.iret rfl (lIa_ok dd4) h

def f_U_stateOf (G : gH) (a0 : Nat) (a1 : Int32) : gR :=
  gFA G a0 0 0 fun v1 => gOb G v1 2 fun o3 => bI (f_N_read G v1 a1) fun v6 G5 => rI v6 G5
theorem k_U_stateOf {l : Launch} {D : va_G} {B : Nat} {O : State → Heap → Prop} (hV : zG l D B O) (G : gH) (a0 : Nat) (a1 : Int32) : gMet (zVm l D B O) m_U_stateOf 2 [.ref a0, .int a1] G (f_U_stateOf G a0 a1) := by
  have hdd : lSa m_U_stateOf 0 [(.aload_n 0, 0)] = true ∧ lIa m_U_stateOf 1 (.getfield 14) 3 = true ∧ lSa m_U_stateOf 4 [(.iload_n 1, 0)] = true ∧ lIa m_U_stateOf 5 (.invokevirtual 33) 3 = true ∧ lIa m_U_stateOf 8 (.ireturn) 1 = true := by decide +kernel
  obtain ⟨dd0, dd1, dd2, dd3, dd4⟩ := hdd
  refine gMet.of (by decide +kernel) (Nat.le_of_ble_eq_true rfl) [some (.ref a0), some (.int a1)] (fun ls h => zEn_ok (n := 2) h) ?_
  intro o Gf h
  unfold f_U_stateOf at h
  refine Y.blk (pc' := 1) (L' := [some (.ref a0), some (.int a1)]) (st' := [.ref a0]) (sg := [(.aload_n 0, 0)]) (lSa_ok dd0) rfl ?_
  refine Y.getA fl_U_14 (lIa_ok dd1) h (fun v1 h => ?_)
  refine Y.blk (pc' := 5) (L' := [some (.ref a0), some (.int a1)]) (st' := [.int a1, .ref v1]) (sg := [(.iload_n 1, 0)]) (lSa_ok dd2) rfl ?_
  obtain ⟨_, o3, e2, m4, h⟩ := gOb_inv h
  refine Y.callI (yC.Vi (b := v1) (As := [.int a1]) (st := []) (r := ("Partlister$Numbers", T_N, 1)) hV.1 cb_N_read lk_U_33 in_N_read rfl se_N_read (lIa_ok dd3) rfl rfl (Nat.le_of_ble_eq_true rfl) (by decide) e2 m4) (k_N_read hV G v1 a1) h (fun v6 G5 _ h => ?_)
  exact Y.iret rfl (lIa_ok dd4) h

def f_X_worthOfCursor (G : gH) (a0 : Nat) (a1 : Int32) (a2 : Int32) : gR :=
  if a2 = 0 then gFA G a0 3 1 fun v1 => gOb G v1 0 fun o3 => bI (f_U_stateOf G v1 a1) fun v6 G5 => rI v6 G5
  else gFA G a0 3 1 fun v7 => gOb G v7 0 fun o9 => bI (f_U_isThere G v7 a1) fun v12 G11 => if v12 = 0 then rI (-1) G11
    else gFA G11 a0 3 1 fun v13 => gOb G11 v13 0 fun o15 => bI (f_U_listOf G11 v13 a1) fun v18 G17 => if a2 = (nI 1) then rI v18 G17
      else gFA G17 a0 3 1 fun v19 => gOb G17 v19 0 fun o21 => bI (f_U_isStale G17 v19 a1) fun v24 G23 => if v24 = 0 then (gFA G23 a0 3 1 fun v25 => gOb G23 v25 0 fun o27 => bI (f_U_nextOf G23 v25 a1) fun v30 G29 => if a2.toInt = 2 then (rI v30 G29)
          else if a2.toInt = 3 then (if v30 ≤ 0 then rI (-1) G29
            else rI (v30 - (nI 1)) G29)
          else if a2.toInt = 4 then (gFA G29 a0 3 0 fun v34 => gOb G29 v34 1 fun o36 => bI (f_I_lengthOf G29 v34 v18) fun v39 G38 => if v39 ≤ v30 then rI (nI 0) G38
            else rI (nI 1) G38)
          else if a2.toInt = 5 then (if v30 ≤ 0 then rI (nI 0) G29
            else rI (nI 1) G29)
          else gFA G29 a0 3 1 fun v44 => gOb G29 v44 0 fun o46 => bI (f_U_lastOf G29 v44 a1) fun v49 G48 => rI v49 G48)
        else rI (-1) G23
theorem k_X_worthOfCursor {l : Launch} {D : va_G} {B : Nat} {O : State → Heap → Prop} (hV : zG l D B O) (G : gH) (a0 : Nat) (a1 : Int32) (a2 : Int32) : gMet (zVm l D B O) m_X_worthOfCursor 4 [.ref a0, .int a1, .int a2] G (f_X_worthOfCursor G a0 a1 a2) := by
  have hdd : lSa m_X_worthOfCursor 0 [(.iload_n 2, 0)] = true ∧ lIa m_X_worthOfCursor 1 (.ifCond .ne 12) 3 = true ∧ lSa m_X_worthOfCursor 4 [(.aload_n 0, 0)] = true ∧ lIa m_X_worthOfCursor 5 (.getfield 19) 3 = true ∧ lSa m_X_worthOfCursor 8 [(.iload_n 1, 0)] = true ∧ lIa m_X_worthOfCursor 9 (.invokevirtual 305) 3 = true ∧ lIa m_X_worthOfCursor 12 (.ireturn) 1 = true ∧ lSa m_X_worthOfCursor 13 [(.aload_n 0, 0)] = true ∧ lIa m_X_worthOfCursor 14 (.getfield 19) 3 = true ∧ lSa m_X_worthOfCursor 17 [(.iload_n 1, 0)] = true ∧ lIa m_X_worthOfCursor 18 (.invokevirtual 148) 3 = true ∧ lIa m_X_worthOfCursor 21 (.ifCond .ne 5) 3 = true ∧ lSa m_X_worthOfCursor 24 [(.iconst (-1), -1)] = true ∧ lIa m_X_worthOfCursor 25 (.ireturn) 1 = true ∧ lSa m_X_worthOfCursor 26 [(.aload_n 0, 0)] = true ∧ lIa m_X_worthOfCursor 27 (.getfield 19) 3 = true ∧ lSa m_X_worthOfCursor 30 [(.iload_n 1, 0)] = true ∧ lIa m_X_worthOfCursor 31 (.invokevirtual 152) 3 = true ∧ lSa m_X_worthOfCursor 34 [(.istore_n 3, 0), (.iload_n 2, 0), (.iconst 1, nI 1)] = true ∧ lIa m_X_worthOfCursor 37 (.if_icmp .ne 5) 3 = true ∧ lSa m_X_worthOfCursor 40 [(.iload_n 3, 0)] = true ∧ lIa m_X_worthOfCursor 41 (.ireturn) 1 = true ∧ lSa m_X_worthOfCursor 42 [(.aload_n 0, 0)] = true ∧ lIa m_X_worthOfCursor 43 (.getfield 19) 3 = true ∧ lSa m_X_worthOfCursor 46 [(.iload_n 1, 0)] = true ∧ lIa m_X_worthOfCursor 47 (.invokevirtual 170) 3 = true ∧ lIa m_X_worthOfCursor 50 (.ifCond .eq 5) 3 = true ∧ lSa m_X_worthOfCursor 55 [(.aload_n 0, 0)] = true ∧ lIa m_X_worthOfCursor 56 (.getfield 19) 3 = true ∧ lSa m_X_worthOfCursor 59 [(.iload_n 1, 0)] = true ∧ lIa m_X_worthOfCursor 60 (.invokevirtual 176) 3 = true ∧ lSa m_X_worthOfCursor 63 [(.istore 4, 0), (.iload_n 2, 0)] = true ∧ lSa m_X_worthOfCursor 96 [(.iload 4, 0)] = true ∧ lIa m_X_worthOfCursor 98 (.ireturn) 1 = true ∧ lSa m_X_worthOfCursor 99 [(.iload 4, 0)] = true ∧ lIa m_X_worthOfCursor 101 (.ifCond .le 10) 3 = true ∧ lSa m_X_worthOfCursor 111 [(.iconst (-1), -1)] = true ∧ lIa m_X_worthOfCursor 112 (.ireturn) 1 = true ∧ lSa m_X_worthOfCursor 104 [(.iload 4, 0), (.iconst 1, nI 1), (.isub, 0)] = true ∧ lIa m_X_worthOfCursor 108 (.goto 4) 3 = true ∧ lSa m_X_worthOfCursor 113 [(.iload 4, 0), (.aload_n 0, 0)] = true ∧ lIa m_X_worthOfCursor 116 (.getfield 10) 3 = true ∧ lSa m_X_worthOfCursor 119 [(.iload_n 3, 0)] = true ∧ lIa m_X_worthOfCursor 120 (.invokevirtual 34) 3 = true ∧ lIa m_X_worthOfCursor 123 (.if_icmp .ge 7) 3 = true ∧ lSa m_X_worthOfCursor 130 [(.iconst 0, nI 0)] = true ∧ lIa m_X_worthOfCursor 131 (.ireturn) 1 = true ∧ lSa m_X_worthOfCursor 126 [(.iconst 1, nI 1)] = true ∧ lIa m_X_worthOfCursor 127 (.goto 4) 3 = true ∧ lSa m_X_worthOfCursor 132 [(.iload 4, 0)] = true ∧ lIa m_X_worthOfCursor 134 (.ifCond .le 7) 3 = true ∧ lSa m_X_worthOfCursor 141 [(.iconst 0, nI 0)] = true ∧ lIa m_X_worthOfCursor 142 (.ireturn) 1 = true ∧ lSa m_X_worthOfCursor 137 [(.iconst 1, nI 1)] = true ∧ lIa m_X_worthOfCursor 138 (.goto 4) 3 = true ∧ lSa m_X_worthOfCursor 143 [(.aload_n 0, 0)] = true ∧ lIa m_X_worthOfCursor 144 (.getfield 19) 3 = true ∧ lSa m_X_worthOfCursor 147 [(.iload_n 1, 0)] = true ∧ lIa m_X_worthOfCursor 148 (.invokevirtual 182) 3 = true ∧ lIa m_X_worthOfCursor 151 (.ireturn) 1 = true ∧ lSa m_X_worthOfCursor 53 [(.iconst (-1), -1)] = true ∧ lIa m_X_worthOfCursor 54 (.ireturn) 1 = true := by decide +kernel
  refine lA8 hdd (fun dd0 dd1 dd2 dd3 dd4 dd5 dd6 dd7 hdd => ?_)
  refine lA8 hdd (fun dd8 dd9 dd10 dd11 dd12 dd13 dd14 dd15 hdd => ?_)
  refine lA8 hdd (fun dd16 dd17 dd18 dd19 dd20 dd21 dd22 dd23 hdd => ?_)
  refine lA8 hdd (fun dd24 dd25 dd26 dd27 dd28 dd29 dd30 dd31 hdd => ?_)
  refine lA8 hdd (fun dd32 dd33 dd34 dd35 dd36 dd37 dd38 dd39 hdd => ?_)
  refine lA8 hdd (fun dd40 dd41 dd42 dd43 dd44 dd45 dd46 dd47 hdd => ?_)
  refine lA8 hdd (fun dd48 dd49 dd50 dd51 dd52 dd53 dd54 dd55 hdd => ?_)
  obtain ⟨dd56, dd57, dd58, dd59, dd60, dd61⟩ := hdd
  refine gMet.of (by decide +kernel) (Nat.le_of_ble_eq_true rfl) [some (.ref a0), some (.int a1), some (.int a2), none, none] (fun ls h => zEn_ok (n := 5) h) ?_
  intro o Gf h
  unfold f_X_worthOfCursor at h
  refine Y.blk (pc' := 1) (L' := [some (.ref a0), some (.int a1), some (.int a2), none, none]) (st' := [.int a2]) (sg := [(.iload_n 2, 0)]) (lSa_ok dd0) rfl ?_
  refine Y.if_ne (off := 12) (tgt := 13) (lIa_ok dd1) (by decide) h (fun c53 h => ?_) (fun c53 h => ?_)
  · refine Y.blk (pc' := 5) (L' := [some (.ref a0), some (.int a1), some (.int a2), none, none]) (st' := [.ref a0]) (sg := [(.aload_n 0, 0)]) (lSa_ok dd2) rfl ?_
    refine Y.getA fl_X_19 (lIa_ok dd3) h (fun v1 h => ?_)
    refine Y.blk (pc' := 9) (L' := [some (.ref a0), some (.int a1), some (.int a2), none, none]) (st' := [.int a1, .ref v1]) (sg := [(.iload_n 1, 0)]) (lSa_ok dd4) rfl ?_
    obtain ⟨_, o3, e2, m4, h⟩ := gOb_inv h
    refine Y.callI (yC.Vi (b := v1) (As := [.int a1]) (st := []) (r := ("Partlister$Cursors", T_U, 5)) hV.1 cb_U_stateOf lk_X_305 in_U_stateOf rfl se_U_stateOf (lIa_ok dd5) rfl rfl (Nat.le_of_ble_eq_true rfl) (by decide) e2 m4) (k_U_stateOf hV G v1 a1) h (fun v6 G5 _ h => ?_)
    exact Y.iret rfl (lIa_ok dd6) h
  · refine Y.blk (pc' := 14) (L' := [some (.ref a0), some (.int a1), some (.int a2), none, none]) (st' := [.ref a0]) (sg := [(.aload_n 0, 0)]) (lSa_ok dd7) rfl ?_
    refine Y.getA fl_X_19 (lIa_ok dd8) h (fun v7 h => ?_)
    refine Y.blk (pc' := 18) (L' := [some (.ref a0), some (.int a1), some (.int a2), none, none]) (st' := [.int a1, .ref v7]) (sg := [(.iload_n 1, 0)]) (lSa_ok dd9) rfl ?_
    obtain ⟨_, o9, e8, m10, h⟩ := gOb_inv h
    refine Y.callI (yC.Vi (b := v7) (As := [.int a1]) (st := []) (r := ("Partlister$Cursors", T_U, 5)) hV.1 cb_U_isThere lk_X_148 in_U_isThere rfl se_U_isThere (lIa_ok dd10) rfl rfl (Nat.le_of_ble_eq_true rfl) (by decide) e8 m10) (k_U_isThere hV G v7 a1) h (fun v12 G11 _ h => ?_)
    refine Y.if_ne (off := 5) (tgt := 26) (lIa_ok dd11) (by decide) h (fun c52 h => ?_) (fun c52 h => ?_)
    · refine Y.blk (pc' := 25) (L' := [some (.ref a0), some (.int a1), some (.int a2), none, none]) (st' := [.int (-1)]) (sg := [(.iconst (-1), -1)]) (lSa_ok dd12) rfl ?_
      exact Y.iret rfl (lIa_ok dd13) h
    · refine Y.blk (pc' := 27) (L' := [some (.ref a0), some (.int a1), some (.int a2), none, none]) (st' := [.ref a0]) (sg := [(.aload_n 0, 0)]) (lSa_ok dd14) rfl ?_
      refine Y.getA fl_X_19 (lIa_ok dd15) h (fun v13 h => ?_)
      refine Y.blk (pc' := 31) (L' := [some (.ref a0), some (.int a1), some (.int a2), none, none]) (st' := [.int a1, .ref v13]) (sg := [(.iload_n 1, 0)]) (lSa_ok dd16) rfl ?_
      obtain ⟨_, o15, e14, m16, h⟩ := gOb_inv h
      refine Y.callI (yC.Vi (b := v13) (As := [.int a1]) (st := []) (r := ("Partlister$Cursors", T_U, 5)) hV.1 cb_U_listOf lk_X_152 in_U_listOf rfl se_U_listOf (lIa_ok dd17) rfl rfl (Nat.le_of_ble_eq_true rfl) (by decide) e14 m16) (k_U_listOf hV G11 v13 a1) h (fun v18 G17 _ h => ?_)
      refine Y.blk (pc' := 37) (L' := [some (.ref a0), some (.int a1), some (.int a2), some (.int v18), none]) (st' := [.int (nI 1), .int a2]) (sg := [(.istore_n 3, 0), (.iload_n 2, 0), (.iconst 1, nI 1)]) (lSa_ok dd18) rfl ?_
      refine Y.ic_ne (off := 5) (tgt := 42) (lIa_ok dd19) (by decide) h (fun c51 h => ?_) (fun c51 h => ?_)
      · refine Y.blk (pc' := 41) (L' := [some (.ref a0), some (.int a1), some (.int a2), some (.int v18), none]) (st' := [.int v18]) (sg := [(.iload_n 3, 0)]) (lSa_ok dd20) rfl ?_
        exact Y.iret rfl (lIa_ok dd21) h
      · refine Y.blk (pc' := 43) (L' := [some (.ref a0), some (.int a1), some (.int a2), some (.int v18), none]) (st' := [.ref a0]) (sg := [(.aload_n 0, 0)]) (lSa_ok dd22) rfl ?_
        refine Y.getA fl_X_19 (lIa_ok dd23) h (fun v19 h => ?_)
        refine Y.blk (pc' := 47) (L' := [some (.ref a0), some (.int a1), some (.int a2), some (.int v18), none]) (st' := [.int a1, .ref v19]) (sg := [(.iload_n 1, 0)]) (lSa_ok dd24) rfl ?_
        obtain ⟨_, o21, e20, m22, h⟩ := gOb_inv h
        refine Y.callI (yC.Vi (b := v19) (As := [.int a1]) (st := []) (r := ("Partlister$Cursors", T_U, 5)) hV.1 cb_U_isStale lk_X_170 in_U_isStale rfl se_U_isStale (lIa_ok dd25) rfl rfl (Nat.le_of_ble_eq_true rfl) (by decide) e20 m22) (k_U_isStale hV G17 v19 a1) h (fun v24 G23 _ h => ?_)
        refine Y.if_eq (off := 5) (tgt := 55) (lIa_ok dd26) (by decide) h (fun c50 h => ?_) (fun c50 h => ?_)
        · refine Y.blk (pc' := 56) (L' := [some (.ref a0), some (.int a1), some (.int a2), some (.int v18), none]) (st' := [.ref a0]) (sg := [(.aload_n 0, 0)]) (lSa_ok dd27) rfl ?_
          refine Y.getA fl_X_19 (lIa_ok dd28) h (fun v25 h => ?_)
          refine Y.blk (pc' := 60) (L' := [some (.ref a0), some (.int a1), some (.int a2), some (.int v18), none]) (st' := [.int a1, .ref v25]) (sg := [(.iload_n 1, 0)]) (lSa_ok dd29) rfl ?_
          obtain ⟨_, o27, e26, m28, h⟩ := gOb_inv h
          refine Y.callI (yC.Vi (b := v25) (As := [.int a1]) (st := []) (r := ("Partlister$Cursors", T_U, 5)) hV.1 cb_U_nextOf lk_X_176 in_U_nextOf rfl se_U_nextOf (lIa_ok dd30) rfl rfl (Nat.le_of_ble_eq_true rfl) (by decide) e26 m28) (k_U_nextOf hV G23 v25 a1) h (fun v30 G29 _ h => ?_)
          refine Y.blk (pc' := 66) (L' := [some (.ref a0), some (.int a1), some (.int a2), some (.int v18), some (.int v30)]) (st' := [.int a2]) (sg := [(.istore 4, 0), (.iload_n 2, 0)]) (lSa_ok dd31) rfl ?_
          refine Y.swC (j := 2) (off := 30) (tgt := 96) (dflt := 77) (lo := 2) (hi := 5) (offs := #[30, 33, 47, 66]) (len := 30) (by decide +kernel) (by decide) (by decide) (by decide) h (fun c31 h => ?_) (fun c31 h => ?_)
          · refine Y.blk (pc' := 98) (L' := [some (.ref a0), some (.int a1), some (.int a2), some (.int v18), some (.int v30)]) (st' := [.int v30]) (sg := [(.iload 4, 0)]) (lSa_ok dd32) rfl ?_
            exact Y.iret rfl (lIa_ok dd33) h
          refine Y.swC (j := 3) (off := 33) (tgt := 99) (dflt := 77) (lo := 2) (hi := 5) (offs := #[30, 33, 47, 66]) (len := 30) (by decide +kernel) (by decide) (by decide) (by decide) h (fun c33 h => ?_) (fun c33 h => ?_)
          · refine Y.blk (pc' := 101) (L' := [some (.ref a0), some (.int a1), some (.int a2), some (.int v18), some (.int v30)]) (st' := [.int v30]) (sg := [(.iload 4, 0)]) (lSa_ok dd34) rfl ?_
            refine Y.if_le (off := 10) (tgt := 111) (lIa_ok dd35) (by decide) h (fun c32 h => ?_) (fun c32 h => ?_)
            · refine Y.blk (pc' := 112) (L' := [some (.ref a0), some (.int a1), some (.int a2), some (.int v18), some (.int v30)]) (st' := [.int (-1)]) (sg := [(.iconst (-1), -1)]) (lSa_ok dd36) rfl ?_
              exact Y.iret rfl (lIa_ok dd37) h
            · refine Y.blk (pc' := 108) (L' := [some (.ref a0), some (.int a1), some (.int a2), some (.int v18), some (.int v30)]) (st' := [.int (v30 - (nI 1))]) (sg := [(.iload 4, 0), (.iconst 1, nI 1), (.isub, 0)]) (lSa_ok dd38) rfl ?_
              refine Y.goto (off := 4) (tgt := 112) (lIa_ok dd39) (by decide) ?_
              exact Y.iret rfl (lIa_ok dd37) h
          refine Y.swC (j := 4) (off := 47) (tgt := 113) (dflt := 77) (lo := 2) (hi := 5) (offs := #[30, 33, 47, 66]) (len := 30) (by decide +kernel) (by decide) (by decide) (by decide) h (fun c41 h => ?_) (fun c41 h => ?_)
          · refine Y.blk (pc' := 116) (L' := [some (.ref a0), some (.int a1), some (.int a2), some (.int v18), some (.int v30)]) (st' := [.ref a0, .int v30]) (sg := [(.iload 4, 0), (.aload_n 0, 0)]) (lSa_ok dd40) rfl ?_
            refine Y.getA fl_X_10 (lIa_ok dd41) h (fun v34 h => ?_)
            refine Y.blk (pc' := 120) (L' := [some (.ref a0), some (.int a1), some (.int a2), some (.int v18), some (.int v30)]) (st' := [.int v18, .ref v34, .int v30]) (sg := [(.iload_n 3, 0)]) (lSa_ok dd42) rfl ?_
            obtain ⟨_, o36, e35, m37, h⟩ := gOb_inv h
            refine Y.callI (yC.Vi (b := v34) (As := [.int v18]) (st := [.int v30]) (r := ("Partlister$Lists", T_I, 7)) hV.1 cb_I_lengthOf lk_X_34 in_I_lengthOf rfl se_I_lengthOf (lIa_ok dd43) rfl rfl (Nat.le_of_ble_eq_true rfl) (by decide) e35 m37) (k_I_lengthOf hV G29 v34 v18) h (fun v39 G38 _ h => ?_)
            refine Y.ic_ge (off := 7) (tgt := 130) (lIa_ok dd44) (by decide) h (fun c40 h => ?_) (fun c40 h => ?_)
            · refine Y.blk (pc' := 131) (L' := [some (.ref a0), some (.int a1), some (.int a2), some (.int v18), some (.int v30)]) (st' := [.int (nI 0)]) (sg := [(.iconst 0, nI 0)]) (lSa_ok dd45) rfl ?_
              exact Y.iret rfl (lIa_ok dd46) h
            · refine Y.blk (pc' := 127) (L' := [some (.ref a0), some (.int a1), some (.int a2), some (.int v18), some (.int v30)]) (st' := [.int (nI 1)]) (sg := [(.iconst 1, nI 1)]) (lSa_ok dd47) rfl ?_
              refine Y.goto (off := 4) (tgt := 131) (lIa_ok dd48) (by decide) ?_
              exact Y.iret rfl (lIa_ok dd46) h
          refine Y.swC (j := 5) (off := 66) (tgt := 132) (dflt := 77) (lo := 2) (hi := 5) (offs := #[30, 33, 47, 66]) (len := 30) (by decide +kernel) (by decide) (by decide) (by decide) h (fun c43 h => ?_) (fun c43 h => ?_)
          · refine Y.blk (pc' := 134) (L' := [some (.ref a0), some (.int a1), some (.int a2), some (.int v18), some (.int v30)]) (st' := [.int v30]) (sg := [(.iload 4, 0)]) (lSa_ok dd49) rfl ?_
            refine Y.if_le (off := 7) (tgt := 141) (lIa_ok dd50) (by decide) h (fun c42 h => ?_) (fun c42 h => ?_)
            · refine Y.blk (pc' := 142) (L' := [some (.ref a0), some (.int a1), some (.int a2), some (.int v18), some (.int v30)]) (st' := [.int (nI 0)]) (sg := [(.iconst 0, nI 0)]) (lSa_ok dd51) rfl ?_
              exact Y.iret rfl (lIa_ok dd52) h
            · refine Y.blk (pc' := 138) (L' := [some (.ref a0), some (.int a1), some (.int a2), some (.int v18), some (.int v30)]) (st' := [.int (nI 1)]) (sg := [(.iconst 1, nI 1)]) (lSa_ok dd53) rfl ?_
              refine Y.goto (off := 4) (tgt := 142) (lIa_ok dd54) (by decide) ?_
              exact Y.iret rfl (lIa_ok dd52) h
          refine Y.swOut (dflt := 77) (lo := 2) (hi := 5) (offs := #[30, 33, 47, 66]) (len := 30) (tgt := 143) (by decide +kernel) (by omega) (by decide) ?_
          refine Y.blk (pc' := 144) (L' := [some (.ref a0), some (.int a1), some (.int a2), some (.int v18), some (.int v30)]) (st' := [.ref a0]) (sg := [(.aload_n 0, 0)]) (lSa_ok dd55) rfl ?_
          refine Y.getA fl_X_19 (lIa_ok dd56) h (fun v44 h => ?_)
          refine Y.blk (pc' := 148) (L' := [some (.ref a0), some (.int a1), some (.int a2), some (.int v18), some (.int v30)]) (st' := [.int a1, .ref v44]) (sg := [(.iload_n 1, 0)]) (lSa_ok dd57) rfl ?_
          obtain ⟨_, o46, e45, m47, h⟩ := gOb_inv h
          refine Y.callI (yC.Vi (b := v44) (As := [.int a1]) (st := []) (r := ("Partlister$Cursors", T_U, 5)) hV.1 cb_U_lastOf lk_X_182 in_U_lastOf rfl se_U_lastOf (lIa_ok dd58) rfl rfl (Nat.le_of_ble_eq_true rfl) (by decide) e45 m47) (k_U_lastOf hV G29 v44 a1) h (fun v49 G48 _ h => ?_)
          exact Y.iret rfl (lIa_ok dd59) h
        · refine Y.blk (pc' := 54) (L' := [some (.ref a0), some (.int a1), some (.int a2), some (.int v18), none]) (st' := [.int (-1)]) (sg := [(.iconst (-1), -1)]) (lSa_ok dd60) rfl ?_
          exact Y.iret rfl (lIa_ok dd61) h

def f_U_countEnded (G : gH) (a0 : Nat) : gR :=
  gFI G a0 0 4 fun v1 => rI v1 G
theorem k_U_countEnded {l : Launch} {D : va_G} {B : Nat} {O : State → Heap → Prop} (hV : zG l D B O) (G : gH) (a0 : Nat) : gMet (zVm l D B O) m_U_countEnded 1 [.ref a0] G (f_U_countEnded G a0) := by
  have hdd : lSa m_U_countEnded 0 [(.aload_n 0, 0)] = true ∧ lIa m_U_countEnded 1 (.getfield 54) 3 = true ∧ lIa m_U_countEnded 4 (.ireturn) 1 = true := by decide +kernel
  obtain ⟨dd0, dd1, dd2⟩ := hdd
  refine gMet.of (by decide +kernel) (Nat.le_of_ble_eq_true rfl) [some (.ref a0)] (fun ls h => zEn_ok (n := 1) h) ?_
  intro o Gf h
  unfold f_U_countEnded at h
  refine Y.blk (pc' := 1) (L' := [some (.ref a0)]) (st' := [.ref a0]) (sg := [(.aload_n 0, 0)]) (lSa_ok dd0) rfl ?_
  refine Y.getI fl_U_54 (lIa_ok dd1) h (fun v1 h => ?_)
  exact Y.iret rfl (lIa_ok dd2) h

def f_U_countStale_L4 (K26 : gH → Int32 → gR) : Nat → gH → Nat → Int32 → Int32 → gR
  | 0, _, _, _, _ => none
  | n + 1, G, x0, x1, x2 =>
    if (nI 3) ≤ x2 then K26 G x1
    else gOb G x0 0 fun o2 => bI (f_U_isStale G x0 x2) fun v5 G4 => if v5 = 0 then f_U_countStale_L4 K26 n G4 x0 x1 (x2 + (nI 1))
      else f_U_countStale_L4 K26 n G4 x0 (x1 + (nI 1)) (x2 + (nI 1))
def f_U_countStale (G : gH) (a0 : Nat) : gR :=
  f_U_countStale_L4 (fun G9 x8 => rI x8 G9) zFu G a0 (nI 0) (nI 0)
theorem k_U_countStale_L4 {l : Launch} {D : va_G} {B : Nat} {O : State → Heap → Prop} (hV : zG l D B O) {o : gO} {Gf : gH} (K26 : gH → Int32 → gR) (hK26 : ∀ (G : gH) (x1 : Int32), K26 G x1 = some (o, Gf) → Y (zVm l D B O) m_U_countStale 3 o Gf 26 [none, some (.int x1), none] [] G) : ∀ (n : Nat) (G : gH) (x0 : Nat) (x1 : Int32) (x2 : Int32), f_U_countStale_L4 K26 n G x0 x1 x2 = some (o, Gf) → Y (zVm l D B O) m_U_countStale 3 o Gf 4 [some (.ref x0), some (.int x1), some (.int x2)] [] G := by
  have hdd : lSa m_U_countStale 4 [(.iload_n 2, 0), (.iconst 3, nI 3)] = true ∧ lIa m_U_countStale 6 (.if_icmp .ge 20) 3 = true ∧ lSa m_U_countStale 9 [(.aload_n 0, 0), (.iload_n 2, 0)] = true ∧ lIa m_U_countStale 11 (.invokevirtual 29) 3 = true ∧ lIa m_U_countStale 14 (.ifCond .eq 6) 3 = true ∧ lSa m_U_countStale 20 [(.iinc 2 1, nI 1)] = true ∧ lIa m_U_countStale 23 (.goto (-19)) 3 = true ∧ lSa m_U_countStale 17 [(.iinc 1 1, nI 1), (.iinc 2 1, nI 1)] = true := by decide +kernel
  obtain ⟨dd0, dd1, dd2, dd3, dd4, dd5, dd6, dd7⟩ := hdd
  intro n
  induction n with
  | zero => intro G x0 x1 x2 h; cases h
  | succ n ih =>
    intro G x0 x1 x2 h
    unfold f_U_countStale_L4 at h
    refine Y.blk (pc' := 6) (L' := [some (.ref x0), some (.int x1), some (.int x2)]) (st' := [.int (nI 3), .int x2]) (sg := [(.iload_n 2, 0), (.iconst 3, nI 3)]) (lSa_ok dd0) rfl ?_
    refine Y.ic_ge (off := 20) (tgt := 26) (lIa_ok dd1) (by decide) h (fun c7 h => ?_) (fun c7 h => ?_)
    · refine Y.less (L' := [none, some (.int x1), none]) (zLe_none (zLe_some (zLe_none (zLe_nil)))) ?_
      exact hK26 G x1 h
    · refine Y.blk (pc' := 11) (L' := [some (.ref x0), some (.int x1), some (.int x2)]) (st' := [.int x2, .ref x0]) (sg := [(.aload_n 0, 0), (.iload_n 2, 0)]) (lSa_ok dd2) rfl ?_
      obtain ⟨_, o2, e1, m3, h⟩ := gOb_inv h
      refine Y.callI (yC.Vi (b := x0) (As := [.int x2]) (st := []) (r := ("Partlister$Cursors", T_U, 5)) hV.1 cb_U_isStale lk_U_29 in_U_isStale rfl se_U_isStale (lIa_ok dd3) rfl rfl (Nat.le_of_ble_eq_true rfl) (by decide) e1 m3) (k_U_isStale hV G x0 x2) h (fun v5 G4 _ h => ?_)
      refine Y.if_eq (off := 6) (tgt := 20) (lIa_ok dd4) (by decide) h (fun c6 h => ?_) (fun c6 h => ?_)
      · refine Y.blk (pc' := 23) (L' := [some (.ref x0), some (.int x1), some (.int (x2 + (nI 1)))]) (st' := []) (sg := [(.iinc 2 1, nI 1)]) (lSa_ok dd5) rfl ?_
        refine Y.goto (off := -19) (tgt := 4) (lIa_ok dd6) (by decide) ?_
        exact ih G4 x0 x1 (x2 + (nI 1)) h
      · refine Y.blk (pc' := 23) (L' := [some (.ref x0), some (.int (x1 + (nI 1))), some (.int (x2 + (nI 1)))]) (st' := []) (sg := [(.iinc 1 1, nI 1), (.iinc 2 1, nI 1)]) (lSa_ok dd7) rfl ?_
        refine Y.goto (off := -19) (tgt := 4) (lIa_ok dd6) (by decide) ?_
        exact ih G4 x0 (x1 + (nI 1)) (x2 + (nI 1)) h
theorem k_U_countStale {l : Launch} {D : va_G} {B : Nat} {O : State → Heap → Prop} (hV : zG l D B O) (G : gH) (a0 : Nat) : gMet (zVm l D B O) m_U_countStale 3 [.ref a0] G (f_U_countStale G a0) := by
  have hdd : lSa m_U_countStale 0 [(.iconst 0, nI 0), (.istore_n 1, 0), (.iconst 0, nI 0), (.istore_n 2, 0)] = true ∧ lSa m_U_countStale 26 [(.iload_n 1, 0)] = true ∧ lIa m_U_countStale 27 (.ireturn) 1 = true := by decide +kernel
  obtain ⟨dd0, dd1, dd2⟩ := hdd
  refine gMet.of (by decide +kernel) (Nat.le_of_ble_eq_true rfl) [some (.ref a0), none, none] (fun ls h => zEn_ok (n := 3) h) ?_
  intro o Gf h
  unfold f_U_countStale at h
  refine Y.blk (pc' := 4) (L' := [some (.ref a0), some (.int (nI 0)), some (.int (nI 0))]) (st' := []) (sg := [(.iconst 0, nI 0), (.istore_n 1, 0), (.iconst 0, nI 0), (.istore_n 2, 0)]) (lSa_ok dd0) rfl ?_
  refine k_U_countStale_L4 hV _ ?_  zFu G a0 (nI 0) (nI 0) h
  · intro G9 x8 h
    refine Y.blk (pc' := 27) (L' := [none, some (.int x8), none]) (st' := [.int x8]) (sg := [(.iload_n 1, 0)]) (lSa_ok dd1) rfl ?_
    exact Y.iret rfl (lIa_ok dd2) h

def f_U_countThere_L4 (K26 : gH → Int32 → gR) : Nat → gH → Nat → Int32 → Int32 → gR
  | 0, _, _, _, _ => none
  | n + 1, G, x0, x1, x2 =>
    if (nI 3) ≤ x2 then K26 G x1
    else gOb G x0 0 fun o2 => bI (f_U_isThere G x0 x2) fun v5 G4 => if v5 = 0 then f_U_countThere_L4 K26 n G4 x0 x1 (x2 + (nI 1))
      else f_U_countThere_L4 K26 n G4 x0 (x1 + (nI 1)) (x2 + (nI 1))
def f_U_countThere (G : gH) (a0 : Nat) : gR :=
  f_U_countThere_L4 (fun G9 x8 => rI x8 G9) zFu G a0 (nI 0) (nI 0)
theorem k_U_countThere_L4 {l : Launch} {D : va_G} {B : Nat} {O : State → Heap → Prop} (hV : zG l D B O) {o : gO} {Gf : gH} (K26 : gH → Int32 → gR) (hK26 : ∀ (G : gH) (x1 : Int32), K26 G x1 = some (o, Gf) → Y (zVm l D B O) m_U_countThere 4 o Gf 26 [none, some (.int x1), none] [] G) : ∀ (n : Nat) (G : gH) (x0 : Nat) (x1 : Int32) (x2 : Int32), f_U_countThere_L4 K26 n G x0 x1 x2 = some (o, Gf) → Y (zVm l D B O) m_U_countThere 4 o Gf 4 [some (.ref x0), some (.int x1), some (.int x2)] [] G := by
  have hdd : lSa m_U_countThere 4 [(.iload_n 2, 0), (.iconst 3, nI 3)] = true ∧ lIa m_U_countThere 6 (.if_icmp .ge 20) 3 = true ∧ lSa m_U_countThere 9 [(.aload_n 0, 0), (.iload_n 2, 0)] = true ∧ lIa m_U_countThere 11 (.invokevirtual 37) 3 = true ∧ lIa m_U_countThere 14 (.ifCond .eq 6) 3 = true ∧ lSa m_U_countThere 20 [(.iinc 2 1, nI 1)] = true ∧ lIa m_U_countThere 23 (.goto (-19)) 3 = true ∧ lSa m_U_countThere 17 [(.iinc 1 1, nI 1), (.iinc 2 1, nI 1)] = true := by decide +kernel
  obtain ⟨dd0, dd1, dd2, dd3, dd4, dd5, dd6, dd7⟩ := hdd
  intro n
  induction n with
  | zero => intro G x0 x1 x2 h; cases h
  | succ n ih =>
    intro G x0 x1 x2 h
    unfold f_U_countThere_L4 at h
    refine Y.blk (pc' := 6) (L' := [some (.ref x0), some (.int x1), some (.int x2)]) (st' := [.int (nI 3), .int x2]) (sg := [(.iload_n 2, 0), (.iconst 3, nI 3)]) (lSa_ok dd0) rfl ?_
    refine Y.ic_ge (off := 20) (tgt := 26) (lIa_ok dd1) (by decide) h (fun c7 h => ?_) (fun c7 h => ?_)
    · refine Y.less (L' := [none, some (.int x1), none]) (zLe_none (zLe_some (zLe_none (zLe_nil)))) ?_
      exact hK26 G x1 h
    · refine Y.blk (pc' := 11) (L' := [some (.ref x0), some (.int x1), some (.int x2)]) (st' := [.int x2, .ref x0]) (sg := [(.aload_n 0, 0), (.iload_n 2, 0)]) (lSa_ok dd2) rfl ?_
      obtain ⟨_, o2, e1, m3, h⟩ := gOb_inv h
      refine Y.callI (yC.Vi (b := x0) (As := [.int x2]) (st := []) (r := ("Partlister$Cursors", T_U, 5)) hV.1 cb_U_isThere lk_U_37 in_U_isThere rfl se_U_isThere (lIa_ok dd3) rfl rfl (Nat.le_of_ble_eq_true rfl) (by decide) e1 m3) (k_U_isThere hV G x0 x2) h (fun v5 G4 _ h => ?_)
      refine Y.if_eq (off := 6) (tgt := 20) (lIa_ok dd4) (by decide) h (fun c6 h => ?_) (fun c6 h => ?_)
      · refine Y.blk (pc' := 23) (L' := [some (.ref x0), some (.int x1), some (.int (x2 + (nI 1)))]) (st' := []) (sg := [(.iinc 2 1, nI 1)]) (lSa_ok dd5) rfl ?_
        refine Y.goto (off := -19) (tgt := 4) (lIa_ok dd6) (by decide) ?_
        exact ih G4 x0 x1 (x2 + (nI 1)) h
      · refine Y.blk (pc' := 23) (L' := [some (.ref x0), some (.int (x1 + (nI 1))), some (.int (x2 + (nI 1)))]) (st' := []) (sg := [(.iinc 1 1, nI 1), (.iinc 2 1, nI 1)]) (lSa_ok dd7) rfl ?_
        refine Y.goto (off := -19) (tgt := 4) (lIa_ok dd6) (by decide) ?_
        exact ih G4 x0 (x1 + (nI 1)) (x2 + (nI 1)) h
theorem k_U_countThere {l : Launch} {D : va_G} {B : Nat} {O : State → Heap → Prop} (hV : zG l D B O) (G : gH) (a0 : Nat) : gMet (zVm l D B O) m_U_countThere 4 [.ref a0] G (f_U_countThere G a0) := by
  have hdd : lSa m_U_countThere 0 [(.iconst 0, nI 0), (.istore_n 1, 0), (.iconst 0, nI 0), (.istore_n 2, 0)] = true ∧ lSa m_U_countThere 26 [(.iload_n 1, 0)] = true ∧ lIa m_U_countThere 27 (.ireturn) 1 = true := by decide +kernel
  obtain ⟨dd0, dd1, dd2⟩ := hdd
  refine gMet.of (by decide +kernel) (Nat.le_of_ble_eq_true rfl) [some (.ref a0), none, none] (fun ls h => zEn_ok (n := 3) h) ?_
  intro o Gf h
  unfold f_U_countThere at h
  refine Y.blk (pc' := 4) (L' := [some (.ref a0), some (.int (nI 0)), some (.int (nI 0))]) (st' := []) (sg := [(.iconst 0, nI 0), (.istore_n 1, 0), (.iconst 0, nI 0), (.istore_n 2, 0)]) (lSa_ok dd0) rfl ?_
  refine k_U_countThere_L4 hV _ ?_  zFu G a0 (nI 0) (nI 0) h
  · intro G9 x8 h
    refine Y.blk (pc' := 27) (L' := [none, some (.int x8), none]) (st' := [.int x8]) (sg := [(.iload_n 1, 0)]) (lSa_ok dd1) rfl ?_
    exact Y.iret rfl (lIa_ok dd2) h

def f_I_countEnded (G : gH) (a0 : Nat) : gR :=
  gFI G a0 1 6 fun v1 => rI v1 G
theorem k_I_countEnded {l : Launch} {D : va_G} {B : Nat} {O : State → Heap → Prop} (hV : zG l D B O) (G : gH) (a0 : Nat) : gMet (zVm l D B O) m_I_countEnded 1 [.ref a0] G (f_I_countEnded G a0) := by
  have hdd : lSa m_I_countEnded 0 [(.aload_n 0, 0)] = true ∧ lIa m_I_countEnded 1 (.getfield 97) 3 = true ∧ lIa m_I_countEnded 4 (.ireturn) 1 = true := by decide +kernel
  obtain ⟨dd0, dd1, dd2⟩ := hdd
  refine gMet.of (by decide +kernel) (Nat.le_of_ble_eq_true rfl) [some (.ref a0)] (fun ls h => zEn_ok (n := 1) h) ?_
  intro o Gf h
  unfold f_I_countEnded at h
  refine Y.blk (pc' := 1) (L' := [some (.ref a0)]) (st' := [.ref a0]) (sg := [(.aload_n 0, 0)]) (lSa_ok dd0) rfl ?_
  refine Y.getI fl_I_97 (lIa_ok dd1) h (fun v1 h => ?_)
  exact Y.iret rfl (lIa_ok dd2) h

def f_I_countParts_L4 (K27 : gH → Int32 → gR) : Nat → gH → Nat → Int32 → Int32 → gR
  | 0, _, _, _, _ => none
  | n + 1, G, x0, x1, x2 =>
    if (nI 6) ≤ x2 then K27 G x1
    else gOb G x0 1 fun o2 => bI (f_I_isThere G x0 x2) fun v5 G4 => if v5 = 0 then f_I_countParts_L4 K27 n G4 x0 x1 (x2 + (nI 1))
      else f_I_countParts_L4 K27 n G4 x0 (x1 + (nI 1)) (x2 + (nI 1))
def f_I_countParts (G : gH) (a0 : Nat) : gR :=
  f_I_countParts_L4 (fun G9 x8 => rI x8 G9) zFu G a0 (nI 0) (nI 2)
theorem k_I_countParts_L4 {l : Launch} {D : va_G} {B : Nat} {O : State → Heap → Prop} (hV : zG l D B O) {o : gO} {Gf : gH} (K27 : gH → Int32 → gR) (hK27 : ∀ (G : gH) (x1 : Int32), K27 G x1 = some (o, Gf) → Y (zVm l D B O) m_I_countParts 3 o Gf 27 [none, some (.int x1), none] [] G) : ∀ (n : Nat) (G : gH) (x0 : Nat) (x1 : Int32) (x2 : Int32), f_I_countParts_L4 K27 n G x0 x1 x2 = some (o, Gf) → Y (zVm l D B O) m_I_countParts 3 o Gf 4 [some (.ref x0), some (.int x1), some (.int x2)] [] G := by
  have hdd : lSa m_I_countParts 4 [(.iload_n 2, 0), (.bipush 6, nI 6)] = true ∧ lIa m_I_countParts 7 (.if_icmp .ge 20) 3 = true ∧ lSa m_I_countParts 10 [(.aload_n 0, 0), (.iload_n 2, 0)] = true ∧ lIa m_I_countParts 12 (.invokevirtual 86) 3 = true ∧ lIa m_I_countParts 15 (.ifCond .eq 6) 3 = true ∧ lSa m_I_countParts 21 [(.iinc 2 1, nI 1)] = true ∧ lIa m_I_countParts 24 (.goto (-20)) 3 = true ∧ lSa m_I_countParts 18 [(.iinc 1 1, nI 1), (.iinc 2 1, nI 1)] = true := by decide +kernel
  obtain ⟨dd0, dd1, dd2, dd3, dd4, dd5, dd6, dd7⟩ := hdd
  intro n
  induction n with
  | zero => intro G x0 x1 x2 h; cases h
  | succ n ih =>
    intro G x0 x1 x2 h
    unfold f_I_countParts_L4 at h
    refine Y.blk (pc' := 7) (L' := [some (.ref x0), some (.int x1), some (.int x2)]) (st' := [.int (nI 6), .int x2]) (sg := [(.iload_n 2, 0), (.bipush 6, nI 6)]) (lSa_ok dd0) rfl ?_
    refine Y.ic_ge (off := 20) (tgt := 27) (lIa_ok dd1) (by decide) h (fun c7 h => ?_) (fun c7 h => ?_)
    · refine Y.less (L' := [none, some (.int x1), none]) (zLe_none (zLe_some (zLe_none (zLe_nil)))) ?_
      exact hK27 G x1 h
    · refine Y.blk (pc' := 12) (L' := [some (.ref x0), some (.int x1), some (.int x2)]) (st' := [.int x2, .ref x0]) (sg := [(.aload_n 0, 0), (.iload_n 2, 0)]) (lSa_ok dd2) rfl ?_
      obtain ⟨_, o2, e1, m3, h⟩ := gOb_inv h
      refine Y.callI (yC.Vi (b := x0) (As := [.int x2]) (st := []) (r := ("Partlister$Lists", T_I, 7)) hV.1 cb_I_isThere lk_I_86 in_I_isThere rfl se_I_isThere (lIa_ok dd3) rfl rfl (Nat.le_of_ble_eq_true rfl) (by decide) e1 m3) (k_I_isThere hV G x0 x2) h (fun v5 G4 _ h => ?_)
      refine Y.if_eq (off := 6) (tgt := 21) (lIa_ok dd4) (by decide) h (fun c6 h => ?_) (fun c6 h => ?_)
      · refine Y.blk (pc' := 24) (L' := [some (.ref x0), some (.int x1), some (.int (x2 + (nI 1)))]) (st' := []) (sg := [(.iinc 2 1, nI 1)]) (lSa_ok dd5) rfl ?_
        refine Y.goto (off := -20) (tgt := 4) (lIa_ok dd6) (by decide) ?_
        exact ih G4 x0 x1 (x2 + (nI 1)) h
      · refine Y.blk (pc' := 24) (L' := [some (.ref x0), some (.int (x1 + (nI 1))), some (.int (x2 + (nI 1)))]) (st' := []) (sg := [(.iinc 1 1, nI 1), (.iinc 2 1, nI 1)]) (lSa_ok dd7) rfl ?_
        refine Y.goto (off := -20) (tgt := 4) (lIa_ok dd6) (by decide) ?_
        exact ih G4 x0 (x1 + (nI 1)) (x2 + (nI 1)) h
theorem k_I_countParts {l : Launch} {D : va_G} {B : Nat} {O : State → Heap → Prop} (hV : zG l D B O) (G : gH) (a0 : Nat) : gMet (zVm l D B O) m_I_countParts 3 [.ref a0] G (f_I_countParts G a0) := by
  have hdd : lSa m_I_countParts 0 [(.iconst 0, nI 0), (.istore_n 1, 0), (.iconst 2, nI 2), (.istore_n 2, 0)] = true ∧ lSa m_I_countParts 27 [(.iload_n 1, 0)] = true ∧ lIa m_I_countParts 28 (.ireturn) 1 = true := by decide +kernel
  obtain ⟨dd0, dd1, dd2⟩ := hdd
  refine gMet.of (by decide +kernel) (Nat.le_of_ble_eq_true rfl) [some (.ref a0), none, none] (fun ls h => zEn_ok (n := 3) h) ?_
  intro o Gf h
  unfold f_I_countParts at h
  refine Y.blk (pc' := 4) (L' := [some (.ref a0), some (.int (nI 0)), some (.int (nI 2))]) (st' := []) (sg := [(.iconst 0, nI 0), (.istore_n 1, 0), (.iconst 2, nI 2), (.istore_n 2, 0)]) (lSa_ok dd0) rfl ?_
  refine k_I_countParts_L4 hV _ ?_  zFu G a0 (nI 0) (nI 2) h
  · intro G9 x8 h
    refine Y.blk (pc' := 28) (L' := [none, some (.int x8), none]) (st' := [.int x8]) (sg := [(.iload_n 1, 0)]) (lSa_ok dd1) rfl ?_
    exact Y.iret rfl (lIa_ok dd2) h

def f_X_worthOfHouse (G : gH) (a0 : Nat) (a1 : Int32) : gR :=
  if a1.toInt = 0 then (gFI G a0 3 2 fun v1 => rI v1 G)
  else if a1.toInt = 1 then (gFA G a0 3 0 fun v3 => gOb G v3 1 fun o5 => bI (f_I_countParts G v3) fun v8 G7 => rI v8 G7)
  else if a1.toInt = 2 then (gFA G a0 3 1 fun v10 => gOb G v10 0 fun o12 => bI (f_U_countThere G v10) fun v15 G14 => rI v15 G14)
  else if a1.toInt = 3 then (gFA G a0 3 1 fun v17 => gOb G v17 0 fun o19 => bI (f_U_countStale G v17) fun v22 G21 => rI v22 G21)
  else if a1.toInt = 4 then (gFA G a0 3 0 fun v24 => gOb G v24 1 fun o26 => bI (f_I_countEnded G v24) fun v29 G28 => rI v29 G28)
  else if a1.toInt = 5 then (gFA G a0 3 1 fun v31 => gOb G v31 0 fun o33 => bI (f_U_countEnded G v31) fun v36 G35 => rI v36 G35)
  else if a1.toInt = 6 then (gFI G a0 3 3 fun v38 => rI v38 G)
  else gFI G a0 3 4 fun v40 => rI v40 G
theorem k_X_worthOfHouse {l : Launch} {D : va_G} {B : Nat} {O : State → Heap → Prop} (hV : zG l D B O) (G : gH) (a0 : Nat) (a1 : Int32) : gMet (zVm l D B O) m_X_worthOfHouse 5 [.ref a0, .int a1] G (f_X_worthOfHouse G a0 a1) := by
  have hdd : lSa m_X_worthOfHouse 0 [(.iload_n 1, 0)] = true ∧ lSa m_X_worthOfHouse 44 [(.aload_n 0, 0)] = true ∧ lIa m_X_worthOfHouse 45 (.getfield 275) 3 = true ∧ lIa m_X_worthOfHouse 48 (.ireturn) 1 = true ∧ lSa m_X_worthOfHouse 49 [(.aload_n 0, 0)] = true ∧ lIa m_X_worthOfHouse 50 (.getfield 10) 3 = true ∧ lIa m_X_worthOfHouse 53 (.invokevirtual 308) 3 = true ∧ lIa m_X_worthOfHouse 56 (.ireturn) 1 = true ∧ lSa m_X_worthOfHouse 57 [(.aload_n 0, 0)] = true ∧ lIa m_X_worthOfHouse 58 (.getfield 19) 3 = true ∧ lIa m_X_worthOfHouse 61 (.invokevirtual 311) 3 = true ∧ lIa m_X_worthOfHouse 64 (.ireturn) 1 = true ∧ lSa m_X_worthOfHouse 65 [(.aload_n 0, 0)] = true ∧ lIa m_X_worthOfHouse 66 (.getfield 19) 3 = true ∧ lIa m_X_worthOfHouse 69 (.invokevirtual 314) 3 = true ∧ lIa m_X_worthOfHouse 72 (.ireturn) 1 = true ∧ lSa m_X_worthOfHouse 73 [(.aload_n 0, 0)] = true ∧ lIa m_X_worthOfHouse 74 (.getfield 10) 3 = true ∧ lIa m_X_worthOfHouse 77 (.invokevirtual 317) 3 = true ∧ lIa m_X_worthOfHouse 80 (.ireturn) 1 = true ∧ lSa m_X_worthOfHouse 81 [(.aload_n 0, 0)] = true ∧ lIa m_X_worthOfHouse 82 (.getfield 19) 3 = true ∧ lIa m_X_worthOfHouse 85 (.invokevirtual 320) 3 = true ∧ lIa m_X_worthOfHouse 88 (.ireturn) 1 = true ∧ lSa m_X_worthOfHouse 89 [(.aload_n 0, 0)] = true ∧ lIa m_X_worthOfHouse 90 (.getfield 302) 3 = true ∧ lIa m_X_worthOfHouse 93 (.ireturn) 1 = true ∧ lSa m_X_worthOfHouse 94 [(.aload_n 0, 0)] = true ∧ lIa m_X_worthOfHouse 95 (.getfield 257) 3 = true ∧ lIa m_X_worthOfHouse 98 (.ireturn) 1 = true := by decide +kernel
  refine lA8 hdd (fun dd0 dd1 dd2 dd3 dd4 dd5 dd6 dd7 hdd => ?_)
  refine lA8 hdd (fun dd8 dd9 dd10 dd11 dd12 dd13 dd14 dd15 hdd => ?_)
  refine lA8 hdd (fun dd16 dd17 dd18 dd19 dd20 dd21 dd22 dd23 hdd => ?_)
  obtain ⟨dd24, dd25, dd26, dd27, dd28, dd29⟩ := hdd
  refine gMet.of (by decide +kernel) (Nat.le_of_ble_eq_true rfl) [some (.ref a0), some (.int a1)] (fun ls h => zEn_ok (n := 2) h) ?_
  intro o Gf h
  unfold f_X_worthOfHouse at h
  refine Y.blk (pc' := 1) (L' := [some (.ref a0), some (.int a1)]) (st' := [.int a1]) (sg := [(.iload_n 1, 0)]) (lSa_ok dd0) rfl ?_
  refine Y.swC (j := 0) (off := 43) (tgt := 44) (dflt := 93) (lo := 0) (hi := 6) (offs := #[43, 48, 56, 64, 72, 80, 88]) (len := 43) (by decide +kernel) (by decide) (by decide) (by decide) h (fun c2 h => ?_) (fun c2 h => ?_)
  · refine Y.blk (pc' := 45) (L' := [some (.ref a0), some (.int a1)]) (st' := [.ref a0]) (sg := [(.aload_n 0, 0)]) (lSa_ok dd1) rfl ?_
    refine Y.getI fl_X_275 (lIa_ok dd2) h (fun v1 h => ?_)
    exact Y.iret rfl (lIa_ok dd3) h
  refine Y.swC (j := 1) (off := 48) (tgt := 49) (dflt := 93) (lo := 0) (hi := 6) (offs := #[43, 48, 56, 64, 72, 80, 88]) (len := 43) (by decide +kernel) (by decide) (by decide) (by decide) h (fun c9 h => ?_) (fun c9 h => ?_)
  · refine Y.blk (pc' := 50) (L' := [some (.ref a0), some (.int a1)]) (st' := [.ref a0]) (sg := [(.aload_n 0, 0)]) (lSa_ok dd4) rfl ?_
    refine Y.getA fl_X_10 (lIa_ok dd5) h (fun v3 h => ?_)
    obtain ⟨_, o5, e4, m6, h⟩ := gOb_inv h
    refine Y.callI (yC.Vi (b := v3) (As := []) (st := []) (r := ("Partlister$Lists", T_I, 7)) hV.1 cb_I_countParts lk_X_308 in_I_countParts rfl se_I_countParts (lIa_ok dd6) rfl rfl (Nat.le_of_ble_eq_true rfl) (by decide) e4 m6) (k_I_countParts hV G v3) h (fun v8 G7 _ h => ?_)
    exact Y.iret rfl (lIa_ok dd7) h
  refine Y.swC (j := 2) (off := 56) (tgt := 57) (dflt := 93) (lo := 0) (hi := 6) (offs := #[43, 48, 56, 64, 72, 80, 88]) (len := 43) (by decide +kernel) (by decide) (by decide) (by decide) h (fun c16 h => ?_) (fun c16 h => ?_)
  · refine Y.blk (pc' := 58) (L' := [some (.ref a0), some (.int a1)]) (st' := [.ref a0]) (sg := [(.aload_n 0, 0)]) (lSa_ok dd8) rfl ?_
    refine Y.getA fl_X_19 (lIa_ok dd9) h (fun v10 h => ?_)
    obtain ⟨_, o12, e11, m13, h⟩ := gOb_inv h
    refine Y.callI (yC.Vi (b := v10) (As := []) (st := []) (r := ("Partlister$Cursors", T_U, 5)) hV.1 cb_U_countThere lk_X_311 in_U_countThere rfl se_U_countThere (lIa_ok dd10) rfl rfl (Nat.le_of_ble_eq_true rfl) (by decide) e11 m13) (k_U_countThere hV G v10) h (fun v15 G14 _ h => ?_)
    exact Y.iret rfl (lIa_ok dd11) h
  refine Y.swC (j := 3) (off := 64) (tgt := 65) (dflt := 93) (lo := 0) (hi := 6) (offs := #[43, 48, 56, 64, 72, 80, 88]) (len := 43) (by decide +kernel) (by decide) (by decide) (by decide) h (fun c23 h => ?_) (fun c23 h => ?_)
  · refine Y.blk (pc' := 66) (L' := [some (.ref a0), some (.int a1)]) (st' := [.ref a0]) (sg := [(.aload_n 0, 0)]) (lSa_ok dd12) rfl ?_
    refine Y.getA fl_X_19 (lIa_ok dd13) h (fun v17 h => ?_)
    obtain ⟨_, o19, e18, m20, h⟩ := gOb_inv h
    refine Y.callI (yC.Vi (b := v17) (As := []) (st := []) (r := ("Partlister$Cursors", T_U, 5)) hV.1 cb_U_countStale lk_X_314 in_U_countStale rfl se_U_countStale (lIa_ok dd14) rfl rfl (Nat.le_of_ble_eq_true rfl) (by decide) e18 m20) (k_U_countStale hV G v17) h (fun v22 G21 _ h => ?_)
    exact Y.iret rfl (lIa_ok dd15) h
  refine Y.swC (j := 4) (off := 72) (tgt := 73) (dflt := 93) (lo := 0) (hi := 6) (offs := #[43, 48, 56, 64, 72, 80, 88]) (len := 43) (by decide +kernel) (by decide) (by decide) (by decide) h (fun c30 h => ?_) (fun c30 h => ?_)
  · refine Y.blk (pc' := 74) (L' := [some (.ref a0), some (.int a1)]) (st' := [.ref a0]) (sg := [(.aload_n 0, 0)]) (lSa_ok dd16) rfl ?_
    refine Y.getA fl_X_10 (lIa_ok dd17) h (fun v24 h => ?_)
    obtain ⟨_, o26, e25, m27, h⟩ := gOb_inv h
    refine Y.callI (yC.Vi (b := v24) (As := []) (st := []) (r := ("Partlister$Lists", T_I, 7)) hV.1 cb_I_countEnded lk_X_317 in_I_countEnded rfl se_I_countEnded (lIa_ok dd18) rfl rfl (Nat.le_of_ble_eq_true rfl) (by decide) e25 m27) (k_I_countEnded hV G v24) h (fun v29 G28 _ h => ?_)
    exact Y.iret rfl (lIa_ok dd19) h
  refine Y.swC (j := 5) (off := 80) (tgt := 81) (dflt := 93) (lo := 0) (hi := 6) (offs := #[43, 48, 56, 64, 72, 80, 88]) (len := 43) (by decide +kernel) (by decide) (by decide) (by decide) h (fun c37 h => ?_) (fun c37 h => ?_)
  · refine Y.blk (pc' := 82) (L' := [some (.ref a0), some (.int a1)]) (st' := [.ref a0]) (sg := [(.aload_n 0, 0)]) (lSa_ok dd20) rfl ?_
    refine Y.getA fl_X_19 (lIa_ok dd21) h (fun v31 h => ?_)
    obtain ⟨_, o33, e32, m34, h⟩ := gOb_inv h
    refine Y.callI (yC.Vi (b := v31) (As := []) (st := []) (r := ("Partlister$Cursors", T_U, 5)) hV.1 cb_U_countEnded lk_X_320 in_U_countEnded rfl se_U_countEnded (lIa_ok dd22) rfl rfl (Nat.le_of_ble_eq_true rfl) (by decide) e32 m34) (k_U_countEnded hV G v31) h (fun v36 G35 _ h => ?_)
    exact Y.iret rfl (lIa_ok dd23) h
  refine Y.swC (j := 6) (off := 88) (tgt := 89) (dflt := 93) (lo := 0) (hi := 6) (offs := #[43, 48, 56, 64, 72, 80, 88]) (len := 43) (by decide +kernel) (by decide) (by decide) (by decide) h (fun c39 h => ?_) (fun c39 h => ?_)
  · refine Y.blk (pc' := 90) (L' := [some (.ref a0), some (.int a1)]) (st' := [.ref a0]) (sg := [(.aload_n 0, 0)]) (lSa_ok dd24) rfl ?_
    refine Y.getI fl_X_302 (lIa_ok dd25) h (fun v38 h => ?_)
    exact Y.iret rfl (lIa_ok dd26) h
  refine Y.swOut (dflt := 93) (lo := 0) (hi := 6) (offs := #[43, 48, 56, 64, 72, 80, 88]) (len := 43) (tgt := 94) (by decide +kernel) (by omega) (by decide) ?_
  refine Y.blk (pc' := 95) (L' := [some (.ref a0), some (.int a1)]) (st' := [.ref a0]) (sg := [(.aload_n 0, 0)]) (lSa_ok dd27) rfl ?_
  refine Y.getI fl_X_257 (lIa_ok dd28) h (fun v40 h => ?_)
  exact Y.iret rfl (lIa_ok dd29) h
end
section
def f_I_areKeysFound_L8 (K62 : gH → gR) (K88 : gH → gR) (K96 : gH → gR) : Nat → gH → Nat → Int32 → Int32 → Int32 → gR
  | 0, _, _, _, _, _ => none
  | n + 1, G, x0, x1, x2, x3 =>
    if x2 ≤ x3 then K96 G
    else gOb G x0 1 fun o7 => bI (f_I_keyAt G x0 x1 x3) fun v10 G9 => gOb G9 x0 1 fun o12 => bI (f_I_firstOf G9 x0 x1 v10) fun v15 G14 => gOb G14 x0 1 fun o17 => bI (f_I_lastOf G14 x0 x1 v10) fun v20 G19 => if v15 < 0 then K62 G19
      else if x3 < v15 then K62 G19
        else if v20 < x3 then K62 G19
          else if v20 < x2 then (gOb G19 x0 1 fun o22 => bI (f_I_keyAt G19 x0 x1 v15) fun v25 G24 => if v25 = v10 then (gOb G24 x0 1 fun o27 => bI (f_I_keyAt G24 x0 x1 v20) fun v30 G29 => if v30 = v10 then f_I_areKeysFound_L8 K62 K88 K96 n G29 x0 x1 x2 (x3 + (nI 1))
                else K88 G29)
              else K88 G24)
            else K62 G19
def f_I_areKeysFound (G : gH) (a0 : Nat) (a1 : Int32) : gR :=
  gOb G a0 1 fun o2 => bI (f_I_lengthOf G a0 a1) fun v5 G4 => f_I_areKeysFound_L8 (fun G38 => rZ (nI 0) G38) (fun G39 => rZ (nI 0) G39) (fun G40 => rZ (nI 1) G40) zFu G4 a0 a1 v5 (nI 0)
theorem k_I_areKeysFound_L8 {l : Launch} {D : va_G} {B : Nat} {O : State → Heap → Prop} (hV : zG l D B O) {o : gO} {Gf : gH} (K62 : gH → gR) (K88 : gH → gR) (K96 : gH → gR) (hK62 : ∀ (G : gH), K62 G  = some (o, Gf) → Y (zVm l D B O) m_I_areKeysFound 5 o Gf 62 [none, none, none, none, none, none, none] [] G) (hK88 : ∀ (G : gH), K88 G  = some (o, Gf) → Y (zVm l D B O) m_I_areKeysFound 5 o Gf 88 [none, none, none, none, none, none, none] [] G) (hK96 : ∀ (G : gH), K96 G  = some (o, Gf) → Y (zVm l D B O) m_I_areKeysFound 5 o Gf 96 [none, none, none, none, none, none, none] [] G) : ∀ (n : Nat) (G : gH) (x0 : Nat) (x1 : Int32) (x2 : Int32) (x3 : Int32), f_I_areKeysFound_L8 K62 K88 K96 n G x0 x1 x2 x3 = some (o, Gf) → Y (zVm l D B O) m_I_areKeysFound 5 o Gf 8 [some (.ref x0), some (.int x1), some (.int x2), some (.int x3), none, none, none] [] G := by
  have hdd : lSa m_I_areKeysFound 8 [(.iload_n 3, 0), (.iload_n 2, 0)] = true ∧ lIa m_I_areKeysFound 10 (.if_icmp .ge 86) 3 = true ∧ lSa m_I_areKeysFound 13 [(.aload_n 0, 0), (.iload_n 1, 0), (.iload_n 3, 0)] = true ∧ lIa m_I_areKeysFound 16 (.invokevirtual 101) 3 = true ∧ lSa m_I_areKeysFound 19 [(.istore 4, 0), (.aload_n 0, 0), (.iload_n 1, 0), (.iload 4, 0)] = true ∧ lIa m_I_areKeysFound 25 (.invokevirtual 125) 3 = true ∧ lSa m_I_areKeysFound 28 [(.istore 5, 0), (.aload_n 0, 0), (.iload_n 1, 0), (.iload 4, 0)] = true ∧ lIa m_I_areKeysFound 34 (.invokevirtual 128) 3 = true ∧ lSa m_I_areKeysFound 37 [(.istore 6, 0), (.iload 5, 0)] = true ∧ lIa m_I_areKeysFound 41 (.ifCond .lt 21) 3 = true ∧ lSa m_I_areKeysFound 44 [(.iload 5, 0), (.iload_n 3, 0)] = true ∧ lIa m_I_areKeysFound 47 (.if_icmp .gt 15) 3 = true ∧ lSa m_I_areKeysFound 50 [(.iload 6, 0), (.iload_n 3, 0)] = true ∧ lIa m_I_areKeysFound 53 (.if_icmp .lt 9) 3 = true ∧ lSa m_I_areKeysFound 56 [(.iload 6, 0), (.iload_n 2, 0)] = true ∧ lIa m_I_areKeysFound 59 (.if_icmp .lt 5) 3 = true ∧ lSa m_I_areKeysFound 64 [(.aload_n 0, 0), (.iload_n 1, 0), (.iload 5, 0)] = true ∧ lIa m_I_areKeysFound 68 (.invokevirtual 101) 3 = true ∧ lSa m_I_areKeysFound 71 [(.iload 4, 0)] = true ∧ lIa m_I_areKeysFound 73 (.if_icmp .ne 15) 3 = true ∧ lSa m_I_areKeysFound 76 [(.aload_n 0, 0), (.iload_n 1, 0), (.iload 6, 0)] = true ∧ lIa m_I_areKeysFound 80 (.invokevirtual 101) 3 = true ∧ lSa m_I_areKeysFound 83 [(.iload 4, 0)] = true ∧ lIa m_I_areKeysFound 85 (.if_icmp .eq 5) 3 = true ∧ lSa m_I_areKeysFound 90 [(.iinc 3 1, nI 1)] = true ∧ lIa m_I_areKeysFound 93 (.goto (-85)) 3 = true := by decide +kernel
  refine lA8 hdd (fun dd0 dd1 dd2 dd3 dd4 dd5 dd6 dd7 hdd => ?_)
  refine lA8 hdd (fun dd8 dd9 dd10 dd11 dd12 dd13 dd14 dd15 hdd => ?_)
  refine lA8 hdd (fun dd16 dd17 dd18 dd19 dd20 dd21 dd22 dd23 hdd => ?_)
  obtain ⟨dd24, dd25⟩ := hdd
  intro n
  induction n with
  | zero => intro G x0 x1 x2 x3 h; cases h
  | succ n ih =>
    intro G x0 x1 x2 x3 h
    unfold f_I_areKeysFound_L8 at h
    refine Y.blk (pc' := 10) (L' := [some (.ref x0), some (.int x1), some (.int x2), some (.int x3), none, none, none]) (st' := [.int x2, .int x3]) (sg := [(.iload_n 3, 0), (.iload_n 2, 0)]) (lSa_ok dd0) rfl ?_
    refine Y.ic_ge (off := 86) (tgt := 96) (lIa_ok dd1) (by decide) h (fun c37 h => ?_) (fun c37 h => ?_)
    · refine Y.less (L' := [none, none, none, none, none, none, none]) (zLe_none (zLe_none (zLe_none (zLe_none (zLe_some (zLe_some (zLe_some (zLe_nil)))))))) ?_
      exact hK96 G  h
    · refine Y.blk (pc' := 16) (L' := [some (.ref x0), some (.int x1), some (.int x2), some (.int x3), none, none, none]) (st' := [.int x3, .int x1, .ref x0]) (sg := [(.aload_n 0, 0), (.iload_n 1, 0), (.iload_n 3, 0)]) (lSa_ok dd2) rfl ?_
      obtain ⟨_, o7, e6, m8, h⟩ := gOb_inv h
      refine Y.callI (yC.Vi (b := x0) (As := [.int x1, .int x3]) (st := []) (r := ("Partlister$Lists", T_I, 7)) hV.1 cb_I_keyAt lk_I_101 in_I_keyAt rfl se_I_keyAt (lIa_ok dd3) rfl rfl (Nat.le_of_ble_eq_true rfl) (by decide) e6 m8) (k_I_keyAt hV G x0 x1 x3) h (fun v10 G9 _ h => ?_)
      refine Y.blk (pc' := 25) (L' := [some (.ref x0), some (.int x1), some (.int x2), some (.int x3), some (.int v10), none, none]) (st' := [.int v10, .int x1, .ref x0]) (sg := [(.istore 4, 0), (.aload_n 0, 0), (.iload_n 1, 0), (.iload 4, 0)]) (lSa_ok dd4) rfl ?_
      obtain ⟨_, o12, e11, m13, h⟩ := gOb_inv h
      refine Y.callI (yC.Vi (b := x0) (As := [.int x1, .int v10]) (st := []) (r := ("Partlister$Lists", T_I, 7)) hV.1 cb_I_firstOf lk_I_125 in_I_firstOf rfl se_I_firstOf (lIa_ok dd5) rfl rfl (Nat.le_of_ble_eq_true rfl) (by decide) e11 m13) (k_I_firstOf hV G9 x0 x1 v10) h (fun v15 G14 _ h => ?_)
      refine Y.blk (pc' := 34) (L' := [some (.ref x0), some (.int x1), some (.int x2), some (.int x3), some (.int v10), some (.int v15), none]) (st' := [.int v10, .int x1, .ref x0]) (sg := [(.istore 5, 0), (.aload_n 0, 0), (.iload_n 1, 0), (.iload 4, 0)]) (lSa_ok dd6) rfl ?_
      obtain ⟨_, o17, e16, m18, h⟩ := gOb_inv h
      refine Y.callI (yC.Vi (b := x0) (As := [.int x1, .int v10]) (st := []) (r := ("Partlister$Lists", T_I, 7)) hV.1 cb_I_lastOf lk_I_128 in_I_lastOf rfl se_I_lastOf (lIa_ok dd7) rfl rfl (Nat.le_of_ble_eq_true rfl) (by decide) e16 m18) (k_I_lastOf hV G14 x0 x1 v10) h (fun v20 G19 _ h => ?_)
      refine Y.blk (pc' := 41) (L' := [some (.ref x0), some (.int x1), some (.int x2), some (.int x3), some (.int v10), some (.int v15), some (.int v20)]) (st' := [.int v15]) (sg := [(.istore 6, 0), (.iload 5, 0)]) (lSa_ok dd8) rfl ?_
      refine Y.if_lt (off := 21) (tgt := 62) (lIa_ok dd9) (by decide) h (fun c36 h => ?_) (fun c36 h => ?_)
      · refine Y.less (L' := [none, none, none, none, none, none, none]) (zLe_none (zLe_none (zLe_none (zLe_none (zLe_none (zLe_none (zLe_none (zLe_nil)))))))) ?_
        exact hK62 G19  h
      · refine Y.blk (pc' := 47) (L' := [some (.ref x0), some (.int x1), some (.int x2), some (.int x3), some (.int v10), some (.int v15), some (.int v20)]) (st' := [.int x3, .int v15]) (sg := [(.iload 5, 0), (.iload_n 3, 0)]) (lSa_ok dd10) rfl ?_
        refine Y.ic_gt (off := 15) (tgt := 62) (lIa_ok dd11) (by decide) h (fun c35 h => ?_) (fun c35 h => ?_)
        · refine Y.less (L' := [none, none, none, none, none, none, none]) (zLe_none (zLe_none (zLe_none (zLe_none (zLe_none (zLe_none (zLe_none (zLe_nil)))))))) ?_
          exact hK62 G19  h
        · refine Y.blk (pc' := 53) (L' := [some (.ref x0), some (.int x1), some (.int x2), some (.int x3), some (.int v10), some (.int v15), some (.int v20)]) (st' := [.int x3, .int v20]) (sg := [(.iload 6, 0), (.iload_n 3, 0)]) (lSa_ok dd12) rfl ?_
          refine Y.ic_lt (off := 9) (tgt := 62) (lIa_ok dd13) (by decide) h (fun c34 h => ?_) (fun c34 h => ?_)
          · refine Y.less (L' := [none, none, none, none, none, none, none]) (zLe_none (zLe_none (zLe_none (zLe_none (zLe_none (zLe_none (zLe_none (zLe_nil)))))))) ?_
            exact hK62 G19  h
          · refine Y.blk (pc' := 59) (L' := [some (.ref x0), some (.int x1), some (.int x2), some (.int x3), some (.int v10), some (.int v15), some (.int v20)]) (st' := [.int x2, .int v20]) (sg := [(.iload 6, 0), (.iload_n 2, 0)]) (lSa_ok dd14) rfl ?_
            refine Y.ic_lt (off := 5) (tgt := 64) (lIa_ok dd15) (by decide) h (fun c33 h => ?_) (fun c33 h => ?_)
            · refine Y.blk (pc' := 68) (L' := [some (.ref x0), some (.int x1), some (.int x2), some (.int x3), some (.int v10), some (.int v15), some (.int v20)]) (st' := [.int v15, .int x1, .ref x0]) (sg := [(.aload_n 0, 0), (.iload_n 1, 0), (.iload 5, 0)]) (lSa_ok dd16) rfl ?_
              obtain ⟨_, o22, e21, m23, h⟩ := gOb_inv h
              refine Y.callI (yC.Vi (b := x0) (As := [.int x1, .int v15]) (st := []) (r := ("Partlister$Lists", T_I, 7)) hV.1 cb_I_keyAt lk_I_101 in_I_keyAt rfl se_I_keyAt (lIa_ok dd17) rfl rfl (Nat.le_of_ble_eq_true rfl) (by decide) e21 m23) (k_I_keyAt hV G19 x0 x1 v15) h (fun v25 G24 _ h => ?_)
              refine Y.blk (pc' := 73) (L' := [some (.ref x0), some (.int x1), some (.int x2), some (.int x3), some (.int v10), some (.int v15), some (.int v20)]) (st' := [.int v10, .int v25]) (sg := [(.iload 4, 0)]) (lSa_ok dd18) rfl ?_
              refine Y.ic_ne (off := 15) (tgt := 88) (lIa_ok dd19) (by decide) h (fun c32 h => ?_) (fun c32 h => ?_)
              · refine Y.blk (pc' := 80) (L' := [some (.ref x0), some (.int x1), some (.int x2), some (.int x3), some (.int v10), some (.int v15), some (.int v20)]) (st' := [.int v20, .int x1, .ref x0]) (sg := [(.aload_n 0, 0), (.iload_n 1, 0), (.iload 6, 0)]) (lSa_ok dd20) rfl ?_
                obtain ⟨_, o27, e26, m28, h⟩ := gOb_inv h
                refine Y.callI (yC.Vi (b := x0) (As := [.int x1, .int v20]) (st := []) (r := ("Partlister$Lists", T_I, 7)) hV.1 cb_I_keyAt lk_I_101 in_I_keyAt rfl se_I_keyAt (lIa_ok dd21) rfl rfl (Nat.le_of_ble_eq_true rfl) (by decide) e26 m28) (k_I_keyAt hV G24 x0 x1 v20) h (fun v30 G29 _ h => ?_)
                refine Y.blk (pc' := 85) (L' := [some (.ref x0), some (.int x1), some (.int x2), some (.int x3), some (.int v10), some (.int v15), some (.int v20)]) (st' := [.int v10, .int v30]) (sg := [(.iload 4, 0)]) (lSa_ok dd22) rfl ?_
                refine Y.ic_eq (off := 5) (tgt := 90) (lIa_ok dd23) (by decide) h (fun c31 h => ?_) (fun c31 h => ?_)
                · refine Y.blk (pc' := 93) (L' := [some (.ref x0), some (.int x1), some (.int x2), some (.int (x3 + (nI 1))), some (.int v10), some (.int v15), some (.int v20)]) (st' := []) (sg := [(.iinc 3 1, nI 1)]) (lSa_ok dd24) rfl ?_
                  refine Y.goto (off := -85) (tgt := 8) (lIa_ok dd25) (by decide) ?_
                  refine Y.less (L' := [some (.ref x0), some (.int x1), some (.int x2), some (.int (x3 + (nI 1))), none, none, none]) (zLe_some (zLe_some (zLe_some (zLe_some (zLe_none (zLe_none (zLe_none (zLe_nil)))))))) ?_
                  exact ih G29 x0 x1 x2 (x3 + (nI 1)) h
                · refine Y.less (L' := [none, none, none, none, none, none, none]) (zLe_none (zLe_none (zLe_none (zLe_none (zLe_none (zLe_none (zLe_none (zLe_nil)))))))) ?_
                  exact hK88 G29  h
              · refine Y.less (L' := [none, none, none, none, none, none, none]) (zLe_none (zLe_none (zLe_none (zLe_none (zLe_none (zLe_none (zLe_none (zLe_nil)))))))) ?_
                exact hK88 G24  h
            · refine Y.less (L' := [none, none, none, none, none, none, none]) (zLe_none (zLe_none (zLe_none (zLe_none (zLe_none (zLe_none (zLe_none (zLe_nil)))))))) ?_
              exact hK62 G19  h
theorem k_I_areKeysFound {l : Launch} {D : va_G} {B : Nat} {O : State → Heap → Prop} (hV : zG l D B O) (G : gH) (a0 : Nat) (a1 : Int32) : gMet (zVm l D B O) m_I_areKeysFound 5 [.ref a0, .int a1] G (f_I_areKeysFound G a0 a1) := by
  have hdd : lSa m_I_areKeysFound 0 [(.aload_n 0, 0), (.iload_n 1, 0)] = true ∧ lIa m_I_areKeysFound 2 (.invokevirtual 59) 3 = true ∧ lSa m_I_areKeysFound 5 [(.istore_n 2, 0), (.iconst 0, nI 0), (.istore_n 3, 0)] = true ∧ lSa m_I_areKeysFound 62 [(.iconst 0, nI 0)] = true ∧ lIa m_I_areKeysFound 63 (.ireturn) 1 = true ∧ lSa m_I_areKeysFound 88 [(.iconst 0, nI 0)] = true ∧ lIa m_I_areKeysFound 89 (.ireturn) 1 = true ∧ lSa m_I_areKeysFound 96 [(.iconst 1, nI 1)] = true ∧ lIa m_I_areKeysFound 97 (.ireturn) 1 = true := by decide +kernel
  refine lA8 hdd (fun dd0 dd1 dd2 dd3 dd4 dd5 dd6 dd7 hdd => ?_)
  have dd8 := hdd
  refine gMet.of (by decide +kernel) (Nat.le_of_ble_eq_true rfl) [some (.ref a0), some (.int a1), none, none, none, none, none] (fun ls h => zEn_ok (n := 7) h) ?_
  intro o Gf h
  unfold f_I_areKeysFound at h
  refine Y.blk (pc' := 2) (L' := [some (.ref a0), some (.int a1), none, none, none, none, none]) (st' := [.int a1, .ref a0]) (sg := [(.aload_n 0, 0), (.iload_n 1, 0)]) (lSa_ok dd0) rfl ?_
  obtain ⟨_, o2, e1, m3, h⟩ := gOb_inv h
  refine Y.callI (yC.Vi (b := a0) (As := [.int a1]) (st := []) (r := ("Partlister$Lists", T_I, 7)) hV.1 cb_I_lengthOf lk_I_59 in_I_lengthOf rfl se_I_lengthOf (lIa_ok dd1) rfl rfl (Nat.le_of_ble_eq_true rfl) (by decide) e1 m3) (k_I_lengthOf hV G a0 a1) h (fun v5 G4 _ h => ?_)
  refine Y.blk (pc' := 8) (L' := [some (.ref a0), some (.int a1), some (.int v5), some (.int (nI 0)), none, none, none]) (st' := []) (sg := [(.istore_n 2, 0), (.iconst 0, nI 0), (.istore_n 3, 0)]) (lSa_ok dd2) rfl ?_
  refine k_I_areKeysFound_L8 hV _ _ _ ?_ ?_ ?_  zFu G4 a0 a1 v5 (nI 0) h
  · intro G38 h
    refine Y.blk (pc' := 63) (L' := [none, none, none, none, none, none, none]) (st' := [.int (nI 0)]) (sg := [(.iconst 0, nI 0)]) (lSa_ok dd3) rfl ?_
    exact Y.zret rfl (lIa_ok dd4) h
  · intro G39 h
    refine Y.blk (pc' := 89) (L' := [none, none, none, none, none, none, none]) (st' := [.int (nI 0)]) (sg := [(.iconst 0, nI 0)]) (lSa_ok dd5) rfl ?_
    exact Y.zret rfl (lIa_ok dd6) h
  · intro G40 h
    refine Y.blk (pc' := 97) (L' := [none, none, none, none, none, none, none]) (st' := [.int (nI 1)]) (sg := [(.iconst 1, nI 1)]) (lSa_ok dd7) rfl ?_
    exact Y.zret rfl (lIa_ok dd8) h

def f_X_hasToBeAhead (G : gH) (a0 : Int32) (a1 : Int32) (a2 : Int32) : gR :=
  bI (f_X_keyOf G a0) fun v3 G2 => bI (f_X_keyOf G2 a1) fun v6 G5 => if a2.toInt = 0 then (if v6 ≤ v3 then rZ (nI 0) G5
    else rZ (nI 1) G5)
  else if a2.toInt = 1 then (if v3 ≤ v6 then rZ (nI 0) G5
    else rZ (nI 1) G5)
  else if a2.toInt = 2 then (gRem v3 (nI 5) fun v11 => gRem v6 (nI 5) fun v12 => if v12 ≤ v11 then rZ (nI 0) G5
    else rZ (nI 1) G5)
  else if a2.toInt = 3 then (bI (f_X_tagOf G5 a0) fun v17 G16 => bI (f_X_tagOf G16 a1) fun v20 G19 => if v17 ≤ v20 then rZ (nI 0) G19
    else rZ (nI 1) G19)
  else gRem v3 (nI 2) fun v23 => gRem v6 (nI 2) fun v24 => if v23 = v24 then (if v6 ≤ v3 then rZ (nI 0) G5
      else rZ (nI 1) G5)
    else gRem v3 (nI 2) fun v26 => gRem v6 (nI 2) fun v27 => if v26 ≤ v27 then rZ (nI 0) G5
      else rZ (nI 1) G5
theorem k_X_hasToBeAhead {l : Launch} {D : va_G} {B : Nat} {O : State → Heap → Prop} (hV : zG l D B O) (G : gH) (a0 : Int32) (a1 : Int32) (a2 : Int32) : gMet (zVm l D B O) m_X_hasToBeAhead 2 [.int a0, .int a1, .int a2] G (f_X_hasToBeAhead G a0 a1 a2) := by
  have hdd : lSa m_X_hasToBeAhead 0 [(.iload_n 0, 0)] = true ∧ lIa m_X_hasToBeAhead 1 (.invokestatic 97) 3 = true ∧ lSa m_X_hasToBeAhead 4 [(.istore_n 3, 0), (.iload_n 1, 0)] = true ∧ lIa m_X_hasToBeAhead 6 (.invokestatic 97) 3 = true ∧ lSa m_X_hasToBeAhead 9 [(.istore 4, 0), (.iload_n 2, 0)] = true ∧ lSa m_X_hasToBeAhead 44 [(.iload_n 3, 0), (.iload 4, 0)] = true ∧ lIa m_X_hasToBeAhead 47 (.if_icmp .ge 7) 3 = true ∧ lSa m_X_hasToBeAhead 54 [(.iconst 0, nI 0)] = true ∧ lIa m_X_hasToBeAhead 55 (.ireturn) 1 = true ∧ lSa m_X_hasToBeAhead 50 [(.iconst 1, nI 1)] = true ∧ lIa m_X_hasToBeAhead 51 (.goto 4) 3 = true ∧ lSa m_X_hasToBeAhead 56 [(.iload_n 3, 0), (.iload 4, 0)] = true ∧ lIa m_X_hasToBeAhead 59 (.if_icmp .le 7) 3 = true ∧ lSa m_X_hasToBeAhead 66 [(.iconst 0, nI 0)] = true ∧ lIa m_X_hasToBeAhead 67 (.ireturn) 1 = true ∧ lSa m_X_hasToBeAhead 62 [(.iconst 1, nI 1)] = true ∧ lIa m_X_hasToBeAhead 63 (.goto 4) 3 = true ∧ lSa m_X_hasToBeAhead 68 [(.iload_n 3, 0), (.iconst 5, nI 5)] = true ∧ lIa m_X_hasToBeAhead 70 (.irem) 1 = true ∧ lSa m_X_hasToBeAhead 71 [(.iload 4, 0), (.iconst 5, nI 5)] = true ∧ lIa m_X_hasToBeAhead 74 (.irem) 1 = true ∧ lIa m_X_hasToBeAhead 75 (.if_icmp .ge 7) 3 = true ∧ lSa m_X_hasToBeAhead 82 [(.iconst 0, nI 0)] = true ∧ lIa m_X_hasToBeAhead 83 (.ireturn) 1 = true ∧ lSa m_X_hasToBeAhead 78 [(.iconst 1, nI 1)] = true ∧ lIa m_X_hasToBeAhead 79 (.goto 4) 3 = true ∧ lSa m_X_hasToBeAhead 84 [(.iload_n 0, 0)] = true ∧ lIa m_X_hasToBeAhead 85 (.invokestatic 48) 3 = true ∧ lSa m_X_hasToBeAhead 88 [(.iload_n 1, 0)] = true ∧ lIa m_X_hasToBeAhead 89 (.invokestatic 48) 3 = true ∧ lIa m_X_hasToBeAhead 92 (.if_icmp .le 7) 3 = true ∧ lSa m_X_hasToBeAhead 99 [(.iconst 0, nI 0)] = true ∧ lIa m_X_hasToBeAhead 100 (.ireturn) 1 = true ∧ lSa m_X_hasToBeAhead 95 [(.iconst 1, nI 1)] = true ∧ lIa m_X_hasToBeAhead 96 (.goto 4) 3 = true ∧ lSa m_X_hasToBeAhead 101 [(.iload_n 3, 0), (.iconst 2, nI 2)] = true ∧ lIa m_X_hasToBeAhead 103 (.irem) 1 = true ∧ lSa m_X_hasToBeAhead 104 [(.iload 4, 0), (.iconst 2, nI 2)] = true ∧ lIa m_X_hasToBeAhead 107 (.irem) 1 = true ∧ lIa m_X_hasToBeAhead 108 (.if_icmp .eq 21) 3 = true ∧ lSa m_X_hasToBeAhead 129 [(.iload_n 3, 0), (.iload 4, 0)] = true ∧ lIa m_X_hasToBeAhead 132 (.if_icmp .ge 7) 3 = true ∧ lSa m_X_hasToBeAhead 139 [(.iconst 0, nI 0)] = true ∧ lIa m_X_hasToBeAhead 140 (.ireturn) 1 = true ∧ lSa m_X_hasToBeAhead 135 [(.iconst 1, nI 1)] = true ∧ lIa m_X_hasToBeAhead 136 (.goto 4) 3 = true ∧ lSa m_X_hasToBeAhead 111 [(.iload_n 3, 0), (.iconst 2, nI 2)] = true ∧ lIa m_X_hasToBeAhead 113 (.irem) 1 = true ∧ lSa m_X_hasToBeAhead 114 [(.iload 4, 0), (.iconst 2, nI 2)] = true ∧ lIa m_X_hasToBeAhead 117 (.irem) 1 = true ∧ lIa m_X_hasToBeAhead 118 (.if_icmp .le 7) 3 = true ∧ lSa m_X_hasToBeAhead 125 [(.iconst 0, nI 0)] = true ∧ lIa m_X_hasToBeAhead 126 (.goto 14) 3 = true ∧ lSa m_X_hasToBeAhead 121 [(.iconst 1, nI 1)] = true ∧ lIa m_X_hasToBeAhead 122 (.goto 18) 3 = true := by decide +kernel
  refine lA8 hdd (fun dd0 dd1 dd2 dd3 dd4 dd5 dd6 dd7 hdd => ?_)
  refine lA8 hdd (fun dd8 dd9 dd10 dd11 dd12 dd13 dd14 dd15 hdd => ?_)
  refine lA8 hdd (fun dd16 dd17 dd18 dd19 dd20 dd21 dd22 dd23 hdd => ?_)
  refine lA8 hdd (fun dd24 dd25 dd26 dd27 dd28 dd29 dd30 dd31 hdd => ?_)
  refine lA8 hdd (fun dd32 dd33 dd34 dd35 dd36 dd37 dd38 dd39 hdd => ?_)
  refine lA8 hdd (fun dd40 dd41 dd42 dd43 dd44 dd45 dd46 dd47 hdd => ?_)
  obtain ⟨dd48, dd49, dd50, dd51, dd52, dd53, dd54⟩ := hdd
  refine gMet.of (by decide +kernel) (Nat.le_of_ble_eq_true rfl) [some (.int a0), some (.int a1), some (.int a2), none, none] (fun ls h => zEn_ok (n := 5) h) ?_
  intro o Gf h
  unfold f_X_hasToBeAhead at h
  refine Y.blk (pc' := 1) (L' := [some (.int a0), some (.int a1), some (.int a2), none, none]) (st' := [.int a0]) (sg := [(.iload_n 0, 0)]) (lSa_ok dd0) rfl ?_
  refine Y.callI (yC.S (As := [.int a0]) (st := []) hV.1 cb_X_keyOf lk_X_97 st_X_keyOf (lIa_ok dd1) rfl rfl (Nat.le_of_ble_eq_true rfl) (by decide)) (k_X_keyOf hV G a0) h (fun v3 G2 _ h => ?_)
  refine Y.blk (pc' := 6) (L' := [some (.int a0), some (.int a1), some (.int a2), some (.int v3), none]) (st' := [.int a1]) (sg := [(.istore_n 3, 0), (.iload_n 1, 0)]) (lSa_ok dd2) rfl ?_
  refine Y.callI (yC.S (As := [.int a1]) (st := []) hV.1 cb_X_keyOf lk_X_97 st_X_keyOf (lIa_ok dd3) rfl rfl (Nat.le_of_ble_eq_true rfl) (by decide)) (k_X_keyOf hV G2 a1) h (fun v6 G5 _ h => ?_)
  refine Y.blk (pc' := 12) (L' := [some (.int a0), some (.int a1), some (.int a2), some (.int v3), some (.int v6)]) (st' := [.int a2]) (sg := [(.istore 4, 0), (.iload_n 2, 0)]) (lSa_ok dd4) rfl ?_
  refine Y.swC (j := 0) (off := 32) (tgt := 44) (dflt := 89) (lo := 0) (hi := 3) (offs := #[32, 44, 56, 72]) (len := 32) (by decide +kernel) (by decide) (by decide) (by decide) h (fun c8 h => ?_) (fun c8 h => ?_)
  · refine Y.blk (pc' := 47) (L' := [some (.int a0), some (.int a1), some (.int a2), some (.int v3), some (.int v6)]) (st' := [.int v6, .int v3]) (sg := [(.iload_n 3, 0), (.iload 4, 0)]) (lSa_ok dd5) rfl ?_
    refine Y.ic_ge (off := 7) (tgt := 54) (lIa_ok dd6) (by decide) h (fun c7 h => ?_) (fun c7 h => ?_)
    · refine Y.blk (pc' := 55) (L' := [some (.int a0), some (.int a1), some (.int a2), some (.int v3), some (.int v6)]) (st' := [.int (nI 0)]) (sg := [(.iconst 0, nI 0)]) (lSa_ok dd7) rfl ?_
      exact Y.zret rfl (lIa_ok dd8) h
    · refine Y.blk (pc' := 51) (L' := [some (.int a0), some (.int a1), some (.int a2), some (.int v3), some (.int v6)]) (st' := [.int (nI 1)]) (sg := [(.iconst 1, nI 1)]) (lSa_ok dd9) rfl ?_
      refine Y.goto (off := 4) (tgt := 55) (lIa_ok dd10) (by decide) ?_
      exact Y.zret rfl (lIa_ok dd8) h
  refine Y.swC (j := 1) (off := 44) (tgt := 56) (dflt := 89) (lo := 0) (hi := 3) (offs := #[32, 44, 56, 72]) (len := 32) (by decide +kernel) (by decide) (by decide) (by decide) h (fun c10 h => ?_) (fun c10 h => ?_)
  · refine Y.blk (pc' := 59) (L' := [some (.int a0), some (.int a1), some (.int a2), some (.int v3), some (.int v6)]) (st' := [.int v6, .int v3]) (sg := [(.iload_n 3, 0), (.iload 4, 0)]) (lSa_ok dd11) rfl ?_
    refine Y.ic_le (off := 7) (tgt := 66) (lIa_ok dd12) (by decide) h (fun c9 h => ?_) (fun c9 h => ?_)
    · refine Y.blk (pc' := 67) (L' := [some (.int a0), some (.int a1), some (.int a2), some (.int v3), some (.int v6)]) (st' := [.int (nI 0)]) (sg := [(.iconst 0, nI 0)]) (lSa_ok dd13) rfl ?_
      exact Y.zret rfl (lIa_ok dd14) h
    · refine Y.blk (pc' := 63) (L' := [some (.int a0), some (.int a1), some (.int a2), some (.int v3), some (.int v6)]) (st' := [.int (nI 1)]) (sg := [(.iconst 1, nI 1)]) (lSa_ok dd15) rfl ?_
      refine Y.goto (off := 4) (tgt := 67) (lIa_ok dd16) (by decide) ?_
      exact Y.zret rfl (lIa_ok dd14) h
  refine Y.swC (j := 2) (off := 56) (tgt := 68) (dflt := 89) (lo := 0) (hi := 3) (offs := #[32, 44, 56, 72]) (len := 32) (by decide +kernel) (by decide) (by decide) (by decide) h (fun c14 h => ?_) (fun c14 h => ?_)
  · refine Y.blk (pc' := 70) (L' := [some (.int a0), some (.int a1), some (.int a2), some (.int v3), some (.int v6)]) (st' := [.int (nI 5), .int v3]) (sg := [(.iload_n 3, 0), (.iconst 5, nI 5)]) (lSa_ok dd17) rfl ?_
    refine Y.irem (lIa_ok dd18) h (fun v11 h => ?_)
    refine Y.blk (pc' := 74) (L' := [some (.int a0), some (.int a1), some (.int a2), some (.int v3), some (.int v6)]) (st' := [.int (nI 5), .int v6, .int v11]) (sg := [(.iload 4, 0), (.iconst 5, nI 5)]) (lSa_ok dd19) rfl ?_
    refine Y.irem (lIa_ok dd20) h (fun v12 h => ?_)
    refine Y.ic_ge (off := 7) (tgt := 82) (lIa_ok dd21) (by decide) h (fun c13 h => ?_) (fun c13 h => ?_)
    · refine Y.blk (pc' := 83) (L' := [some (.int a0), some (.int a1), some (.int a2), some (.int v3), some (.int v6)]) (st' := [.int (nI 0)]) (sg := [(.iconst 0, nI 0)]) (lSa_ok dd22) rfl ?_
      exact Y.zret rfl (lIa_ok dd23) h
    · refine Y.blk (pc' := 79) (L' := [some (.int a0), some (.int a1), some (.int a2), some (.int v3), some (.int v6)]) (st' := [.int (nI 1)]) (sg := [(.iconst 1, nI 1)]) (lSa_ok dd24) rfl ?_
      refine Y.goto (off := 4) (tgt := 83) (lIa_ok dd25) (by decide) ?_
      exact Y.zret rfl (lIa_ok dd23) h
  refine Y.swC (j := 3) (off := 72) (tgt := 84) (dflt := 89) (lo := 0) (hi := 3) (offs := #[32, 44, 56, 72]) (len := 32) (by decide +kernel) (by decide) (by decide) (by decide) h (fun c22 h => ?_) (fun c22 h => ?_)
  · refine Y.blk (pc' := 85) (L' := [some (.int a0), some (.int a1), some (.int a2), some (.int v3), some (.int v6)]) (st' := [.int a0]) (sg := [(.iload_n 0, 0)]) (lSa_ok dd26) rfl ?_
    refine Y.callI (yC.S (As := [.int a0]) (st := []) hV.1 cb_X_tagOf lk_X_48 st_X_tagOf (lIa_ok dd27) rfl rfl (Nat.le_of_ble_eq_true rfl) (by decide)) (k_X_tagOf hV G5 a0) h (fun v17 G16 _ h => ?_)
    refine Y.blk (pc' := 89) (L' := [some (.int a0), some (.int a1), some (.int a2), some (.int v3), some (.int v6)]) (st' := [.int a1, .int v17]) (sg := [(.iload_n 1, 0)]) (lSa_ok dd28) rfl ?_
    refine Y.callI (yC.S (As := [.int a1]) (st := [.int v17]) hV.1 cb_X_tagOf lk_X_48 st_X_tagOf (lIa_ok dd29) rfl rfl (Nat.le_of_ble_eq_true rfl) (by decide)) (k_X_tagOf hV G16 a1) h (fun v20 G19 _ h => ?_)
    refine Y.ic_le (off := 7) (tgt := 99) (lIa_ok dd30) (by decide) h (fun c21 h => ?_) (fun c21 h => ?_)
    · refine Y.blk (pc' := 100) (L' := [some (.int a0), some (.int a1), some (.int a2), some (.int v3), some (.int v6)]) (st' := [.int (nI 0)]) (sg := [(.iconst 0, nI 0)]) (lSa_ok dd31) rfl ?_
      exact Y.zret rfl (lIa_ok dd32) h
    · refine Y.blk (pc' := 96) (L' := [some (.int a0), some (.int a1), some (.int a2), some (.int v3), some (.int v6)]) (st' := [.int (nI 1)]) (sg := [(.iconst 1, nI 1)]) (lSa_ok dd33) rfl ?_
      refine Y.goto (off := 4) (tgt := 100) (lIa_ok dd34) (by decide) ?_
      exact Y.zret rfl (lIa_ok dd32) h
  refine Y.swOut (dflt := 89) (lo := 0) (hi := 3) (offs := #[32, 44, 56, 72]) (len := 32) (tgt := 101) (by decide +kernel) (by omega) (by decide) ?_
  refine Y.blk (pc' := 103) (L' := [some (.int a0), some (.int a1), some (.int a2), some (.int v3), some (.int v6)]) (st' := [.int (nI 2), .int v3]) (sg := [(.iload_n 3, 0), (.iconst 2, nI 2)]) (lSa_ok dd35) rfl ?_
  refine Y.irem (lIa_ok dd36) h (fun v23 h => ?_)
  refine Y.blk (pc' := 107) (L' := [some (.int a0), some (.int a1), some (.int a2), some (.int v3), some (.int v6)]) (st' := [.int (nI 2), .int v6, .int v23]) (sg := [(.iload 4, 0), (.iconst 2, nI 2)]) (lSa_ok dd37) rfl ?_
  refine Y.irem (lIa_ok dd38) h (fun v24 h => ?_)
  refine Y.ic_eq (off := 21) (tgt := 129) (lIa_ok dd39) (by decide) h (fun c29 h => ?_) (fun c29 h => ?_)
  · refine Y.blk (pc' := 132) (L' := [some (.int a0), some (.int a1), some (.int a2), some (.int v3), some (.int v6)]) (st' := [.int v6, .int v3]) (sg := [(.iload_n 3, 0), (.iload 4, 0)]) (lSa_ok dd40) rfl ?_
    refine Y.ic_ge (off := 7) (tgt := 139) (lIa_ok dd41) (by decide) h (fun c25 h => ?_) (fun c25 h => ?_)
    · refine Y.blk (pc' := 140) (L' := [some (.int a0), some (.int a1), some (.int a2), some (.int v3), some (.int v6)]) (st' := [.int (nI 0)]) (sg := [(.iconst 0, nI 0)]) (lSa_ok dd42) rfl ?_
      exact Y.zret rfl (lIa_ok dd43) h
    · refine Y.blk (pc' := 136) (L' := [some (.int a0), some (.int a1), some (.int a2), some (.int v3), some (.int v6)]) (st' := [.int (nI 1)]) (sg := [(.iconst 1, nI 1)]) (lSa_ok dd44) rfl ?_
      refine Y.goto (off := 4) (tgt := 140) (lIa_ok dd45) (by decide) ?_
      exact Y.zret rfl (lIa_ok dd43) h
  · refine Y.blk (pc' := 113) (L' := [some (.int a0), some (.int a1), some (.int a2), some (.int v3), some (.int v6)]) (st' := [.int (nI 2), .int v3]) (sg := [(.iload_n 3, 0), (.iconst 2, nI 2)]) (lSa_ok dd46) rfl ?_
    refine Y.irem (lIa_ok dd47) h (fun v26 h => ?_)
    refine Y.blk (pc' := 117) (L' := [some (.int a0), some (.int a1), some (.int a2), some (.int v3), some (.int v6)]) (st' := [.int (nI 2), .int v6, .int v26]) (sg := [(.iload 4, 0), (.iconst 2, nI 2)]) (lSa_ok dd48) rfl ?_
    refine Y.irem (lIa_ok dd49) h (fun v27 h => ?_)
    refine Y.ic_le (off := 7) (tgt := 125) (lIa_ok dd50) (by decide) h (fun c28 h => ?_) (fun c28 h => ?_)
    · refine Y.blk (pc' := 126) (L' := [some (.int a0), some (.int a1), some (.int a2), some (.int v3), some (.int v6)]) (st' := [.int (nI 0)]) (sg := [(.iconst 0, nI 0)]) (lSa_ok dd51) rfl ?_
      refine Y.goto (off := 14) (tgt := 140) (lIa_ok dd52) (by decide) ?_
      exact Y.zret rfl (lIa_ok dd43) h
    · refine Y.blk (pc' := 122) (L' := [some (.int a0), some (.int a1), some (.int a2), some (.int v3), some (.int v6)]) (st' := [.int (nI 1)]) (sg := [(.iconst 1, nI 1)]) (lSa_ok dd53) rfl ?_
      refine Y.goto (off := 18) (tgt := 140) (lIa_ok dd54) (by decide) ?_
      exact Y.zret rfl (lIa_ok dd43) h

def f_I_thingInSpare (G : gH) (a0 : Nat) (a1 : Int32) : gR :=
  gFA G a0 1 5 fun v1 => gOb G v1 2 fun o3 => bI (f_N_read G v1 a1) fun v6 G5 => rI (v6 >>> ((nI 5) &&& 31)) G5
theorem k_I_thingInSpare {l : Launch} {D : va_G} {B : Nat} {O : State → Heap → Prop} (hV : zG l D B O) (G : gH) (a0 : Nat) (a1 : Int32) : gMet (zVm l D B O) m_I_thingInSpare 2 [.ref a0, .int a1] G (f_I_thingInSpare G a0 a1) := by
  have hdd : lSa m_I_thingInSpare 0 [(.aload_n 0, 0)] = true ∧ lIa m_I_thingInSpare 1 (.getfield 32) 3 = true ∧ lSa m_I_thingInSpare 4 [(.iload_n 1, 0)] = true ∧ lIa m_I_thingInSpare 5 (.invokevirtual 39) 3 = true ∧ lSa m_I_thingInSpare 8 [(.iconst 5, nI 5), (.ishr, 0)] = true ∧ lIa m_I_thingInSpare 10 (.ireturn) 1 = true := by decide +kernel
  obtain ⟨dd0, dd1, dd2, dd3, dd4, dd5⟩ := hdd
  refine gMet.of (by decide +kernel) (Nat.le_of_ble_eq_true rfl) [some (.ref a0), some (.int a1)] (fun ls h => zEn_ok (n := 2) h) ?_
  intro o Gf h
  unfold f_I_thingInSpare at h
  refine Y.blk (pc' := 1) (L' := [some (.ref a0), some (.int a1)]) (st' := [.ref a0]) (sg := [(.aload_n 0, 0)]) (lSa_ok dd0) rfl ?_
  refine Y.getA fl_I_32 (lIa_ok dd1) h (fun v1 h => ?_)
  refine Y.blk (pc' := 5) (L' := [some (.ref a0), some (.int a1)]) (st' := [.int a1, .ref v1]) (sg := [(.iload_n 1, 0)]) (lSa_ok dd2) rfl ?_
  obtain ⟨_, o3, e2, m4, h⟩ := gOb_inv h
  refine Y.callI (yC.Vi (b := v1) (As := [.int a1]) (st := []) (r := ("Partlister$Numbers", T_N, 1)) hV.1 cb_N_read lk_I_39 in_N_read rfl se_N_read (lIa_ok dd3) rfl rfl (Nat.le_of_ble_eq_true rfl) (by decide) e2 m4) (k_N_read hV G v1 a1) h (fun v6 G5 _ h => ?_)
  refine Y.blk (pc' := 10) (L' := [some (.ref a0), some (.int a1)]) (st' := [.int (v6 >>> ((nI 5) &&& 31))]) (sg := [(.iconst 5, nI 5), (.ishr, 0)]) (lSa_ok dd4) rfl ?_
  exact Y.iret rfl (lIa_ok dd5) h

def f_I_arrangeSpare_L20 (K70 : gH → Nat → Int32 → Int32 → Int32 → Int32 → Int32 → gR) : Nat → gH → Nat → Int32 → Int32 → Int32 → Int32 → Int32 → gR
  | 0, _, _, _, _, _, _, _ => none
  | n + 1, G, x0, x1, x2, x3, x4, x5 =>
    if x5 ≤ 0 then K70 G x0 x1 x2 x3 x4 x5
    else gOb G x0 1 fun o8 => bI (f_I_thingInSpare G x0 (x5 - (nI 1))) fun v11 G10 => bI (f_X_hasToBeAhead G10 (x4 >>> ((nI 5) &&& 31)) v11 x2) fun v14 G13 => if v14 = 0 then K70 G13 x0 x1 x2 x3 x4 x5
      else gFA G13 x0 1 5 fun v15 => gFA G13 x0 1 5 fun v16 => gOb G13 v16 2 fun o18 => bI (f_N_read G13 v16 (x5 - (nI 1))) fun v21 G20 => gOb G20 v15 2 fun o23 => bV (f_N_write G20 v15 x5 v21) fun G25 => f_I_arrangeSpare_L20 K70 n G25 x0 x1 x2 x3 x4 (x5 + (-1))
def f_I_arrangeSpare_L2 (K87 : gH → gR) : Nat → gH → Nat → Int32 → Int32 → Int32 → gR
  | 0, _, _, _, _, _ => none
  | n + 1, G, x0, x1, x2, x3 =>
    if x1 ≤ x3 then K87 G
    else gFA G x0 1 5 fun v1 => gOb G v1 2 fun o3 => bI (f_N_read G v1 x3) fun v6 G5 => f_I_arrangeSpare_L20 (fun G34 x28 x29 x30 x31 x32 x33 => gFA G34 x28 1 5 fun v35 => gOb G34 v35 2 fun o37 => bV (f_N_write G34 v35 x33 x32) fun G39 => f_I_arrangeSpare_L2 K87 n G39 x28 x29 x30 (x31 + (nI 1))) zFu G5 x0 x1 x2 x3 v6 x3
def f_I_arrangeSpare (G : gH) (a0 : Nat) (a1 : Int32) (a2 : Int32) : gR :=
  f_I_arrangeSpare_L2 (fun G41 => rV G41) zFu G a0 a1 a2 (nI 1)
theorem k_I_arrangeSpare_L20 {l : Launch} {D : va_G} {B : Nat} {O : State → Heap → Prop} (hV : zG l D B O) {o : gO} {Gf : gH} (K70 : gH → Nat → Int32 → Int32 → Int32 → Int32 → Int32 → gR) (hK70 : ∀ (G : gH) (x0 : Nat) (x1 : Int32) (x2 : Int32) (x3 : Int32) (x4 : Int32) (x5 : Int32), K70 G x0 x1 x2 x3 x4 x5 = some (o, Gf) → Y (zVm l D B O) m_I_arrangeSpare 3 o Gf 70 [some (.ref x0), some (.int x1), some (.int x2), some (.int x3), some (.int x4), some (.int x5)] [] G) : ∀ (n : Nat) (G : gH) (x0 : Nat) (x1 : Int32) (x2 : Int32) (x3 : Int32) (x4 : Int32) (x5 : Int32), f_I_arrangeSpare_L20 K70 n G x0 x1 x2 x3 x4 x5 = some (o, Gf) → Y (zVm l D B O) m_I_arrangeSpare 3 o Gf 20 [some (.ref x0), some (.int x1), some (.int x2), some (.int x3), some (.int x4), some (.int x5)] [] G := by
  have hdd : lSa m_I_arrangeSpare 20 [(.iload 5, 0)] = true ∧ lIa m_I_arrangeSpare 22 (.ifCond .le 48) 3 = true ∧ lSa m_I_arrangeSpare 25 [(.iload 4, 0), (.iconst 5, nI 5), (.ishr, 0), (.aload_n 0, 0), (.iload 5, 0), (.iconst 1, nI 1), (.isub, 0)] = true ∧ lIa m_I_arrangeSpare 34 (.invokevirtual 73) 3 = true ∧ lSa m_I_arrangeSpare 37 [(.iload_n 2, 0)] = true ∧ lIa m_I_arrangeSpare 38 (.invokestatic 82) 3 = true ∧ lIa m_I_arrangeSpare 41 (.ifCond .eq 29) 3 = true ∧ lSa m_I_arrangeSpare 44 [(.aload_n 0, 0)] = true ∧ lIa m_I_arrangeSpare 45 (.getfield 32) 3 = true ∧ lSa m_I_arrangeSpare 48 [(.iload 5, 0), (.aload_n 0, 0)] = true ∧ lIa m_I_arrangeSpare 51 (.getfield 32) 3 = true ∧ lSa m_I_arrangeSpare 54 [(.iload 5, 0), (.iconst 1, nI 1), (.isub, 0)] = true ∧ lIa m_I_arrangeSpare 58 (.invokevirtual 39) 3 = true ∧ lIa m_I_arrangeSpare 61 (.invokevirtual 35) 3 = true ∧ lSa m_I_arrangeSpare 64 [(.iinc 5 (-1), -1)] = true ∧ lIa m_I_arrangeSpare 67 (.goto (-47)) 3 = true := by decide +kernel
  refine lA8 hdd (fun dd0 dd1 dd2 dd3 dd4 dd5 dd6 dd7 hdd => ?_)
  obtain ⟨dd8, dd9, dd10, dd11, dd12, dd13, dd14, dd15⟩ := hdd
  intro n
  induction n with
  | zero => intro G x0 x1 x2 x3 x4 x5 h; cases h
  | succ n ih =>
    intro G x0 x1 x2 x3 x4 x5 h
    unfold f_I_arrangeSpare_L20 at h
    refine Y.blk (pc' := 22) (L' := [some (.ref x0), some (.int x1), some (.int x2), some (.int x3), some (.int x4), some (.int x5)]) (st' := [.int x5]) (sg := [(.iload 5, 0)]) (lSa_ok dd0) rfl ?_
    refine Y.if_le (off := 48) (tgt := 70) (lIa_ok dd1) (by decide) h (fun c27 h => ?_) (fun c27 h => ?_)
    · exact hK70 G x0 x1 x2 x3 x4 x5 h
    · refine Y.blk (pc' := 34) (L' := [some (.ref x0), some (.int x1), some (.int x2), some (.int x3), some (.int x4), some (.int x5)]) (st' := [.int (x5 - (nI 1)), .ref x0, .int (x4 >>> ((nI 5) &&& 31))]) (sg := [(.iload 4, 0), (.iconst 5, nI 5), (.ishr, 0), (.aload_n 0, 0), (.iload 5, 0), (.iconst 1, nI 1), (.isub, 0)]) (lSa_ok dd2) rfl ?_
      obtain ⟨_, o8, e7, m9, h⟩ := gOb_inv h
      refine Y.callI (yC.Vi (b := x0) (As := [.int (x5 - (nI 1))]) (st := [.int (x4 >>> ((nI 5) &&& 31))]) (r := ("Partlister$Lists", T_I, 7)) hV.1 cb_I_thingInSpare lk_I_73 in_I_thingInSpare rfl se_I_thingInSpare (lIa_ok dd3) rfl rfl (Nat.le_of_ble_eq_true rfl) (by decide) e7 m9) (k_I_thingInSpare hV G x0 (x5 - (nI 1))) h (fun v11 G10 _ h => ?_)
      refine Y.blk (pc' := 38) (L' := [some (.ref x0), some (.int x1), some (.int x2), some (.int x3), some (.int x4), some (.int x5)]) (st' := [.int x2, .int v11, .int (x4 >>> ((nI 5) &&& 31))]) (sg := [(.iload_n 2, 0)]) (lSa_ok dd4) rfl ?_
      refine Y.callI (yC.SN (As := [.int (x4 >>> ((nI 5) &&& 31)), .int v11, .int x2]) (st := []) hV.1 cb_X_hasToBeAhead lk_I_82 st_X_hasToBeAhead (lIa_ok dd5) rfl rfl (Nat.le_of_ble_eq_true rfl) (by decide)) (k_X_hasToBeAhead hV G10 (x4 >>> ((nI 5) &&& 31)) v11 x2) h (fun v14 G13 _ h => ?_)
      refine Y.if_eq (off := 29) (tgt := 70) (lIa_ok dd6) (by decide) h (fun c26 h => ?_) (fun c26 h => ?_)
      · exact hK70 G13 x0 x1 x2 x3 x4 x5 h
      · refine Y.blk (pc' := 45) (L' := [some (.ref x0), some (.int x1), some (.int x2), some (.int x3), some (.int x4), some (.int x5)]) (st' := [.ref x0]) (sg := [(.aload_n 0, 0)]) (lSa_ok dd7) rfl ?_
        refine Y.getA fl_I_32 (lIa_ok dd8) h (fun v15 h => ?_)
        refine Y.blk (pc' := 51) (L' := [some (.ref x0), some (.int x1), some (.int x2), some (.int x3), some (.int x4), some (.int x5)]) (st' := [.ref x0, .int x5, .ref v15]) (sg := [(.iload 5, 0), (.aload_n 0, 0)]) (lSa_ok dd9) rfl ?_
        refine Y.getA fl_I_32 (lIa_ok dd10) h (fun v16 h => ?_)
        refine Y.blk (pc' := 58) (L' := [some (.ref x0), some (.int x1), some (.int x2), some (.int x3), some (.int x4), some (.int x5)]) (st' := [.int (x5 - (nI 1)), .ref v16, .int x5, .ref v15]) (sg := [(.iload 5, 0), (.iconst 1, nI 1), (.isub, 0)]) (lSa_ok dd11) rfl ?_
        obtain ⟨_, o18, e17, m19, h⟩ := gOb_inv h
        refine Y.callI (yC.Vi (b := v16) (As := [.int (x5 - (nI 1))]) (st := [.int x5, .ref v15]) (r := ("Partlister$Numbers", T_N, 1)) hV.1 cb_N_read lk_I_39 in_N_read rfl se_N_read (lIa_ok dd12) rfl rfl (Nat.le_of_ble_eq_true rfl) (by decide) e17 m19) (k_N_read hV G13 v16 (x5 - (nI 1))) h (fun v21 G20 _ h => ?_)
        obtain ⟨_, o23, e22, m24, h⟩ := gOb_inv h
        refine Y.callN (yC.Vi (b := v15) (As := [.int x5, .int v21]) (st := []) (r := ("Partlister$Numbers", T_N, 1)) hV.1 cb_N_write lk_I_35 in_N_write rfl se_N_write (lIa_ok dd13) rfl rfl (Nat.le_of_ble_eq_true rfl) (by decide) e22 m24) (k_N_write hV G20 v15 x5 v21) h (fun G25 _ h => ?_)
        refine Y.blk (pc' := 67) (L' := [some (.ref x0), some (.int x1), some (.int x2), some (.int x3), some (.int x4), some (.int (x5 + (-1)))]) (st' := []) (sg := [(.iinc 5 (-1), -1)]) (lSa_ok dd14) rfl ?_
        refine Y.goto (off := -47) (tgt := 20) (lIa_ok dd15) (by decide) ?_
        exact ih G25 x0 x1 x2 x3 x4 (x5 + (-1)) h
theorem k_I_arrangeSpare_L2 {l : Launch} {D : va_G} {B : Nat} {O : State → Heap → Prop} (hV : zG l D B O) {o : gO} {Gf : gH} (K87 : gH → gR) (hK87 : ∀ (G : gH), K87 G  = some (o, Gf) → Y (zVm l D B O) m_I_arrangeSpare 3 o Gf 87 [none, none, none, none, none, none] [] G) : ∀ (n : Nat) (G : gH) (x0 : Nat) (x1 : Int32) (x2 : Int32) (x3 : Int32), f_I_arrangeSpare_L2 K87 n G x0 x1 x2 x3 = some (o, Gf) → Y (zVm l D B O) m_I_arrangeSpare 3 o Gf 2 [some (.ref x0), some (.int x1), some (.int x2), some (.int x3), none, none] [] G := by
  have hdd : lSa m_I_arrangeSpare 2 [(.iload_n 3, 0), (.iload_n 1, 0)] = true ∧ lIa m_I_arrangeSpare 4 (.if_icmp .ge 83) 3 = true ∧ lSa m_I_arrangeSpare 7 [(.aload_n 0, 0)] = true ∧ lIa m_I_arrangeSpare 8 (.getfield 32) 3 = true ∧ lSa m_I_arrangeSpare 11 [(.iload_n 3, 0)] = true ∧ lIa m_I_arrangeSpare 12 (.invokevirtual 39) 3 = true ∧ lSa m_I_arrangeSpare 15 [(.istore 4, 0), (.iload_n 3, 0), (.istore 5, 0)] = true ∧ lSa m_I_arrangeSpare 70 [(.aload_n 0, 0)] = true ∧ lIa m_I_arrangeSpare 71 (.getfield 32) 3 = true ∧ lSa m_I_arrangeSpare 74 [(.iload 5, 0), (.iload 4, 0)] = true ∧ lIa m_I_arrangeSpare 78 (.invokevirtual 35) 3 = true ∧ lSa m_I_arrangeSpare 81 [(.iinc 3 1, nI 1)] = true ∧ lIa m_I_arrangeSpare 84 (.goto (-82)) 3 = true := by decide +kernel
  refine lA8 hdd (fun dd0 dd1 dd2 dd3 dd4 dd5 dd6 dd7 hdd => ?_)
  obtain ⟨dd8, dd9, dd10, dd11, dd12⟩ := hdd
  intro n
  induction n with
  | zero => intro G x0 x1 x2 x3 h; cases h
  | succ n ih =>
    intro G x0 x1 x2 x3 h
    unfold f_I_arrangeSpare_L2 at h
    refine Y.blk (pc' := 4) (L' := [some (.ref x0), some (.int x1), some (.int x2), some (.int x3), none, none]) (st' := [.int x1, .int x3]) (sg := [(.iload_n 3, 0), (.iload_n 1, 0)]) (lSa_ok dd0) rfl ?_
    refine Y.ic_ge (off := 83) (tgt := 87) (lIa_ok dd1) (by decide) h (fun c40 h => ?_) (fun c40 h => ?_)
    · refine Y.less (L' := [none, none, none, none, none, none]) (zLe_none (zLe_none (zLe_none (zLe_none (zLe_some (zLe_some (zLe_nil))))))) ?_
      exact hK87 G  h
    · refine Y.blk (pc' := 8) (L' := [some (.ref x0), some (.int x1), some (.int x2), some (.int x3), none, none]) (st' := [.ref x0]) (sg := [(.aload_n 0, 0)]) (lSa_ok dd2) rfl ?_
      refine Y.getA fl_I_32 (lIa_ok dd3) h (fun v1 h => ?_)
      refine Y.blk (pc' := 12) (L' := [some (.ref x0), some (.int x1), some (.int x2), some (.int x3), none, none]) (st' := [.int x3, .ref v1]) (sg := [(.iload_n 3, 0)]) (lSa_ok dd4) rfl ?_
      obtain ⟨_, o3, e2, m4, h⟩ := gOb_inv h
      refine Y.callI (yC.Vi (b := v1) (As := [.int x3]) (st := []) (r := ("Partlister$Numbers", T_N, 1)) hV.1 cb_N_read lk_I_39 in_N_read rfl se_N_read (lIa_ok dd5) rfl rfl (Nat.le_of_ble_eq_true rfl) (by decide) e2 m4) (k_N_read hV G v1 x3) h (fun v6 G5 _ h => ?_)
      refine Y.blk (pc' := 20) (L' := [some (.ref x0), some (.int x1), some (.int x2), some (.int x3), some (.int v6), some (.int x3)]) (st' := []) (sg := [(.istore 4, 0), (.iload_n 3, 0), (.istore 5, 0)]) (lSa_ok dd6) rfl ?_
      refine k_I_arrangeSpare_L20 hV _ ?_  zFu G5 x0 x1 x2 x3 v6 x3 h
      · intro G34 x28 x29 x30 x31 x32 x33 h
        refine Y.blk (pc' := 71) (L' := [some (.ref x28), some (.int x29), some (.int x30), some (.int x31), some (.int x32), some (.int x33)]) (st' := [.ref x28]) (sg := [(.aload_n 0, 0)]) (lSa_ok dd7) rfl ?_
        refine Y.getA fl_I_32 (lIa_ok dd8) h (fun v35 h => ?_)
        refine Y.blk (pc' := 78) (L' := [some (.ref x28), some (.int x29), some (.int x30), some (.int x31), some (.int x32), some (.int x33)]) (st' := [.int x32, .int x33, .ref v35]) (sg := [(.iload 5, 0), (.iload 4, 0)]) (lSa_ok dd9) rfl ?_
        obtain ⟨_, o37, e36, m38, h⟩ := gOb_inv h
        refine Y.callN (yC.Vi (b := v35) (As := [.int x33, .int x32]) (st := []) (r := ("Partlister$Numbers", T_N, 1)) hV.1 cb_N_write lk_I_35 in_N_write rfl se_N_write (lIa_ok dd10) rfl rfl (Nat.le_of_ble_eq_true rfl) (by decide) e36 m38) (k_N_write hV G34 v35 x33 x32) h (fun G39 _ h => ?_)
        refine Y.blk (pc' := 84) (L' := [some (.ref x28), some (.int x29), some (.int x30), some (.int (x31 + (nI 1))), some (.int x32), some (.int x33)]) (st' := []) (sg := [(.iinc 3 1, nI 1)]) (lSa_ok dd11) rfl ?_
        refine Y.goto (off := -82) (tgt := 2) (lIa_ok dd12) (by decide) ?_
        refine Y.less (L' := [some (.ref x28), some (.int x29), some (.int x30), some (.int (x31 + (nI 1))), none, none]) (zLe_some (zLe_some (zLe_some (zLe_some (zLe_none (zLe_none (zLe_nil))))))) ?_
        exact ih G39 x28 x29 x30 (x31 + (nI 1)) h
theorem k_I_arrangeSpare {l : Launch} {D : va_G} {B : Nat} {O : State → Heap → Prop} (hV : zG l D B O) (G : gH) (a0 : Nat) (a1 : Int32) (a2 : Int32) : gMet (zVm l D B O) m_I_arrangeSpare 3 [.ref a0, .int a1, .int a2] G (f_I_arrangeSpare G a0 a1 a2) := by
  have hdd : lSa m_I_arrangeSpare 0 [(.iconst 1, nI 1), (.istore_n 3, 0)] = true ∧ lIa m_I_arrangeSpare 87 (.return_) 1 = true := by decide +kernel
  obtain ⟨dd0, dd1⟩ := hdd
  refine gMet.of (by decide +kernel) (Nat.le_of_ble_eq_true rfl) [some (.ref a0), some (.int a1), some (.int a2), none, none, none] (fun ls h => zEn_ok (n := 6) h) ?_
  intro o Gf h
  unfold f_I_arrangeSpare at h
  refine Y.blk (pc' := 2) (L' := [some (.ref a0), some (.int a1), some (.int a2), some (.int (nI 1)), none, none]) (st' := []) (sg := [(.iconst 1, nI 1), (.istore_n 3, 0)]) (lSa_ok dd0) rfl ?_
  refine k_I_arrangeSpare_L2 hV _ ?_  zFu G a0 a1 a2 (nI 1) h
  · intro G41 h
    exact Y.vret rfl (lIa_ok dd1) h

def f_I_copyToSpare_L8 (K37 : gH → gR) : Nat → gH → Nat → Int32 → Int32 → Int32 → gR
  | 0, _, _, _, _, _ => none
  | n + 1, G, x0, x1, x2, x3 =>
    if x2 ≤ x3 then K37 G
    else gFA G x0 1 5 fun v6 => gOb G x0 1 fun o8 => bI (f_I_thingAt G x0 x1 x3) fun v11 G10 => gOb G10 v6 2 fun o13 => bV (f_N_write G10 v6 x3 ((v11 <<< ((nI 5) &&& 31)) ||| x3)) fun G15 => f_I_copyToSpare_L8 K37 n G15 x0 x1 x2 (x3 + (nI 1))
def f_I_copyToSpare (G : gH) (a0 : Nat) (a1 : Int32) : gR :=
  gOb G a0 1 fun o2 => bI (f_I_lengthOf G a0 a1) fun v5 G4 => f_I_copyToSpare_L8 (fun G17 => rV G17) zFu G4 a0 a1 v5 (nI 0)
theorem k_I_copyToSpare_L8 {l : Launch} {D : va_G} {B : Nat} {O : State → Heap → Prop} (hV : zG l D B O) {o : gO} {Gf : gH} (K37 : gH → gR) (hK37 : ∀ (G : gH), K37 G  = some (o, Gf) → Y (zVm l D B O) m_I_copyToSpare 4 o Gf 37 [none, none, none, none] [] G) : ∀ (n : Nat) (G : gH) (x0 : Nat) (x1 : Int32) (x2 : Int32) (x3 : Int32), f_I_copyToSpare_L8 K37 n G x0 x1 x2 x3 = some (o, Gf) → Y (zVm l D B O) m_I_copyToSpare 4 o Gf 8 [some (.ref x0), some (.int x1), some (.int x2), some (.int x3)] [] G := by
  have hdd : lSa m_I_copyToSpare 8 [(.iload_n 3, 0), (.iload_n 2, 0)] = true ∧ lIa m_I_copyToSpare 10 (.if_icmp .ge 27) 3 = true ∧ lSa m_I_copyToSpare 13 [(.aload_n 0, 0)] = true ∧ lIa m_I_copyToSpare 14 (.getfield 32) 3 = true ∧ lSa m_I_copyToSpare 17 [(.iload_n 3, 0), (.aload_n 0, 0), (.iload_n 1, 0), (.iload_n 3, 0)] = true ∧ lIa m_I_copyToSpare 21 (.invokevirtual 50) 3 = true ∧ lSa m_I_copyToSpare 24 [(.iconst 5, nI 5), (.ishl, 0), (.iload_n 3, 0), (.ior, 0)] = true ∧ lIa m_I_copyToSpare 28 (.invokevirtual 35) 3 = true ∧ lSa m_I_copyToSpare 31 [(.iinc 3 1, nI 1)] = true ∧ lIa m_I_copyToSpare 34 (.goto (-26)) 3 = true := by decide +kernel
  refine lA8 hdd (fun dd0 dd1 dd2 dd3 dd4 dd5 dd6 dd7 hdd => ?_)
  obtain ⟨dd8, dd9⟩ := hdd
  intro n
  induction n with
  | zero => intro G x0 x1 x2 x3 h; cases h
  | succ n ih =>
    intro G x0 x1 x2 x3 h
    unfold f_I_copyToSpare_L8 at h
    refine Y.blk (pc' := 10) (L' := [some (.ref x0), some (.int x1), some (.int x2), some (.int x3)]) (st' := [.int x2, .int x3]) (sg := [(.iload_n 3, 0), (.iload_n 2, 0)]) (lSa_ok dd0) rfl ?_
    refine Y.ic_ge (off := 27) (tgt := 37) (lIa_ok dd1) (by decide) h (fun c16 h => ?_) (fun c16 h => ?_)
    · refine Y.less (L' := [none, none, none, none]) (zLe_none (zLe_none (zLe_none (zLe_none (zLe_nil))))) ?_
      exact hK37 G  h
    · refine Y.blk (pc' := 14) (L' := [some (.ref x0), some (.int x1), some (.int x2), some (.int x3)]) (st' := [.ref x0]) (sg := [(.aload_n 0, 0)]) (lSa_ok dd2) rfl ?_
      refine Y.getA fl_I_32 (lIa_ok dd3) h (fun v6 h => ?_)
      refine Y.blk (pc' := 21) (L' := [some (.ref x0), some (.int x1), some (.int x2), some (.int x3)]) (st' := [.int x3, .int x1, .ref x0, .int x3, .ref v6]) (sg := [(.iload_n 3, 0), (.aload_n 0, 0), (.iload_n 1, 0), (.iload_n 3, 0)]) (lSa_ok dd4) rfl ?_
      obtain ⟨_, o8, e7, m9, h⟩ := gOb_inv h
      refine Y.callI (yC.Vi (b := x0) (As := [.int x1, .int x3]) (st := [.int x3, .ref v6]) (r := ("Partlister$Lists", T_I, 7)) hV.1 cb_I_thingAt lk_I_50 in_I_thingAt rfl se_I_thingAt (lIa_ok dd5) rfl rfl (Nat.le_of_ble_eq_true rfl) (by decide) e7 m9) (k_I_thingAt hV G x0 x1 x3) h (fun v11 G10 _ h => ?_)
      refine Y.blk (pc' := 28) (L' := [some (.ref x0), some (.int x1), some (.int x2), some (.int x3)]) (st' := [.int ((v11 <<< ((nI 5) &&& 31)) ||| x3), .int x3, .ref v6]) (sg := [(.iconst 5, nI 5), (.ishl, 0), (.iload_n 3, 0), (.ior, 0)]) (lSa_ok dd6) rfl ?_
      obtain ⟨_, o13, e12, m14, h⟩ := gOb_inv h
      refine Y.callN (yC.Vi (b := v6) (As := [.int x3, .int ((v11 <<< ((nI 5) &&& 31)) ||| x3)]) (st := []) (r := ("Partlister$Numbers", T_N, 1)) hV.1 cb_N_write lk_I_35 in_N_write rfl se_N_write (lIa_ok dd7) rfl rfl (Nat.le_of_ble_eq_true rfl) (by decide) e12 m14) (k_N_write hV G10 v6 x3 ((v11 <<< ((nI 5) &&& 31)) ||| x3)) h (fun G15 _ h => ?_)
      refine Y.blk (pc' := 34) (L' := [some (.ref x0), some (.int x1), some (.int x2), some (.int (x3 + (nI 1)))]) (st' := []) (sg := [(.iinc 3 1, nI 1)]) (lSa_ok dd8) rfl ?_
      refine Y.goto (off := -26) (tgt := 8) (lIa_ok dd9) (by decide) ?_
      exact ih G15 x0 x1 x2 (x3 + (nI 1)) h
theorem k_I_copyToSpare {l : Launch} {D : va_G} {B : Nat} {O : State → Heap → Prop} (hV : zG l D B O) (G : gH) (a0 : Nat) (a1 : Int32) : gMet (zVm l D B O) m_I_copyToSpare 4 [.ref a0, .int a1] G (f_I_copyToSpare G a0 a1) := by
  have hdd : lSa m_I_copyToSpare 0 [(.aload_n 0, 0), (.iload_n 1, 0)] = true ∧ lIa m_I_copyToSpare 2 (.invokevirtual 59) 3 = true ∧ lSa m_I_copyToSpare 5 [(.istore_n 2, 0), (.iconst 0, nI 0), (.istore_n 3, 0)] = true ∧ lIa m_I_copyToSpare 37 (.return_) 1 = true := by decide +kernel
  obtain ⟨dd0, dd1, dd2, dd3⟩ := hdd
  refine gMet.of (by decide +kernel) (Nat.le_of_ble_eq_true rfl) [some (.ref a0), some (.int a1), none, none] (fun ls h => zEn_ok (n := 4) h) ?_
  intro o Gf h
  unfold f_I_copyToSpare at h
  refine Y.blk (pc' := 2) (L' := [some (.ref a0), some (.int a1), none, none]) (st' := [.int a1, .ref a0]) (sg := [(.aload_n 0, 0), (.iload_n 1, 0)]) (lSa_ok dd0) rfl ?_
  obtain ⟨_, o2, e1, m3, h⟩ := gOb_inv h
  refine Y.callI (yC.Vi (b := a0) (As := [.int a1]) (st := []) (r := ("Partlister$Lists", T_I, 7)) hV.1 cb_I_lengthOf lk_I_59 in_I_lengthOf rfl se_I_lengthOf (lIa_ok dd1) rfl rfl (Nat.le_of_ble_eq_true rfl) (by decide) e1 m3) (k_I_lengthOf hV G a0 a1) h (fun v5 G4 _ h => ?_)
  refine Y.blk (pc' := 8) (L' := [some (.ref a0), some (.int a1), some (.int v5), some (.int (nI 0))]) (st' := []) (sg := [(.istore_n 2, 0), (.iconst 0, nI 0), (.istore_n 3, 0)]) (lSa_ok dd2) rfl ?_
  refine k_I_copyToSpare_L8 hV _ ?_  zFu G4 a0 a1 v5 (nI 0) h
  · intro G17 h
    exact Y.vret rfl (lIa_ok dd3) h

def f_I_placeInSpare (G : gH) (a0 : Nat) (a1 : Int32) : gR :=
  gFA G a0 1 5 fun v1 => gOb G v1 2 fun o3 => bI (f_N_read G v1 a1) fun v6 G5 => rI (v6 &&& (nI 31)) G5
theorem k_I_placeInSpare {l : Launch} {D : va_G} {B : Nat} {O : State → Heap → Prop} (hV : zG l D B O) (G : gH) (a0 : Nat) (a1 : Int32) : gMet (zVm l D B O) m_I_placeInSpare 2 [.ref a0, .int a1] G (f_I_placeInSpare G a0 a1) := by
  have hdd : lSa m_I_placeInSpare 0 [(.aload_n 0, 0)] = true ∧ lIa m_I_placeInSpare 1 (.getfield 32) 3 = true ∧ lSa m_I_placeInSpare 4 [(.iload_n 1, 0)] = true ∧ lIa m_I_placeInSpare 5 (.invokevirtual 39) 3 = true ∧ lSa m_I_placeInSpare 8 [(.bipush 31, nI 31), (.iand, 0)] = true ∧ lIa m_I_placeInSpare 11 (.ireturn) 1 = true := by decide +kernel
  obtain ⟨dd0, dd1, dd2, dd3, dd4, dd5⟩ := hdd
  refine gMet.of (by decide +kernel) (Nat.le_of_ble_eq_true rfl) [some (.ref a0), some (.int a1)] (fun ls h => zEn_ok (n := 2) h) ?_
  intro o Gf h
  unfold f_I_placeInSpare at h
  refine Y.blk (pc' := 1) (L' := [some (.ref a0), some (.int a1)]) (st' := [.ref a0]) (sg := [(.aload_n 0, 0)]) (lSa_ok dd0) rfl ?_
  refine Y.getA fl_I_32 (lIa_ok dd1) h (fun v1 h => ?_)
  refine Y.blk (pc' := 5) (L' := [some (.ref a0), some (.int a1)]) (st' := [.int a1, .ref v1]) (sg := [(.iload_n 1, 0)]) (lSa_ok dd2) rfl ?_
  obtain ⟨_, o3, e2, m4, h⟩ := gOb_inv h
  refine Y.callI (yC.Vi (b := v1) (As := [.int a1]) (st := []) (r := ("Partlister$Numbers", T_N, 1)) hV.1 cb_N_read lk_I_39 in_N_read rfl se_N_read (lIa_ok dd3) rfl rfl (Nat.le_of_ble_eq_true rfl) (by decide) e2 m4) (k_N_read hV G v1 a1) h (fun v6 G5 _ h => ?_)
  refine Y.blk (pc' := 11) (L' := [some (.ref a0), some (.int a1)]) (st' := [.int (v6 &&& (nI 31))]) (sg := [(.bipush 31, nI 31), (.iand, 0)]) (lSa_ok dd4) rfl ?_
  exact Y.iret rfl (lIa_ok dd5) h

def f_I_mayFollow (G : gH) (a0 : Nat) (a1 : Int32) (a2 : Int32) : gR :=
  gOb G a0 1 fun o2 => bI (f_I_thingInSpare G a0 a1) fun v5 G4 => gOb G4 a0 1 fun o7 => bI (f_I_thingInSpare G4 a0 (a1 - (nI 1))) fun v10 G9 => bI (f_X_hasToBeAhead G9 v5 v10 a2) fun v13 G12 => if v13 = 0 then (bI (f_X_hasToBeAhead G12 v10 v5 a2) fun v16 G15 => if v16 = 0 then (gOb G15 a0 1 fun o18 => bI (f_I_placeInSpare G15 a0 (a1 - (nI 1))) fun v21 G20 => gOb G20 a0 1 fun o23 => bI (f_I_placeInSpare G20 a0 a1) fun v26 G25 => if v26 ≤ v21 then rZ (nI 0) G25
      else rZ (nI 1) G25)
    else rZ (nI 1) G15)
  else rZ (nI 0) G12
theorem k_I_mayFollow {l : Launch} {D : va_G} {B : Nat} {O : State → Heap → Prop} (hV : zG l D B O) (G : gH) (a0 : Nat) (a1 : Int32) (a2 : Int32) : gMet (zVm l D B O) m_I_mayFollow 3 [.ref a0, .int a1, .int a2] G (f_I_mayFollow G a0 a1 a2) := by
  have hdd : lSa m_I_mayFollow 0 [(.aload_n 0, 0), (.iload_n 1, 0)] = true ∧ lIa m_I_mayFollow 2 (.invokevirtual 73) 3 = true ∧ lSa m_I_mayFollow 5 [(.istore_n 3, 0), (.aload_n 0, 0), (.iload_n 1, 0), (.iconst 1, nI 1), (.isub, 0)] = true ∧ lIa m_I_mayFollow 10 (.invokevirtual 73) 3 = true ∧ lSa m_I_mayFollow 13 [(.istore 4, 0), (.iload_n 3, 0), (.iload 4, 0), (.iload_n 2, 0)] = true ∧ lIa m_I_mayFollow 19 (.invokestatic 82) 3 = true ∧ lIa m_I_mayFollow 22 (.ifCond .eq 5) 3 = true ∧ lSa m_I_mayFollow 27 [(.iload 4, 0), (.iload_n 3, 0), (.iload_n 2, 0)] = true ∧ lIa m_I_mayFollow 31 (.invokestatic 82) 3 = true ∧ lIa m_I_mayFollow 34 (.ifCond .ne 18) 3 = true ∧ lSa m_I_mayFollow 37 [(.aload_n 0, 0), (.iload_n 1, 0), (.iconst 1, nI 1), (.isub, 0)] = true ∧ lIa m_I_mayFollow 41 (.invokevirtual 122) 3 = true ∧ lSa m_I_mayFollow 44 [(.aload_n 0, 0), (.iload_n 1, 0)] = true ∧ lIa m_I_mayFollow 46 (.invokevirtual 122) 3 = true ∧ lIa m_I_mayFollow 49 (.if_icmp .ge 7) 3 = true ∧ lSa m_I_mayFollow 56 [(.iconst 0, nI 0)] = true ∧ lIa m_I_mayFollow 57 (.ireturn) 1 = true ∧ lSa m_I_mayFollow 52 [(.iconst 1, nI 1)] = true ∧ lIa m_I_mayFollow 53 (.goto 4) 3 = true ∧ lSa m_I_mayFollow 25 [(.iconst 0, nI 0)] = true ∧ lIa m_I_mayFollow 26 (.ireturn) 1 = true := by decide +kernel
  refine lA8 hdd (fun dd0 dd1 dd2 dd3 dd4 dd5 dd6 dd7 hdd => ?_)
  refine lA8 hdd (fun dd8 dd9 dd10 dd11 dd12 dd13 dd14 dd15 hdd => ?_)
  obtain ⟨dd16, dd17, dd18, dd19, dd20⟩ := hdd
  refine gMet.of (by decide +kernel) (Nat.le_of_ble_eq_true rfl) [some (.ref a0), some (.int a1), some (.int a2), none, none] (fun ls h => zEn_ok (n := 5) h) ?_
  intro o Gf h
  unfold f_I_mayFollow at h
  refine Y.blk (pc' := 2) (L' := [some (.ref a0), some (.int a1), some (.int a2), none, none]) (st' := [.int a1, .ref a0]) (sg := [(.aload_n 0, 0), (.iload_n 1, 0)]) (lSa_ok dd0) rfl ?_
  obtain ⟨_, o2, e1, m3, h⟩ := gOb_inv h
  refine Y.callI (yC.Vi (b := a0) (As := [.int a1]) (st := []) (r := ("Partlister$Lists", T_I, 7)) hV.1 cb_I_thingInSpare lk_I_73 in_I_thingInSpare rfl se_I_thingInSpare (lIa_ok dd1) rfl rfl (Nat.le_of_ble_eq_true rfl) (by decide) e1 m3) (k_I_thingInSpare hV G a0 a1) h (fun v5 G4 _ h => ?_)
  refine Y.blk (pc' := 10) (L' := [some (.ref a0), some (.int a1), some (.int a2), some (.int v5), none]) (st' := [.int (a1 - (nI 1)), .ref a0]) (sg := [(.istore_n 3, 0), (.aload_n 0, 0), (.iload_n 1, 0), (.iconst 1, nI 1), (.isub, 0)]) (lSa_ok dd2) rfl ?_
  obtain ⟨_, o7, e6, m8, h⟩ := gOb_inv h
  refine Y.callI (yC.Vi (b := a0) (As := [.int (a1 - (nI 1))]) (st := []) (r := ("Partlister$Lists", T_I, 7)) hV.1 cb_I_thingInSpare lk_I_73 in_I_thingInSpare rfl se_I_thingInSpare (lIa_ok dd3) rfl rfl (Nat.le_of_ble_eq_true rfl) (by decide) e6 m8) (k_I_thingInSpare hV G4 a0 (a1 - (nI 1))) h (fun v10 G9 _ h => ?_)
  refine Y.blk (pc' := 19) (L' := [some (.ref a0), some (.int a1), some (.int a2), some (.int v5), some (.int v10)]) (st' := [.int a2, .int v10, .int v5]) (sg := [(.istore 4, 0), (.iload_n 3, 0), (.iload 4, 0), (.iload_n 2, 0)]) (lSa_ok dd4) rfl ?_
  refine Y.callI (yC.SN (As := [.int v5, .int v10, .int a2]) (st := []) hV.1 cb_X_hasToBeAhead lk_I_82 st_X_hasToBeAhead (lIa_ok dd5) rfl rfl (Nat.le_of_ble_eq_true rfl) (by decide)) (k_X_hasToBeAhead hV G9 v5 v10 a2) h (fun v13 G12 _ h => ?_)
  refine Y.if_eq (off := 5) (tgt := 27) (lIa_ok dd6) (by decide) h (fun c29 h => ?_) (fun c29 h => ?_)
  · refine Y.blk (pc' := 31) (L' := [some (.ref a0), some (.int a1), some (.int a2), some (.int v5), some (.int v10)]) (st' := [.int a2, .int v5, .int v10]) (sg := [(.iload 4, 0), (.iload_n 3, 0), (.iload_n 2, 0)]) (lSa_ok dd7) rfl ?_
    refine Y.callI (yC.SN (As := [.int v10, .int v5, .int a2]) (st := []) hV.1 cb_X_hasToBeAhead lk_I_82 st_X_hasToBeAhead (lIa_ok dd8) rfl rfl (Nat.le_of_ble_eq_true rfl) (by decide)) (k_X_hasToBeAhead hV G12 v10 v5 a2) h (fun v16 G15 _ h => ?_)
    refine Y.if_ne (off := 18) (tgt := 52) (lIa_ok dd9) (by decide) h (fun c28 h => ?_) (fun c28 h => ?_)
    · refine Y.blk (pc' := 41) (L' := [some (.ref a0), some (.int a1), some (.int a2), some (.int v5), some (.int v10)]) (st' := [.int (a1 - (nI 1)), .ref a0]) (sg := [(.aload_n 0, 0), (.iload_n 1, 0), (.iconst 1, nI 1), (.isub, 0)]) (lSa_ok dd10) rfl ?_
      obtain ⟨_, o18, e17, m19, h⟩ := gOb_inv h
      refine Y.callI (yC.Vi (b := a0) (As := [.int (a1 - (nI 1))]) (st := []) (r := ("Partlister$Lists", T_I, 7)) hV.1 cb_I_placeInSpare lk_I_122 in_I_placeInSpare rfl se_I_placeInSpare (lIa_ok dd11) rfl rfl (Nat.le_of_ble_eq_true rfl) (by decide) e17 m19) (k_I_placeInSpare hV G15 a0 (a1 - (nI 1))) h (fun v21 G20 _ h => ?_)
      refine Y.blk (pc' := 46) (L' := [some (.ref a0), some (.int a1), some (.int a2), some (.int v5), some (.int v10)]) (st' := [.int a1, .ref a0, .int v21]) (sg := [(.aload_n 0, 0), (.iload_n 1, 0)]) (lSa_ok dd12) rfl ?_
      obtain ⟨_, o23, e22, m24, h⟩ := gOb_inv h
      refine Y.callI (yC.Vi (b := a0) (As := [.int a1]) (st := [.int v21]) (r := ("Partlister$Lists", T_I, 7)) hV.1 cb_I_placeInSpare lk_I_122 in_I_placeInSpare rfl se_I_placeInSpare (lIa_ok dd13) rfl rfl (Nat.le_of_ble_eq_true rfl) (by decide) e22 m24) (k_I_placeInSpare hV G20 a0 a1) h (fun v26 G25 _ h => ?_)
      refine Y.ic_ge (off := 7) (tgt := 56) (lIa_ok dd14) (by decide) h (fun c27 h => ?_) (fun c27 h => ?_)
      · refine Y.blk (pc' := 57) (L' := [some (.ref a0), some (.int a1), some (.int a2), some (.int v5), some (.int v10)]) (st' := [.int (nI 0)]) (sg := [(.iconst 0, nI 0)]) (lSa_ok dd15) rfl ?_
        exact Y.zret rfl (lIa_ok dd16) h
      · refine Y.blk (pc' := 53) (L' := [some (.ref a0), some (.int a1), some (.int a2), some (.int v5), some (.int v10)]) (st' := [.int (nI 1)]) (sg := [(.iconst 1, nI 1)]) (lSa_ok dd17) rfl ?_
        refine Y.goto (off := 4) (tgt := 57) (lIa_ok dd18) (by decide) ?_
        exact Y.zret rfl (lIa_ok dd16) h
    · refine Y.blk (pc' := 53) (L' := [some (.ref a0), some (.int a1), some (.int a2), some (.int v5), some (.int v10)]) (st' := [.int (nI 1)]) (sg := [(.iconst 1, nI 1)]) (lSa_ok dd17) rfl ?_
      refine Y.goto (off := 4) (tgt := 57) (lIa_ok dd18) (by decide) ?_
      exact Y.zret rfl (lIa_ok dd16) h
  · refine Y.blk (pc' := 26) (L' := [some (.ref a0), some (.int a1), some (.int a2), some (.int v5), some (.int v10)]) (st' := [.int (nI 0)]) (sg := [(.iconst 0, nI 0)]) (lSa_ok dd19) rfl ?_
    exact Y.zret rfl (lIa_ok dd20) h

def f_IN_bitCount (G : gH) (a0 : Int32) : gR :=
  rI ((((((((a0 - (((a0.toUInt32 >>> ((nI 1).toUInt32 &&& Int32.toUInt32 31)).toInt32) &&& (nI 1431655765))) &&& (nI 858993459)) + ((((a0 - (((a0.toUInt32 >>> ((nI 1).toUInt32 &&& Int32.toUInt32 31)).toInt32) &&& (nI 1431655765))).toUInt32 >>> ((nI 2).toUInt32 &&& Int32.toUInt32 31)).toInt32) &&& (nI 858993459))) + (((((a0 - (((a0.toUInt32 >>> ((nI 1).toUInt32 &&& Int32.toUInt32 31)).toInt32) &&& (nI 1431655765))) &&& (nI 858993459)) + ((((a0 - (((a0.toUInt32 >>> ((nI 1).toUInt32 &&& Int32.toUInt32 31)).toInt32) &&& (nI 1431655765))).toUInt32 >>> ((nI 2).toUInt32 &&& Int32.toUInt32 31)).toInt32) &&& (nI 858993459))).toUInt32 >>> ((nI 4).toUInt32 &&& Int32.toUInt32 31)).toInt32)) &&& (nI 252645135)) + (((((((a0 - (((a0.toUInt32 >>> ((nI 1).toUInt32 &&& Int32.toUInt32 31)).toInt32) &&& (nI 1431655765))) &&& (nI 858993459)) + ((((a0 - (((a0.toUInt32 >>> ((nI 1).toUInt32 &&& Int32.toUInt32 31)).toInt32) &&& (nI 1431655765))).toUInt32 >>> ((nI 2).toUInt32 &&& Int32.toUInt32 31)).toInt32) &&& (nI 858993459))) + (((((a0 - (((a0.toUInt32 >>> ((nI 1).toUInt32 &&& Int32.toUInt32 31)).toInt32) &&& (nI 1431655765))) &&& (nI 858993459)) + ((((a0 - (((a0.toUInt32 >>> ((nI 1).toUInt32 &&& Int32.toUInt32 31)).toInt32) &&& (nI 1431655765))).toUInt32 >>> ((nI 2).toUInt32 &&& Int32.toUInt32 31)).toInt32) &&& (nI 858993459))).toUInt32 >>> ((nI 4).toUInt32 &&& Int32.toUInt32 31)).toInt32)) &&& (nI 252645135)).toUInt32 >>> ((nI 8).toUInt32 &&& Int32.toUInt32 31)).toInt32)) + ((((((((a0 - (((a0.toUInt32 >>> ((nI 1).toUInt32 &&& Int32.toUInt32 31)).toInt32) &&& (nI 1431655765))) &&& (nI 858993459)) + ((((a0 - (((a0.toUInt32 >>> ((nI 1).toUInt32 &&& Int32.toUInt32 31)).toInt32) &&& (nI 1431655765))).toUInt32 >>> ((nI 2).toUInt32 &&& Int32.toUInt32 31)).toInt32) &&& (nI 858993459))) + (((((a0 - (((a0.toUInt32 >>> ((nI 1).toUInt32 &&& Int32.toUInt32 31)).toInt32) &&& (nI 1431655765))) &&& (nI 858993459)) + ((((a0 - (((a0.toUInt32 >>> ((nI 1).toUInt32 &&& Int32.toUInt32 31)).toInt32) &&& (nI 1431655765))).toUInt32 >>> ((nI 2).toUInt32 &&& Int32.toUInt32 31)).toInt32) &&& (nI 858993459))).toUInt32 >>> ((nI 4).toUInt32 &&& Int32.toUInt32 31)).toInt32)) &&& (nI 252645135)) + (((((((a0 - (((a0.toUInt32 >>> ((nI 1).toUInt32 &&& Int32.toUInt32 31)).toInt32) &&& (nI 1431655765))) &&& (nI 858993459)) + ((((a0 - (((a0.toUInt32 >>> ((nI 1).toUInt32 &&& Int32.toUInt32 31)).toInt32) &&& (nI 1431655765))).toUInt32 >>> ((nI 2).toUInt32 &&& Int32.toUInt32 31)).toInt32) &&& (nI 858993459))) + (((((a0 - (((a0.toUInt32 >>> ((nI 1).toUInt32 &&& Int32.toUInt32 31)).toInt32) &&& (nI 1431655765))) &&& (nI 858993459)) + ((((a0 - (((a0.toUInt32 >>> ((nI 1).toUInt32 &&& Int32.toUInt32 31)).toInt32) &&& (nI 1431655765))).toUInt32 >>> ((nI 2).toUInt32 &&& Int32.toUInt32 31)).toInt32) &&& (nI 858993459))).toUInt32 >>> ((nI 4).toUInt32 &&& Int32.toUInt32 31)).toInt32)) &&& (nI 252645135)).toUInt32 >>> ((nI 8).toUInt32 &&& Int32.toUInt32 31)).toInt32)).toUInt32 >>> ((nI 16).toUInt32 &&& Int32.toUInt32 31)).toInt32)) &&& (nI 63)) G
theorem k_IN_bitCount {l : Launch} {D : va_G} {B : Nat} {O : State → Heap → Prop} (hV : zG l D B O) (G : gH) (a0 : Int32) : gMet (zVm l D B O) m_IN_bitCount 1 [.int a0] G (f_IN_bitCount G a0) := by
  have hdd : lSa m_IN_bitCount 0 [(.iload_n 0, 0), (.iload_n 0, 0), (.iconst 1, nI 1), (.iushr, 0)] = true ∧ lIa m_IN_bitCount 4 (.ldc_w 265) 3 = true ∧ lSa m_IN_bitCount 7 [(.iand, 0), (.isub, 0), (.istore_n 0, 0), (.iload_n 0, 0)] = true ∧ lIa m_IN_bitCount 11 (.ldc_w 266) 3 = true ∧ lSa m_IN_bitCount 14 [(.iand, 0), (.iload_n 0, 0), (.iconst 2, nI 2), (.iushr, 0)] = true ∧ lIa m_IN_bitCount 18 (.ldc_w 266) 3 = true ∧ lSa m_IN_bitCount 21 [(.iand, 0), (.iadd, 0), (.istore_n 0, 0), (.iload_n 0, 0), (.iload_n 0, 0), (.iconst 4, nI 4), (.iushr, 0), (.iadd, 0)] = true ∧ lIa m_IN_bitCount 29 (.ldc_w 267) 3 = true ∧ lSa m_IN_bitCount 32 [(.iand, 0), (.istore_n 0, 0), (.iload_n 0, 0), (.iload_n 0, 0), (.bipush 8, nI 8), (.iushr, 0), (.iadd, 0), (.istore_n 0, 0), (.iload_n 0, 0), (.iload_n 0, 0), (.bipush 16, nI 16), (.iushr, 0), (.iadd, 0), (.istore_n 0, 0), (.iload_n 0, 0), (.bipush 63, nI 63), (.iand, 0)] = true ∧ lIa m_IN_bitCount 52 (.ireturn) 1 = true := by decide +kernel
  refine lA8 hdd (fun dd0 dd1 dd2 dd3 dd4 dd5 dd6 dd7 hdd => ?_)
  obtain ⟨dd8, dd9⟩ := hdd
  refine gMet.of (by decide +kernel) (Nat.le_of_ble_eq_true rfl) [some (.int a0)] (fun ls h => zEn_ok (n := 1) h) ?_
  intro o Gf h
  unfold f_IN_bitCount at h
  refine Y.blk (pc' := 4) (L' := [some (.int a0)]) (st' := [.int ((a0.toUInt32 >>> ((nI 1).toUInt32 &&& Int32.toUInt32 31)).toInt32), .int a0]) (sg := [(.iload_n 0, 0), (.iload_n 0, 0), (.iconst 1, nI 1), (.iushr, 0)]) (lSa_ok dd0) rfl ?_
  refine Y.ldcw (v := nI 1431655765) co_IN_265 (lIa_ok dd1) ?_
  refine Y.blk (pc' := 11) (L' := [some (.int (a0 - (((a0.toUInt32 >>> ((nI 1).toUInt32 &&& Int32.toUInt32 31)).toInt32) &&& (nI 1431655765))))]) (st' := [.int (a0 - (((a0.toUInt32 >>> ((nI 1).toUInt32 &&& Int32.toUInt32 31)).toInt32) &&& (nI 1431655765)))]) (sg := [(.iand, 0), (.isub, 0), (.istore_n 0, 0), (.iload_n 0, 0)]) (lSa_ok dd2) rfl ?_
  refine Y.ldcw (v := nI 858993459) co_IN_266 (lIa_ok dd3) ?_
  refine Y.blk (pc' := 18) (L' := [some (.int (a0 - (((a0.toUInt32 >>> ((nI 1).toUInt32 &&& Int32.toUInt32 31)).toInt32) &&& (nI 1431655765))))]) (st' := [.int (((a0 - (((a0.toUInt32 >>> ((nI 1).toUInt32 &&& Int32.toUInt32 31)).toInt32) &&& (nI 1431655765))).toUInt32 >>> ((nI 2).toUInt32 &&& Int32.toUInt32 31)).toInt32), .int ((a0 - (((a0.toUInt32 >>> ((nI 1).toUInt32 &&& Int32.toUInt32 31)).toInt32) &&& (nI 1431655765))) &&& (nI 858993459))]) (sg := [(.iand, 0), (.iload_n 0, 0), (.iconst 2, nI 2), (.iushr, 0)]) (lSa_ok dd4) rfl ?_
  refine Y.ldcw (v := nI 858993459) co_IN_266 (lIa_ok dd5) ?_
  refine Y.blk (pc' := 29) (L' := [some (.int (((a0 - (((a0.toUInt32 >>> ((nI 1).toUInt32 &&& Int32.toUInt32 31)).toInt32) &&& (nI 1431655765))) &&& (nI 858993459)) + ((((a0 - (((a0.toUInt32 >>> ((nI 1).toUInt32 &&& Int32.toUInt32 31)).toInt32) &&& (nI 1431655765))).toUInt32 >>> ((nI 2).toUInt32 &&& Int32.toUInt32 31)).toInt32) &&& (nI 858993459))))]) (st' := [.int ((((a0 - (((a0.toUInt32 >>> ((nI 1).toUInt32 &&& Int32.toUInt32 31)).toInt32) &&& (nI 1431655765))) &&& (nI 858993459)) + ((((a0 - (((a0.toUInt32 >>> ((nI 1).toUInt32 &&& Int32.toUInt32 31)).toInt32) &&& (nI 1431655765))).toUInt32 >>> ((nI 2).toUInt32 &&& Int32.toUInt32 31)).toInt32) &&& (nI 858993459))) + (((((a0 - (((a0.toUInt32 >>> ((nI 1).toUInt32 &&& Int32.toUInt32 31)).toInt32) &&& (nI 1431655765))) &&& (nI 858993459)) + ((((a0 - (((a0.toUInt32 >>> ((nI 1).toUInt32 &&& Int32.toUInt32 31)).toInt32) &&& (nI 1431655765))).toUInt32 >>> ((nI 2).toUInt32 &&& Int32.toUInt32 31)).toInt32) &&& (nI 858993459))).toUInt32 >>> ((nI 4).toUInt32 &&& Int32.toUInt32 31)).toInt32))]) (sg := [(.iand, 0), (.iadd, 0), (.istore_n 0, 0), (.iload_n 0, 0), (.iload_n 0, 0), (.iconst 4, nI 4), (.iushr, 0), (.iadd, 0)]) (lSa_ok dd6) rfl ?_
  refine Y.ldcw (v := nI 252645135) co_IN_267 (lIa_ok dd7) ?_
  refine Y.blk (pc' := 52) (L' := [some (.int (((((((a0 - (((a0.toUInt32 >>> ((nI 1).toUInt32 &&& Int32.toUInt32 31)).toInt32) &&& (nI 1431655765))) &&& (nI 858993459)) + ((((a0 - (((a0.toUInt32 >>> ((nI 1).toUInt32 &&& Int32.toUInt32 31)).toInt32) &&& (nI 1431655765))).toUInt32 >>> ((nI 2).toUInt32 &&& Int32.toUInt32 31)).toInt32) &&& (nI 858993459))) + (((((a0 - (((a0.toUInt32 >>> ((nI 1).toUInt32 &&& Int32.toUInt32 31)).toInt32) &&& (nI 1431655765))) &&& (nI 858993459)) + ((((a0 - (((a0.toUInt32 >>> ((nI 1).toUInt32 &&& Int32.toUInt32 31)).toInt32) &&& (nI 1431655765))).toUInt32 >>> ((nI 2).toUInt32 &&& Int32.toUInt32 31)).toInt32) &&& (nI 858993459))).toUInt32 >>> ((nI 4).toUInt32 &&& Int32.toUInt32 31)).toInt32)) &&& (nI 252645135)) + (((((((a0 - (((a0.toUInt32 >>> ((nI 1).toUInt32 &&& Int32.toUInt32 31)).toInt32) &&& (nI 1431655765))) &&& (nI 858993459)) + ((((a0 - (((a0.toUInt32 >>> ((nI 1).toUInt32 &&& Int32.toUInt32 31)).toInt32) &&& (nI 1431655765))).toUInt32 >>> ((nI 2).toUInt32 &&& Int32.toUInt32 31)).toInt32) &&& (nI 858993459))) + (((((a0 - (((a0.toUInt32 >>> ((nI 1).toUInt32 &&& Int32.toUInt32 31)).toInt32) &&& (nI 1431655765))) &&& (nI 858993459)) + ((((a0 - (((a0.toUInt32 >>> ((nI 1).toUInt32 &&& Int32.toUInt32 31)).toInt32) &&& (nI 1431655765))).toUInt32 >>> ((nI 2).toUInt32 &&& Int32.toUInt32 31)).toInt32) &&& (nI 858993459))).toUInt32 >>> ((nI 4).toUInt32 &&& Int32.toUInt32 31)).toInt32)) &&& (nI 252645135)).toUInt32 >>> ((nI 8).toUInt32 &&& Int32.toUInt32 31)).toInt32)) + ((((((((a0 - (((a0.toUInt32 >>> ((nI 1).toUInt32 &&& Int32.toUInt32 31)).toInt32) &&& (nI 1431655765))) &&& (nI 858993459)) + ((((a0 - (((a0.toUInt32 >>> ((nI 1).toUInt32 &&& Int32.toUInt32 31)).toInt32) &&& (nI 1431655765))).toUInt32 >>> ((nI 2).toUInt32 &&& Int32.toUInt32 31)).toInt32) &&& (nI 858993459))) + (((((a0 - (((a0.toUInt32 >>> ((nI 1).toUInt32 &&& Int32.toUInt32 31)).toInt32) &&& (nI 1431655765))) &&& (nI 858993459)) + ((((a0 - (((a0.toUInt32 >>> ((nI 1).toUInt32 &&& Int32.toUInt32 31)).toInt32) &&& (nI 1431655765))).toUInt32 >>> ((nI 2).toUInt32 &&& Int32.toUInt32 31)).toInt32) &&& (nI 858993459))).toUInt32 >>> ((nI 4).toUInt32 &&& Int32.toUInt32 31)).toInt32)) &&& (nI 252645135)) + (((((((a0 - (((a0.toUInt32 >>> ((nI 1).toUInt32 &&& Int32.toUInt32 31)).toInt32) &&& (nI 1431655765))) &&& (nI 858993459)) + ((((a0 - (((a0.toUInt32 >>> ((nI 1).toUInt32 &&& Int32.toUInt32 31)).toInt32) &&& (nI 1431655765))).toUInt32 >>> ((nI 2).toUInt32 &&& Int32.toUInt32 31)).toInt32) &&& (nI 858993459))) + (((((a0 - (((a0.toUInt32 >>> ((nI 1).toUInt32 &&& Int32.toUInt32 31)).toInt32) &&& (nI 1431655765))) &&& (nI 858993459)) + ((((a0 - (((a0.toUInt32 >>> ((nI 1).toUInt32 &&& Int32.toUInt32 31)).toInt32) &&& (nI 1431655765))).toUInt32 >>> ((nI 2).toUInt32 &&& Int32.toUInt32 31)).toInt32) &&& (nI 858993459))).toUInt32 >>> ((nI 4).toUInt32 &&& Int32.toUInt32 31)).toInt32)) &&& (nI 252645135)).toUInt32 >>> ((nI 8).toUInt32 &&& Int32.toUInt32 31)).toInt32)).toUInt32 >>> ((nI 16).toUInt32 &&& Int32.toUInt32 31)).toInt32)))]) (st' := [.int ((((((((a0 - (((a0.toUInt32 >>> ((nI 1).toUInt32 &&& Int32.toUInt32 31)).toInt32) &&& (nI 1431655765))) &&& (nI 858993459)) + ((((a0 - (((a0.toUInt32 >>> ((nI 1).toUInt32 &&& Int32.toUInt32 31)).toInt32) &&& (nI 1431655765))).toUInt32 >>> ((nI 2).toUInt32 &&& Int32.toUInt32 31)).toInt32) &&& (nI 858993459))) + (((((a0 - (((a0.toUInt32 >>> ((nI 1).toUInt32 &&& Int32.toUInt32 31)).toInt32) &&& (nI 1431655765))) &&& (nI 858993459)) + ((((a0 - (((a0.toUInt32 >>> ((nI 1).toUInt32 &&& Int32.toUInt32 31)).toInt32) &&& (nI 1431655765))).toUInt32 >>> ((nI 2).toUInt32 &&& Int32.toUInt32 31)).toInt32) &&& (nI 858993459))).toUInt32 >>> ((nI 4).toUInt32 &&& Int32.toUInt32 31)).toInt32)) &&& (nI 252645135)) + (((((((a0 - (((a0.toUInt32 >>> ((nI 1).toUInt32 &&& Int32.toUInt32 31)).toInt32) &&& (nI 1431655765))) &&& (nI 858993459)) + ((((a0 - (((a0.toUInt32 >>> ((nI 1).toUInt32 &&& Int32.toUInt32 31)).toInt32) &&& (nI 1431655765))).toUInt32 >>> ((nI 2).toUInt32 &&& Int32.toUInt32 31)).toInt32) &&& (nI 858993459))) + (((((a0 - (((a0.toUInt32 >>> ((nI 1).toUInt32 &&& Int32.toUInt32 31)).toInt32) &&& (nI 1431655765))) &&& (nI 858993459)) + ((((a0 - (((a0.toUInt32 >>> ((nI 1).toUInt32 &&& Int32.toUInt32 31)).toInt32) &&& (nI 1431655765))).toUInt32 >>> ((nI 2).toUInt32 &&& Int32.toUInt32 31)).toInt32) &&& (nI 858993459))).toUInt32 >>> ((nI 4).toUInt32 &&& Int32.toUInt32 31)).toInt32)) &&& (nI 252645135)).toUInt32 >>> ((nI 8).toUInt32 &&& Int32.toUInt32 31)).toInt32)) + ((((((((a0 - (((a0.toUInt32 >>> ((nI 1).toUInt32 &&& Int32.toUInt32 31)).toInt32) &&& (nI 1431655765))) &&& (nI 858993459)) + ((((a0 - (((a0.toUInt32 >>> ((nI 1).toUInt32 &&& Int32.toUInt32 31)).toInt32) &&& (nI 1431655765))).toUInt32 >>> ((nI 2).toUInt32 &&& Int32.toUInt32 31)).toInt32) &&& (nI 858993459))) + (((((a0 - (((a0.toUInt32 >>> ((nI 1).toUInt32 &&& Int32.toUInt32 31)).toInt32) &&& (nI 1431655765))) &&& (nI 858993459)) + ((((a0 - (((a0.toUInt32 >>> ((nI 1).toUInt32 &&& Int32.toUInt32 31)).toInt32) &&& (nI 1431655765))).toUInt32 >>> ((nI 2).toUInt32 &&& Int32.toUInt32 31)).toInt32) &&& (nI 858993459))).toUInt32 >>> ((nI 4).toUInt32 &&& Int32.toUInt32 31)).toInt32)) &&& (nI 252645135)) + (((((((a0 - (((a0.toUInt32 >>> ((nI 1).toUInt32 &&& Int32.toUInt32 31)).toInt32) &&& (nI 1431655765))) &&& (nI 858993459)) + ((((a0 - (((a0.toUInt32 >>> ((nI 1).toUInt32 &&& Int32.toUInt32 31)).toInt32) &&& (nI 1431655765))).toUInt32 >>> ((nI 2).toUInt32 &&& Int32.toUInt32 31)).toInt32) &&& (nI 858993459))) + (((((a0 - (((a0.toUInt32 >>> ((nI 1).toUInt32 &&& Int32.toUInt32 31)).toInt32) &&& (nI 1431655765))) &&& (nI 858993459)) + ((((a0 - (((a0.toUInt32 >>> ((nI 1).toUInt32 &&& Int32.toUInt32 31)).toInt32) &&& (nI 1431655765))).toUInt32 >>> ((nI 2).toUInt32 &&& Int32.toUInt32 31)).toInt32) &&& (nI 858993459))).toUInt32 >>> ((nI 4).toUInt32 &&& Int32.toUInt32 31)).toInt32)) &&& (nI 252645135)).toUInt32 >>> ((nI 8).toUInt32 &&& Int32.toUInt32 31)).toInt32)).toUInt32 >>> ((nI 16).toUInt32 &&& Int32.toUInt32 31)).toInt32)) &&& (nI 63))]) (sg := [(.iand, 0), (.istore_n 0, 0), (.iload_n 0, 0), (.iload_n 0, 0), (.bipush 8, nI 8), (.iushr, 0), (.iadd, 0), (.istore_n 0, 0), (.iload_n 0, 0), (.iload_n 0, 0), (.bipush 16, nI 16), (.iushr, 0), (.iadd, 0), (.istore_n 0, 0), (.iload_n 0, 0), (.bipush 63, nI 63), (.iand, 0)]) (lSa_ok dd8) rfl ?_
  exact Y.iret rfl (lIa_ok dd9) h
end
section
def f_I_isOrdering_L23 (K62 : gH → gR) (K79 : gH → gR) (K87 : gH → Int32 → Int32 → gR) : Nat → gH → Nat → Int32 → Int32 → Int32 → Int32 → Int32 → gR
  | 0, _, _, _, _, _, _, _ => none
  | n + 1, G, x0, x1, x2, x3, x4, x5 =>
    if x3 ≤ x5 then K87 G x3 x4
    else gOb G x0 1 fun o15 => bI (f_I_placeInSpare G x0 x5) fun v18 G17 => gOb G17 x0 1 fun o20 => bI (f_I_thingInSpare G17 x0 x5) fun v23 G22 => gOb G22 x0 1 fun o25 => bI (f_I_thingAt G22 x0 x1 v18) fun v28 G27 => if v23 = v28 then (if x5 ≤ 0 then f_I_isOrdering_L23 K62 K79 K87 n G27 x0 x1 x2 x3 (x4 ||| ((nI 1) <<< (v18 &&& 31))) (x5 + (nI 1))
        else gOb G27 x0 1 fun o30 => bI (f_I_mayFollow G27 x0 x5 x2) fun v33 G32 => if v33 = 0 then K79 G32
          else f_I_isOrdering_L23 K62 K79 K87 n G32 x0 x1 x2 x3 (x4 ||| ((nI 1) <<< (v18 &&& 31))) (x5 + (nI 1)))
      else K62 G27
def f_I_isOrdering (G : gH) (a0 : Nat) (a1 : Int32) (a2 : Int32) : gR :=
  gOb G a0 1 fun o2 => bI (f_I_lengthOf G a0 a1) fun v5 G4 => gOb G4 a0 1 fun o7 => bV (f_I_copyToSpare G4 a0 a1) fun G9 => gOb G9 a0 1 fun o11 => bV (f_I_arrangeSpare G9 a0 v5 a2) fun G13 => f_I_isOrdering_L23 (fun G38 => rZ (nI 0) G38) (fun G39 => rZ (nI 0) G39) (fun G42 x40 x41 => bI (f_IN_bitCount G42 x41) fun v45 G44 => if v45 = x40 then rZ (nI 1) G44
    else rZ (nI 0) G44) zFu G13 a0 a1 a2 v5 (nI 0) (nI 0)
theorem k_I_isOrdering_L23 {l : Launch} {D : va_G} {B : Nat} {O : State → Heap → Prop} (hV : zG l D B O) {o : gO} {Gf : gH} (K62 : gH → gR) (K79 : gH → gR) (K87 : gH → Int32 → Int32 → gR) (hK62 : ∀ (G : gH), K62 G  = some (o, Gf) → Y (zVm l D B O) m_I_isOrdering 5 o Gf 62 [none, none, none, none, none, none, none] [] G) (hK79 : ∀ (G : gH), K79 G  = some (o, Gf) → Y (zVm l D B O) m_I_isOrdering 5 o Gf 79 [none, none, none, none, none, none, none] [] G) (hK87 : ∀ (G : gH) (x3 : Int32) (x4 : Int32), K87 G x3 x4 = some (o, Gf) → Y (zVm l D B O) m_I_isOrdering 5 o Gf 87 [none, none, none, some (.int x3), some (.int x4), none, none] [] G) : ∀ (n : Nat) (G : gH) (x0 : Nat) (x1 : Int32) (x2 : Int32) (x3 : Int32) (x4 : Int32) (x5 : Int32), f_I_isOrdering_L23 K62 K79 K87 n G x0 x1 x2 x3 x4 x5 = some (o, Gf) → Y (zVm l D B O) m_I_isOrdering 5 o Gf 23 [some (.ref x0), some (.int x1), some (.int x2), some (.int x3), some (.int x4), some (.int x5), none] [] G := by
  have hdd : lSa m_I_isOrdering 23 [(.iload 5, 0), (.iload_n 3, 0)] = true ∧ lIa m_I_isOrdering 26 (.if_icmp .ge 61) 3 = true ∧ lSa m_I_isOrdering 29 [(.aload_n 0, 0), (.iload 5, 0)] = true ∧ lIa m_I_isOrdering 32 (.invokevirtual 122) 3 = true ∧ lSa m_I_isOrdering 35 [(.istore 6, 0), (.iload 4, 0), (.iconst 1, nI 1), (.iload 6, 0), (.ishl, 0), (.ior, 0), (.istore 4, 0), (.aload_n 0, 0), (.iload 5, 0)] = true ∧ lIa m_I_isOrdering 49 (.invokevirtual 73) 3 = true ∧ lSa m_I_isOrdering 52 [(.aload_n 0, 0), (.iload_n 1, 0), (.iload 6, 0)] = true ∧ lIa m_I_isOrdering 56 (.invokevirtual 50) 3 = true ∧ lIa m_I_isOrdering 59 (.if_icmp .eq 5) 3 = true ∧ lSa m_I_isOrdering 64 [(.iload 5, 0)] = true ∧ lIa m_I_isOrdering 66 (.ifCond .le 15) 3 = true ∧ lSa m_I_isOrdering 81 [(.iinc 5 1, nI 1)] = true ∧ lIa m_I_isOrdering 84 (.goto (-61)) 3 = true ∧ lSa m_I_isOrdering 69 [(.aload_n 0, 0), (.iload 5, 0), (.iload_n 2, 0)] = true ∧ lIa m_I_isOrdering 73 (.invokevirtual 131) 3 = true ∧ lIa m_I_isOrdering 76 (.ifCond .ne 5) 3 = true := by decide +kernel
  refine lA8 hdd (fun dd0 dd1 dd2 dd3 dd4 dd5 dd6 dd7 hdd => ?_)
  obtain ⟨dd8, dd9, dd10, dd11, dd12, dd13, dd14, dd15⟩ := hdd
  intro n
  induction n with
  | zero => intro G x0 x1 x2 x3 x4 x5 h; cases h
  | succ n ih =>
    intro G x0 x1 x2 x3 x4 x5 h
    unfold f_I_isOrdering_L23 at h
    refine Y.blk (pc' := 26) (L' := [some (.ref x0), some (.int x1), some (.int x2), some (.int x3), some (.int x4), some (.int x5), none]) (st' := [.int x3, .int x5]) (sg := [(.iload 5, 0), (.iload_n 3, 0)]) (lSa_ok dd0) rfl ?_
    refine Y.ic_ge (off := 61) (tgt := 87) (lIa_ok dd1) (by decide) h (fun c37 h => ?_) (fun c37 h => ?_)
    · refine Y.less (L' := [none, none, none, some (.int x3), some (.int x4), none, none]) (zLe_none (zLe_none (zLe_none (zLe_some (zLe_some (zLe_none (zLe_some (zLe_nil)))))))) ?_
      exact hK87 G x3 x4 h
    · refine Y.blk (pc' := 32) (L' := [some (.ref x0), some (.int x1), some (.int x2), some (.int x3), some (.int x4), some (.int x5), none]) (st' := [.int x5, .ref x0]) (sg := [(.aload_n 0, 0), (.iload 5, 0)]) (lSa_ok dd2) rfl ?_
      obtain ⟨_, o15, e14, m16, h⟩ := gOb_inv h
      refine Y.callI (yC.Vi (b := x0) (As := [.int x5]) (st := []) (r := ("Partlister$Lists", T_I, 7)) hV.1 cb_I_placeInSpare lk_I_122 in_I_placeInSpare rfl se_I_placeInSpare (lIa_ok dd3) rfl rfl (Nat.le_of_ble_eq_true rfl) (by decide) e14 m16) (k_I_placeInSpare hV G x0 x5) h (fun v18 G17 _ h => ?_)
      refine Y.blk (pc' := 49) (L' := [some (.ref x0), some (.int x1), some (.int x2), some (.int x3), some (.int (x4 ||| ((nI 1) <<< (v18 &&& 31)))), some (.int x5), some (.int v18)]) (st' := [.int x5, .ref x0]) (sg := [(.istore 6, 0), (.iload 4, 0), (.iconst 1, nI 1), (.iload 6, 0), (.ishl, 0), (.ior, 0), (.istore 4, 0), (.aload_n 0, 0), (.iload 5, 0)]) (lSa_ok dd4) rfl ?_
      obtain ⟨_, o20, e19, m21, h⟩ := gOb_inv h
      refine Y.callI (yC.Vi (b := x0) (As := [.int x5]) (st := []) (r := ("Partlister$Lists", T_I, 7)) hV.1 cb_I_thingInSpare lk_I_73 in_I_thingInSpare rfl se_I_thingInSpare (lIa_ok dd5) rfl rfl (Nat.le_of_ble_eq_true rfl) (by decide) e19 m21) (k_I_thingInSpare hV G17 x0 x5) h (fun v23 G22 _ h => ?_)
      refine Y.blk (pc' := 56) (L' := [some (.ref x0), some (.int x1), some (.int x2), some (.int x3), some (.int (x4 ||| ((nI 1) <<< (v18 &&& 31)))), some (.int x5), some (.int v18)]) (st' := [.int v18, .int x1, .ref x0, .int v23]) (sg := [(.aload_n 0, 0), (.iload_n 1, 0), (.iload 6, 0)]) (lSa_ok dd6) rfl ?_
      obtain ⟨_, o25, e24, m26, h⟩ := gOb_inv h
      refine Y.callI (yC.Vi (b := x0) (As := [.int x1, .int v18]) (st := [.int v23]) (r := ("Partlister$Lists", T_I, 7)) hV.1 cb_I_thingAt lk_I_50 in_I_thingAt rfl se_I_thingAt (lIa_ok dd7) rfl rfl (Nat.le_of_ble_eq_true rfl) (by decide) e24 m26) (k_I_thingAt hV G22 x0 x1 v18) h (fun v28 G27 _ h => ?_)
      refine Y.ic_eq (off := 5) (tgt := 64) (lIa_ok dd8) (by decide) h (fun c36 h => ?_) (fun c36 h => ?_)
      · refine Y.blk (pc' := 66) (L' := [some (.ref x0), some (.int x1), some (.int x2), some (.int x3), some (.int (x4 ||| ((nI 1) <<< (v18 &&& 31)))), some (.int x5), some (.int v18)]) (st' := [.int x5]) (sg := [(.iload 5, 0)]) (lSa_ok dd9) rfl ?_
        refine Y.if_le (off := 15) (tgt := 81) (lIa_ok dd10) (by decide) h (fun c35 h => ?_) (fun c35 h => ?_)
        · refine Y.blk (pc' := 84) (L' := [some (.ref x0), some (.int x1), some (.int x2), some (.int x3), some (.int (x4 ||| ((nI 1) <<< (v18 &&& 31)))), some (.int (x5 + (nI 1))), some (.int v18)]) (st' := []) (sg := [(.iinc 5 1, nI 1)]) (lSa_ok dd11) rfl ?_
          refine Y.goto (off := -61) (tgt := 23) (lIa_ok dd12) (by decide) ?_
          refine Y.less (L' := [some (.ref x0), some (.int x1), some (.int x2), some (.int x3), some (.int (x4 ||| ((nI 1) <<< (v18 &&& 31)))), some (.int (x5 + (nI 1))), none]) (zLe_some (zLe_some (zLe_some (zLe_some (zLe_some (zLe_some (zLe_none (zLe_nil)))))))) ?_
          exact ih G27 x0 x1 x2 x3 (x4 ||| ((nI 1) <<< (v18 &&& 31))) (x5 + (nI 1)) h
        · refine Y.blk (pc' := 73) (L' := [some (.ref x0), some (.int x1), some (.int x2), some (.int x3), some (.int (x4 ||| ((nI 1) <<< (v18 &&& 31)))), some (.int x5), some (.int v18)]) (st' := [.int x2, .int x5, .ref x0]) (sg := [(.aload_n 0, 0), (.iload 5, 0), (.iload_n 2, 0)]) (lSa_ok dd13) rfl ?_
          obtain ⟨_, o30, e29, m31, h⟩ := gOb_inv h
          refine Y.callI (yC.Vi (b := x0) (As := [.int x5, .int x2]) (st := []) (r := ("Partlister$Lists", T_I, 7)) hV.1 cb_I_mayFollow lk_I_131 in_I_mayFollow rfl se_I_mayFollow (lIa_ok dd14) rfl rfl (Nat.le_of_ble_eq_true rfl) (by decide) e29 m31) (k_I_mayFollow hV G27 x0 x5 x2) h (fun v33 G32 _ h => ?_)
          refine Y.if_ne (off := 5) (tgt := 81) (lIa_ok dd15) (by decide) h (fun c34 h => ?_) (fun c34 h => ?_)
          · refine Y.less (L' := [none, none, none, none, none, none, none]) (zLe_none (zLe_none (zLe_none (zLe_none (zLe_none (zLe_none (zLe_none (zLe_nil)))))))) ?_
            exact hK79 G32  h
          · refine Y.blk (pc' := 84) (L' := [some (.ref x0), some (.int x1), some (.int x2), some (.int x3), some (.int (x4 ||| ((nI 1) <<< (v18 &&& 31)))), some (.int (x5 + (nI 1))), some (.int v18)]) (st' := []) (sg := [(.iinc 5 1, nI 1)]) (lSa_ok dd11) rfl ?_
            refine Y.goto (off := -61) (tgt := 23) (lIa_ok dd12) (by decide) ?_
            refine Y.less (L' := [some (.ref x0), some (.int x1), some (.int x2), some (.int x3), some (.int (x4 ||| ((nI 1) <<< (v18 &&& 31)))), some (.int (x5 + (nI 1))), none]) (zLe_some (zLe_some (zLe_some (zLe_some (zLe_some (zLe_some (zLe_none (zLe_nil)))))))) ?_
            exact ih G32 x0 x1 x2 x3 (x4 ||| ((nI 1) <<< (v18 &&& 31))) (x5 + (nI 1)) h
      · refine Y.less (L' := [none, none, none, none, none, none, none]) (zLe_none (zLe_none (zLe_none (zLe_none (zLe_none (zLe_none (zLe_none (zLe_nil)))))))) ?_
        exact hK62 G27  h
theorem k_I_isOrdering {l : Launch} {D : va_G} {B : Nat} {O : State → Heap → Prop} (hV : zG l D B O) (G : gH) (a0 : Nat) (a1 : Int32) (a2 : Int32) : gMet (zVm l D B O) m_I_isOrdering 5 [.ref a0, .int a1, .int a2] G (f_I_isOrdering G a0 a1 a2) := by
  have hdd : lSa m_I_isOrdering 0 [(.aload_n 0, 0), (.iload_n 1, 0)] = true ∧ lIa m_I_isOrdering 2 (.invokevirtual 59) 3 = true ∧ lSa m_I_isOrdering 5 [(.istore_n 3, 0), (.aload_n 0, 0), (.iload_n 1, 0)] = true ∧ lIa m_I_isOrdering 8 (.invokevirtual 65) 3 = true ∧ lSa m_I_isOrdering 11 [(.aload_n 0, 0), (.iload_n 3, 0), (.iload_n 2, 0)] = true ∧ lIa m_I_isOrdering 14 (.invokevirtual 76) 3 = true ∧ lSa m_I_isOrdering 17 [(.iconst 0, nI 0), (.istore 4, 0), (.iconst 0, nI 0), (.istore 5, 0)] = true ∧ lSa m_I_isOrdering 62 [(.iconst 0, nI 0)] = true ∧ lIa m_I_isOrdering 63 (.ireturn) 1 = true ∧ lSa m_I_isOrdering 79 [(.iconst 0, nI 0)] = true ∧ lIa m_I_isOrdering 80 (.ireturn) 1 = true ∧ lSa m_I_isOrdering 87 [(.iload 4, 0)] = true ∧ lIa m_I_isOrdering 89 (.invokestatic 134) 3 = true ∧ lSa m_I_isOrdering 92 [(.iload_n 3, 0)] = true ∧ lIa m_I_isOrdering 93 (.if_icmp .ne 7) 3 = true ∧ lSa m_I_isOrdering 96 [(.iconst 1, nI 1)] = true ∧ lIa m_I_isOrdering 97 (.goto 4) 3 = true ∧ lIa m_I_isOrdering 101 (.ireturn) 1 = true ∧ lSa m_I_isOrdering 100 [(.iconst 0, nI 0)] = true := by decide +kernel
  refine lA8 hdd (fun dd0 dd1 dd2 dd3 dd4 dd5 dd6 dd7 hdd => ?_)
  refine lA8 hdd (fun dd8 dd9 dd10 dd11 dd12 dd13 dd14 dd15 hdd => ?_)
  obtain ⟨dd16, dd17, dd18⟩ := hdd
  refine gMet.of (by decide +kernel) (Nat.le_of_ble_eq_true rfl) [some (.ref a0), some (.int a1), some (.int a2), none, none, none, none] (fun ls h => zEn_ok (n := 7) h) ?_
  intro o Gf h
  unfold f_I_isOrdering at h
  refine Y.blk (pc' := 2) (L' := [some (.ref a0), some (.int a1), some (.int a2), none, none, none, none]) (st' := [.int a1, .ref a0]) (sg := [(.aload_n 0, 0), (.iload_n 1, 0)]) (lSa_ok dd0) rfl ?_
  obtain ⟨_, o2, e1, m3, h⟩ := gOb_inv h
  refine Y.callI (yC.Vi (b := a0) (As := [.int a1]) (st := []) (r := ("Partlister$Lists", T_I, 7)) hV.1 cb_I_lengthOf lk_I_59 in_I_lengthOf rfl se_I_lengthOf (lIa_ok dd1) rfl rfl (Nat.le_of_ble_eq_true rfl) (by decide) e1 m3) (k_I_lengthOf hV G a0 a1) h (fun v5 G4 _ h => ?_)
  refine Y.blk (pc' := 8) (L' := [some (.ref a0), some (.int a1), some (.int a2), some (.int v5), none, none, none]) (st' := [.int a1, .ref a0]) (sg := [(.istore_n 3, 0), (.aload_n 0, 0), (.iload_n 1, 0)]) (lSa_ok dd2) rfl ?_
  obtain ⟨_, o7, e6, m8, h⟩ := gOb_inv h
  refine Y.callN (yC.Vi (b := a0) (As := [.int a1]) (st := []) (r := ("Partlister$Lists", T_I, 7)) hV.1 cb_I_copyToSpare lk_I_65 in_I_copyToSpare rfl se_I_copyToSpare (lIa_ok dd3) rfl rfl (Nat.le_of_ble_eq_true rfl) (by decide) e6 m8) (k_I_copyToSpare hV G4 a0 a1) h (fun G9 _ h => ?_)
  refine Y.blk (pc' := 14) (L' := [some (.ref a0), some (.int a1), some (.int a2), some (.int v5), none, none, none]) (st' := [.int a2, .int v5, .ref a0]) (sg := [(.aload_n 0, 0), (.iload_n 3, 0), (.iload_n 2, 0)]) (lSa_ok dd4) rfl ?_
  obtain ⟨_, o11, e10, m12, h⟩ := gOb_inv h
  refine Y.callN (yC.Vi (b := a0) (As := [.int v5, .int a2]) (st := []) (r := ("Partlister$Lists", T_I, 7)) hV.1 cb_I_arrangeSpare lk_I_76 in_I_arrangeSpare rfl se_I_arrangeSpare (lIa_ok dd5) rfl rfl (Nat.le_of_ble_eq_true rfl) (by decide) e10 m12) (k_I_arrangeSpare hV G9 a0 v5 a2) h (fun G13 _ h => ?_)
  refine Y.blk (pc' := 23) (L' := [some (.ref a0), some (.int a1), some (.int a2), some (.int v5), some (.int (nI 0)), some (.int (nI 0)), none]) (st' := []) (sg := [(.iconst 0, nI 0), (.istore 4, 0), (.iconst 0, nI 0), (.istore 5, 0)]) (lSa_ok dd6) rfl ?_
  refine k_I_isOrdering_L23 hV _ _ _ ?_ ?_ ?_  zFu G13 a0 a1 a2 v5 (nI 0) (nI 0) h
  · intro G38 h
    refine Y.blk (pc' := 63) (L' := [none, none, none, none, none, none, none]) (st' := [.int (nI 0)]) (sg := [(.iconst 0, nI 0)]) (lSa_ok dd7) rfl ?_
    exact Y.zret rfl (lIa_ok dd8) h
  · intro G39 h
    refine Y.blk (pc' := 80) (L' := [none, none, none, none, none, none, none]) (st' := [.int (nI 0)]) (sg := [(.iconst 0, nI 0)]) (lSa_ok dd9) rfl ?_
    exact Y.zret rfl (lIa_ok dd10) h
  · intro G42 x40 x41 h
    refine Y.blk (pc' := 89) (L' := [none, none, none, some (.int x40), some (.int x41), none, none]) (st' := [.int x41]) (sg := [(.iload 4, 0)]) (lSa_ok dd11) rfl ?_
    refine Y.callI (yC.S (As := [.int x41]) (st := []) hV.1 cb_IN_bitCount lk_I_134 st_IN_bitCount (lIa_ok dd12) rfl rfl (Nat.le_of_ble_eq_true rfl) (by decide)) (k_IN_bitCount hV G42 x41) h (fun v45 G44 _ h => ?_)
    refine Y.blk (pc' := 93) (L' := [none, none, none, some (.int x40), some (.int x41), none, none]) (st' := [.int x40, .int v45]) (sg := [(.iload_n 3, 0)]) (lSa_ok dd13) rfl ?_
    refine Y.ic_ne (off := 7) (tgt := 100) (lIa_ok dd14) (by decide) h (fun c46 h => ?_) (fun c46 h => ?_)
    · refine Y.blk (pc' := 97) (L' := [none, none, none, some (.int x40), some (.int x41), none, none]) (st' := [.int (nI 1)]) (sg := [(.iconst 1, nI 1)]) (lSa_ok dd15) rfl ?_
      refine Y.goto (off := 4) (tgt := 101) (lIa_ok dd16) (by decide) ?_
      exact Y.zret rfl (lIa_ok dd17) h
    · refine Y.blk (pc' := 101) (L' := [none, none, none, some (.int x40), some (.int x41), none, none]) (st' := [.int (nI 0)]) (sg := [(.iconst 0, nI 0)]) (lSa_ok dd18) rfl ?_
      exact Y.zret rfl (lIa_ok dd17) h

def f_I_isSameBackward_L13 (K40 : gH → gR) (K48 : gH → gR) : Nat → gH → Nat → Int32 → Int32 → gR
  | 0, _, _, _, _ => none
  | n + 1, G, x0, x1, x2 =>
    if x2 < 0 then K48 G
    else gOb G x0 1 fun o11 => bI (f_I_thingInSpare G x0 x2) fun v14 G13 => gOb G13 x0 1 fun o16 => bI (f_I_thingAt G13 x0 x1 x2) fun v19 G18 => if v14 = v19 then (gOb G18 x0 1 fun o21 => bI (f_I_placeInSpare G18 x0 x2) fun v24 G23 => if v24 = x2 then f_I_isSameBackward_L13 K40 K48 n G23 x0 x1 (x2 + (-1))
        else K40 G23)
      else K40 G18
def f_I_isSameBackward (G : gH) (a0 : Nat) (a1 : Int32) : gR :=
  gOb G a0 1 fun o2 => bV (f_I_copyToSpare G a0 a1) fun G4 => gOb G4 a0 1 fun o6 => bI (f_I_lengthOf G4 a0 a1) fun v9 G8 => f_I_isSameBackward_L13 (fun G28 => rZ (nI 0) G28) (fun G29 => rZ (nI 1) G29) zFu G8 a0 a1 (v9 - (nI 1))
theorem k_I_isSameBackward_L13 {l : Launch} {D : va_G} {B : Nat} {O : State → Heap → Prop} (hV : zG l D B O) {o : gO} {Gf : gH} (K40 : gH → gR) (K48 : gH → gR) (hK40 : ∀ (G : gH), K40 G  = some (o, Gf) → Y (zVm l D B O) m_I_isSameBackward 5 o Gf 40 [none, none, none] [] G) (hK48 : ∀ (G : gH), K48 G  = some (o, Gf) → Y (zVm l D B O) m_I_isSameBackward 5 o Gf 48 [none, none, none] [] G) : ∀ (n : Nat) (G : gH) (x0 : Nat) (x1 : Int32) (x2 : Int32), f_I_isSameBackward_L13 K40 K48 n G x0 x1 x2 = some (o, Gf) → Y (zVm l D B O) m_I_isSameBackward 5 o Gf 13 [some (.ref x0), some (.int x1), some (.int x2)] [] G := by
  have hdd : lSa m_I_isSameBackward 13 [(.iload_n 2, 0)] = true ∧ lIa m_I_isSameBackward 14 (.ifCond .lt 34) 3 = true ∧ lSa m_I_isSameBackward 17 [(.aload_n 0, 0), (.iload_n 2, 0)] = true ∧ lIa m_I_isSameBackward 19 (.invokevirtual 73) 3 = true ∧ lSa m_I_isSameBackward 22 [(.aload_n 0, 0), (.iload_n 1, 0), (.iload_n 2, 0)] = true ∧ lIa m_I_isSameBackward 25 (.invokevirtual 50) 3 = true ∧ lIa m_I_isSameBackward 28 (.if_icmp .ne 12) 3 = true ∧ lSa m_I_isSameBackward 31 [(.aload_n 0, 0), (.iload_n 2, 0)] = true ∧ lIa m_I_isSameBackward 33 (.invokevirtual 122) 3 = true ∧ lSa m_I_isSameBackward 36 [(.iload_n 2, 0)] = true ∧ lIa m_I_isSameBackward 37 (.if_icmp .eq 5) 3 = true ∧ lSa m_I_isSameBackward 42 [(.iinc 2 (-1), -1)] = true ∧ lIa m_I_isSameBackward 45 (.goto (-32)) 3 = true := by decide +kernel
  refine lA8 hdd (fun dd0 dd1 dd2 dd3 dd4 dd5 dd6 dd7 hdd => ?_)
  obtain ⟨dd8, dd9, dd10, dd11, dd12⟩ := hdd
  intro n
  induction n with
  | zero => intro G x0 x1 x2 h; cases h
  | succ n ih =>
    intro G x0 x1 x2 h
    unfold f_I_isSameBackward_L13 at h
    refine Y.blk (pc' := 14) (L' := [some (.ref x0), some (.int x1), some (.int x2)]) (st' := [.int x2]) (sg := [(.iload_n 2, 0)]) (lSa_ok dd0) rfl ?_
    refine Y.if_lt (off := 34) (tgt := 48) (lIa_ok dd1) (by decide) h (fun c27 h => ?_) (fun c27 h => ?_)
    · refine Y.less (L' := [none, none, none]) (zLe_none (zLe_none (zLe_none (zLe_nil)))) ?_
      exact hK48 G  h
    · refine Y.blk (pc' := 19) (L' := [some (.ref x0), some (.int x1), some (.int x2)]) (st' := [.int x2, .ref x0]) (sg := [(.aload_n 0, 0), (.iload_n 2, 0)]) (lSa_ok dd2) rfl ?_
      obtain ⟨_, o11, e10, m12, h⟩ := gOb_inv h
      refine Y.callI (yC.Vi (b := x0) (As := [.int x2]) (st := []) (r := ("Partlister$Lists", T_I, 7)) hV.1 cb_I_thingInSpare lk_I_73 in_I_thingInSpare rfl se_I_thingInSpare (lIa_ok dd3) rfl rfl (Nat.le_of_ble_eq_true rfl) (by decide) e10 m12) (k_I_thingInSpare hV G x0 x2) h (fun v14 G13 _ h => ?_)
      refine Y.blk (pc' := 25) (L' := [some (.ref x0), some (.int x1), some (.int x2)]) (st' := [.int x2, .int x1, .ref x0, .int v14]) (sg := [(.aload_n 0, 0), (.iload_n 1, 0), (.iload_n 2, 0)]) (lSa_ok dd4) rfl ?_
      obtain ⟨_, o16, e15, m17, h⟩ := gOb_inv h
      refine Y.callI (yC.Vi (b := x0) (As := [.int x1, .int x2]) (st := [.int v14]) (r := ("Partlister$Lists", T_I, 7)) hV.1 cb_I_thingAt lk_I_50 in_I_thingAt rfl se_I_thingAt (lIa_ok dd5) rfl rfl (Nat.le_of_ble_eq_true rfl) (by decide) e15 m17) (k_I_thingAt hV G13 x0 x1 x2) h (fun v19 G18 _ h => ?_)
      refine Y.ic_ne (off := 12) (tgt := 40) (lIa_ok dd6) (by decide) h (fun c26 h => ?_) (fun c26 h => ?_)
      · refine Y.blk (pc' := 33) (L' := [some (.ref x0), some (.int x1), some (.int x2)]) (st' := [.int x2, .ref x0]) (sg := [(.aload_n 0, 0), (.iload_n 2, 0)]) (lSa_ok dd7) rfl ?_
        obtain ⟨_, o21, e20, m22, h⟩ := gOb_inv h
        refine Y.callI (yC.Vi (b := x0) (As := [.int x2]) (st := []) (r := ("Partlister$Lists", T_I, 7)) hV.1 cb_I_placeInSpare lk_I_122 in_I_placeInSpare rfl se_I_placeInSpare (lIa_ok dd8) rfl rfl (Nat.le_of_ble_eq_true rfl) (by decide) e20 m22) (k_I_placeInSpare hV G18 x0 x2) h (fun v24 G23 _ h => ?_)
        refine Y.blk (pc' := 37) (L' := [some (.ref x0), some (.int x1), some (.int x2)]) (st' := [.int x2, .int v24]) (sg := [(.iload_n 2, 0)]) (lSa_ok dd9) rfl ?_
        refine Y.ic_eq (off := 5) (tgt := 42) (lIa_ok dd10) (by decide) h (fun c25 h => ?_) (fun c25 h => ?_)
        · refine Y.blk (pc' := 45) (L' := [some (.ref x0), some (.int x1), some (.int (x2 + (-1)))]) (st' := []) (sg := [(.iinc 2 (-1), -1)]) (lSa_ok dd11) rfl ?_
          refine Y.goto (off := -32) (tgt := 13) (lIa_ok dd12) (by decide) ?_
          exact ih G23 x0 x1 (x2 + (-1)) h
        · refine Y.less (L' := [none, none, none]) (zLe_none (zLe_none (zLe_none (zLe_nil)))) ?_
          exact hK40 G23  h
      · refine Y.less (L' := [none, none, none]) (zLe_none (zLe_none (zLe_none (zLe_nil)))) ?_
        exact hK40 G18  h
theorem k_I_isSameBackward {l : Launch} {D : va_G} {B : Nat} {O : State → Heap → Prop} (hV : zG l D B O) (G : gH) (a0 : Nat) (a1 : Int32) : gMet (zVm l D B O) m_I_isSameBackward 5 [.ref a0, .int a1] G (f_I_isSameBackward G a0 a1) := by
  have hdd : lSa m_I_isSameBackward 0 [(.aload_n 0, 0), (.iload_n 1, 0)] = true ∧ lIa m_I_isSameBackward 2 (.invokevirtual 65) 3 = true ∧ lSa m_I_isSameBackward 5 [(.aload_n 0, 0), (.iload_n 1, 0)] = true ∧ lIa m_I_isSameBackward 7 (.invokevirtual 59) 3 = true ∧ lSa m_I_isSameBackward 10 [(.iconst 1, nI 1), (.isub, 0), (.istore_n 2, 0)] = true ∧ lSa m_I_isSameBackward 40 [(.iconst 0, nI 0)] = true ∧ lIa m_I_isSameBackward 41 (.ireturn) 1 = true ∧ lSa m_I_isSameBackward 48 [(.iconst 1, nI 1)] = true ∧ lIa m_I_isSameBackward 49 (.ireturn) 1 = true := by decide +kernel
  refine lA8 hdd (fun dd0 dd1 dd2 dd3 dd4 dd5 dd6 dd7 hdd => ?_)
  have dd8 := hdd
  refine gMet.of (by decide +kernel) (Nat.le_of_ble_eq_true rfl) [some (.ref a0), some (.int a1), none] (fun ls h => zEn_ok (n := 3) h) ?_
  intro o Gf h
  unfold f_I_isSameBackward at h
  refine Y.blk (pc' := 2) (L' := [some (.ref a0), some (.int a1), none]) (st' := [.int a1, .ref a0]) (sg := [(.aload_n 0, 0), (.iload_n 1, 0)]) (lSa_ok dd0) rfl ?_
  obtain ⟨_, o2, e1, m3, h⟩ := gOb_inv h
  refine Y.callN (yC.Vi (b := a0) (As := [.int a1]) (st := []) (r := ("Partlister$Lists", T_I, 7)) hV.1 cb_I_copyToSpare lk_I_65 in_I_copyToSpare rfl se_I_copyToSpare (lIa_ok dd1) rfl rfl (Nat.le_of_ble_eq_true rfl) (by decide) e1 m3) (k_I_copyToSpare hV G a0 a1) h (fun G4 _ h => ?_)
  refine Y.blk (pc' := 7) (L' := [some (.ref a0), some (.int a1), none]) (st' := [.int a1, .ref a0]) (sg := [(.aload_n 0, 0), (.iload_n 1, 0)]) (lSa_ok dd2) rfl ?_
  obtain ⟨_, o6, e5, m7, h⟩ := gOb_inv h
  refine Y.callI (yC.Vi (b := a0) (As := [.int a1]) (st := []) (r := ("Partlister$Lists", T_I, 7)) hV.1 cb_I_lengthOf lk_I_59 in_I_lengthOf rfl se_I_lengthOf (lIa_ok dd3) rfl rfl (Nat.le_of_ble_eq_true rfl) (by decide) e5 m7) (k_I_lengthOf hV G4 a0 a1) h (fun v9 G8 _ h => ?_)
  refine Y.blk (pc' := 13) (L' := [some (.ref a0), some (.int a1), some (.int (v9 - (nI 1)))]) (st' := []) (sg := [(.iconst 1, nI 1), (.isub, 0), (.istore_n 2, 0)]) (lSa_ok dd4) rfl ?_
  refine k_I_isSameBackward_L13 hV _ _ ?_ ?_  zFu G8 a0 a1 (v9 - (nI 1)) h
  · intro G28 h
    refine Y.blk (pc' := 41) (L' := [none, none, none]) (st' := [.int (nI 0)]) (sg := [(.iconst 0, nI 0)]) (lSa_ok dd5) rfl ?_
    exact Y.zret rfl (lIa_ok dd6) h
  · intro G29 h
    refine Y.blk (pc' := 49) (L' := [none, none, none]) (st' := [.int (nI 1)]) (sg := [(.iconst 1, nI 1)]) (lSa_ok dd7) rfl ?_
    exact Y.zret rfl (lIa_ok dd8) h

def f_I_liesInAbove_L71 (K97 : gH → gR) (K105 : gH → gR) : Nat → gH → Nat → Int32 → Int32 → Int32 → Int32 → Int32 → gR
  | 0, _, _, _, _, _, _, _ => none
  | n + 1, G, x0, x1, x2, x3, x4, x5 =>
    if x4 ≤ x5 then K105 G
    else gOb G x0 1 fun o31 => bI (f_I_thingAt G x0 x1 x5) fun v34 G33 => gOb G33 x0 1 fun o36 => bI (f_I_thingAt G33 x0 x2 (x3 + x5)) fun v39 G38 => if v34 = v39 then f_I_liesInAbove_L71 K97 K105 n G38 x0 x1 x2 x3 x4 (x5 + (nI 1))
      else K97 G38
def f_I_liesInAbove (G : gH) (a0 : Nat) (a1 : Int32) : gR :=
  gFA G a0 1 2 fun v1 => gOb G v1 2 fun o3 => bI (f_N_read G v1 a1) fun v6 G5 => if v6 = (-1) then (if (nI 2) ≤ a1 then rZ (nI 0) G5
    else rZ (nI 1) G5)
  else gFA G5 a0 1 4 fun v8 => gOb G5 v8 2 fun o10 => bI (f_N_read G5 v8 a1) fun v13 G12 => gFA G12 a0 1 4 fun v14 => gOb G12 v14 2 fun o16 => bI (f_N_read G12 v14 v6) fun v19 G18 => gOb G18 a0 1 fun o21 => bI (f_I_lengthOf G18 a0 a1) fun v24 G23 => if (v13 - v19) < 0 then rZ (nI 0) G23
    else gOb G23 a0 1 fun o26 => bI (f_I_lengthOf G23 a0 v6) fun v29 G28 => if ((v13 - v19) + v24) ≤ v29 then f_I_liesInAbove_L71 (fun G42 => rZ (nI 0) G42) (fun G43 => rZ (nI 1) G43) zFu G28 a0 a1 v6 (v13 - v19) v24 (nI 0)
      else rZ (nI 0) G28
theorem k_I_liesInAbove_L71 {l : Launch} {D : va_G} {B : Nat} {O : State → Heap → Prop} (hV : zG l D B O) {o : gO} {Gf : gH} (K97 : gH → gR) (K105 : gH → gR) (hK97 : ∀ (G : gH), K97 G  = some (o, Gf) → Y (zVm l D B O) m_I_liesInAbove 4 o Gf 97 [none, none, none, none, none, none] [] G) (hK105 : ∀ (G : gH), K105 G  = some (o, Gf) → Y (zVm l D B O) m_I_liesInAbove 4 o Gf 105 [none, none, none, none, none, none] [] G) : ∀ (n : Nat) (G : gH) (x0 : Nat) (x1 : Int32) (x2 : Int32) (x3 : Int32) (x4 : Int32) (x5 : Int32), f_I_liesInAbove_L71 K97 K105 n G x0 x1 x2 x3 x4 x5 = some (o, Gf) → Y (zVm l D B O) m_I_liesInAbove 4 o Gf 71 [some (.ref x0), some (.int x1), some (.int x2), some (.int x3), some (.int x4), some (.int x5)] [] G := by
  have hdd : lSa m_I_liesInAbove 71 [(.iload 5, 0), (.iload 4, 0)] = true ∧ lIa m_I_liesInAbove 75 (.if_icmp .ge 30) 3 = true ∧ lSa m_I_liesInAbove 78 [(.aload_n 0, 0), (.iload_n 1, 0), (.iload 5, 0)] = true ∧ lIa m_I_liesInAbove 82 (.invokevirtual 50) 3 = true ∧ lSa m_I_liesInAbove 85 [(.aload_n 0, 0), (.iload_n 2, 0), (.iload_n 3, 0), (.iload 5, 0), (.iadd, 0)] = true ∧ lIa m_I_liesInAbove 91 (.invokevirtual 50) 3 = true ∧ lIa m_I_liesInAbove 94 (.if_icmp .eq 5) 3 = true ∧ lSa m_I_liesInAbove 99 [(.iinc 5 1, nI 1)] = true ∧ lIa m_I_liesInAbove 102 (.goto (-31)) 3 = true := by decide +kernel
  refine lA8 hdd (fun dd0 dd1 dd2 dd3 dd4 dd5 dd6 dd7 hdd => ?_)
  have dd8 := hdd
  intro n
  induction n with
  | zero => intro G x0 x1 x2 x3 x4 x5 h; cases h
  | succ n ih =>
    intro G x0 x1 x2 x3 x4 x5 h
    unfold f_I_liesInAbove_L71 at h
    refine Y.blk (pc' := 75) (L' := [some (.ref x0), some (.int x1), some (.int x2), some (.int x3), some (.int x4), some (.int x5)]) (st' := [.int x4, .int x5]) (sg := [(.iload 5, 0), (.iload 4, 0)]) (lSa_ok dd0) rfl ?_
    refine Y.ic_ge (off := 30) (tgt := 105) (lIa_ok dd1) (by decide) h (fun c41 h => ?_) (fun c41 h => ?_)
    · refine Y.less (L' := [none, none, none, none, none, none]) (zLe_none (zLe_none (zLe_none (zLe_none (zLe_none (zLe_none (zLe_nil))))))) ?_
      exact hK105 G  h
    · refine Y.blk (pc' := 82) (L' := [some (.ref x0), some (.int x1), some (.int x2), some (.int x3), some (.int x4), some (.int x5)]) (st' := [.int x5, .int x1, .ref x0]) (sg := [(.aload_n 0, 0), (.iload_n 1, 0), (.iload 5, 0)]) (lSa_ok dd2) rfl ?_
      obtain ⟨_, o31, e30, m32, h⟩ := gOb_inv h
      refine Y.callI (yC.Vi (b := x0) (As := [.int x1, .int x5]) (st := []) (r := ("Partlister$Lists", T_I, 7)) hV.1 cb_I_thingAt lk_I_50 in_I_thingAt rfl se_I_thingAt (lIa_ok dd3) rfl rfl (Nat.le_of_ble_eq_true rfl) (by decide) e30 m32) (k_I_thingAt hV G x0 x1 x5) h (fun v34 G33 _ h => ?_)
      refine Y.blk (pc' := 91) (L' := [some (.ref x0), some (.int x1), some (.int x2), some (.int x3), some (.int x4), some (.int x5)]) (st' := [.int (x3 + x5), .int x2, .ref x0, .int v34]) (sg := [(.aload_n 0, 0), (.iload_n 2, 0), (.iload_n 3, 0), (.iload 5, 0), (.iadd, 0)]) (lSa_ok dd4) rfl ?_
      obtain ⟨_, o36, e35, m37, h⟩ := gOb_inv h
      refine Y.callI (yC.Vi (b := x0) (As := [.int x2, .int (x3 + x5)]) (st := [.int v34]) (r := ("Partlister$Lists", T_I, 7)) hV.1 cb_I_thingAt lk_I_50 in_I_thingAt rfl se_I_thingAt (lIa_ok dd5) rfl rfl (Nat.le_of_ble_eq_true rfl) (by decide) e35 m37) (k_I_thingAt hV G33 x0 x2 (x3 + x5)) h (fun v39 G38 _ h => ?_)
      refine Y.ic_eq (off := 5) (tgt := 99) (lIa_ok dd6) (by decide) h (fun c40 h => ?_) (fun c40 h => ?_)
      · refine Y.blk (pc' := 102) (L' := [some (.ref x0), some (.int x1), some (.int x2), some (.int x3), some (.int x4), some (.int (x5 + (nI 1)))]) (st' := []) (sg := [(.iinc 5 1, nI 1)]) (lSa_ok dd7) rfl ?_
        refine Y.goto (off := -31) (tgt := 71) (lIa_ok dd8) (by decide) ?_
        exact ih G38 x0 x1 x2 x3 x4 (x5 + (nI 1)) h
      · refine Y.less (L' := [none, none, none, none, none, none]) (zLe_none (zLe_none (zLe_none (zLe_none (zLe_none (zLe_none (zLe_nil))))))) ?_
        exact hK97 G38  h
theorem k_I_liesInAbove {l : Launch} {D : va_G} {B : Nat} {O : State → Heap → Prop} (hV : zG l D B O) (G : gH) (a0 : Nat) (a1 : Int32) : gMet (zVm l D B O) m_I_liesInAbove 4 [.ref a0, .int a1] G (f_I_liesInAbove G a0 a1) := by
  have hdd : lSa m_I_liesInAbove 0 [(.aload_n 0, 0)] = true ∧ lIa m_I_liesInAbove 1 (.getfield 23) 3 = true ∧ lSa m_I_liesInAbove 4 [(.iload_n 1, 0)] = true ∧ lIa m_I_liesInAbove 5 (.invokevirtual 39) 3 = true ∧ lSa m_I_liesInAbove 8 [(.istore_n 2, 0), (.iload_n 2, 0), (.iconst (-1), -1)] = true ∧ lIa m_I_liesInAbove 11 (.if_icmp .ne 14) 3 = true ∧ lSa m_I_liesInAbove 14 [(.iload_n 1, 0), (.iconst 2, nI 2)] = true ∧ lIa m_I_liesInAbove 16 (.if_icmp .ge 7) 3 = true ∧ lSa m_I_liesInAbove 23 [(.iconst 0, nI 0)] = true ∧ lIa m_I_liesInAbove 24 (.ireturn) 1 = true ∧ lSa m_I_liesInAbove 19 [(.iconst 1, nI 1)] = true ∧ lIa m_I_liesInAbove 20 (.goto 4) 3 = true ∧ lSa m_I_liesInAbove 25 [(.aload_n 0, 0)] = true ∧ lIa m_I_liesInAbove 26 (.getfield 29) 3 = true ∧ lSa m_I_liesInAbove 29 [(.iload_n 1, 0)] = true ∧ lIa m_I_liesInAbove 30 (.invokevirtual 39) 3 = true ∧ lSa m_I_liesInAbove 33 [(.aload_n 0, 0)] = true ∧ lIa m_I_liesInAbove 34 (.getfield 29) 3 = true ∧ lSa m_I_liesInAbove 37 [(.iload_n 2, 0)] = true ∧ lIa m_I_liesInAbove 38 (.invokevirtual 39) 3 = true ∧ lSa m_I_liesInAbove 41 [(.isub, 0), (.istore_n 3, 0), (.aload_n 0, 0), (.iload_n 1, 0)] = true ∧ lIa m_I_liesInAbove 45 (.invokevirtual 59) 3 = true ∧ lSa m_I_liesInAbove 48 [(.istore 4, 0), (.iload_n 3, 0)] = true ∧ lIa m_I_liesInAbove 51 (.ifCond .lt 15) 3 = true ∧ lSa m_I_liesInAbove 66 [(.iconst 0, nI 0)] = true ∧ lIa m_I_liesInAbove 67 (.ireturn) 1 = true ∧ lSa m_I_liesInAbove 54 [(.iload_n 3, 0), (.iload 4, 0), (.iadd, 0), (.aload_n 0, 0), (.iload_n 2, 0)] = true ∧ lIa m_I_liesInAbove 60 (.invokevirtual 59) 3 = true ∧ lIa m_I_liesInAbove 63 (.if_icmp .le 5) 3 = true ∧ lSa m_I_liesInAbove 68 [(.iconst 0, nI 0), (.istore 5, 0)] = true ∧ lSa m_I_liesInAbove 97 [(.iconst 0, nI 0)] = true ∧ lIa m_I_liesInAbove 98 (.ireturn) 1 = true ∧ lSa m_I_liesInAbove 105 [(.iconst 1, nI 1)] = true ∧ lIa m_I_liesInAbove 106 (.ireturn) 1 = true := by decide +kernel
  refine lA8 hdd (fun dd0 dd1 dd2 dd3 dd4 dd5 dd6 dd7 hdd => ?_)
  refine lA8 hdd (fun dd8 dd9 dd10 dd11 dd12 dd13 dd14 dd15 hdd => ?_)
  refine lA8 hdd (fun dd16 dd17 dd18 dd19 dd20 dd21 dd22 dd23 hdd => ?_)
  refine lA8 hdd (fun dd24 dd25 dd26 dd27 dd28 dd29 dd30 dd31 hdd => ?_)
  obtain ⟨dd32, dd33⟩ := hdd
  refine gMet.of (by decide +kernel) (Nat.le_of_ble_eq_true rfl) [some (.ref a0), some (.int a1), none, none, none, none] (fun ls h => zEn_ok (n := 6) h) ?_
  intro o Gf h
  unfold f_I_liesInAbove at h
  refine Y.blk (pc' := 1) (L' := [some (.ref a0), some (.int a1), none, none, none, none]) (st' := [.ref a0]) (sg := [(.aload_n 0, 0)]) (lSa_ok dd0) rfl ?_
  refine Y.getA fl_I_23 (lIa_ok dd1) h (fun v1 h => ?_)
  refine Y.blk (pc' := 5) (L' := [some (.ref a0), some (.int a1), none, none, none, none]) (st' := [.int a1, .ref v1]) (sg := [(.iload_n 1, 0)]) (lSa_ok dd2) rfl ?_
  obtain ⟨_, o3, e2, m4, h⟩ := gOb_inv h
  refine Y.callI (yC.Vi (b := v1) (As := [.int a1]) (st := []) (r := ("Partlister$Numbers", T_N, 1)) hV.1 cb_N_read lk_I_39 in_N_read rfl se_N_read (lIa_ok dd3) rfl rfl (Nat.le_of_ble_eq_true rfl) (by decide) e2 m4) (k_N_read hV G v1 a1) h (fun v6 G5 _ h => ?_)
  refine Y.blk (pc' := 11) (L' := [some (.ref a0), some (.int a1), some (.int v6), none, none, none]) (st' := [.int (-1), .int v6]) (sg := [(.istore_n 2, 0), (.iload_n 2, 0), (.iconst (-1), -1)]) (lSa_ok dd4) rfl ?_
  refine Y.ic_ne (off := 14) (tgt := 25) (lIa_ok dd5) (by decide) h (fun c46 h => ?_) (fun c46 h => ?_)
  · refine Y.blk (pc' := 16) (L' := [some (.ref a0), some (.int a1), some (.int v6), none, none, none]) (st' := [.int (nI 2), .int a1]) (sg := [(.iload_n 1, 0), (.iconst 2, nI 2)]) (lSa_ok dd6) rfl ?_
    refine Y.ic_ge (off := 7) (tgt := 23) (lIa_ok dd7) (by decide) h (fun c7 h => ?_) (fun c7 h => ?_)
    · refine Y.blk (pc' := 24) (L' := [some (.ref a0), some (.int a1), some (.int v6), none, none, none]) (st' := [.int (nI 0)]) (sg := [(.iconst 0, nI 0)]) (lSa_ok dd8) rfl ?_
      exact Y.zret rfl (lIa_ok dd9) h
    · refine Y.blk (pc' := 20) (L' := [some (.ref a0), some (.int a1), some (.int v6), none, none, none]) (st' := [.int (nI 1)]) (sg := [(.iconst 1, nI 1)]) (lSa_ok dd10) rfl ?_
      refine Y.goto (off := 4) (tgt := 24) (lIa_ok dd11) (by decide) ?_
      exact Y.zret rfl (lIa_ok dd9) h
  · refine Y.blk (pc' := 26) (L' := [some (.ref a0), some (.int a1), some (.int v6), none, none, none]) (st' := [.ref a0]) (sg := [(.aload_n 0, 0)]) (lSa_ok dd12) rfl ?_
    refine Y.getA fl_I_29 (lIa_ok dd13) h (fun v8 h => ?_)
    refine Y.blk (pc' := 30) (L' := [some (.ref a0), some (.int a1), some (.int v6), none, none, none]) (st' := [.int a1, .ref v8]) (sg := [(.iload_n 1, 0)]) (lSa_ok dd14) rfl ?_
    obtain ⟨_, o10, e9, m11, h⟩ := gOb_inv h
    refine Y.callI (yC.Vi (b := v8) (As := [.int a1]) (st := []) (r := ("Partlister$Numbers", T_N, 1)) hV.1 cb_N_read lk_I_39 in_N_read rfl se_N_read (lIa_ok dd15) rfl rfl (Nat.le_of_ble_eq_true rfl) (by decide) e9 m11) (k_N_read hV G5 v8 a1) h (fun v13 G12 _ h => ?_)
    refine Y.blk (pc' := 34) (L' := [some (.ref a0), some (.int a1), some (.int v6), none, none, none]) (st' := [.ref a0, .int v13]) (sg := [(.aload_n 0, 0)]) (lSa_ok dd16) rfl ?_
    refine Y.getA fl_I_29 (lIa_ok dd17) h (fun v14 h => ?_)
    refine Y.blk (pc' := 38) (L' := [some (.ref a0), some (.int a1), some (.int v6), none, none, none]) (st' := [.int v6, .ref v14, .int v13]) (sg := [(.iload_n 2, 0)]) (lSa_ok dd18) rfl ?_
    obtain ⟨_, o16, e15, m17, h⟩ := gOb_inv h
    refine Y.callI (yC.Vi (b := v14) (As := [.int v6]) (st := [.int v13]) (r := ("Partlister$Numbers", T_N, 1)) hV.1 cb_N_read lk_I_39 in_N_read rfl se_N_read (lIa_ok dd19) rfl rfl (Nat.le_of_ble_eq_true rfl) (by decide) e15 m17) (k_N_read hV G12 v14 v6) h (fun v19 G18 _ h => ?_)
    refine Y.blk (pc' := 45) (L' := [some (.ref a0), some (.int a1), some (.int v6), some (.int (v13 - v19)), none, none]) (st' := [.int a1, .ref a0]) (sg := [(.isub, 0), (.istore_n 3, 0), (.aload_n 0, 0), (.iload_n 1, 0)]) (lSa_ok dd20) rfl ?_
    obtain ⟨_, o21, e20, m22, h⟩ := gOb_inv h
    refine Y.callI (yC.Vi (b := a0) (As := [.int a1]) (st := []) (r := ("Partlister$Lists", T_I, 7)) hV.1 cb_I_lengthOf lk_I_59 in_I_lengthOf rfl se_I_lengthOf (lIa_ok dd21) rfl rfl (Nat.le_of_ble_eq_true rfl) (by decide) e20 m22) (k_I_lengthOf hV G18 a0 a1) h (fun v24 G23 _ h => ?_)
    refine Y.blk (pc' := 51) (L' := [some (.ref a0), some (.int a1), some (.int v6), some (.int (v13 - v19)), some (.int v24), none]) (st' := [.int (v13 - v19)]) (sg := [(.istore 4, 0), (.iload_n 3, 0)]) (lSa_ok dd22) rfl ?_
    refine Y.if_lt (off := 15) (tgt := 66) (lIa_ok dd23) (by decide) h (fun c45 h => ?_) (fun c45 h => ?_)
    · refine Y.blk (pc' := 67) (L' := [some (.ref a0), some (.int a1), some (.int v6), some (.int (v13 - v19)), some (.int v24), none]) (st' := [.int (nI 0)]) (sg := [(.iconst 0, nI 0)]) (lSa_ok dd24) rfl ?_
      exact Y.zret rfl (lIa_ok dd25) h
    · refine Y.blk (pc' := 60) (L' := [some (.ref a0), some (.int a1), some (.int v6), some (.int (v13 - v19)), some (.int v24), none]) (st' := [.int v6, .ref a0, .int ((v13 - v19) + v24)]) (sg := [(.iload_n 3, 0), (.iload 4, 0), (.iadd, 0), (.aload_n 0, 0), (.iload_n 2, 0)]) (lSa_ok dd26) rfl ?_
      obtain ⟨_, o26, e25, m27, h⟩ := gOb_inv h
      refine Y.callI (yC.Vi (b := a0) (As := [.int v6]) (st := [.int ((v13 - v19) + v24)]) (r := ("Partlister$Lists", T_I, 7)) hV.1 cb_I_lengthOf lk_I_59 in_I_lengthOf rfl se_I_lengthOf (lIa_ok dd27) rfl rfl (Nat.le_of_ble_eq_true rfl) (by decide) e25 m27) (k_I_lengthOf hV G23 a0 v6) h (fun v29 G28 _ h => ?_)
      refine Y.ic_le (off := 5) (tgt := 68) (lIa_ok dd28) (by decide) h (fun c44 h => ?_) (fun c44 h => ?_)
      · refine Y.blk (pc' := 71) (L' := [some (.ref a0), some (.int a1), some (.int v6), some (.int (v13 - v19)), some (.int v24), some (.int (nI 0))]) (st' := []) (sg := [(.iconst 0, nI 0), (.istore 5, 0)]) (lSa_ok dd29) rfl ?_
        refine k_I_liesInAbove_L71 hV _ _ ?_ ?_  zFu G28 a0 a1 v6 (v13 - v19) v24 (nI 0) h
        · intro G42 h
          refine Y.blk (pc' := 98) (L' := [none, none, none, none, none, none]) (st' := [.int (nI 0)]) (sg := [(.iconst 0, nI 0)]) (lSa_ok dd30) rfl ?_
          exact Y.zret rfl (lIa_ok dd31) h
        · intro G43 h
          refine Y.blk (pc' := 106) (L' := [none, none, none, none, none, none]) (st' := [.int (nI 1)]) (sg := [(.iconst 1, nI 1)]) (lSa_ok dd32) rfl ?_
          exact Y.zret rfl (lIa_ok dd33) h
      · refine Y.blk (pc' := 67) (L' := [some (.ref a0), some (.int a1), some (.int v6), some (.int (v13 - v19)), some (.int v24), none]) (st' := [.int (nI 0)]) (sg := [(.iconst 0, nI 0)]) (lSa_ok dd24) rfl ?_
        exact Y.zret rfl (lIa_ok dd25) h

def f_I_areSound_L44 (K66 : gH → gR) (K74 : gH → Nat → Int32 → gR) : Nat → gH → Nat → Int32 → Int32 → gR
  | 0, _, _, _, _ => none
  | n + 1, G, x0, x1, x2 =>
    if (nI 5) ≤ x2 then K74 G x0 x1
    else gOb G x0 1 fun o7 => bI (f_I_isThere G x0 x1) fun v10 G9 => if v10 = 0 then f_I_areSound_L44 K66 K74 n G9 x0 x1 (x2 + (nI 1))
      else gOb G9 x0 1 fun o12 => bI (f_I_isOrdering G9 x0 x1 x2) fun v15 G14 => if v15 = 0 then K66 G14
        else f_I_areSound_L44 K66 K74 n G14 x0 x1 (x2 + (nI 1))
def f_I_areSound_L2 (K40 : gH → gR) (K66 : gH → gR) (K80 : gH → gR) : Nat → gH → Nat → Int32 → gR
  | 0, _, _, _ => none
  | n + 1, G, x0, x1 =>
    if (nI 6) ≤ x1 then K80 G
    else gOb G x0 1 fun o2 => bI (f_I_isThere G x0 x1) fun v5 G4 => if v5 = 0 then f_I_areSound_L44 (fun G19 => K66 G19) (fun G22 x20 x21 => f_I_areSound_L2 K40 K66 K80 n G22 x20 (x21 + (nI 1))) zFu G4 x0 x1 (nI 0)
      else gOb G4 x0 1 fun o24 => bI (f_I_liesInAbove G4 x0 x1) fun v27 G26 => if v27 = 0 then K40 G26
        else gOb G26 x0 1 fun o29 => bI (f_I_isSameBackward G26 x0 x1) fun v32 G31 => if v32 = 0 then K40 G31
          else gOb G31 x0 1 fun o34 => bI (f_I_areKeysFound G31 x0 x1) fun v37 G36 => if v37 = 0 then K40 G36
            else f_I_areSound_L44 (fun G38 => K66 G38) (fun G41 x39 x40 => f_I_areSound_L2 K40 K66 K80 n G41 x39 (x40 + (nI 1))) zFu G36 x0 x1 (nI 0)
def f_I_areSound (G : gH) (a0 : Nat) : gR :=
  f_I_areSound_L2 (fun G47 => rZ (nI 0) G47) (fun G48 => rZ (nI 0) G48) (fun G49 => rZ (nI 1) G49) zFu G a0 (nI 0)
theorem k_I_areSound_L44 {l : Launch} {D : va_G} {B : Nat} {O : State → Heap → Prop} (hV : zG l D B O) {o : gO} {Gf : gH} (K66 : gH → gR) (K74 : gH → Nat → Int32 → gR) (hK66 : ∀ (G : gH), K66 G  = some (o, Gf) → Y (zVm l D B O) m_I_areSound 6 o Gf 66 [none, none, none] [] G) (hK74 : ∀ (G : gH) (x0 : Nat) (x1 : Int32), K74 G x0 x1 = some (o, Gf) → Y (zVm l D B O) m_I_areSound 6 o Gf 74 [some (.ref x0), some (.int x1), none] [] G) : ∀ (n : Nat) (G : gH) (x0 : Nat) (x1 : Int32) (x2 : Int32), f_I_areSound_L44 K66 K74 n G x0 x1 x2 = some (o, Gf) → Y (zVm l D B O) m_I_areSound 6 o Gf 44 [some (.ref x0), some (.int x1), some (.int x2)] [] G := by
  have hdd : lSa m_I_areSound 44 [(.iload_n 2, 0), (.iconst 5, nI 5)] = true ∧ lIa m_I_areSound 46 (.if_icmp .ge 28) 3 = true ∧ lSa m_I_areSound 49 [(.aload_n 0, 0), (.iload_n 1, 0)] = true ∧ lIa m_I_areSound 51 (.invokevirtual 86) 3 = true ∧ lIa m_I_areSound 54 (.ifCond .eq 14) 3 = true ∧ lSa m_I_areSound 68 [(.iinc 2 1, nI 1)] = true ∧ lIa m_I_areSound 71 (.goto (-27)) 3 = true ∧ lSa m_I_areSound 57 [(.aload_n 0, 0), (.iload_n 1, 0), (.iload_n 2, 0)] = true ∧ lIa m_I_areSound 60 (.invokevirtual 119) 3 = true ∧ lIa m_I_areSound 63 (.ifCond .ne 5) 3 = true := by decide +kernel
  refine lA8 hdd (fun dd0 dd1 dd2 dd3 dd4 dd5 dd6 dd7 hdd => ?_)
  obtain ⟨dd8, dd9⟩ := hdd
  intro n
  induction n with
  | zero => intro G x0 x1 x2 h; cases h
  | succ n ih =>
    intro G x0 x1 x2 h
    unfold f_I_areSound_L44 at h
    refine Y.blk (pc' := 46) (L' := [some (.ref x0), some (.int x1), some (.int x2)]) (st' := [.int (nI 5), .int x2]) (sg := [(.iload_n 2, 0), (.iconst 5, nI 5)]) (lSa_ok dd0) rfl ?_
    refine Y.ic_ge (off := 28) (tgt := 74) (lIa_ok dd1) (by decide) h (fun c18 h => ?_) (fun c18 h => ?_)
    · refine Y.less (L' := [some (.ref x0), some (.int x1), none]) (zLe_some (zLe_some (zLe_none (zLe_nil)))) ?_
      exact hK74 G x0 x1 h
    · refine Y.blk (pc' := 51) (L' := [some (.ref x0), some (.int x1), some (.int x2)]) (st' := [.int x1, .ref x0]) (sg := [(.aload_n 0, 0), (.iload_n 1, 0)]) (lSa_ok dd2) rfl ?_
      obtain ⟨_, o7, e6, m8, h⟩ := gOb_inv h
      refine Y.callI (yC.Vi (b := x0) (As := [.int x1]) (st := []) (r := ("Partlister$Lists", T_I, 7)) hV.1 cb_I_isThere lk_I_86 in_I_isThere rfl se_I_isThere (lIa_ok dd3) rfl rfl (Nat.le_of_ble_eq_true rfl) (by decide) e6 m8) (k_I_isThere hV G x0 x1) h (fun v10 G9 _ h => ?_)
      refine Y.if_eq (off := 14) (tgt := 68) (lIa_ok dd4) (by decide) h (fun c17 h => ?_) (fun c17 h => ?_)
      · refine Y.blk (pc' := 71) (L' := [some (.ref x0), some (.int x1), some (.int (x2 + (nI 1)))]) (st' := []) (sg := [(.iinc 2 1, nI 1)]) (lSa_ok dd5) rfl ?_
        refine Y.goto (off := -27) (tgt := 44) (lIa_ok dd6) (by decide) ?_
        exact ih G9 x0 x1 (x2 + (nI 1)) h
      · refine Y.blk (pc' := 60) (L' := [some (.ref x0), some (.int x1), some (.int x2)]) (st' := [.int x2, .int x1, .ref x0]) (sg := [(.aload_n 0, 0), (.iload_n 1, 0), (.iload_n 2, 0)]) (lSa_ok dd7) rfl ?_
        obtain ⟨_, o12, e11, m13, h⟩ := gOb_inv h
        refine Y.callI (yC.Vi (b := x0) (As := [.int x1, .int x2]) (st := []) (r := ("Partlister$Lists", T_I, 7)) hV.1 cb_I_isOrdering lk_I_119 in_I_isOrdering rfl se_I_isOrdering (lIa_ok dd8) rfl rfl (Nat.le_of_ble_eq_true rfl) (by decide) e11 m13) (k_I_isOrdering hV G9 x0 x1 x2) h (fun v15 G14 _ h => ?_)
        refine Y.if_ne (off := 5) (tgt := 68) (lIa_ok dd9) (by decide) h (fun c16 h => ?_) (fun c16 h => ?_)
        · refine Y.less (L' := [none, none, none]) (zLe_none (zLe_none (zLe_none (zLe_nil)))) ?_
          exact hK66 G14  h
        · refine Y.blk (pc' := 71) (L' := [some (.ref x0), some (.int x1), some (.int (x2 + (nI 1)))]) (st' := []) (sg := [(.iinc 2 1, nI 1)]) (lSa_ok dd5) rfl ?_
          refine Y.goto (off := -27) (tgt := 44) (lIa_ok dd6) (by decide) ?_
          exact ih G14 x0 x1 (x2 + (nI 1)) h
theorem k_I_areSound_L2 {l : Launch} {D : va_G} {B : Nat} {O : State → Heap → Prop} (hV : zG l D B O) {o : gO} {Gf : gH} (K40 : gH → gR) (K66 : gH → gR) (K80 : gH → gR) (hK40 : ∀ (G : gH), K40 G  = some (o, Gf) → Y (zVm l D B O) m_I_areSound 6 o Gf 40 [none, none, none] [] G) (hK66 : ∀ (G : gH), K66 G  = some (o, Gf) → Y (zVm l D B O) m_I_areSound 6 o Gf 66 [none, none, none] [] G) (hK80 : ∀ (G : gH), K80 G  = some (o, Gf) → Y (zVm l D B O) m_I_areSound 6 o Gf 80 [none, none, none] [] G) : ∀ (n : Nat) (G : gH) (x0 : Nat) (x1 : Int32), f_I_areSound_L2 K40 K66 K80 n G x0 x1 = some (o, Gf) → Y (zVm l D B O) m_I_areSound 6 o Gf 2 [some (.ref x0), some (.int x1), none] [] G := by
  have hdd : lSa m_I_areSound 2 [(.iload_n 1, 0), (.bipush 6, nI 6)] = true ∧ lIa m_I_areSound 5 (.if_icmp .ge 75) 3 = true ∧ lSa m_I_areSound 8 [(.aload_n 0, 0), (.iload_n 1, 0)] = true ∧ lIa m_I_areSound 10 (.invokevirtual 86) 3 = true ∧ lIa m_I_areSound 13 (.ifCond .eq 29) 3 = true ∧ lSa m_I_areSound 42 [(.iconst 0, nI 0), (.istore_n 2, 0)] = true ∧ lSa m_I_areSound 74 [(.iinc 1 1, nI 1)] = true ∧ lIa m_I_areSound 77 (.goto (-75)) 3 = true ∧ lSa m_I_areSound 16 [(.aload_n 0, 0), (.iload_n 1, 0)] = true ∧ lIa m_I_areSound 18 (.invokevirtual 110) 3 = true ∧ lIa m_I_areSound 21 (.ifCond .eq 19) 3 = true ∧ lSa m_I_areSound 24 [(.aload_n 0, 0), (.iload_n 1, 0)] = true ∧ lIa m_I_areSound 26 (.invokevirtual 113) 3 = true ∧ lIa m_I_areSound 29 (.ifCond .eq 11) 3 = true ∧ lSa m_I_areSound 32 [(.aload_n 0, 0), (.iload_n 1, 0)] = true ∧ lIa m_I_areSound 34 (.invokevirtual 116) 3 = true ∧ lIa m_I_areSound 37 (.ifCond .ne 5) 3 = true := by decide +kernel
  refine lA8 hdd (fun dd0 dd1 dd2 dd3 dd4 dd5 dd6 dd7 hdd => ?_)
  refine lA8 hdd (fun dd8 dd9 dd10 dd11 dd12 dd13 dd14 dd15 hdd => ?_)
  have dd16 := hdd
  intro n
  induction n with
  | zero => intro G x0 x1 h; cases h
  | succ n ih =>
    intro G x0 x1 h
    unfold f_I_areSound_L2 at h
    refine Y.blk (pc' := 5) (L' := [some (.ref x0), some (.int x1), none]) (st' := [.int (nI 6), .int x1]) (sg := [(.iload_n 1, 0), (.bipush 6, nI 6)]) (lSa_ok dd0) rfl ?_
    refine Y.ic_ge (off := 75) (tgt := 80) (lIa_ok dd1) (by decide) h (fun c46 h => ?_) (fun c46 h => ?_)
    · refine Y.less (L' := [none, none, none]) (zLe_none (zLe_none (zLe_some (zLe_nil)))) ?_
      exact hK80 G  h
    · refine Y.blk (pc' := 10) (L' := [some (.ref x0), some (.int x1), none]) (st' := [.int x1, .ref x0]) (sg := [(.aload_n 0, 0), (.iload_n 1, 0)]) (lSa_ok dd2) rfl ?_
      obtain ⟨_, o2, e1, m3, h⟩ := gOb_inv h
      refine Y.callI (yC.Vi (b := x0) (As := [.int x1]) (st := []) (r := ("Partlister$Lists", T_I, 7)) hV.1 cb_I_isThere lk_I_86 in_I_isThere rfl se_I_isThere (lIa_ok dd3) rfl rfl (Nat.le_of_ble_eq_true rfl) (by decide) e1 m3) (k_I_isThere hV G x0 x1) h (fun v5 G4 _ h => ?_)
      refine Y.if_eq (off := 29) (tgt := 42) (lIa_ok dd4) (by decide) h (fun c45 h => ?_) (fun c45 h => ?_)
      · refine Y.blk (pc' := 44) (L' := [some (.ref x0), some (.int x1), some (.int (nI 0))]) (st' := []) (sg := [(.iconst 0, nI 0), (.istore_n 2, 0)]) (lSa_ok dd5) rfl ?_
        refine k_I_areSound_L44 hV _ _ ?_ ?_  zFu G4 x0 x1 (nI 0) h
        · intro G19 h
          exact hK66 G19  h
        · intro G22 x20 x21 h
          refine Y.blk (pc' := 77) (L' := [some (.ref x20), some (.int (x21 + (nI 1))), none]) (st' := []) (sg := [(.iinc 1 1, nI 1)]) (lSa_ok dd6) rfl ?_
          refine Y.goto (off := -75) (tgt := 2) (lIa_ok dd7) (by decide) ?_
          exact ih G22 x20 (x21 + (nI 1)) h
      · refine Y.blk (pc' := 18) (L' := [some (.ref x0), some (.int x1), none]) (st' := [.int x1, .ref x0]) (sg := [(.aload_n 0, 0), (.iload_n 1, 0)]) (lSa_ok dd8) rfl ?_
        obtain ⟨_, o24, e23, m25, h⟩ := gOb_inv h
        refine Y.callI (yC.Vi (b := x0) (As := [.int x1]) (st := []) (r := ("Partlister$Lists", T_I, 7)) hV.1 cb_I_liesInAbove lk_I_110 in_I_liesInAbove rfl se_I_liesInAbove (lIa_ok dd9) rfl rfl (Nat.le_of_ble_eq_true rfl) (by decide) e23 m25) (k_I_liesInAbove hV G4 x0 x1) h (fun v27 G26 _ h => ?_)
        refine Y.if_eq (off := 19) (tgt := 40) (lIa_ok dd10) (by decide) h (fun c44 h => ?_) (fun c44 h => ?_)
        · refine Y.less (L' := [none, none, none]) (zLe_none (zLe_none (zLe_some (zLe_nil)))) ?_
          exact hK40 G26  h
        · refine Y.blk (pc' := 26) (L' := [some (.ref x0), some (.int x1), none]) (st' := [.int x1, .ref x0]) (sg := [(.aload_n 0, 0), (.iload_n 1, 0)]) (lSa_ok dd11) rfl ?_
          obtain ⟨_, o29, e28, m30, h⟩ := gOb_inv h
          refine Y.callI (yC.Vi (b := x0) (As := [.int x1]) (st := []) (r := ("Partlister$Lists", T_I, 7)) hV.1 cb_I_isSameBackward lk_I_113 in_I_isSameBackward rfl se_I_isSameBackward (lIa_ok dd12) rfl rfl (Nat.le_of_ble_eq_true rfl) (by decide) e28 m30) (k_I_isSameBackward hV G26 x0 x1) h (fun v32 G31 _ h => ?_)
          refine Y.if_eq (off := 11) (tgt := 40) (lIa_ok dd13) (by decide) h (fun c43 h => ?_) (fun c43 h => ?_)
          · refine Y.less (L' := [none, none, none]) (zLe_none (zLe_none (zLe_some (zLe_nil)))) ?_
            exact hK40 G31  h
          · refine Y.blk (pc' := 34) (L' := [some (.ref x0), some (.int x1), none]) (st' := [.int x1, .ref x0]) (sg := [(.aload_n 0, 0), (.iload_n 1, 0)]) (lSa_ok dd14) rfl ?_
            obtain ⟨_, o34, e33, m35, h⟩ := gOb_inv h
            refine Y.callI (yC.Vi (b := x0) (As := [.int x1]) (st := []) (r := ("Partlister$Lists", T_I, 7)) hV.1 cb_I_areKeysFound lk_I_116 in_I_areKeysFound rfl se_I_areKeysFound (lIa_ok dd15) rfl rfl (Nat.le_of_ble_eq_true rfl) (by decide) e33 m35) (k_I_areKeysFound hV G31 x0 x1) h (fun v37 G36 _ h => ?_)
            refine Y.if_ne (off := 5) (tgt := 42) (lIa_ok dd16) (by decide) h (fun c42 h => ?_) (fun c42 h => ?_)
            · refine Y.less (L' := [none, none, none]) (zLe_none (zLe_none (zLe_some (zLe_nil)))) ?_
              exact hK40 G36  h
            · refine Y.blk (pc' := 44) (L' := [some (.ref x0), some (.int x1), some (.int (nI 0))]) (st' := []) (sg := [(.iconst 0, nI 0), (.istore_n 2, 0)]) (lSa_ok dd5) rfl ?_
              refine k_I_areSound_L44 hV _ _ ?_ ?_  zFu G36 x0 x1 (nI 0) h
              · intro G38 h
                exact hK66 G38  h
              · intro G41 x39 x40 h
                refine Y.blk (pc' := 77) (L' := [some (.ref x39), some (.int (x40 + (nI 1))), none]) (st' := []) (sg := [(.iinc 1 1, nI 1)]) (lSa_ok dd6) rfl ?_
                refine Y.goto (off := -75) (tgt := 2) (lIa_ok dd7) (by decide) ?_
                exact ih G41 x39 (x40 + (nI 1)) h
theorem k_I_areSound {l : Launch} {D : va_G} {B : Nat} {O : State → Heap → Prop} (hV : zG l D B O) (G : gH) (a0 : Nat) : gMet (zVm l D B O) m_I_areSound 6 [.ref a0] G (f_I_areSound G a0) := by
  have hdd : lSa m_I_areSound 0 [(.iconst 0, nI 0), (.istore_n 1, 0)] = true ∧ lSa m_I_areSound 40 [(.iconst 0, nI 0)] = true ∧ lIa m_I_areSound 41 (.ireturn) 1 = true ∧ lSa m_I_areSound 66 [(.iconst 0, nI 0)] = true ∧ lIa m_I_areSound 67 (.ireturn) 1 = true ∧ lSa m_I_areSound 80 [(.iconst 1, nI 1)] = true ∧ lIa m_I_areSound 81 (.ireturn) 1 = true := by decide +kernel
  obtain ⟨dd0, dd1, dd2, dd3, dd4, dd5, dd6⟩ := hdd
  refine gMet.of (by decide +kernel) (Nat.le_of_ble_eq_true rfl) [some (.ref a0), none, none] (fun ls h => zEn_ok (n := 3) h) ?_
  intro o Gf h
  unfold f_I_areSound at h
  refine Y.blk (pc' := 2) (L' := [some (.ref a0), some (.int (nI 0)), none]) (st' := []) (sg := [(.iconst 0, nI 0), (.istore_n 1, 0)]) (lSa_ok dd0) rfl ?_
  refine k_I_areSound_L2 hV _ _ _ ?_ ?_ ?_  zFu G a0 (nI 0) h
  · intro G47 h
    refine Y.blk (pc' := 41) (L' := [none, none, none]) (st' := [.int (nI 0)]) (sg := [(.iconst 0, nI 0)]) (lSa_ok dd1) rfl ?_
    exact Y.zret rfl (lIa_ok dd2) h
  · intro G48 h
    refine Y.blk (pc' := 67) (L' := [none, none, none]) (st' := [.int (nI 0)]) (sg := [(.iconst 0, nI 0)]) (lSa_ok dd3) rfl ?_
    exact Y.zret rfl (lIa_ok dd4) h
  · intro G49 h
    refine Y.blk (pc' := 81) (L' := [none, none, none]) (st' := [.int (nI 1)]) (sg := [(.iconst 1, nI 1)]) (lSa_ok dd5) rfl ?_
    exact Y.zret rfl (lIa_ok dd6) h

def f_X_digest_L6 (K29 : gH → Nat → Int64 → gR) : Nat → gH → Nat → Int64 → Int32 → gR
  | 0, _, _, _, _ => none
  | n + 1, G, x0, x1, x3 =>
    if (nI 8) ≤ x3 then K29 G x0 x1
    else gOb G x0 3 fun o2 => bI (f_X_worthOfHouse G x0 x3) fun v5 G4 => bL (f_X_mix G4 x1 v5.toInt64) fun v8 G7 => f_X_digest_L6 K29 n G7 x0 v8 (x3 + (nI 1))
def f_X_digest_L31 (K75 : gH → Nat → Int64 → gR) : Nat → gH → Nat → Int64 → Int32 → gR
  | 0, _, _, _, _ => none
  | n + 1, G, x0, x1, x3 =>
    if (nI 6) ≤ x3 then K75 G x0 x1
    else gFA G x0 3 0 fun v13 => gOb G v13 1 fun o15 => bI (f_I_lengthOf G v13 x3) fun v18 G17 => bL (f_X_mix G17 x1 v18.toInt64) fun v21 G20 => gFA G20 x0 3 0 fun v22 => gOb G20 v22 1 fun o24 => bI (f_I_isThere G20 v22 x3) fun v27 G26 => if v27 = 0 then f_X_digest_L31 K75 n G26 x0 v21 (x3 + (nI 1))
      else gOb G26 x0 3 fun o29 => bL (f_X_mixList G26 x0 v21 x3) fun v32 G31 => f_X_digest_L31 K75 n G31 x0 v32 (x3 + (nI 1))
def f_X_digest_L86 (K131 : gH → Nat → Int64 → Int32 → gR) : Nat → gH → Nat → Int64 → Int32 → Int32 → gR
  | 0, _, _, _, _, _ => none
  | n + 1, G, x0, x1, x3, x4 =>
    if (nI 6) ≤ x4 then K131 G x0 x1 x3
    else gFA G x0 3 0 fun v38 => gOb G v38 1 fun o40 => bI (f_I_isThere G v38 x3) fun v43 G42 => if v43 = 0 then f_X_digest_L86 K131 n G42 x0 x1 x3 (x4 + (nI 1))
      else gFA G42 x0 3 0 fun v44 => gOb G42 v44 1 fun o46 => bI (f_I_isThere G42 v44 x4) fun v49 G48 => if v49 = 0 then f_X_digest_L86 K131 n G48 x0 x1 x3 (x4 + (nI 1))
        else gOb G48 x0 3 fun o51 => bL (f_X_mixPair G48 x0 x1 x3 x4) fun v54 G53 => f_X_digest_L86 K131 n G53 x0 v54 x3 (x4 + (nI 1))
def f_X_digest_L77 (K137 : gH → Nat → Int64 → gR) : Nat → gH → Nat → Int64 → Int32 → gR
  | 0, _, _, _, _ => none
  | n + 1, G, x0, x1, x3 =>
    if (nI 6) ≤ x3 then K137 G x0 x1
    else f_X_digest_L86 (fun G61 x58 x59 x60 => f_X_digest_L77 K137 n G61 x58 x59 (x60 + (nI 1))) zFu G x0 x1 x3 (nI 0)
def f_X_digest_L147 (K173 : gH → Nat → Int64 → Int32 → gR) : Nat → gH → Nat → Int64 → Int32 → Int32 → gR
  | 0, _, _, _, _, _ => none
  | n + 1, G, x0, x1, x3, x4 =>
    if (nI 7) ≤ x4 then K173 G x0 x1 x3
    else gOb G x0 3 fun o67 => bI (f_X_worthOfCursor G x0 x3 x4) fun v70 G69 => bL (f_X_mix G69 x1 v70.toInt64) fun v73 G72 => f_X_digest_L147 K173 n G72 x0 v73 x3 (x4 + (nI 1))
def f_X_digest_L139 (K179 : gH → Nat → Int64 → gR) : Nat → gH → Nat → Int64 → Int32 → gR
  | 0, _, _, _, _ => none
  | n + 1, G, x0, x1, x3 =>
    if (nI 3) ≤ x3 then K179 G x0 x1
    else f_X_digest_L147 (fun G78 x75 x76 x77 => f_X_digest_L139 K179 n G78 x75 x76 (x77 + (nI 1))) zFu G x0 x1 x3 (nI 0)
def f_X_digest (G : gH) (a0 : Nat) : gR :=
  f_X_digest_L6 (fun G12 x10 x11 => f_X_digest_L31 (fun G37 x35 x36 => f_X_digest_L77 (fun G65 x63 x64 => f_X_digest_L139 (fun G82 x80 x81 => gFA G82 x80 3 0 fun v83 => gOb G82 v83 1 fun o85 => bI (f_I_areSound G82 v83) fun v88 G87 => if v88 = 0 then bL (f_X_mix G87 x81 (lN 0)) fun v91 G90 => rL v91 G90
          else bL (f_X_mix G87 x81 (lN 1)) fun v94 G93 => rL v94 G93) zFu G65 x63 x64 (nI 0)) zFu G37 x35 x36 (nI 0)) zFu G12 x10 x11 (nI 0)) zFu G a0 (lN 2203) (nI 0)
theorem k_X_digest_L6 {l : Launch} {D : va_G} {B : Nat} {O : State → Heap → Prop} (hV : zG l D B O) {o : gO} {Gf : gH} (K29 : gH → Nat → Int64 → gR) (hK29 : ∀ (G : gH) (x0 : Nat) (x1 : Int64), K29 G x0 x1 = some (o, Gf) → Y (zVm l D B O) m_X_digest 7 o Gf 29 [some (.ref x0), some (.long x1), none, none, none] [] G) : ∀ (n : Nat) (G : gH) (x0 : Nat) (x1 : Int64) (x3 : Int32), f_X_digest_L6 K29 n G x0 x1 x3 = some (o, Gf) → Y (zVm l D B O) m_X_digest 7 o Gf 6 [some (.ref x0), some (.long x1), none, some (.int x3), none] [] G := by
  have hdd : lSa m_X_digest 6 [(.iload_n 3, 0), (.bipush 8, nI 8)] = true ∧ lIa m_X_digest 9 (.if_icmp .ge 20) 3 = true ∧ lSa m_X_digest 12 [(.lload_n 1, 0), (.aload_n 0, 0), (.iload_n 3, 0)] = true ∧ lIa m_X_digest 15 (.invokevirtual 250) 3 = true ∧ lSa m_X_digest 18 [(.i2l, 0)] = true ∧ lIa m_X_digest 19 (.invokestatic 263) 3 = true ∧ lSa m_X_digest 22 [(.lstore_n 1, 0), (.iinc 3 1, nI 1)] = true ∧ lIa m_X_digest 26 (.goto (-20)) 3 = true := by decide +kernel
  obtain ⟨dd0, dd1, dd2, dd3, dd4, dd5, dd6, dd7⟩ := hdd
  intro n
  induction n with
  | zero => intro G x0 x1 x3 h; cases h
  | succ n ih =>
    intro G x0 x1 x3 h
    unfold f_X_digest_L6 at h
    refine Y.blk (pc' := 9) (L' := [some (.ref x0), some (.long x1), none, some (.int x3), none]) (st' := [.int (nI 8), .int x3]) (sg := [(.iload_n 3, 0), (.bipush 8, nI 8)]) (lSa_ok dd0) rfl ?_
    refine Y.ic_ge (off := 20) (tgt := 29) (lIa_ok dd1) (by decide) h (fun c9 h => ?_) (fun c9 h => ?_)
    · refine Y.less (L' := [some (.ref x0), some (.long x1), none, none, none]) (zLe_some (zLe_some (zLe_some (zLe_none (zLe_some (zLe_nil)))))) ?_
      exact hK29 G x0 x1 h
    · refine Y.blk (pc' := 15) (L' := [some (.ref x0), some (.long x1), none, some (.int x3), none]) (st' := [.int x3, .ref x0, .long x1]) (sg := [(.lload_n 1, 0), (.aload_n 0, 0), (.iload_n 3, 0)]) (lSa_ok dd2) rfl ?_
      obtain ⟨_, o2, e1, m3, h⟩ := gOb_inv h
      refine Y.callI (yC.Vi (b := x0) (As := [.int x3]) (st := [.long x1]) (r := ("Partlister", T_X, 5)) hV.1 cb_X_worthOfHouse lk_X_250 in_X_worthOfHouse rfl se_X_worthOfHouse (lIa_ok dd3) rfl rfl (Nat.le_of_ble_eq_true rfl) (by decide) e1 m3) (k_X_worthOfHouse hV G x0 x3) h (fun v5 G4 _ h => ?_)
      refine Y.blk (pc' := 19) (L' := [some (.ref x0), some (.long x1), none, some (.int x3), none]) (st' := [.long v5.toInt64, .long x1]) (sg := [(.i2l, 0)]) (lSa_ok dd4) rfl ?_
      refine Y.callL (yC.S (As := [.long x1, .long v5.toInt64]) (st := []) hV.1 cb_X_mix lk_X_263 st_X_mix (lIa_ok dd5) rfl rfl (Nat.le_of_ble_eq_true rfl) (by decide)) (k_X_mix hV G4 x1 v5.toInt64) h (fun v8 G7 _ h => ?_)
      refine Y.blk (pc' := 26) (L' := [some (.ref x0), some (.long v8), none, some (.int (x3 + (nI 1))), none]) (st' := []) (sg := [(.lstore_n 1, 0), (.iinc 3 1, nI 1)]) (lSa_ok dd6) rfl ?_
      refine Y.goto (off := -20) (tgt := 6) (lIa_ok dd7) (by decide) ?_
      exact ih G7 x0 v8 (x3 + (nI 1)) h
theorem k_X_digest_L31 {l : Launch} {D : va_G} {B : Nat} {O : State → Heap → Prop} (hV : zG l D B O) {o : gO} {Gf : gH} (K75 : gH → Nat → Int64 → gR) (hK75 : ∀ (G : gH) (x0 : Nat) (x1 : Int64), K75 G x0 x1 = some (o, Gf) → Y (zVm l D B O) m_X_digest 7 o Gf 75 [some (.ref x0), some (.long x1), none, none, none] [] G) : ∀ (n : Nat) (G : gH) (x0 : Nat) (x1 : Int64) (x3 : Int32), f_X_digest_L31 K75 n G x0 x1 x3 = some (o, Gf) → Y (zVm l D B O) m_X_digest 7 o Gf 31 [some (.ref x0), some (.long x1), none, some (.int x3), none] [] G := by
  have hdd : lSa m_X_digest 31 [(.iload_n 3, 0), (.bipush 6, nI 6)] = true ∧ lIa m_X_digest 34 (.if_icmp .ge 41) 3 = true ∧ lSa m_X_digest 37 [(.lload_n 1, 0), (.aload_n 0, 0)] = true ∧ lIa m_X_digest 39 (.getfield 10) 3 = true ∧ lSa m_X_digest 42 [(.iload_n 3, 0)] = true ∧ lIa m_X_digest 43 (.invokevirtual 34) 3 = true ∧ lSa m_X_digest 46 [(.i2l, 0)] = true ∧ lIa m_X_digest 47 (.invokestatic 263) 3 = true ∧ lSa m_X_digest 50 [(.lstore_n 1, 0), (.aload_n 0, 0)] = true ∧ lIa m_X_digest 52 (.getfield 10) 3 = true ∧ lSa m_X_digest 55 [(.iload_n 3, 0)] = true ∧ lIa m_X_digest 56 (.invokevirtual 155) 3 = true ∧ lIa m_X_digest 59 (.ifCond .eq 10) 3 = true ∧ lSa m_X_digest 69 [(.iinc 3 1, nI 1)] = true ∧ lIa m_X_digest 72 (.goto (-41)) 3 = true ∧ lSa m_X_digest 62 [(.aload_n 0, 0), (.lload_n 1, 0), (.iload_n 3, 0)] = true ∧ lIa m_X_digest 65 (.invokevirtual 267) 3 = true ∧ lSa m_X_digest 68 [(.lstore_n 1, 0), (.iinc 3 1, nI 1)] = true := by decide +kernel
  refine lA8 hdd (fun dd0 dd1 dd2 dd3 dd4 dd5 dd6 dd7 hdd => ?_)
  refine lA8 hdd (fun dd8 dd9 dd10 dd11 dd12 dd13 dd14 dd15 hdd => ?_)
  obtain ⟨dd16, dd17⟩ := hdd
  intro n
  induction n with
  | zero => intro G x0 x1 x3 h; cases h
  | succ n ih =>
    intro G x0 x1 x3 h
    unfold f_X_digest_L31 at h
    refine Y.blk (pc' := 34) (L' := [some (.ref x0), some (.long x1), none, some (.int x3), none]) (st' := [.int (nI 6), .int x3]) (sg := [(.iload_n 3, 0), (.bipush 6, nI 6)]) (lSa_ok dd0) rfl ?_
    refine Y.ic_ge (off := 41) (tgt := 75) (lIa_ok dd1) (by decide) h (fun c34 h => ?_) (fun c34 h => ?_)
    · refine Y.less (L' := [some (.ref x0), some (.long x1), none, none, none]) (zLe_some (zLe_some (zLe_some (zLe_none (zLe_some (zLe_nil)))))) ?_
      exact hK75 G x0 x1 h
    · refine Y.blk (pc' := 39) (L' := [some (.ref x0), some (.long x1), none, some (.int x3), none]) (st' := [.ref x0, .long x1]) (sg := [(.lload_n 1, 0), (.aload_n 0, 0)]) (lSa_ok dd2) rfl ?_
      refine Y.getA fl_X_10 (lIa_ok dd3) h (fun v13 h => ?_)
      refine Y.blk (pc' := 43) (L' := [some (.ref x0), some (.long x1), none, some (.int x3), none]) (st' := [.int x3, .ref v13, .long x1]) (sg := [(.iload_n 3, 0)]) (lSa_ok dd4) rfl ?_
      obtain ⟨_, o15, e14, m16, h⟩ := gOb_inv h
      refine Y.callI (yC.Vi (b := v13) (As := [.int x3]) (st := [.long x1]) (r := ("Partlister$Lists", T_I, 7)) hV.1 cb_I_lengthOf lk_X_34 in_I_lengthOf rfl se_I_lengthOf (lIa_ok dd5) rfl rfl (Nat.le_of_ble_eq_true rfl) (by decide) e14 m16) (k_I_lengthOf hV G v13 x3) h (fun v18 G17 _ h => ?_)
      refine Y.blk (pc' := 47) (L' := [some (.ref x0), some (.long x1), none, some (.int x3), none]) (st' := [.long v18.toInt64, .long x1]) (sg := [(.i2l, 0)]) (lSa_ok dd6) rfl ?_
      refine Y.callL (yC.S (As := [.long x1, .long v18.toInt64]) (st := []) hV.1 cb_X_mix lk_X_263 st_X_mix (lIa_ok dd7) rfl rfl (Nat.le_of_ble_eq_true rfl) (by decide)) (k_X_mix hV G17 x1 v18.toInt64) h (fun v21 G20 _ h => ?_)
      refine Y.blk (pc' := 52) (L' := [some (.ref x0), some (.long v21), none, some (.int x3), none]) (st' := [.ref x0]) (sg := [(.lstore_n 1, 0), (.aload_n 0, 0)]) (lSa_ok dd8) rfl ?_
      refine Y.getA fl_X_10 (lIa_ok dd9) h (fun v22 h => ?_)
      refine Y.blk (pc' := 56) (L' := [some (.ref x0), some (.long v21), none, some (.int x3), none]) (st' := [.int x3, .ref v22]) (sg := [(.iload_n 3, 0)]) (lSa_ok dd10) rfl ?_
      obtain ⟨_, o24, e23, m25, h⟩ := gOb_inv h
      refine Y.callI (yC.Vi (b := v22) (As := [.int x3]) (st := []) (r := ("Partlister$Lists", T_I, 7)) hV.1 cb_I_isThere lk_X_155 in_I_isThere rfl se_I_isThere (lIa_ok dd11) rfl rfl (Nat.le_of_ble_eq_true rfl) (by decide) e23 m25) (k_I_isThere hV G20 v22 x3) h (fun v27 G26 _ h => ?_)
      refine Y.if_eq (off := 10) (tgt := 69) (lIa_ok dd12) (by decide) h (fun c33 h => ?_) (fun c33 h => ?_)
      · refine Y.blk (pc' := 72) (L' := [some (.ref x0), some (.long v21), none, some (.int (x3 + (nI 1))), none]) (st' := []) (sg := [(.iinc 3 1, nI 1)]) (lSa_ok dd13) rfl ?_
        refine Y.goto (off := -41) (tgt := 31) (lIa_ok dd14) (by decide) ?_
        exact ih G26 x0 v21 (x3 + (nI 1)) h
      · refine Y.blk (pc' := 65) (L' := [some (.ref x0), some (.long v21), none, some (.int x3), none]) (st' := [.int x3, .long v21, .ref x0]) (sg := [(.aload_n 0, 0), (.lload_n 1, 0), (.iload_n 3, 0)]) (lSa_ok dd15) rfl ?_
        obtain ⟨_, o29, e28, m30, h⟩ := gOb_inv h
        refine Y.callL (yC.Vi (b := x0) (As := [.long v21, .int x3]) (st := []) (r := ("Partlister", T_X, 5)) hV.1 cb_X_mixList lk_X_267 in_X_mixList rfl se_X_mixList (lIa_ok dd16) rfl rfl (Nat.le_of_ble_eq_true rfl) (by decide) e28 m30) (k_X_mixList hV G26 x0 v21 x3) h (fun v32 G31 _ h => ?_)
        refine Y.blk (pc' := 72) (L' := [some (.ref x0), some (.long v32), none, some (.int (x3 + (nI 1))), none]) (st' := []) (sg := [(.lstore_n 1, 0), (.iinc 3 1, nI 1)]) (lSa_ok dd17) rfl ?_
        refine Y.goto (off := -41) (tgt := 31) (lIa_ok dd14) (by decide) ?_
        exact ih G31 x0 v32 (x3 + (nI 1)) h
theorem k_X_digest_L86 {l : Launch} {D : va_G} {B : Nat} {O : State → Heap → Prop} (hV : zG l D B O) {o : gO} {Gf : gH} (K131 : gH → Nat → Int64 → Int32 → gR) (hK131 : ∀ (G : gH) (x0 : Nat) (x1 : Int64) (x3 : Int32), K131 G x0 x1 x3 = some (o, Gf) → Y (zVm l D B O) m_X_digest 7 o Gf 131 [some (.ref x0), some (.long x1), none, some (.int x3), none] [] G) : ∀ (n : Nat) (G : gH) (x0 : Nat) (x1 : Int64) (x3 : Int32) (x4 : Int32), f_X_digest_L86 K131 n G x0 x1 x3 x4 = some (o, Gf) → Y (zVm l D B O) m_X_digest 7 o Gf 86 [some (.ref x0), some (.long x1), none, some (.int x3), some (.int x4)] [] G := by
  have hdd : lSa m_X_digest 86 [(.iload 4, 0), (.bipush 6, nI 6)] = true ∧ lIa m_X_digest 90 (.if_icmp .ge 41) 3 = true ∧ lSa m_X_digest 93 [(.aload_n 0, 0)] = true ∧ lIa m_X_digest 94 (.getfield 10) 3 = true ∧ lSa m_X_digest 97 [(.iload_n 3, 0)] = true ∧ lIa m_X_digest 98 (.invokevirtual 155) 3 = true ∧ lIa m_X_digest 101 (.ifCond .eq 24) 3 = true ∧ lSa m_X_digest 125 [(.iinc 4 1, nI 1)] = true ∧ lIa m_X_digest 128 (.goto (-42)) 3 = true ∧ lSa m_X_digest 104 [(.aload_n 0, 0)] = true ∧ lIa m_X_digest 105 (.getfield 10) 3 = true ∧ lSa m_X_digest 108 [(.iload 4, 0)] = true ∧ lIa m_X_digest 110 (.invokevirtual 155) 3 = true ∧ lIa m_X_digest 113 (.ifCond .eq 12) 3 = true ∧ lSa m_X_digest 116 [(.aload_n 0, 0), (.lload_n 1, 0), (.iload_n 3, 0), (.iload 4, 0)] = true ∧ lIa m_X_digest 121 (.invokevirtual 271) 3 = true ∧ lSa m_X_digest 124 [(.lstore_n 1, 0), (.iinc 4 1, nI 1)] = true := by decide +kernel
  refine lA8 hdd (fun dd0 dd1 dd2 dd3 dd4 dd5 dd6 dd7 hdd => ?_)
  refine lA8 hdd (fun dd8 dd9 dd10 dd11 dd12 dd13 dd14 dd15 hdd => ?_)
  have dd16 := hdd
  intro n
  induction n with
  | zero => intro G x0 x1 x3 x4 h; cases h
  | succ n ih =>
    intro G x0 x1 x3 x4 h
    unfold f_X_digest_L86 at h
    refine Y.blk (pc' := 90) (L' := [some (.ref x0), some (.long x1), none, some (.int x3), some (.int x4)]) (st' := [.int (nI 6), .int x4]) (sg := [(.iload 4, 0), (.bipush 6, nI 6)]) (lSa_ok dd0) rfl ?_
    refine Y.ic_ge (off := 41) (tgt := 131) (lIa_ok dd1) (by decide) h (fun c57 h => ?_) (fun c57 h => ?_)
    · refine Y.less (L' := [some (.ref x0), some (.long x1), none, some (.int x3), none]) (zLe_some (zLe_some (zLe_some (zLe_some (zLe_none (zLe_nil)))))) ?_
      exact hK131 G x0 x1 x3 h
    · refine Y.blk (pc' := 94) (L' := [some (.ref x0), some (.long x1), none, some (.int x3), some (.int x4)]) (st' := [.ref x0]) (sg := [(.aload_n 0, 0)]) (lSa_ok dd2) rfl ?_
      refine Y.getA fl_X_10 (lIa_ok dd3) h (fun v38 h => ?_)
      refine Y.blk (pc' := 98) (L' := [some (.ref x0), some (.long x1), none, some (.int x3), some (.int x4)]) (st' := [.int x3, .ref v38]) (sg := [(.iload_n 3, 0)]) (lSa_ok dd4) rfl ?_
      obtain ⟨_, o40, e39, m41, h⟩ := gOb_inv h
      refine Y.callI (yC.Vi (b := v38) (As := [.int x3]) (st := []) (r := ("Partlister$Lists", T_I, 7)) hV.1 cb_I_isThere lk_X_155 in_I_isThere rfl se_I_isThere (lIa_ok dd5) rfl rfl (Nat.le_of_ble_eq_true rfl) (by decide) e39 m41) (k_I_isThere hV G v38 x3) h (fun v43 G42 _ h => ?_)
      refine Y.if_eq (off := 24) (tgt := 125) (lIa_ok dd6) (by decide) h (fun c56 h => ?_) (fun c56 h => ?_)
      · refine Y.blk (pc' := 128) (L' := [some (.ref x0), some (.long x1), none, some (.int x3), some (.int (x4 + (nI 1)))]) (st' := []) (sg := [(.iinc 4 1, nI 1)]) (lSa_ok dd7) rfl ?_
        refine Y.goto (off := -42) (tgt := 86) (lIa_ok dd8) (by decide) ?_
        exact ih G42 x0 x1 x3 (x4 + (nI 1)) h
      · refine Y.blk (pc' := 105) (L' := [some (.ref x0), some (.long x1), none, some (.int x3), some (.int x4)]) (st' := [.ref x0]) (sg := [(.aload_n 0, 0)]) (lSa_ok dd9) rfl ?_
        refine Y.getA fl_X_10 (lIa_ok dd10) h (fun v44 h => ?_)
        refine Y.blk (pc' := 110) (L' := [some (.ref x0), some (.long x1), none, some (.int x3), some (.int x4)]) (st' := [.int x4, .ref v44]) (sg := [(.iload 4, 0)]) (lSa_ok dd11) rfl ?_
        obtain ⟨_, o46, e45, m47, h⟩ := gOb_inv h
        refine Y.callI (yC.Vi (b := v44) (As := [.int x4]) (st := []) (r := ("Partlister$Lists", T_I, 7)) hV.1 cb_I_isThere lk_X_155 in_I_isThere rfl se_I_isThere (lIa_ok dd12) rfl rfl (Nat.le_of_ble_eq_true rfl) (by decide) e45 m47) (k_I_isThere hV G42 v44 x4) h (fun v49 G48 _ h => ?_)
        refine Y.if_eq (off := 12) (tgt := 125) (lIa_ok dd13) (by decide) h (fun c55 h => ?_) (fun c55 h => ?_)
        · refine Y.blk (pc' := 128) (L' := [some (.ref x0), some (.long x1), none, some (.int x3), some (.int (x4 + (nI 1)))]) (st' := []) (sg := [(.iinc 4 1, nI 1)]) (lSa_ok dd7) rfl ?_
          refine Y.goto (off := -42) (tgt := 86) (lIa_ok dd8) (by decide) ?_
          exact ih G48 x0 x1 x3 (x4 + (nI 1)) h
        · refine Y.blk (pc' := 121) (L' := [some (.ref x0), some (.long x1), none, some (.int x3), some (.int x4)]) (st' := [.int x4, .int x3, .long x1, .ref x0]) (sg := [(.aload_n 0, 0), (.lload_n 1, 0), (.iload_n 3, 0), (.iload 4, 0)]) (lSa_ok dd14) rfl ?_
          obtain ⟨_, o51, e50, m52, h⟩ := gOb_inv h
          refine Y.callL (yC.Vi (b := x0) (As := [.long x1, .int x3, .int x4]) (st := []) (r := ("Partlister", T_X, 5)) hV.1 cb_X_mixPair lk_X_271 in_X_mixPair rfl se_X_mixPair (lIa_ok dd15) rfl rfl (Nat.le_of_ble_eq_true rfl) (by decide) e50 m52) (k_X_mixPair hV G48 x0 x1 x3 x4) h (fun v54 G53 _ h => ?_)
          refine Y.blk (pc' := 128) (L' := [some (.ref x0), some (.long v54), none, some (.int x3), some (.int (x4 + (nI 1)))]) (st' := []) (sg := [(.lstore_n 1, 0), (.iinc 4 1, nI 1)]) (lSa_ok dd16) rfl ?_
          refine Y.goto (off := -42) (tgt := 86) (lIa_ok dd8) (by decide) ?_
          exact ih G53 x0 v54 x3 (x4 + (nI 1)) h
theorem k_X_digest_L77 {l : Launch} {D : va_G} {B : Nat} {O : State → Heap → Prop} (hV : zG l D B O) {o : gO} {Gf : gH} (K137 : gH → Nat → Int64 → gR) (hK137 : ∀ (G : gH) (x0 : Nat) (x1 : Int64), K137 G x0 x1 = some (o, Gf) → Y (zVm l D B O) m_X_digest 7 o Gf 137 [some (.ref x0), some (.long x1), none, none, none] [] G) : ∀ (n : Nat) (G : gH) (x0 : Nat) (x1 : Int64) (x3 : Int32), f_X_digest_L77 K137 n G x0 x1 x3 = some (o, Gf) → Y (zVm l D B O) m_X_digest 7 o Gf 77 [some (.ref x0), some (.long x1), none, some (.int x3), none] [] G := by
  have hdd : lSa m_X_digest 77 [(.iload_n 3, 0), (.bipush 6, nI 6)] = true ∧ lIa m_X_digest 80 (.if_icmp .ge 57) 3 = true ∧ lSa m_X_digest 83 [(.iconst 0, nI 0), (.istore 4, 0)] = true ∧ lSa m_X_digest 131 [(.iinc 3 1, nI 1)] = true ∧ lIa m_X_digest 134 (.goto (-57)) 3 = true := by decide +kernel
  obtain ⟨dd0, dd1, dd2, dd3, dd4⟩ := hdd
  intro n
  induction n with
  | zero => intro G x0 x1 x3 h; cases h
  | succ n ih =>
    intro G x0 x1 x3 h
    unfold f_X_digest_L77 at h
    refine Y.blk (pc' := 80) (L' := [some (.ref x0), some (.long x1), none, some (.int x3), none]) (st' := [.int (nI 6), .int x3]) (sg := [(.iload_n 3, 0), (.bipush 6, nI 6)]) (lSa_ok dd0) rfl ?_
    refine Y.ic_ge (off := 57) (tgt := 137) (lIa_ok dd1) (by decide) h (fun c62 h => ?_) (fun c62 h => ?_)
    · refine Y.less (L' := [some (.ref x0), some (.long x1), none, none, none]) (zLe_some (zLe_some (zLe_some (zLe_none (zLe_some (zLe_nil)))))) ?_
      exact hK137 G x0 x1 h
    · refine Y.blk (pc' := 86) (L' := [some (.ref x0), some (.long x1), none, some (.int x3), some (.int (nI 0))]) (st' := []) (sg := [(.iconst 0, nI 0), (.istore 4, 0)]) (lSa_ok dd2) rfl ?_
      refine k_X_digest_L86 hV _ ?_  zFu G x0 x1 x3 (nI 0) h
      · intro G61 x58 x59 x60 h
        refine Y.blk (pc' := 134) (L' := [some (.ref x58), some (.long x59), none, some (.int (x60 + (nI 1))), none]) (st' := []) (sg := [(.iinc 3 1, nI 1)]) (lSa_ok dd3) rfl ?_
        refine Y.goto (off := -57) (tgt := 77) (lIa_ok dd4) (by decide) ?_
        exact ih G61 x58 x59 (x60 + (nI 1)) h
theorem k_X_digest_L147 {l : Launch} {D : va_G} {B : Nat} {O : State → Heap → Prop} (hV : zG l D B O) {o : gO} {Gf : gH} (K173 : gH → Nat → Int64 → Int32 → gR) (hK173 : ∀ (G : gH) (x0 : Nat) (x1 : Int64) (x3 : Int32), K173 G x0 x1 x3 = some (o, Gf) → Y (zVm l D B O) m_X_digest 7 o Gf 173 [some (.ref x0), some (.long x1), none, some (.int x3), none] [] G) : ∀ (n : Nat) (G : gH) (x0 : Nat) (x1 : Int64) (x3 : Int32) (x4 : Int32), f_X_digest_L147 K173 n G x0 x1 x3 x4 = some (o, Gf) → Y (zVm l D B O) m_X_digest 7 o Gf 147 [some (.ref x0), some (.long x1), none, some (.int x3), some (.int x4)] [] G := by
  have hdd : lSa m_X_digest 147 [(.iload 4, 0), (.bipush 7, nI 7)] = true ∧ lIa m_X_digest 151 (.if_icmp .ge 22) 3 = true ∧ lSa m_X_digest 154 [(.lload_n 1, 0), (.aload_n 0, 0), (.iload_n 3, 0), (.iload 4, 0)] = true ∧ lIa m_X_digest 159 (.invokevirtual 245) 3 = true ∧ lSa m_X_digest 162 [(.i2l, 0)] = true ∧ lIa m_X_digest 163 (.invokestatic 263) 3 = true ∧ lSa m_X_digest 166 [(.lstore_n 1, 0), (.iinc 4 1, nI 1)] = true ∧ lIa m_X_digest 170 (.goto (-23)) 3 = true := by decide +kernel
  obtain ⟨dd0, dd1, dd2, dd3, dd4, dd5, dd6, dd7⟩ := hdd
  intro n
  induction n with
  | zero => intro G x0 x1 x3 x4 h; cases h
  | succ n ih =>
    intro G x0 x1 x3 x4 h
    unfold f_X_digest_L147 at h
    refine Y.blk (pc' := 151) (L' := [some (.ref x0), some (.long x1), none, some (.int x3), some (.int x4)]) (st' := [.int (nI 7), .int x4]) (sg := [(.iload 4, 0), (.bipush 7, nI 7)]) (lSa_ok dd0) rfl ?_
    refine Y.ic_ge (off := 22) (tgt := 173) (lIa_ok dd1) (by decide) h (fun c74 h => ?_) (fun c74 h => ?_)
    · refine Y.less (L' := [some (.ref x0), some (.long x1), none, some (.int x3), none]) (zLe_some (zLe_some (zLe_some (zLe_some (zLe_none (zLe_nil)))))) ?_
      exact hK173 G x0 x1 x3 h
    · refine Y.blk (pc' := 159) (L' := [some (.ref x0), some (.long x1), none, some (.int x3), some (.int x4)]) (st' := [.int x4, .int x3, .ref x0, .long x1]) (sg := [(.lload_n 1, 0), (.aload_n 0, 0), (.iload_n 3, 0), (.iload 4, 0)]) (lSa_ok dd2) rfl ?_
      obtain ⟨_, o67, e66, m68, h⟩ := gOb_inv h
      refine Y.callI (yC.Vi (b := x0) (As := [.int x3, .int x4]) (st := [.long x1]) (r := ("Partlister", T_X, 5)) hV.1 cb_X_worthOfCursor lk_X_245 in_X_worthOfCursor rfl se_X_worthOfCursor (lIa_ok dd3) rfl rfl (Nat.le_of_ble_eq_true rfl) (by decide) e66 m68) (k_X_worthOfCursor hV G x0 x3 x4) h (fun v70 G69 _ h => ?_)
      refine Y.blk (pc' := 163) (L' := [some (.ref x0), some (.long x1), none, some (.int x3), some (.int x4)]) (st' := [.long v70.toInt64, .long x1]) (sg := [(.i2l, 0)]) (lSa_ok dd4) rfl ?_
      refine Y.callL (yC.S (As := [.long x1, .long v70.toInt64]) (st := []) hV.1 cb_X_mix lk_X_263 st_X_mix (lIa_ok dd5) rfl rfl (Nat.le_of_ble_eq_true rfl) (by decide)) (k_X_mix hV G69 x1 v70.toInt64) h (fun v73 G72 _ h => ?_)
      refine Y.blk (pc' := 170) (L' := [some (.ref x0), some (.long v73), none, some (.int x3), some (.int (x4 + (nI 1)))]) (st' := []) (sg := [(.lstore_n 1, 0), (.iinc 4 1, nI 1)]) (lSa_ok dd6) rfl ?_
      refine Y.goto (off := -23) (tgt := 147) (lIa_ok dd7) (by decide) ?_
      exact ih G72 x0 v73 x3 (x4 + (nI 1)) h
theorem k_X_digest_L139 {l : Launch} {D : va_G} {B : Nat} {O : State → Heap → Prop} (hV : zG l D B O) {o : gO} {Gf : gH} (K179 : gH → Nat → Int64 → gR) (hK179 : ∀ (G : gH) (x0 : Nat) (x1 : Int64), K179 G x0 x1 = some (o, Gf) → Y (zVm l D B O) m_X_digest 7 o Gf 179 [some (.ref x0), some (.long x1), none, none, none] [] G) : ∀ (n : Nat) (G : gH) (x0 : Nat) (x1 : Int64) (x3 : Int32), f_X_digest_L139 K179 n G x0 x1 x3 = some (o, Gf) → Y (zVm l D B O) m_X_digest 7 o Gf 139 [some (.ref x0), some (.long x1), none, some (.int x3), none] [] G := by
  have hdd : lSa m_X_digest 139 [(.iload_n 3, 0), (.iconst 3, nI 3)] = true ∧ lIa m_X_digest 141 (.if_icmp .ge 38) 3 = true ∧ lSa m_X_digest 144 [(.iconst 0, nI 0), (.istore 4, 0)] = true ∧ lSa m_X_digest 173 [(.iinc 3 1, nI 1)] = true ∧ lIa m_X_digest 176 (.goto (-37)) 3 = true := by decide +kernel
  obtain ⟨dd0, dd1, dd2, dd3, dd4⟩ := hdd
  intro n
  induction n with
  | zero => intro G x0 x1 x3 h; cases h
  | succ n ih =>
    intro G x0 x1 x3 h
    unfold f_X_digest_L139 at h
    refine Y.blk (pc' := 141) (L' := [some (.ref x0), some (.long x1), none, some (.int x3), none]) (st' := [.int (nI 3), .int x3]) (sg := [(.iload_n 3, 0), (.iconst 3, nI 3)]) (lSa_ok dd0) rfl ?_
    refine Y.ic_ge (off := 38) (tgt := 179) (lIa_ok dd1) (by decide) h (fun c79 h => ?_) (fun c79 h => ?_)
    · refine Y.less (L' := [some (.ref x0), some (.long x1), none, none, none]) (zLe_some (zLe_some (zLe_some (zLe_none (zLe_some (zLe_nil)))))) ?_
      exact hK179 G x0 x1 h
    · refine Y.blk (pc' := 147) (L' := [some (.ref x0), some (.long x1), none, some (.int x3), some (.int (nI 0))]) (st' := []) (sg := [(.iconst 0, nI 0), (.istore 4, 0)]) (lSa_ok dd2) rfl ?_
      refine k_X_digest_L147 hV _ ?_  zFu G x0 x1 x3 (nI 0) h
      · intro G78 x75 x76 x77 h
        refine Y.blk (pc' := 176) (L' := [some (.ref x75), some (.long x76), none, some (.int (x77 + (nI 1))), none]) (st' := []) (sg := [(.iinc 3 1, nI 1)]) (lSa_ok dd3) rfl ?_
        refine Y.goto (off := -37) (tgt := 139) (lIa_ok dd4) (by decide) ?_
        exact ih G78 x75 x76 (x77 + (nI 1)) h
theorem k_X_digest {l : Launch} {D : va_G} {B : Nat} {O : State → Heap → Prop} (hV : zG l D B O) (G : gH) (a0 : Nat) : gMet (zVm l D B O) m_X_digest 7 [.ref a0] G (f_X_digest G a0) := by
  have hdd : lIa m_X_digest 0 (.ldc2_w 261) 3 = true ∧ lSa m_X_digest 3 [(.lstore_n 1, 0), (.iconst 0, nI 0), (.istore_n 3, 0)] = true ∧ lSa m_X_digest 29 [(.iconst 0, nI 0), (.istore_n 3, 0)] = true ∧ lSa m_X_digest 75 [(.iconst 0, nI 0), (.istore_n 3, 0)] = true ∧ lSa m_X_digest 137 [(.iconst 0, nI 0), (.istore_n 3, 0)] = true ∧ lSa m_X_digest 179 [(.lload_n 1, 0), (.aload_n 0, 0)] = true ∧ lIa m_X_digest 181 (.getfield 10) 3 = true ∧ lIa m_X_digest 184 (.invokevirtual 253) 3 = true ∧ lIa m_X_digest 187 (.ifCond .eq 7) 3 = true ∧ lSa m_X_digest 194 [(.lconst 0, 0)] = true ∧ lIa m_X_digest 195 (.invokestatic 263) 3 = true ∧ lIa m_X_digest 198 (.lreturn) 1 = true ∧ lSa m_X_digest 190 [(.lconst 1, 0)] = true ∧ lIa m_X_digest 191 (.goto 4) 3 = true := by decide +kernel
  refine lA8 hdd (fun dd0 dd1 dd2 dd3 dd4 dd5 dd6 dd7 hdd => ?_)
  obtain ⟨dd8, dd9, dd10, dd11, dd12, dd13⟩ := hdd
  refine gMet.of (by decide +kernel) (Nat.le_of_ble_eq_true rfl) [some (.ref a0), none, none, none, none] (fun ls h => zEn_ok (n := 5) h) ?_
  intro o Gf h
  unfold f_X_digest at h
  refine Y.ldc2 (v := lN 2203) co_X_261 (lIa_ok dd0) ?_
  refine Y.blk (pc' := 6) (L' := [some (.ref a0), some (.long (lN 2203)), none, some (.int (nI 0)), none]) (st' := []) (sg := [(.lstore_n 1, 0), (.iconst 0, nI 0), (.istore_n 3, 0)]) (lSa_ok dd1) rfl ?_
  refine k_X_digest_L6 hV _ ?_  zFu G a0 (lN 2203) (nI 0) h
  · intro G12 x10 x11 h
    refine Y.blk (pc' := 31) (L' := [some (.ref x10), some (.long x11), none, some (.int (nI 0)), none]) (st' := []) (sg := [(.iconst 0, nI 0), (.istore_n 3, 0)]) (lSa_ok dd2) rfl ?_
    refine k_X_digest_L31 hV _ ?_  zFu G12 x10 x11 (nI 0) h
    · intro G37 x35 x36 h
      refine Y.blk (pc' := 77) (L' := [some (.ref x35), some (.long x36), none, some (.int (nI 0)), none]) (st' := []) (sg := [(.iconst 0, nI 0), (.istore_n 3, 0)]) (lSa_ok dd3) rfl ?_
      refine k_X_digest_L77 hV _ ?_  zFu G37 x35 x36 (nI 0) h
      · intro G65 x63 x64 h
        refine Y.blk (pc' := 139) (L' := [some (.ref x63), some (.long x64), none, some (.int (nI 0)), none]) (st' := []) (sg := [(.iconst 0, nI 0), (.istore_n 3, 0)]) (lSa_ok dd4) rfl ?_
        refine k_X_digest_L139 hV _ ?_  zFu G65 x63 x64 (nI 0) h
        · intro G82 x80 x81 h
          refine Y.blk (pc' := 181) (L' := [some (.ref x80), some (.long x81), none, none, none]) (st' := [.ref x80, .long x81]) (sg := [(.lload_n 1, 0), (.aload_n 0, 0)]) (lSa_ok dd5) rfl ?_
          refine Y.getA fl_X_10 (lIa_ok dd6) h (fun v83 h => ?_)
          obtain ⟨_, o85, e84, m86, h⟩ := gOb_inv h
          refine Y.callI (yC.Vi (b := v83) (As := []) (st := [.long x81]) (r := ("Partlister$Lists", T_I, 7)) hV.1 cb_I_areSound lk_X_253 in_I_areSound rfl se_I_areSound (lIa_ok dd7) rfl rfl (Nat.le_of_ble_eq_true rfl) (by decide) e84 m86) (k_I_areSound hV G82 v83) h (fun v88 G87 _ h => ?_)
          refine Y.if_eq (off := 7) (tgt := 194) (lIa_ok dd8) (by decide) h (fun c95 h => ?_) (fun c95 h => ?_)
          · refine Y.blk (pc' := 195) (L' := [some (.ref x80), some (.long x81), none, none, none]) (st' := [.long (lN 0), .long x81]) (sg := [(.lconst 0, 0)]) (lSa_ok dd9) rfl ?_
            refine Y.callL (yC.S (As := [.long x81, .long (lN 0)]) (st := []) hV.1 cb_X_mix lk_X_263 st_X_mix (lIa_ok dd10) rfl rfl (Nat.le_of_ble_eq_true rfl) (by decide)) (k_X_mix hV G87 x81 (lN 0)) h (fun v91 G90 _ h => ?_)
            exact Y.lret rfl (lIa_ok dd11) h
          · refine Y.blk (pc' := 191) (L' := [some (.ref x80), some (.long x81), none, none, none]) (st' := [.long (lN 1), .long x81]) (sg := [(.lconst 1, 0)]) (lSa_ok dd12) rfl ?_
            refine Y.goto (off := 4) (tgt := 195) (lIa_ok dd13) (by decide) ?_
            refine Y.callL (yC.S (As := [.long x81, .long (lN 1)]) (st := []) hV.1 cb_X_mix lk_X_263 st_X_mix (lIa_ok dd10) rfl rfl (Nat.le_of_ble_eq_true rfl) (by decide)) (k_X_mix hV G87 x81 (lN 1)) h (fun v94 G93 _ h => ?_)
            exact Y.lret rfl (lIa_ok dd11) h
end
section
def f_X_failWith (G : gH) (a0 : Nat) (a1 : Int32) : gR :=
  gFI G a0 3 3 fun v1 => gPut G a0 3 3 (.int (v1 + (nI 1))) fun G2 => rI a1 G2
theorem k_X_failWith {l : Launch} {D : va_G} {B : Nat} {O : State → Heap → Prop} (hV : zG l D B O) (G : gH) (a0 : Nat) (a1 : Int32) : gMet (zVm l D B O) m_X_failWith 1 [.ref a0, .int a1] G (f_X_failWith G a0 a1) := by
  have hdd : lSa m_X_failWith 0 [(.aload_n 0, 0), (.dup, 0)] = true ∧ lIa m_X_failWith 2 (.getfield 302) 3 = true ∧ lSa m_X_failWith 5 [(.iconst 1, nI 1), (.iadd, 0)] = true ∧ lIa m_X_failWith 7 (.putfield 302) 3 = true ∧ lSa m_X_failWith 10 [(.iload_n 1, 0)] = true ∧ lIa m_X_failWith 11 (.ireturn) 1 = true := by decide +kernel
  obtain ⟨dd0, dd1, dd2, dd3, dd4, dd5⟩ := hdd
  refine gMet.of (by decide +kernel) (Nat.le_of_ble_eq_true rfl) [some (.ref a0), some (.int a1)] (fun ls h => zEn_ok (n := 2) h) ?_
  intro o Gf h
  unfold f_X_failWith at h
  refine Y.blk (pc' := 2) (L' := [some (.ref a0), some (.int a1)]) (st' := [.ref a0, .ref a0]) (sg := [(.aload_n 0, 0), (.dup, 0)]) (lSa_ok dd0) rfl ?_
  refine Y.getI fl_X_302 (lIa_ok dd1) h (fun v1 h => ?_)
  refine Y.blk (pc' := 7) (L' := [some (.ref a0), some (.int a1)]) (st' := [.int (v1 + (nI 1)), .ref a0]) (sg := [(.iconst 1, nI 1), (.iadd, 0)]) (lSa_ok dd2) rfl ?_
  refine Y.putf fl_X_302 (by decide) rfl rfl (lIa_ok dd3) h (fun G2 _ _ h => ?_)
  refine Y.blk (pc' := 11) (L' := [some (.ref a0), some (.int a1)]) (st' := [.int a1]) (sg := [(.iload_n 1, 0)]) (lSa_ok dd4) rfl ?_
  exact Y.iret rfl (lIa_ok dd5) h

def f_X_needCursor (G : gH) (a0 : Nat) (a1 : Int32) : gR :=
  gFA G a0 3 1 fun v1 => gOb G v1 0 fun o3 => bI (f_U_isThere G v1 a1) fun v6 G5 => if v6 = 0 then gThrow "java/lang/IndexOutOfBoundsException" G5
  else rV G5
theorem k_X_needCursor {l : Launch} {D : va_G} {B : Nat} {O : State → Heap → Prop} (hV : zG l D B O) (G : gH) (a0 : Nat) (a1 : Int32) : gMet (zVm l D B O) m_X_needCursor 6 [.ref a0, .int a1] G (f_X_needCursor G a0 a1) := by
  have hdd : lSa m_X_needCursor 0 [(.aload_n 0, 0)] = true ∧ lIa m_X_needCursor 1 (.getfield 19) 3 = true ∧ lSa m_X_needCursor 4 [(.iload_n 1, 0)] = true ∧ lIa m_X_needCursor 5 (.invokevirtual 148) 3 = true ∧ lIa m_X_needCursor 8 (.ifCond .ne 14) 3 = true ∧ lIa m_X_needCursor 11 (.new 125) 3 = true ∧ lIa m_X_needCursor 14 (.dup) 1 = true ∧ lIa m_X_needCursor 15 (.ldc_w 335) 3 = true ∧ lIa m_X_needCursor 18 (.invokespecial 129) 3 = true ∧ lIa m_X_needCursor 21 (.athrow) 1 = true ∧ lIa m_X_needCursor 22 (.return_) 1 = true := by decide +kernel
  refine lA8 hdd (fun dd0 dd1 dd2 dd3 dd4 dd5 dd6 dd7 hdd => ?_)
  obtain ⟨dd8, dd9, dd10⟩ := hdd
  refine gMet.of (by decide +kernel) (Nat.le_of_ble_eq_true rfl) [some (.ref a0), some (.int a1)] (fun ls h => zEn_ok (n := 2) h) ?_
  intro o Gf h
  unfold f_X_needCursor at h
  refine Y.blk (pc' := 1) (L' := [some (.ref a0), some (.int a1)]) (st' := [.ref a0]) (sg := [(.aload_n 0, 0)]) (lSa_ok dd0) rfl ?_
  refine Y.getA fl_X_19 (lIa_ok dd1) h (fun v1 h => ?_)
  refine Y.blk (pc' := 5) (L' := [some (.ref a0), some (.int a1)]) (st' := [.int a1, .ref v1]) (sg := [(.iload_n 1, 0)]) (lSa_ok dd2) rfl ?_
  obtain ⟨_, o3, e2, m4, h⟩ := gOb_inv h
  refine Y.callI (yC.Vi (b := v1) (As := [.int a1]) (st := []) (r := ("Partlister$Cursors", T_U, 5)) hV.1 cb_U_isThere lk_X_148 in_U_isThere rfl se_U_isThere (lIa_ok dd3) rfl rfl (Nat.le_of_ble_eq_true rfl) (by decide) e2 m4) (k_U_isThere hV G v1 a1) h (fun v6 G5 _ h => ?_)
  refine Y.if_ne (off := 14) (tgt := 22) (lIa_ok dd4) (by decide) h (fun c7 h => ?_) (fun c7 h => ?_)
  · exact Y.throwSW (is := 335) (text := "there is no such CURSOR") (names := zNm) hV.1 (hV.2 _ _ _ (by decide +kernel)) (by decide +kernel) (by decide +kernel) ck_X_125 ini_IOE tw_X_129 tg_X_129 (by decide) (by decide) rfl (Nat.le_of_ble_eq_true rfl) (lIa_ok dd5) (lIa_ok dd6) (lIa_ok dd7) (lIa_ok dd8) (lIa_ok dd9) h
  · exact Y.vret rfl (lIa_ok dd10) h

def f_I_closeGap_L27 (K56 : gH → Nat → Int32 → gR) : Nat → gH → Nat → Int32 → Int32 → Int32 → Int32 → gR
  | 0, _, _, _, _, _, _ => none
  | n + 1, G, x0, x1, x3, x4, x5 =>
    if x4 ≤ x5 then K56 G x0 x1
    else gOb G x0 1 fun o18 => bI (f_I_thingAt G x0 x3 x5) fun v21 G20 => gOb G20 x0 1 fun o23 => bV (f_I_write G20 x0 x3 (x5 - (nI 1)) v21) fun G25 => f_I_closeGap_L27 K56 n G25 x0 x1 x3 x4 (x5 + (nI 1))
def f_I_closeGap (G : gH) (a0 : Nat) (a1 : Int32) (a2 : Int32) : gR :=
  gOb G a0 1 fun o2 => bI (f_I_rowOf G a0 a1) fun v5 G4 => gOb G4 a0 1 fun o7 => bI (f_I_lengthOf G4 a0 v5) fun v10 G9 => gFA G9 a0 1 4 fun v11 => gOb G9 v11 2 fun o13 => bI (f_N_read G9 v11 a1) fun v16 G15 => f_I_closeGap_L27 (fun G29 x27 x28 => gOb G29 x27 1 fun o31 => bV (f_I_lengthen G29 x27 x28 (-1)) fun G33 => rV G33) zFu G15 a0 a1 v5 v10 ((v16 + a2) + (nI 1))
theorem k_I_closeGap_L27 {l : Launch} {D : va_G} {B : Nat} {O : State → Heap → Prop} (hV : zG l D B O) {o : gO} {Gf : gH} (K56 : gH → Nat → Int32 → gR) (hK56 : ∀ (G : gH) (x0 : Nat) (x1 : Int32), K56 G x0 x1 = some (o, Gf) → Y (zVm l D B O) m_I_closeGap 4 o Gf 56 [some (.ref x0), some (.int x1), none, none, none, none] [] G) : ∀ (n : Nat) (G : gH) (x0 : Nat) (x1 : Int32) (x3 : Int32) (x4 : Int32) (x5 : Int32), f_I_closeGap_L27 K56 n G x0 x1 x3 x4 x5 = some (o, Gf) → Y (zVm l D B O) m_I_closeGap 4 o Gf 27 [some (.ref x0), some (.int x1), none, some (.int x3), some (.int x4), some (.int x5)] [] G := by
  have hdd : lSa m_I_closeGap 27 [(.iload 5, 0), (.iload 4, 0)] = true ∧ lIa m_I_closeGap 31 (.if_icmp .ge 25) 3 = true ∧ lSa m_I_closeGap 34 [(.aload_n 0, 0), (.iload_n 3, 0), (.iload 5, 0), (.iconst 1, nI 1), (.isub, 0), (.aload_n 0, 0), (.iload_n 3, 0), (.iload 5, 0)] = true ∧ lIa m_I_closeGap 44 (.invokevirtual 50) 3 = true ∧ lIa m_I_closeGap 47 (.invokevirtual 53) 3 = true ∧ lSa m_I_closeGap 50 [(.iinc 5 1, nI 1)] = true ∧ lIa m_I_closeGap 53 (.goto (-26)) 3 = true := by decide +kernel
  obtain ⟨dd0, dd1, dd2, dd3, dd4, dd5, dd6⟩ := hdd
  intro n
  induction n with
  | zero => intro G x0 x1 x3 x4 x5 h; cases h
  | succ n ih =>
    intro G x0 x1 x3 x4 x5 h
    unfold f_I_closeGap_L27 at h
    refine Y.blk (pc' := 31) (L' := [some (.ref x0), some (.int x1), none, some (.int x3), some (.int x4), some (.int x5)]) (st' := [.int x4, .int x5]) (sg := [(.iload 5, 0), (.iload 4, 0)]) (lSa_ok dd0) rfl ?_
    refine Y.ic_ge (off := 25) (tgt := 56) (lIa_ok dd1) (by decide) h (fun c26 h => ?_) (fun c26 h => ?_)
    · refine Y.less (L' := [some (.ref x0), some (.int x1), none, none, none, none]) (zLe_some (zLe_some (zLe_some (zLe_none (zLe_none (zLe_none (zLe_nil))))))) ?_
      exact hK56 G x0 x1 h
    · refine Y.blk (pc' := 44) (L' := [some (.ref x0), some (.int x1), none, some (.int x3), some (.int x4), some (.int x5)]) (st' := [.int x5, .int x3, .ref x0, .int (x5 - (nI 1)), .int x3, .ref x0]) (sg := [(.aload_n 0, 0), (.iload_n 3, 0), (.iload 5, 0), (.iconst 1, nI 1), (.isub, 0), (.aload_n 0, 0), (.iload_n 3, 0), (.iload 5, 0)]) (lSa_ok dd2) rfl ?_
      obtain ⟨_, o18, e17, m19, h⟩ := gOb_inv h
      refine Y.callI (yC.Vi (b := x0) (As := [.int x3, .int x5]) (st := [.int (x5 - (nI 1)), .int x3, .ref x0]) (r := ("Partlister$Lists", T_I, 7)) hV.1 cb_I_thingAt lk_I_50 in_I_thingAt rfl se_I_thingAt (lIa_ok dd3) rfl rfl (Nat.le_of_ble_eq_true rfl) (by decide) e17 m19) (k_I_thingAt hV G x0 x3 x5) h (fun v21 G20 _ h => ?_)
      obtain ⟨_, o23, e22, m24, h⟩ := gOb_inv h
      refine Y.callN (yC.Vi (b := x0) (As := [.int x3, .int (x5 - (nI 1)), .int v21]) (st := []) (r := ("Partlister$Lists", T_I, 7)) hV.1 cb_I_write lk_I_53 in_I_write rfl se_I_write (lIa_ok dd4) rfl rfl (Nat.le_of_ble_eq_true rfl) (by decide) e22 m24) (k_I_write hV G20 x0 x3 (x5 - (nI 1)) v21) h (fun G25 _ h => ?_)
      refine Y.blk (pc' := 53) (L' := [some (.ref x0), some (.int x1), none, some (.int x3), some (.int x4), some (.int (x5 + (nI 1)))]) (st' := []) (sg := [(.iinc 5 1, nI 1)]) (lSa_ok dd5) rfl ?_
      refine Y.goto (off := -26) (tgt := 27) (lIa_ok dd6) (by decide) ?_
      exact ih G25 x0 x1 x3 x4 (x5 + (nI 1)) h
theorem k_I_closeGap {l : Launch} {D : va_G} {B : Nat} {O : State → Heap → Prop} (hV : zG l D B O) (G : gH) (a0 : Nat) (a1 : Int32) (a2 : Int32) : gMet (zVm l D B O) m_I_closeGap 4 [.ref a0, .int a1, .int a2] G (f_I_closeGap G a0 a1 a2) := by
  have hdd : lSa m_I_closeGap 0 [(.aload_n 0, 0), (.iload_n 1, 0)] = true ∧ lIa m_I_closeGap 2 (.invokevirtual 56) 3 = true ∧ lSa m_I_closeGap 5 [(.istore_n 3, 0), (.aload_n 0, 0), (.iload_n 3, 0)] = true ∧ lIa m_I_closeGap 8 (.invokevirtual 59) 3 = true ∧ lSa m_I_closeGap 11 [(.istore 4, 0), (.aload_n 0, 0)] = true ∧ lIa m_I_closeGap 14 (.getfield 29) 3 = true ∧ lSa m_I_closeGap 17 [(.iload_n 1, 0)] = true ∧ lIa m_I_closeGap 18 (.invokevirtual 39) 3 = true ∧ lSa m_I_closeGap 21 [(.iload_n 2, 0), (.iadd, 0), (.iconst 1, nI 1), (.iadd, 0), (.istore 5, 0)] = true ∧ lSa m_I_closeGap 56 [(.aload_n 0, 0), (.iload_n 1, 0), (.iconst (-1), -1)] = true ∧ lIa m_I_closeGap 59 (.invokevirtual 62) 3 = true ∧ lIa m_I_closeGap 62 (.return_) 1 = true := by decide +kernel
  refine lA8 hdd (fun dd0 dd1 dd2 dd3 dd4 dd5 dd6 dd7 hdd => ?_)
  obtain ⟨dd8, dd9, dd10, dd11⟩ := hdd
  refine gMet.of (by decide +kernel) (Nat.le_of_ble_eq_true rfl) [some (.ref a0), some (.int a1), some (.int a2), none, none, none] (fun ls h => zEn_ok (n := 6) h) ?_
  intro o Gf h
  unfold f_I_closeGap at h
  refine Y.blk (pc' := 2) (L' := [some (.ref a0), some (.int a1), some (.int a2), none, none, none]) (st' := [.int a1, .ref a0]) (sg := [(.aload_n 0, 0), (.iload_n 1, 0)]) (lSa_ok dd0) rfl ?_
  obtain ⟨_, o2, e1, m3, h⟩ := gOb_inv h
  refine Y.callI (yC.Vi (b := a0) (As := [.int a1]) (st := []) (r := ("Partlister$Lists", T_I, 7)) hV.1 cb_I_rowOf lk_I_56 in_I_rowOf rfl se_I_rowOf (lIa_ok dd1) rfl rfl (Nat.le_of_ble_eq_true rfl) (by decide) e1 m3) (k_I_rowOf hV G a0 a1) h (fun v5 G4 _ h => ?_)
  refine Y.blk (pc' := 8) (L' := [some (.ref a0), some (.int a1), some (.int a2), some (.int v5), none, none]) (st' := [.int v5, .ref a0]) (sg := [(.istore_n 3, 0), (.aload_n 0, 0), (.iload_n 3, 0)]) (lSa_ok dd2) rfl ?_
  obtain ⟨_, o7, e6, m8, h⟩ := gOb_inv h
  refine Y.callI (yC.Vi (b := a0) (As := [.int v5]) (st := []) (r := ("Partlister$Lists", T_I, 7)) hV.1 cb_I_lengthOf lk_I_59 in_I_lengthOf rfl se_I_lengthOf (lIa_ok dd3) rfl rfl (Nat.le_of_ble_eq_true rfl) (by decide) e6 m8) (k_I_lengthOf hV G4 a0 v5) h (fun v10 G9 _ h => ?_)
  refine Y.blk (pc' := 14) (L' := [some (.ref a0), some (.int a1), some (.int a2), some (.int v5), some (.int v10), none]) (st' := [.ref a0]) (sg := [(.istore 4, 0), (.aload_n 0, 0)]) (lSa_ok dd4) rfl ?_
  refine Y.getA fl_I_29 (lIa_ok dd5) h (fun v11 h => ?_)
  refine Y.blk (pc' := 18) (L' := [some (.ref a0), some (.int a1), some (.int a2), some (.int v5), some (.int v10), none]) (st' := [.int a1, .ref v11]) (sg := [(.iload_n 1, 0)]) (lSa_ok dd6) rfl ?_
  obtain ⟨_, o13, e12, m14, h⟩ := gOb_inv h
  refine Y.callI (yC.Vi (b := v11) (As := [.int a1]) (st := []) (r := ("Partlister$Numbers", T_N, 1)) hV.1 cb_N_read lk_I_39 in_N_read rfl se_N_read (lIa_ok dd7) rfl rfl (Nat.le_of_ble_eq_true rfl) (by decide) e12 m14) (k_N_read hV G9 v11 a1) h (fun v16 G15 _ h => ?_)
  refine Y.blk (pc' := 27) (L' := [some (.ref a0), some (.int a1), some (.int a2), some (.int v5), some (.int v10), some (.int ((v16 + a2) + (nI 1)))]) (st' := []) (sg := [(.iload_n 2, 0), (.iadd, 0), (.iconst 1, nI 1), (.iadd, 0), (.istore 5, 0)]) (lSa_ok dd8) rfl ?_
  refine Y.less (L' := [some (.ref a0), some (.int a1), none, some (.int v5), some (.int v10), some (.int ((v16 + a2) + (nI 1)))]) (zLe_some (zLe_some (zLe_none (zLe_some (zLe_some (zLe_some (zLe_nil))))))) ?_
  refine k_I_closeGap_L27 hV _ ?_  zFu G15 a0 a1 v5 v10 ((v16 + a2) + (nI 1)) h
  · intro G29 x27 x28 h
    refine Y.blk (pc' := 59) (L' := [some (.ref x27), some (.int x28), none, none, none, none]) (st' := [.int (-1), .int x28, .ref x27]) (sg := [(.aload_n 0, 0), (.iload_n 1, 0), (.iconst (-1), -1)]) (lSa_ok dd9) rfl ?_
    obtain ⟨_, o31, e30, m32, h⟩ := gOb_inv h
    refine Y.callN (yC.Vi (b := x27) (As := [.int x28, .int (-1)]) (st := []) (r := ("Partlister$Lists", T_I, 7)) hV.1 cb_I_lengthen lk_I_62 in_I_lengthen rfl se_I_lengthen (lIa_ok dd10) rfl rfl (Nat.le_of_ble_eq_true rfl) (by decide) e30 m32) (k_I_lengthen hV G29 x27 x28 (-1)) h (fun G33 _ h => ?_)
    exact Y.vret rfl (lIa_ok dd11) h

def f_X_takeOut (G : gH) (a0 : Nat) (a1 : Int32) (a2 : Int32) (a3 : Int32) : gR :=
  gFA G a0 3 0 fun v1 => gOb G v1 1 fun o3 => bI (f_I_thingAt G v1 a1 a2) fun v6 G5 => gFA G5 a0 3 0 fun v7 => gOb G5 v7 1 fun o9 => bV (f_I_closeGap G5 v7 a1 a2) fun G11 => gOb G11 a0 3 fun o13 => bV (f_X_endByLength G11 a0 a1 a3) fun G15 => rI v6 G15
theorem k_X_takeOut {l : Launch} {D : va_G} {B : Nat} {O : State → Heap → Prop} (hV : zG l D B O) (G : gH) (a0 : Nat) (a1 : Int32) (a2 : Int32) (a3 : Int32) : gMet (zVm l D B O) m_X_takeOut 6 [.ref a0, .int a1, .int a2, .int a3] G (f_X_takeOut G a0 a1 a2 a3) := by
  have hdd : lSa m_X_takeOut 0 [(.aload_n 0, 0)] = true ∧ lIa m_X_takeOut 1 (.getfield 10) 3 = true ∧ lSa m_X_takeOut 4 [(.iload_n 1, 0), (.iload_n 2, 0)] = true ∧ lIa m_X_takeOut 6 (.invokevirtual 94) 3 = true ∧ lSa m_X_takeOut 9 [(.istore 4, 0), (.aload_n 0, 0)] = true ∧ lIa m_X_takeOut 12 (.getfield 10) 3 = true ∧ lSa m_X_takeOut 15 [(.iload_n 1, 0), (.iload_n 2, 0)] = true ∧ lIa m_X_takeOut 17 (.invokevirtual 284) 3 = true ∧ lSa m_X_takeOut 20 [(.aload_n 0, 0), (.iload_n 1, 0), (.iload_n 3, 0)] = true ∧ lIa m_X_takeOut 23 (.invokevirtual 281) 3 = true ∧ lSa m_X_takeOut 26 [(.iload 4, 0)] = true ∧ lIa m_X_takeOut 28 (.ireturn) 1 = true := by decide +kernel
  refine lA8 hdd (fun dd0 dd1 dd2 dd3 dd4 dd5 dd6 dd7 hdd => ?_)
  obtain ⟨dd8, dd9, dd10, dd11⟩ := hdd
  refine gMet.of (by decide +kernel) (Nat.le_of_ble_eq_true rfl) [some (.ref a0), some (.int a1), some (.int a2), some (.int a3), none] (fun ls h => zEn_ok (n := 5) h) ?_
  intro o Gf h
  unfold f_X_takeOut at h
  refine Y.blk (pc' := 1) (L' := [some (.ref a0), some (.int a1), some (.int a2), some (.int a3), none]) (st' := [.ref a0]) (sg := [(.aload_n 0, 0)]) (lSa_ok dd0) rfl ?_
  refine Y.getA fl_X_10 (lIa_ok dd1) h (fun v1 h => ?_)
  refine Y.blk (pc' := 6) (L' := [some (.ref a0), some (.int a1), some (.int a2), some (.int a3), none]) (st' := [.int a2, .int a1, .ref v1]) (sg := [(.iload_n 1, 0), (.iload_n 2, 0)]) (lSa_ok dd2) rfl ?_
  obtain ⟨_, o3, e2, m4, h⟩ := gOb_inv h
  refine Y.callI (yC.Vi (b := v1) (As := [.int a1, .int a2]) (st := []) (r := ("Partlister$Lists", T_I, 7)) hV.1 cb_I_thingAt lk_X_94 in_I_thingAt rfl se_I_thingAt (lIa_ok dd3) rfl rfl (Nat.le_of_ble_eq_true rfl) (by decide) e2 m4) (k_I_thingAt hV G v1 a1 a2) h (fun v6 G5 _ h => ?_)
  refine Y.blk (pc' := 12) (L' := [some (.ref a0), some (.int a1), some (.int a2), some (.int a3), some (.int v6)]) (st' := [.ref a0]) (sg := [(.istore 4, 0), (.aload_n 0, 0)]) (lSa_ok dd4) rfl ?_
  refine Y.getA fl_X_10 (lIa_ok dd5) h (fun v7 h => ?_)
  refine Y.blk (pc' := 17) (L' := [some (.ref a0), some (.int a1), some (.int a2), some (.int a3), some (.int v6)]) (st' := [.int a2, .int a1, .ref v7]) (sg := [(.iload_n 1, 0), (.iload_n 2, 0)]) (lSa_ok dd6) rfl ?_
  obtain ⟨_, o9, e8, m10, h⟩ := gOb_inv h
  refine Y.callN (yC.Vi (b := v7) (As := [.int a1, .int a2]) (st := []) (r := ("Partlister$Lists", T_I, 7)) hV.1 cb_I_closeGap lk_X_284 in_I_closeGap rfl se_I_closeGap (lIa_ok dd7) rfl rfl (Nat.le_of_ble_eq_true rfl) (by decide) e8 m10) (k_I_closeGap hV G5 v7 a1 a2) h (fun G11 _ h => ?_)
  refine Y.blk (pc' := 23) (L' := [some (.ref a0), some (.int a1), some (.int a2), some (.int a3), some (.int v6)]) (st' := [.int a3, .int a1, .ref a0]) (sg := [(.aload_n 0, 0), (.iload_n 1, 0), (.iload_n 3, 0)]) (lSa_ok dd8) rfl ?_
  obtain ⟨_, o13, e12, m14, h⟩ := gOb_inv h
  refine Y.callN (yC.Vi (b := a0) (As := [.int a1, .int a3]) (st := []) (r := ("Partlister", T_X, 5)) hV.1 cb_X_endByLength lk_X_281 in_X_endByLength rfl se_X_endByLength (lIa_ok dd9) rfl rfl (Nat.le_of_ble_eq_true rfl) (by decide) e12 m14) (k_X_endByLength hV G11 a0 a1 a3) h (fun G15 _ h => ?_)
  refine Y.blk (pc' := 28) (L' := [some (.ref a0), some (.int a1), some (.int a2), some (.int a3), some (.int v6)]) (st' := [.int v6]) (sg := [(.iload 4, 0)]) (lSa_ok dd10) rfl ?_
  exact Y.iret rfl (lIa_ok dd11) h

def f_X_drop (G : gH) (a0 : Nat) (a1 : Int32) : gR :=
  gOb G a0 3 fun o2 => bV (f_X_needCursor G a0 a1) fun G4 => gFA G4 a0 3 1 fun v5 => gOb G4 v5 0 fun o7 => bI (f_U_isStale G4 v5 a1) fun v10 G9 => if v10 = 0 then (gFA G9 a0 3 1 fun v11 => gOb G9 v11 0 fun o13 => bI (f_U_lastOf G9 v11 a1) fun v16 G15 => if v16 = (-1) then gOb G15 a0 3 fun o18 => bI (f_X_failWith G15 a0 (-7)) fun v21 G20 => rI v21 G20
    else gFA G15 a0 3 1 fun v22 => gOb G15 v22 0 fun o24 => bI (f_U_listOf G15 v22 a1) fun v27 G26 => gOb G26 a0 3 fun o29 => bI (f_X_takeOut G26 a0 v27 v16 a1) fun v32 G31 => gFA G31 a0 3 1 fun v33 => gOb G31 v33 0 fun o35 => bV (f_U_stand G31 v33 a1 v16 (-1)) fun G37 => gFA G37 a0 3 0 fun v38 => gOb G37 v38 1 fun o40 => bI (f_I_lengthOf G37 v38 v27) fun v43 G42 => rI v43 G42)
  else gOb G9 a0 3 fun o46 => bI (f_X_failWith G9 a0 (-9)) fun v49 G48 => rI v49 G48
theorem k_X_drop {l : Launch} {D : va_G} {B : Nat} {O : State → Heap → Prop} (hV : zG l D B O) (G : gH) (a0 : Nat) (a1 : Int32) : gMet (zVm l D B O) m_X_drop 7 [.ref a0, .int a1] G (f_X_drop G a0 a1) := by
  have hdd : lSa m_X_drop 0 [(.aload_n 0, 0), (.iload_n 1, 0)] = true ∧ lIa m_X_drop 2 (.invokevirtual 167) 3 = true ∧ lSa m_X_drop 5 [(.aload_n 0, 0)] = true ∧ lIa m_X_drop 6 (.getfield 19) 3 = true ∧ lSa m_X_drop 9 [(.iload_n 1, 0)] = true ∧ lIa m_X_drop 10 (.invokevirtual 170) 3 = true ∧ lIa m_X_drop 13 (.ifCond .eq 10) 3 = true ∧ lSa m_X_drop 23 [(.aload_n 0, 0)] = true ∧ lIa m_X_drop 24 (.getfield 19) 3 = true ∧ lSa m_X_drop 27 [(.iload_n 1, 0)] = true ∧ lIa m_X_drop 28 (.invokevirtual 182) 3 = true ∧ lSa m_X_drop 31 [(.istore_n 2, 0), (.iload_n 2, 0), (.iconst (-1), -1)] = true ∧ lIa m_X_drop 34 (.if_icmp .ne 10) 3 = true ∧ lSa m_X_drop 37 [(.aload_n 0, 0), (.bipush (-7), -7)] = true ∧ lIa m_X_drop 40 (.invokevirtual 173) 3 = true ∧ lIa m_X_drop 43 (.ireturn) 1 = true ∧ lSa m_X_drop 44 [(.aload_n 0, 0)] = true ∧ lIa m_X_drop 45 (.getfield 19) 3 = true ∧ lSa m_X_drop 48 [(.iload_n 1, 0)] = true ∧ lIa m_X_drop 49 (.invokevirtual 152) 3 = true ∧ lSa m_X_drop 52 [(.istore_n 3, 0), (.aload_n 0, 0), (.iload_n 3, 0), (.iload_n 2, 0), (.iload_n 1, 0)] = true ∧ lIa m_X_drop 57 (.invokevirtual 69) 3 = true ∧ lSa m_X_drop 60 [(.pop, 0), (.aload_n 0, 0)] = true ∧ lIa m_X_drop 62 (.getfield 19) 3 = true ∧ lSa m_X_drop 65 [(.iload_n 1, 0), (.iload_n 2, 0), (.iconst (-1), -1)] = true ∧ lIa m_X_drop 68 (.invokevirtual 179) 3 = true ∧ lSa m_X_drop 71 [(.aload_n 0, 0)] = true ∧ lIa m_X_drop 72 (.getfield 10) 3 = true ∧ lSa m_X_drop 75 [(.iload_n 3, 0)] = true ∧ lIa m_X_drop 76 (.invokevirtual 34) 3 = true ∧ lIa m_X_drop 79 (.ireturn) 1 = true ∧ lSa m_X_drop 16 [(.aload_n 0, 0), (.bipush (-9), -9)] = true ∧ lIa m_X_drop 19 (.invokevirtual 173) 3 = true ∧ lIa m_X_drop 22 (.ireturn) 1 = true := by decide +kernel
  refine lA8 hdd (fun dd0 dd1 dd2 dd3 dd4 dd5 dd6 dd7 hdd => ?_)
  refine lA8 hdd (fun dd8 dd9 dd10 dd11 dd12 dd13 dd14 dd15 hdd => ?_)
  refine lA8 hdd (fun dd16 dd17 dd18 dd19 dd20 dd21 dd22 dd23 hdd => ?_)
  refine lA8 hdd (fun dd24 dd25 dd26 dd27 dd28 dd29 dd30 dd31 hdd => ?_)
  obtain ⟨dd32, dd33⟩ := hdd
  refine gMet.of (by decide +kernel) (Nat.le_of_ble_eq_true rfl) [some (.ref a0), some (.int a1), none, none] (fun ls h => zEn_ok (n := 4) h) ?_
  intro o Gf h
  unfold f_X_drop at h
  refine Y.blk (pc' := 2) (L' := [some (.ref a0), some (.int a1), none, none]) (st' := [.int a1, .ref a0]) (sg := [(.aload_n 0, 0), (.iload_n 1, 0)]) (lSa_ok dd0) rfl ?_
  obtain ⟨_, o2, e1, m3, h⟩ := gOb_inv h
  refine Y.callN (yC.Vi (b := a0) (As := [.int a1]) (st := []) (r := ("Partlister", T_X, 5)) hV.1 cb_X_needCursor lk_X_167 in_X_needCursor rfl se_X_needCursor (lIa_ok dd1) rfl rfl (Nat.le_of_ble_eq_true rfl) (by decide) e1 m3) (k_X_needCursor hV G a0 a1) h (fun G4 _ h => ?_)
  refine Y.blk (pc' := 6) (L' := [some (.ref a0), some (.int a1), none, none]) (st' := [.ref a0]) (sg := [(.aload_n 0, 0)]) (lSa_ok dd2) rfl ?_
  refine Y.getA fl_X_19 (lIa_ok dd3) h (fun v5 h => ?_)
  refine Y.blk (pc' := 10) (L' := [some (.ref a0), some (.int a1), none, none]) (st' := [.int a1, .ref v5]) (sg := [(.iload_n 1, 0)]) (lSa_ok dd4) rfl ?_
  obtain ⟨_, o7, e6, m8, h⟩ := gOb_inv h
  refine Y.callI (yC.Vi (b := v5) (As := [.int a1]) (st := []) (r := ("Partlister$Cursors", T_U, 5)) hV.1 cb_U_isStale lk_X_170 in_U_isStale rfl se_U_isStale (lIa_ok dd5) rfl rfl (Nat.le_of_ble_eq_true rfl) (by decide) e6 m8) (k_U_isStale hV G4 v5 a1) h (fun v10 G9 _ h => ?_)
  refine Y.if_eq (off := 10) (tgt := 23) (lIa_ok dd6) (by decide) h (fun c50 h => ?_) (fun c50 h => ?_)
  · refine Y.blk (pc' := 24) (L' := [some (.ref a0), some (.int a1), none, none]) (st' := [.ref a0]) (sg := [(.aload_n 0, 0)]) (lSa_ok dd7) rfl ?_
    refine Y.getA fl_X_19 (lIa_ok dd8) h (fun v11 h => ?_)
    refine Y.blk (pc' := 28) (L' := [some (.ref a0), some (.int a1), none, none]) (st' := [.int a1, .ref v11]) (sg := [(.iload_n 1, 0)]) (lSa_ok dd9) rfl ?_
    obtain ⟨_, o13, e12, m14, h⟩ := gOb_inv h
    refine Y.callI (yC.Vi (b := v11) (As := [.int a1]) (st := []) (r := ("Partlister$Cursors", T_U, 5)) hV.1 cb_U_lastOf lk_X_182 in_U_lastOf rfl se_U_lastOf (lIa_ok dd10) rfl rfl (Nat.le_of_ble_eq_true rfl) (by decide) e12 m14) (k_U_lastOf hV G9 v11 a1) h (fun v16 G15 _ h => ?_)
    refine Y.blk (pc' := 34) (L' := [some (.ref a0), some (.int a1), some (.int v16), none]) (st' := [.int (-1), .int v16]) (sg := [(.istore_n 2, 0), (.iload_n 2, 0), (.iconst (-1), -1)]) (lSa_ok dd11) rfl ?_
    refine Y.ic_ne (off := 10) (tgt := 44) (lIa_ok dd12) (by decide) h (fun c44 h => ?_) (fun c44 h => ?_)
    · refine Y.blk (pc' := 40) (L' := [some (.ref a0), some (.int a1), some (.int v16), none]) (st' := [.int (-7), .ref a0]) (sg := [(.aload_n 0, 0), (.bipush (-7), -7)]) (lSa_ok dd13) rfl ?_
      obtain ⟨_, o18, e17, m19, h⟩ := gOb_inv h
      refine Y.callI (yC.Vi (b := a0) (As := [.int (-7)]) (st := []) (r := ("Partlister", T_X, 5)) hV.1 cb_X_failWith lk_X_173 in_X_failWith rfl se_X_failWith (lIa_ok dd14) rfl rfl (Nat.le_of_ble_eq_true rfl) (by decide) e17 m19) (k_X_failWith hV G15 a0 (-7)) h (fun v21 G20 _ h => ?_)
      exact Y.iret rfl (lIa_ok dd15) h
    · refine Y.blk (pc' := 45) (L' := [some (.ref a0), some (.int a1), some (.int v16), none]) (st' := [.ref a0]) (sg := [(.aload_n 0, 0)]) (lSa_ok dd16) rfl ?_
      refine Y.getA fl_X_19 (lIa_ok dd17) h (fun v22 h => ?_)
      refine Y.blk (pc' := 49) (L' := [some (.ref a0), some (.int a1), some (.int v16), none]) (st' := [.int a1, .ref v22]) (sg := [(.iload_n 1, 0)]) (lSa_ok dd18) rfl ?_
      obtain ⟨_, o24, e23, m25, h⟩ := gOb_inv h
      refine Y.callI (yC.Vi (b := v22) (As := [.int a1]) (st := []) (r := ("Partlister$Cursors", T_U, 5)) hV.1 cb_U_listOf lk_X_152 in_U_listOf rfl se_U_listOf (lIa_ok dd19) rfl rfl (Nat.le_of_ble_eq_true rfl) (by decide) e23 m25) (k_U_listOf hV G15 v22 a1) h (fun v27 G26 _ h => ?_)
      refine Y.blk (pc' := 57) (L' := [some (.ref a0), some (.int a1), some (.int v16), some (.int v27)]) (st' := [.int a1, .int v16, .int v27, .ref a0]) (sg := [(.istore_n 3, 0), (.aload_n 0, 0), (.iload_n 3, 0), (.iload_n 2, 0), (.iload_n 1, 0)]) (lSa_ok dd20) rfl ?_
      obtain ⟨_, o29, e28, m30, h⟩ := gOb_inv h
      refine Y.callI (yC.Vi (b := a0) (As := [.int v27, .int v16, .int a1]) (st := []) (r := ("Partlister", T_X, 5)) hV.1 cb_X_takeOut lk_X_69 in_X_takeOut rfl se_X_takeOut (lIa_ok dd21) rfl rfl (Nat.le_of_ble_eq_true rfl) (by decide) e28 m30) (k_X_takeOut hV G26 a0 v27 v16 a1) h (fun v32 G31 _ h => ?_)
      refine Y.blk (pc' := 62) (L' := [some (.ref a0), some (.int a1), some (.int v16), some (.int v27)]) (st' := [.ref a0]) (sg := [(.pop, 0), (.aload_n 0, 0)]) (lSa_ok dd22) rfl ?_
      refine Y.getA fl_X_19 (lIa_ok dd23) h (fun v33 h => ?_)
      refine Y.blk (pc' := 68) (L' := [some (.ref a0), some (.int a1), some (.int v16), some (.int v27)]) (st' := [.int (-1), .int v16, .int a1, .ref v33]) (sg := [(.iload_n 1, 0), (.iload_n 2, 0), (.iconst (-1), -1)]) (lSa_ok dd24) rfl ?_
      obtain ⟨_, o35, e34, m36, h⟩ := gOb_inv h
      refine Y.callN (yC.Vi (b := v33) (As := [.int a1, .int v16, .int (-1)]) (st := []) (r := ("Partlister$Cursors", T_U, 5)) hV.1 cb_U_stand lk_X_179 in_U_stand rfl se_U_stand (lIa_ok dd25) rfl rfl (Nat.le_of_ble_eq_true rfl) (by decide) e34 m36) (k_U_stand hV G31 v33 a1 v16 (-1)) h (fun G37 _ h => ?_)
      refine Y.blk (pc' := 72) (L' := [some (.ref a0), some (.int a1), some (.int v16), some (.int v27)]) (st' := [.ref a0]) (sg := [(.aload_n 0, 0)]) (lSa_ok dd26) rfl ?_
      refine Y.getA fl_X_10 (lIa_ok dd27) h (fun v38 h => ?_)
      refine Y.blk (pc' := 76) (L' := [some (.ref a0), some (.int a1), some (.int v16), some (.int v27)]) (st' := [.int v27, .ref v38]) (sg := [(.iload_n 3, 0)]) (lSa_ok dd28) rfl ?_
      obtain ⟨_, o40, e39, m41, h⟩ := gOb_inv h
      refine Y.callI (yC.Vi (b := v38) (As := [.int v27]) (st := []) (r := ("Partlister$Lists", T_I, 7)) hV.1 cb_I_lengthOf lk_X_34 in_I_lengthOf rfl se_I_lengthOf (lIa_ok dd29) rfl rfl (Nat.le_of_ble_eq_true rfl) (by decide) e39 m41) (k_I_lengthOf hV G37 v38 v27) h (fun v43 G42 _ h => ?_)
      exact Y.iret rfl (lIa_ok dd30) h
  · refine Y.blk (pc' := 19) (L' := [some (.ref a0), some (.int a1), none, none]) (st' := [.int (-9), .ref a0]) (sg := [(.aload_n 0, 0), (.bipush (-9), -9)]) (lSa_ok dd31) rfl ?_
    obtain ⟨_, o46, e45, m47, h⟩ := gOb_inv h
    refine Y.callI (yC.Vi (b := a0) (As := [.int (-9)]) (st := []) (r := ("Partlister", T_X, 5)) hV.1 cb_X_failWith lk_X_173 in_X_failWith rfl se_X_failWith (lIa_ok dd32) rfl rfl (Nat.le_of_ble_eq_true rfl) (by decide) e45 m47) (k_X_failWith hV G9 a0 (-9)) h (fun v49 G48 _ h => ?_)
    exact Y.iret rfl (lIa_ok dd33) h

def f_X_end (G : gH) (a0 : Nat) (a1 : Int32) : gR :=
  gOb G a0 3 fun o2 => bV (f_X_needCursor G a0 a1) fun G4 => gFA G4 a0 3 1 fun v5 => gOb G4 v5 0 fun o7 => bI (f_U_isStale G4 v5 a1) fun v10 G9 => gFA G9 a0 3 1 fun v11 => gOb G9 v11 0 fun o13 => bV (f_U_finish G9 v11 a1) fun G15 => rZ v10 G15
theorem k_X_end {l : Launch} {D : va_G} {B : Nat} {O : State → Heap → Prop} (hV : zG l D B O) (G : gH) (a0 : Nat) (a1 : Int32) : gMet (zVm l D B O) m_X_end 7 [.ref a0, .int a1] G (f_X_end G a0 a1) := by
  have hdd : lSa m_X_end 0 [(.aload_n 0, 0), (.iload_n 1, 0)] = true ∧ lIa m_X_end 2 (.invokevirtual 167) 3 = true ∧ lSa m_X_end 5 [(.aload_n 0, 0)] = true ∧ lIa m_X_end 6 (.getfield 19) 3 = true ∧ lSa m_X_end 9 [(.iload_n 1, 0)] = true ∧ lIa m_X_end 10 (.invokevirtual 170) 3 = true ∧ lSa m_X_end 13 [(.istore_n 2, 0), (.aload_n 0, 0)] = true ∧ lIa m_X_end 15 (.getfield 19) 3 = true ∧ lSa m_X_end 18 [(.iload_n 1, 0)] = true ∧ lIa m_X_end 19 (.invokevirtual 156) 3 = true ∧ lSa m_X_end 22 [(.iload_n 2, 0)] = true ∧ lIa m_X_end 23 (.ireturn) 1 = true := by decide +kernel
  refine lA8 hdd (fun dd0 dd1 dd2 dd3 dd4 dd5 dd6 dd7 hdd => ?_)
  obtain ⟨dd8, dd9, dd10, dd11⟩ := hdd
  refine gMet.of (by decide +kernel) (Nat.le_of_ble_eq_true rfl) [some (.ref a0), some (.int a1), none] (fun ls h => zEn_ok (n := 3) h) ?_
  intro o Gf h
  unfold f_X_end at h
  refine Y.blk (pc' := 2) (L' := [some (.ref a0), some (.int a1), none]) (st' := [.int a1, .ref a0]) (sg := [(.aload_n 0, 0), (.iload_n 1, 0)]) (lSa_ok dd0) rfl ?_
  obtain ⟨_, o2, e1, m3, h⟩ := gOb_inv h
  refine Y.callN (yC.Vi (b := a0) (As := [.int a1]) (st := []) (r := ("Partlister", T_X, 5)) hV.1 cb_X_needCursor lk_X_167 in_X_needCursor rfl se_X_needCursor (lIa_ok dd1) rfl rfl (Nat.le_of_ble_eq_true rfl) (by decide) e1 m3) (k_X_needCursor hV G a0 a1) h (fun G4 _ h => ?_)
  refine Y.blk (pc' := 6) (L' := [some (.ref a0), some (.int a1), none]) (st' := [.ref a0]) (sg := [(.aload_n 0, 0)]) (lSa_ok dd2) rfl ?_
  refine Y.getA fl_X_19 (lIa_ok dd3) h (fun v5 h => ?_)
  refine Y.blk (pc' := 10) (L' := [some (.ref a0), some (.int a1), none]) (st' := [.int a1, .ref v5]) (sg := [(.iload_n 1, 0)]) (lSa_ok dd4) rfl ?_
  obtain ⟨_, o7, e6, m8, h⟩ := gOb_inv h
  refine Y.callI (yC.Vi (b := v5) (As := [.int a1]) (st := []) (r := ("Partlister$Cursors", T_U, 5)) hV.1 cb_U_isStale lk_X_170 in_U_isStale rfl se_U_isStale (lIa_ok dd5) rfl rfl (Nat.le_of_ble_eq_true rfl) (by decide) e6 m8) (k_U_isStale hV G4 v5 a1) h (fun v10 G9 _ h => ?_)
  refine Y.blk (pc' := 15) (L' := [some (.ref a0), some (.int a1), some (.int v10)]) (st' := [.ref a0]) (sg := [(.istore_n 2, 0), (.aload_n 0, 0)]) (lSa_ok dd6) rfl ?_
  refine Y.getA fl_X_19 (lIa_ok dd7) h (fun v11 h => ?_)
  refine Y.blk (pc' := 19) (L' := [some (.ref a0), some (.int a1), some (.int v10)]) (st' := [.int a1, .ref v11]) (sg := [(.iload_n 1, 0)]) (lSa_ok dd8) rfl ?_
  obtain ⟨_, o13, e12, m14, h⟩ := gOb_inv h
  refine Y.callN (yC.Vi (b := v11) (As := [.int a1]) (st := []) (r := ("Partlister$Cursors", T_U, 5)) hV.1 cb_U_finish lk_X_156 in_U_finish rfl se_U_finish (lIa_ok dd9) rfl rfl (Nat.le_of_ble_eq_true rfl) (by decide) e12 m14) (k_U_finish hV G9 v11 a1) h (fun G15 _ h => ?_)
  refine Y.blk (pc' := 23) (L' := [some (.ref a0), some (.int a1), some (.int v10)]) (st' := [.int v10]) (sg := [(.iload_n 2, 0)]) (lSa_ok dd10) rfl ?_
  exact Y.zret rfl (lIa_ok dd11) h

def f_X_needPlace (G : gH) (a0 : Nat) (a1 : Int32) (a2 : Int32) : gR :=
  if a2 < 0 then gThrow "java/lang/IndexOutOfBoundsException" G
  else gFA G a0 3 0 fun v1 => gOb G v1 1 fun o3 => bI (f_I_lengthOf G v1 a1) fun v6 G5 => if a2 < v6 then rV G5
    else gThrow "java/lang/IndexOutOfBoundsException" G5
theorem k_X_needPlace {l : Launch} {D : va_G} {B : Nat} {O : State → Heap → Prop} (hV : zG l D B O) (G : gH) (a0 : Nat) (a1 : Int32) (a2 : Int32) : gMet (zVm l D B O) m_X_needPlace 6 [.ref a0, .int a1, .int a2] G (f_X_needPlace G a0 a1 a2) := by
  have hdd : lSa m_X_needPlace 0 [(.iload_n 2, 0)] = true ∧ lIa m_X_needPlace 1 (.ifCond .lt 15) 3 = true ∧ lIa m_X_needPlace 16 (.new 125) 3 = true ∧ lIa m_X_needPlace 19 (.dup) 1 = true ∧ lIa m_X_needPlace 20 (.ldc_w 337) 3 = true ∧ lIa m_X_needPlace 23 (.invokespecial 129) 3 = true ∧ lIa m_X_needPlace 26 (.athrow) 1 = true ∧ lSa m_X_needPlace 4 [(.iload_n 2, 0), (.aload_n 0, 0)] = true ∧ lIa m_X_needPlace 6 (.getfield 10) 3 = true ∧ lSa m_X_needPlace 9 [(.iload_n 1, 0)] = true ∧ lIa m_X_needPlace 10 (.invokevirtual 34) 3 = true ∧ lIa m_X_needPlace 13 (.if_icmp .lt 14) 3 = true ∧ lIa m_X_needPlace 27 (.return_) 1 = true := by decide +kernel
  refine lA8 hdd (fun dd0 dd1 dd2 dd3 dd4 dd5 dd6 dd7 hdd => ?_)
  obtain ⟨dd8, dd9, dd10, dd11, dd12⟩ := hdd
  refine gMet.of (by decide +kernel) (Nat.le_of_ble_eq_true rfl) [some (.ref a0), some (.int a1), some (.int a2)] (fun ls h => zEn_ok (n := 3) h) ?_
  intro o Gf h
  unfold f_X_needPlace at h
  refine Y.blk (pc' := 1) (L' := [some (.ref a0), some (.int a1), some (.int a2)]) (st' := [.int a2]) (sg := [(.iload_n 2, 0)]) (lSa_ok dd0) rfl ?_
  refine Y.if_lt (off := 15) (tgt := 16) (lIa_ok dd1) (by decide) h (fun c8 h => ?_) (fun c8 h => ?_)
  · exact Y.throwSW (is := 337) (text := "there is no such PLACE") (names := zNm) hV.1 (hV.2 _ _ _ (by decide +kernel)) (by decide +kernel) (by decide +kernel) ck_X_125 ini_IOE tw_X_129 tg_X_129 (by decide) (by decide) rfl (Nat.le_of_ble_eq_true rfl) (lIa_ok dd2) (lIa_ok dd3) (lIa_ok dd4) (lIa_ok dd5) (lIa_ok dd6) h
  · refine Y.blk (pc' := 6) (L' := [some (.ref a0), some (.int a1), some (.int a2)]) (st' := [.ref a0, .int a2]) (sg := [(.iload_n 2, 0), (.aload_n 0, 0)]) (lSa_ok dd7) rfl ?_
    refine Y.getA fl_X_10 (lIa_ok dd8) h (fun v1 h => ?_)
    refine Y.blk (pc' := 10) (L' := [some (.ref a0), some (.int a1), some (.int a2)]) (st' := [.int a1, .ref v1, .int a2]) (sg := [(.iload_n 1, 0)]) (lSa_ok dd9) rfl ?_
    obtain ⟨_, o3, e2, m4, h⟩ := gOb_inv h
    refine Y.callI (yC.Vi (b := v1) (As := [.int a1]) (st := [.int a2]) (r := ("Partlister$Lists", T_I, 7)) hV.1 cb_I_lengthOf lk_X_34 in_I_lengthOf rfl se_I_lengthOf (lIa_ok dd10) rfl rfl (Nat.le_of_ble_eq_true rfl) (by decide) e2 m4) (k_I_lengthOf hV G v1 a1) h (fun v6 G5 _ h => ?_)
    refine Y.ic_lt (off := 14) (tgt := 27) (lIa_ok dd11) (by decide) h (fun c7 h => ?_) (fun c7 h => ?_)
    · exact Y.vret rfl (lIa_ok dd12) h
    · exact Y.throwSW (is := 337) (text := "there is no such PLACE") (names := zNm) hV.1 (hV.2 _ _ _ (by decide +kernel)) (by decide +kernel) (by decide +kernel) ck_X_125 ini_IOE tw_X_129 tg_X_129 (by decide) (by decide) rfl (Nat.le_of_ble_eq_true rfl) (lIa_ok dd2) (lIa_ok dd3) (lIa_ok dd4) (lIa_ok dd5) (lIa_ok dd6) h

def f_I_swap (G : gH) (a0 : Nat) (a1 : Int32) (a2 : Int32) (a3 : Int32) : gR :=
  gOb G a0 1 fun o2 => bI (f_I_thingAt G a0 a1 a2) fun v5 G4 => gOb G4 a0 1 fun o7 => bI (f_I_thingAt G4 a0 a1 a3) fun v10 G9 => gOb G9 a0 1 fun o12 => bV (f_I_write G9 a0 a1 a2 v10) fun G14 => gOb G14 a0 1 fun o16 => bV (f_I_write G14 a0 a1 a3 v5) fun G18 => rV G18
theorem k_I_swap {l : Launch} {D : va_G} {B : Nat} {O : State → Heap → Prop} (hV : zG l D B O) (G : gH) (a0 : Nat) (a1 : Int32) (a2 : Int32) (a3 : Int32) : gMet (zVm l D B O) m_I_swap 4 [.ref a0, .int a1, .int a2, .int a3] G (f_I_swap G a0 a1 a2 a3) := by
  have hdd : lSa m_I_swap 0 [(.aload_n 0, 0), (.iload_n 1, 0), (.iload_n 2, 0)] = true ∧ lIa m_I_swap 3 (.invokevirtual 50) 3 = true ∧ lSa m_I_swap 6 [(.istore 4, 0), (.aload_n 0, 0), (.iload_n 1, 0), (.iload_n 2, 0), (.aload_n 0, 0), (.iload_n 1, 0), (.iload_n 3, 0)] = true ∧ lIa m_I_swap 14 (.invokevirtual 50) 3 = true ∧ lIa m_I_swap 17 (.invokevirtual 53) 3 = true ∧ lSa m_I_swap 20 [(.aload_n 0, 0), (.iload_n 1, 0), (.iload_n 3, 0), (.iload 4, 0)] = true ∧ lIa m_I_swap 25 (.invokevirtual 53) 3 = true ∧ lIa m_I_swap 28 (.return_) 1 = true := by decide +kernel
  obtain ⟨dd0, dd1, dd2, dd3, dd4, dd5, dd6, dd7⟩ := hdd
  refine gMet.of (by decide +kernel) (Nat.le_of_ble_eq_true rfl) [some (.ref a0), some (.int a1), some (.int a2), some (.int a3), none] (fun ls h => zEn_ok (n := 5) h) ?_
  intro o Gf h
  unfold f_I_swap at h
  refine Y.blk (pc' := 3) (L' := [some (.ref a0), some (.int a1), some (.int a2), some (.int a3), none]) (st' := [.int a2, .int a1, .ref a0]) (sg := [(.aload_n 0, 0), (.iload_n 1, 0), (.iload_n 2, 0)]) (lSa_ok dd0) rfl ?_
  obtain ⟨_, o2, e1, m3, h⟩ := gOb_inv h
  refine Y.callI (yC.Vi (b := a0) (As := [.int a1, .int a2]) (st := []) (r := ("Partlister$Lists", T_I, 7)) hV.1 cb_I_thingAt lk_I_50 in_I_thingAt rfl se_I_thingAt (lIa_ok dd1) rfl rfl (Nat.le_of_ble_eq_true rfl) (by decide) e1 m3) (k_I_thingAt hV G a0 a1 a2) h (fun v5 G4 _ h => ?_)
  refine Y.blk (pc' := 14) (L' := [some (.ref a0), some (.int a1), some (.int a2), some (.int a3), some (.int v5)]) (st' := [.int a3, .int a1, .ref a0, .int a2, .int a1, .ref a0]) (sg := [(.istore 4, 0), (.aload_n 0, 0), (.iload_n 1, 0), (.iload_n 2, 0), (.aload_n 0, 0), (.iload_n 1, 0), (.iload_n 3, 0)]) (lSa_ok dd2) rfl ?_
  obtain ⟨_, o7, e6, m8, h⟩ := gOb_inv h
  refine Y.callI (yC.Vi (b := a0) (As := [.int a1, .int a3]) (st := [.int a2, .int a1, .ref a0]) (r := ("Partlister$Lists", T_I, 7)) hV.1 cb_I_thingAt lk_I_50 in_I_thingAt rfl se_I_thingAt (lIa_ok dd3) rfl rfl (Nat.le_of_ble_eq_true rfl) (by decide) e6 m8) (k_I_thingAt hV G4 a0 a1 a3) h (fun v10 G9 _ h => ?_)
  obtain ⟨_, o12, e11, m13, h⟩ := gOb_inv h
  refine Y.callN (yC.Vi (b := a0) (As := [.int a1, .int a2, .int v10]) (st := []) (r := ("Partlister$Lists", T_I, 7)) hV.1 cb_I_write lk_I_53 in_I_write rfl se_I_write (lIa_ok dd4) rfl rfl (Nat.le_of_ble_eq_true rfl) (by decide) e11 m13) (k_I_write hV G9 a0 a1 a2 v10) h (fun G14 _ h => ?_)
  refine Y.blk (pc' := 25) (L' := [some (.ref a0), some (.int a1), some (.int a2), some (.int a3), some (.int v5)]) (st' := [.int v5, .int a3, .int a1, .ref a0]) (sg := [(.aload_n 0, 0), (.iload_n 1, 0), (.iload_n 3, 0), (.iload 4, 0)]) (lSa_ok dd5) rfl ?_
  obtain ⟨_, o16, e15, m17, h⟩ := gOb_inv h
  refine Y.callN (yC.Vi (b := a0) (As := [.int a1, .int a3, .int v5]) (st := []) (r := ("Partlister$Lists", T_I, 7)) hV.1 cb_I_write lk_I_53 in_I_write rfl se_I_write (lIa_ok dd6) rfl rfl (Nat.le_of_ble_eq_true rfl) (by decide) e15 m17) (k_I_write hV G14 a0 a1 a3 v5) h (fun G18 _ h => ?_)
  exact Y.vret rfl (lIa_ok dd7) h

def f_X_exchange (G : gH) (a0 : Nat) (a1 : Int32) (a2 : Int32) (a3 : Int32) : gR :=
  gOb G a0 3 fun o2 => bV (f_X_needList G a0 a1) fun G4 => gOb G4 a0 3 fun o6 => bV (f_X_needPlace G4 a0 a1 a2) fun G8 => gOb G8 a0 3 fun o10 => bV (f_X_needPlace G8 a0 a1 a3) fun G12 => gFA G12 a0 3 0 fun v13 => gOb G12 v13 1 fun o15 => bV (f_I_swap G12 v13 a1 a2 a3) fun G17 => gFA G17 a0 3 0 fun v18 => gOb G17 v18 1 fun o20 => bI (f_I_keyAt G17 v18 a1 a2) fun v23 G22 => gFA G22 a0 3 0 fun v24 => gOb G22 v24 1 fun o26 => bI (f_I_keyAt G22 v24 a1 a3) fun v29 G28 => if v23 = v29 then rZ (nI 1) G28
  else rZ (nI 0) G28
theorem k_X_exchange {l : Launch} {D : va_G} {B : Nat} {O : State → Heap → Prop} (hV : zG l D B O) (G : gH) (a0 : Nat) (a1 : Int32) (a2 : Int32) (a3 : Int32) : gMet (zVm l D B O) m_X_exchange 7 [.ref a0, .int a1, .int a2, .int a3] G (f_X_exchange G a0 a1 a2 a3) := by
  have hdd : lSa m_X_exchange 0 [(.aload_n 0, 0), (.iload_n 1, 0)] = true ∧ lIa m_X_exchange 2 (.invokevirtual 23) 3 = true ∧ lSa m_X_exchange 5 [(.aload_n 0, 0), (.iload_n 1, 0), (.iload_n 2, 0)] = true ∧ lIa m_X_exchange 8 (.invokevirtual 58) 3 = true ∧ lSa m_X_exchange 11 [(.aload_n 0, 0), (.iload_n 1, 0), (.iload_n 3, 0)] = true ∧ lIa m_X_exchange 14 (.invokevirtual 58) 3 = true ∧ lSa m_X_exchange 17 [(.aload_n 0, 0)] = true ∧ lIa m_X_exchange 18 (.getfield 10) 3 = true ∧ lSa m_X_exchange 21 [(.iload_n 1, 0), (.iload_n 2, 0), (.iload_n 3, 0)] = true ∧ lIa m_X_exchange 24 (.invokevirtual 117) 3 = true ∧ lSa m_X_exchange 27 [(.aload_n 0, 0)] = true ∧ lIa m_X_exchange 28 (.getfield 10) 3 = true ∧ lSa m_X_exchange 31 [(.iload_n 1, 0), (.iload_n 2, 0)] = true ∧ lIa m_X_exchange 33 (.invokevirtual 61) 3 = true ∧ lSa m_X_exchange 36 [(.aload_n 0, 0)] = true ∧ lIa m_X_exchange 37 (.getfield 10) 3 = true ∧ lSa m_X_exchange 40 [(.iload_n 1, 0), (.iload_n 3, 0)] = true ∧ lIa m_X_exchange 42 (.invokevirtual 61) 3 = true ∧ lIa m_X_exchange 45 (.if_icmp .ne 7) 3 = true ∧ lSa m_X_exchange 48 [(.iconst 1, nI 1)] = true ∧ lIa m_X_exchange 49 (.goto 4) 3 = true ∧ lIa m_X_exchange 53 (.ireturn) 1 = true ∧ lSa m_X_exchange 52 [(.iconst 0, nI 0)] = true := by decide +kernel
  refine lA8 hdd (fun dd0 dd1 dd2 dd3 dd4 dd5 dd6 dd7 hdd => ?_)
  refine lA8 hdd (fun dd8 dd9 dd10 dd11 dd12 dd13 dd14 dd15 hdd => ?_)
  obtain ⟨dd16, dd17, dd18, dd19, dd20, dd21, dd22⟩ := hdd
  refine gMet.of (by decide +kernel) (Nat.le_of_ble_eq_true rfl) [some (.ref a0), some (.int a1), some (.int a2), some (.int a3)] (fun ls h => zEn_ok (n := 4) h) ?_
  intro o Gf h
  unfold f_X_exchange at h
  refine Y.blk (pc' := 2) (L' := [some (.ref a0), some (.int a1), some (.int a2), some (.int a3)]) (st' := [.int a1, .ref a0]) (sg := [(.aload_n 0, 0), (.iload_n 1, 0)]) (lSa_ok dd0) rfl ?_
  obtain ⟨_, o2, e1, m3, h⟩ := gOb_inv h
  refine Y.callN (yC.Vi (b := a0) (As := [.int a1]) (st := []) (r := ("Partlister", T_X, 5)) hV.1 cb_X_needList lk_X_23 in_X_needList rfl se_X_needList (lIa_ok dd1) rfl rfl (Nat.le_of_ble_eq_true rfl) (by decide) e1 m3) (k_X_needList hV G a0 a1) h (fun G4 _ h => ?_)
  refine Y.blk (pc' := 8) (L' := [some (.ref a0), some (.int a1), some (.int a2), some (.int a3)]) (st' := [.int a2, .int a1, .ref a0]) (sg := [(.aload_n 0, 0), (.iload_n 1, 0), (.iload_n 2, 0)]) (lSa_ok dd2) rfl ?_
  obtain ⟨_, o6, e5, m7, h⟩ := gOb_inv h
  refine Y.callN (yC.Vi (b := a0) (As := [.int a1, .int a2]) (st := []) (r := ("Partlister", T_X, 5)) hV.1 cb_X_needPlace lk_X_58 in_X_needPlace rfl se_X_needPlace (lIa_ok dd3) rfl rfl (Nat.le_of_ble_eq_true rfl) (by decide) e5 m7) (k_X_needPlace hV G4 a0 a1 a2) h (fun G8 _ h => ?_)
  refine Y.blk (pc' := 14) (L' := [some (.ref a0), some (.int a1), some (.int a2), some (.int a3)]) (st' := [.int a3, .int a1, .ref a0]) (sg := [(.aload_n 0, 0), (.iload_n 1, 0), (.iload_n 3, 0)]) (lSa_ok dd4) rfl ?_
  obtain ⟨_, o10, e9, m11, h⟩ := gOb_inv h
  refine Y.callN (yC.Vi (b := a0) (As := [.int a1, .int a3]) (st := []) (r := ("Partlister", T_X, 5)) hV.1 cb_X_needPlace lk_X_58 in_X_needPlace rfl se_X_needPlace (lIa_ok dd5) rfl rfl (Nat.le_of_ble_eq_true rfl) (by decide) e9 m11) (k_X_needPlace hV G8 a0 a1 a3) h (fun G12 _ h => ?_)
  refine Y.blk (pc' := 18) (L' := [some (.ref a0), some (.int a1), some (.int a2), some (.int a3)]) (st' := [.ref a0]) (sg := [(.aload_n 0, 0)]) (lSa_ok dd6) rfl ?_
  refine Y.getA fl_X_10 (lIa_ok dd7) h (fun v13 h => ?_)
  refine Y.blk (pc' := 24) (L' := [some (.ref a0), some (.int a1), some (.int a2), some (.int a3)]) (st' := [.int a3, .int a2, .int a1, .ref v13]) (sg := [(.iload_n 1, 0), (.iload_n 2, 0), (.iload_n 3, 0)]) (lSa_ok dd8) rfl ?_
  obtain ⟨_, o15, e14, m16, h⟩ := gOb_inv h
  refine Y.callN (yC.Vi (b := v13) (As := [.int a1, .int a2, .int a3]) (st := []) (r := ("Partlister$Lists", T_I, 7)) hV.1 cb_I_swap lk_X_117 in_I_swap rfl se_I_swap (lIa_ok dd9) rfl rfl (Nat.le_of_ble_eq_true rfl) (by decide) e14 m16) (k_I_swap hV G12 v13 a1 a2 a3) h (fun G17 _ h => ?_)
  refine Y.blk (pc' := 28) (L' := [some (.ref a0), some (.int a1), some (.int a2), some (.int a3)]) (st' := [.ref a0]) (sg := [(.aload_n 0, 0)]) (lSa_ok dd10) rfl ?_
  refine Y.getA fl_X_10 (lIa_ok dd11) h (fun v18 h => ?_)
  refine Y.blk (pc' := 33) (L' := [some (.ref a0), some (.int a1), some (.int a2), some (.int a3)]) (st' := [.int a2, .int a1, .ref v18]) (sg := [(.iload_n 1, 0), (.iload_n 2, 0)]) (lSa_ok dd12) rfl ?_
  obtain ⟨_, o20, e19, m21, h⟩ := gOb_inv h
  refine Y.callI (yC.Vi (b := v18) (As := [.int a1, .int a2]) (st := []) (r := ("Partlister$Lists", T_I, 7)) hV.1 cb_I_keyAt lk_X_61 in_I_keyAt rfl se_I_keyAt (lIa_ok dd13) rfl rfl (Nat.le_of_ble_eq_true rfl) (by decide) e19 m21) (k_I_keyAt hV G17 v18 a1 a2) h (fun v23 G22 _ h => ?_)
  refine Y.blk (pc' := 37) (L' := [some (.ref a0), some (.int a1), some (.int a2), some (.int a3)]) (st' := [.ref a0, .int v23]) (sg := [(.aload_n 0, 0)]) (lSa_ok dd14) rfl ?_
  refine Y.getA fl_X_10 (lIa_ok dd15) h (fun v24 h => ?_)
  refine Y.blk (pc' := 42) (L' := [some (.ref a0), some (.int a1), some (.int a2), some (.int a3)]) (st' := [.int a3, .int a1, .ref v24, .int v23]) (sg := [(.iload_n 1, 0), (.iload_n 3, 0)]) (lSa_ok dd16) rfl ?_
  obtain ⟨_, o26, e25, m27, h⟩ := gOb_inv h
  refine Y.callI (yC.Vi (b := v24) (As := [.int a1, .int a3]) (st := [.int v23]) (r := ("Partlister$Lists", T_I, 7)) hV.1 cb_I_keyAt lk_X_61 in_I_keyAt rfl se_I_keyAt (lIa_ok dd17) rfl rfl (Nat.le_of_ble_eq_true rfl) (by decide) e25 m27) (k_I_keyAt hV G22 v24 a1 a3) h (fun v29 G28 _ h => ?_)
  refine Y.ic_ne (off := 7) (tgt := 52) (lIa_ok dd18) (by decide) h (fun c30 h => ?_) (fun c30 h => ?_)
  · refine Y.blk (pc' := 49) (L' := [some (.ref a0), some (.int a1), some (.int a2), some (.int a3)]) (st' := [.int (nI 1)]) (sg := [(.iconst 1, nI 1)]) (lSa_ok dd19) rfl ?_
    refine Y.goto (off := 4) (tgt := 53) (lIa_ok dd20) (by decide) ?_
    exact Y.zret rfl (lIa_ok dd21) h
  · refine Y.blk (pc' := 53) (L' := [some (.ref a0), some (.int a1), some (.int a2), some (.int a3)]) (st' := [.int (nI 0)]) (sg := [(.iconst 0, nI 0)]) (lSa_ok dd22) rfl ?_
    exact Y.zret rfl (lIa_ok dd21) h

def f_X_extreme (G : gH) (a0 : Nat) (a1 : Int32) (a2 : Int32) : gR :=
  gOb G a0 3 fun o2 => bV (f_X_needList G a0 a1) fun G4 => gFA G4 a0 3 0 fun v5 => gOb G4 v5 1 fun o7 => bI (f_I_extremeKey G4 v5 a1 a2) fun v10 G9 => rI v10 G9
theorem k_X_extreme {l : Launch} {D : va_G} {B : Nat} {O : State → Heap → Prop} (hV : zG l D B O) (G : gH) (a0 : Nat) (a1 : Int32) (a2 : Int32) : gMet (zVm l D B O) m_X_extreme 7 [.ref a0, .int a1, .int a2] G (f_X_extreme G a0 a1 a2) := by
  have hdd : lSa m_X_extreme 0 [(.aload_n 0, 0), (.iload_n 1, 0)] = true ∧ lIa m_X_extreme 2 (.invokevirtual 23) 3 = true ∧ lSa m_X_extreme 5 [(.aload_n 0, 0)] = true ∧ lIa m_X_extreme 6 (.getfield 10) 3 = true ∧ lSa m_X_extreme 9 [(.iload_n 1, 0), (.iload_n 2, 0)] = true ∧ lIa m_X_extreme 11 (.invokevirtual 213) 3 = true ∧ lIa m_X_extreme 14 (.ireturn) 1 = true := by decide +kernel
  obtain ⟨dd0, dd1, dd2, dd3, dd4, dd5, dd6⟩ := hdd
  refine gMet.of (by decide +kernel) (Nat.le_of_ble_eq_true rfl) [some (.ref a0), some (.int a1), some (.int a2)] (fun ls h => zEn_ok (n := 3) h) ?_
  intro o Gf h
  unfold f_X_extreme at h
  refine Y.blk (pc' := 2) (L' := [some (.ref a0), some (.int a1), some (.int a2)]) (st' := [.int a1, .ref a0]) (sg := [(.aload_n 0, 0), (.iload_n 1, 0)]) (lSa_ok dd0) rfl ?_
  obtain ⟨_, o2, e1, m3, h⟩ := gOb_inv h
  refine Y.callN (yC.Vi (b := a0) (As := [.int a1]) (st := []) (r := ("Partlister", T_X, 5)) hV.1 cb_X_needList lk_X_23 in_X_needList rfl se_X_needList (lIa_ok dd1) rfl rfl (Nat.le_of_ble_eq_true rfl) (by decide) e1 m3) (k_X_needList hV G a0 a1) h (fun G4 _ h => ?_)
  refine Y.blk (pc' := 6) (L' := [some (.ref a0), some (.int a1), some (.int a2)]) (st' := [.ref a0]) (sg := [(.aload_n 0, 0)]) (lSa_ok dd2) rfl ?_
  refine Y.getA fl_X_10 (lIa_ok dd3) h (fun v5 h => ?_)
  refine Y.blk (pc' := 11) (L' := [some (.ref a0), some (.int a1), some (.int a2)]) (st' := [.int a2, .int a1, .ref v5]) (sg := [(.iload_n 1, 0), (.iload_n 2, 0)]) (lSa_ok dd4) rfl ?_
  obtain ⟨_, o7, e6, m8, h⟩ := gOb_inv h
  refine Y.callI (yC.Vi (b := v5) (As := [.int a1, .int a2]) (st := []) (r := ("Partlister$Lists", T_I, 7)) hV.1 cb_I_extremeKey lk_X_213 in_I_extremeKey rfl se_I_extremeKey (lIa_ok dd5) rfl rfl (Nat.le_of_ble_eq_true rfl) (by decide) e6 m8) (k_I_extremeKey hV G4 v5 a1 a2) h (fun v10 G9 _ h => ?_)
  exact Y.iret rfl (lIa_ok dd6) h

def f_X_find (G : gH) (a0 : Nat) (a1 : Int32) (a2 : Int32) : gR :=
  gOb G a0 3 fun o2 => bV (f_X_needList G a0 a1) fun G4 => gOb G4 a0 3 fun o6 => bV (f_X_needList G4 a0 a2) fun G8 => gFA G8 a0 3 0 fun v9 => gOb G8 v9 1 fun o11 => bI (f_I_placeOf G8 v9 a1 a2) fun v14 G13 => rI v14 G13
theorem k_X_find {l : Launch} {D : va_G} {B : Nat} {O : State → Heap → Prop} (hV : zG l D B O) (G : gH) (a0 : Nat) (a1 : Int32) (a2 : Int32) : gMet (zVm l D B O) m_X_find 7 [.ref a0, .int a1, .int a2] G (f_X_find G a0 a1 a2) := by
  have hdd : lSa m_X_find 0 [(.aload_n 0, 0), (.iload_n 1, 0)] = true ∧ lIa m_X_find 2 (.invokevirtual 23) 3 = true ∧ lSa m_X_find 5 [(.aload_n 0, 0), (.iload_n 2, 0)] = true ∧ lIa m_X_find 7 (.invokevirtual 23) 3 = true ∧ lSa m_X_find 10 [(.aload_n 0, 0)] = true ∧ lIa m_X_find 11 (.getfield 10) 3 = true ∧ lSa m_X_find 14 [(.iload_n 1, 0), (.iload_n 2, 0)] = true ∧ lIa m_X_find 16 (.invokevirtual 202) 3 = true ∧ lIa m_X_find 19 (.ireturn) 1 = true := by decide +kernel
  refine lA8 hdd (fun dd0 dd1 dd2 dd3 dd4 dd5 dd6 dd7 hdd => ?_)
  have dd8 := hdd
  refine gMet.of (by decide +kernel) (Nat.le_of_ble_eq_true rfl) [some (.ref a0), some (.int a1), some (.int a2)] (fun ls h => zEn_ok (n := 3) h) ?_
  intro o Gf h
  unfold f_X_find at h
  refine Y.blk (pc' := 2) (L' := [some (.ref a0), some (.int a1), some (.int a2)]) (st' := [.int a1, .ref a0]) (sg := [(.aload_n 0, 0), (.iload_n 1, 0)]) (lSa_ok dd0) rfl ?_
  obtain ⟨_, o2, e1, m3, h⟩ := gOb_inv h
  refine Y.callN (yC.Vi (b := a0) (As := [.int a1]) (st := []) (r := ("Partlister", T_X, 5)) hV.1 cb_X_needList lk_X_23 in_X_needList rfl se_X_needList (lIa_ok dd1) rfl rfl (Nat.le_of_ble_eq_true rfl) (by decide) e1 m3) (k_X_needList hV G a0 a1) h (fun G4 _ h => ?_)
  refine Y.blk (pc' := 7) (L' := [some (.ref a0), some (.int a1), some (.int a2)]) (st' := [.int a2, .ref a0]) (sg := [(.aload_n 0, 0), (.iload_n 2, 0)]) (lSa_ok dd2) rfl ?_
  obtain ⟨_, o6, e5, m7, h⟩ := gOb_inv h
  refine Y.callN (yC.Vi (b := a0) (As := [.int a2]) (st := []) (r := ("Partlister", T_X, 5)) hV.1 cb_X_needList lk_X_23 in_X_needList rfl se_X_needList (lIa_ok dd3) rfl rfl (Nat.le_of_ble_eq_true rfl) (by decide) e5 m7) (k_X_needList hV G4 a0 a2) h (fun G8 _ h => ?_)
  refine Y.blk (pc' := 11) (L' := [some (.ref a0), some (.int a1), some (.int a2)]) (st' := [.ref a0]) (sg := [(.aload_n 0, 0)]) (lSa_ok dd4) rfl ?_
  refine Y.getA fl_X_10 (lIa_ok dd5) h (fun v9 h => ?_)
  refine Y.blk (pc' := 16) (L' := [some (.ref a0), some (.int a1), some (.int a2)]) (st' := [.int a2, .int a1, .ref v9]) (sg := [(.iload_n 1, 0), (.iload_n 2, 0)]) (lSa_ok dd6) rfl ?_
  obtain ⟨_, o11, e10, m12, h⟩ := gOb_inv h
  refine Y.callI (yC.Vi (b := v9) (As := [.int a1, .int a2]) (st := []) (r := ("Partlister$Lists", T_I, 7)) hV.1 cb_I_placeOf lk_X_202 in_I_placeOf rfl se_I_placeOf (lIa_ok dd7) rfl rfl (Nat.le_of_ble_eq_true rfl) (by decide) e10 m12) (k_I_placeOf hV G8 v9 a1 a2) h (fun v14 G13 _ h => ?_)
  exact Y.iret rfl (lIa_ok dd8) h

def f_X_first (G : gH) (a0 : Nat) (a1 : Int32) (a2 : Int32) : gR :=
  gOb G a0 3 fun o2 => bV (f_X_needList G a0 a1) fun G4 => gOb G4 a0 3 fun o6 => bV (f_X_needKey G4 a0 a2) fun G8 => gFA G8 a0 3 0 fun v9 => gOb G8 v9 1 fun o11 => bI (f_I_firstOf G8 v9 a1 a2) fun v14 G13 => rI v14 G13
theorem k_X_first {l : Launch} {D : va_G} {B : Nat} {O : State → Heap → Prop} (hV : zG l D B O) (G : gH) (a0 : Nat) (a1 : Int32) (a2 : Int32) : gMet (zVm l D B O) m_X_first 7 [.ref a0, .int a1, .int a2] G (f_X_first G a0 a1 a2) := by
  have hdd : lSa m_X_first 0 [(.aload_n 0, 0), (.iload_n 1, 0)] = true ∧ lIa m_X_first 2 (.invokevirtual 23) 3 = true ∧ lSa m_X_first 5 [(.aload_n 0, 0), (.iload_n 2, 0)] = true ∧ lIa m_X_first 7 (.invokevirtual 27) 3 = true ∧ lSa m_X_first 10 [(.aload_n 0, 0)] = true ∧ lIa m_X_first 11 (.getfield 10) 3 = true ∧ lSa m_X_first 14 [(.iload_n 1, 0), (.iload_n 2, 0)] = true ∧ lIa m_X_first 16 (.invokevirtual 72) 3 = true ∧ lIa m_X_first 19 (.ireturn) 1 = true := by decide +kernel
  refine lA8 hdd (fun dd0 dd1 dd2 dd3 dd4 dd5 dd6 dd7 hdd => ?_)
  have dd8 := hdd
  refine gMet.of (by decide +kernel) (Nat.le_of_ble_eq_true rfl) [some (.ref a0), some (.int a1), some (.int a2)] (fun ls h => zEn_ok (n := 3) h) ?_
  intro o Gf h
  unfold f_X_first at h
  refine Y.blk (pc' := 2) (L' := [some (.ref a0), some (.int a1), some (.int a2)]) (st' := [.int a1, .ref a0]) (sg := [(.aload_n 0, 0), (.iload_n 1, 0)]) (lSa_ok dd0) rfl ?_
  obtain ⟨_, o2, e1, m3, h⟩ := gOb_inv h
  refine Y.callN (yC.Vi (b := a0) (As := [.int a1]) (st := []) (r := ("Partlister", T_X, 5)) hV.1 cb_X_needList lk_X_23 in_X_needList rfl se_X_needList (lIa_ok dd1) rfl rfl (Nat.le_of_ble_eq_true rfl) (by decide) e1 m3) (k_X_needList hV G a0 a1) h (fun G4 _ h => ?_)
  refine Y.blk (pc' := 7) (L' := [some (.ref a0), some (.int a1), some (.int a2)]) (st' := [.int a2, .ref a0]) (sg := [(.aload_n 0, 0), (.iload_n 2, 0)]) (lSa_ok dd2) rfl ?_
  obtain ⟨_, o6, e5, m7, h⟩ := gOb_inv h
  refine Y.callN (yC.Vi (b := a0) (As := [.int a2]) (st := []) (r := ("Partlister", T_X, 5)) hV.1 cb_X_needKey lk_X_27 in_X_needKey rfl se_X_needKey (lIa_ok dd3) rfl rfl (Nat.le_of_ble_eq_true rfl) (by decide) e5 m7) (k_X_needKey hV G4 a0 a2) h (fun G8 _ h => ?_)
  refine Y.blk (pc' := 11) (L' := [some (.ref a0), some (.int a1), some (.int a2)]) (st' := [.ref a0]) (sg := [(.aload_n 0, 0)]) (lSa_ok dd4) rfl ?_
  refine Y.getA fl_X_10 (lIa_ok dd5) h (fun v9 h => ?_)
  refine Y.blk (pc' := 16) (L' := [some (.ref a0), some (.int a1), some (.int a2)]) (st' := [.int a2, .int a1, .ref v9]) (sg := [(.iload_n 1, 0), (.iload_n 2, 0)]) (lSa_ok dd6) rfl ?_
  obtain ⟨_, o11, e10, m12, h⟩ := gOb_inv h
  refine Y.callI (yC.Vi (b := v9) (As := [.int a1, .int a2]) (st := []) (r := ("Partlister$Lists", T_I, 7)) hV.1 cb_I_firstOf lk_X_72 in_I_firstOf rfl se_I_firstOf (lIa_ok dd7) rfl rfl (Nat.le_of_ble_eq_true rfl) (by decide) e10 m12) (k_I_firstOf hV G8 v9 a1 a2) h (fun v14 G13 _ h => ?_)
  exact Y.iret rfl (lIa_ok dd8) h

def f_X_hasAll (G : gH) (a0 : Nat) (a1 : Int32) (a2 : Int32) : gR :=
  gOb G a0 3 fun o2 => bV (f_X_needList G a0 a1) fun G4 => gOb G4 a0 3 fun o6 => bV (f_X_needList G4 a0 a2) fun G8 => gFA G8 a0 3 0 fun v9 => gOb G8 v9 1 fun o11 => bI (f_I_holdsKeys G8 v9 a1 a2) fun v14 G13 => rZ v14 G13
theorem k_X_hasAll {l : Launch} {D : va_G} {B : Nat} {O : State → Heap → Prop} (hV : zG l D B O) (G : gH) (a0 : Nat) (a1 : Int32) (a2 : Int32) : gMet (zVm l D B O) m_X_hasAll 7 [.ref a0, .int a1, .int a2] G (f_X_hasAll G a0 a1 a2) := by
  have hdd : lSa m_X_hasAll 0 [(.aload_n 0, 0), (.iload_n 1, 0)] = true ∧ lIa m_X_hasAll 2 (.invokevirtual 23) 3 = true ∧ lSa m_X_hasAll 5 [(.aload_n 0, 0), (.iload_n 2, 0)] = true ∧ lIa m_X_hasAll 7 (.invokevirtual 23) 3 = true ∧ lSa m_X_hasAll 10 [(.aload_n 0, 0)] = true ∧ lIa m_X_hasAll 11 (.getfield 10) 3 = true ∧ lSa m_X_hasAll 14 [(.iload_n 1, 0), (.iload_n 2, 0)] = true ∧ lIa m_X_hasAll 16 (.invokevirtual 192) 3 = true ∧ lIa m_X_hasAll 19 (.ireturn) 1 = true := by decide +kernel
  refine lA8 hdd (fun dd0 dd1 dd2 dd3 dd4 dd5 dd6 dd7 hdd => ?_)
  have dd8 := hdd
  refine gMet.of (by decide +kernel) (Nat.le_of_ble_eq_true rfl) [some (.ref a0), some (.int a1), some (.int a2)] (fun ls h => zEn_ok (n := 3) h) ?_
  intro o Gf h
  unfold f_X_hasAll at h
  refine Y.blk (pc' := 2) (L' := [some (.ref a0), some (.int a1), some (.int a2)]) (st' := [.int a1, .ref a0]) (sg := [(.aload_n 0, 0), (.iload_n 1, 0)]) (lSa_ok dd0) rfl ?_
  obtain ⟨_, o2, e1, m3, h⟩ := gOb_inv h
  refine Y.callN (yC.Vi (b := a0) (As := [.int a1]) (st := []) (r := ("Partlister", T_X, 5)) hV.1 cb_X_needList lk_X_23 in_X_needList rfl se_X_needList (lIa_ok dd1) rfl rfl (Nat.le_of_ble_eq_true rfl) (by decide) e1 m3) (k_X_needList hV G a0 a1) h (fun G4 _ h => ?_)
  refine Y.blk (pc' := 7) (L' := [some (.ref a0), some (.int a1), some (.int a2)]) (st' := [.int a2, .ref a0]) (sg := [(.aload_n 0, 0), (.iload_n 2, 0)]) (lSa_ok dd2) rfl ?_
  obtain ⟨_, o6, e5, m7, h⟩ := gOb_inv h
  refine Y.callN (yC.Vi (b := a0) (As := [.int a2]) (st := []) (r := ("Partlister", T_X, 5)) hV.1 cb_X_needList lk_X_23 in_X_needList rfl se_X_needList (lIa_ok dd3) rfl rfl (Nat.le_of_ble_eq_true rfl) (by decide) e5 m7) (k_X_needList hV G4 a0 a2) h (fun G8 _ h => ?_)
  refine Y.blk (pc' := 11) (L' := [some (.ref a0), some (.int a1), some (.int a2)]) (st' := [.ref a0]) (sg := [(.aload_n 0, 0)]) (lSa_ok dd4) rfl ?_
  refine Y.getA fl_X_10 (lIa_ok dd5) h (fun v9 h => ?_)
  refine Y.blk (pc' := 16) (L' := [some (.ref a0), some (.int a1), some (.int a2)]) (st' := [.int a2, .int a1, .ref v9]) (sg := [(.iload_n 1, 0), (.iload_n 2, 0)]) (lSa_ok dd6) rfl ?_
  obtain ⟨_, o11, e10, m12, h⟩ := gOb_inv h
  refine Y.callI (yC.Vi (b := v9) (As := [.int a1, .int a2]) (st := []) (r := ("Partlister$Lists", T_I, 7)) hV.1 cb_I_holdsKeys lk_X_192 in_I_holdsKeys rfl se_I_holdsKeys (lIa_ok dd7) rfl rfl (Nat.le_of_ble_eq_true rfl) (by decide) e10 m12) (k_I_holdsKeys hV G8 v9 a1 a2) h (fun v14 G13 _ h => ?_)
  exact Y.zret rfl (lIa_ok dd8) h

def f_X_hash (G : gH) (a0 : Nat) (a1 : Int32) : gR :=
  gOb G a0 3 fun o2 => bV (f_X_needList G a0 a1) fun G4 => gFA G4 a0 3 0 fun v5 => gOb G4 v5 1 fun o7 => bI (f_I_hashOf G4 v5 a1) fun v10 G9 => rI v10 G9
theorem k_X_hash {l : Launch} {D : va_G} {B : Nat} {O : State → Heap → Prop} (hV : zG l D B O) (G : gH) (a0 : Nat) (a1 : Int32) : gMet (zVm l D B O) m_X_hash 7 [.ref a0, .int a1] G (f_X_hash G a0 a1) := by
  have hdd : lSa m_X_hash 0 [(.aload_n 0, 0), (.iload_n 1, 0)] = true ∧ lIa m_X_hash 2 (.invokevirtual 23) 3 = true ∧ lSa m_X_hash 5 [(.aload_n 0, 0)] = true ∧ lIa m_X_hash 6 (.getfield 10) 3 = true ∧ lSa m_X_hash 9 [(.iload_n 1, 0)] = true ∧ lIa m_X_hash 10 (.invokevirtual 217) 3 = true ∧ lIa m_X_hash 13 (.ireturn) 1 = true := by decide +kernel
  obtain ⟨dd0, dd1, dd2, dd3, dd4, dd5, dd6⟩ := hdd
  refine gMet.of (by decide +kernel) (Nat.le_of_ble_eq_true rfl) [some (.ref a0), some (.int a1)] (fun ls h => zEn_ok (n := 2) h) ?_
  intro o Gf h
  unfold f_X_hash at h
  refine Y.blk (pc' := 2) (L' := [some (.ref a0), some (.int a1)]) (st' := [.int a1, .ref a0]) (sg := [(.aload_n 0, 0), (.iload_n 1, 0)]) (lSa_ok dd0) rfl ?_
  obtain ⟨_, o2, e1, m3, h⟩ := gOb_inv h
  refine Y.callN (yC.Vi (b := a0) (As := [.int a1]) (st := []) (r := ("Partlister", T_X, 5)) hV.1 cb_X_needList lk_X_23 in_X_needList rfl se_X_needList (lIa_ok dd1) rfl rfl (Nat.le_of_ble_eq_true rfl) (by decide) e1 m3) (k_X_needList hV G a0 a1) h (fun G4 _ h => ?_)
  refine Y.blk (pc' := 6) (L' := [some (.ref a0), some (.int a1)]) (st' := [.ref a0]) (sg := [(.aload_n 0, 0)]) (lSa_ok dd2) rfl ?_
  refine Y.getA fl_X_10 (lIa_ok dd3) h (fun v5 h => ?_)
  refine Y.blk (pc' := 10) (L' := [some (.ref a0), some (.int a1)]) (st' := [.int a1, .ref v5]) (sg := [(.iload_n 1, 0)]) (lSa_ok dd4) rfl ?_
  obtain ⟨_, o7, e6, m8, h⟩ := gOb_inv h
  refine Y.callI (yC.Vi (b := v5) (As := [.int a1]) (st := []) (r := ("Partlister$Lists", T_I, 7)) hV.1 cb_I_hashOf lk_X_217 in_I_hashOf rfl se_I_hashOf (lIa_ok dd5) rfl rfl (Nat.le_of_ble_eq_true rfl) (by decide) e6 m8) (k_I_hashOf hV G4 v5 a1) h (fun v10 G9 _ h => ?_)
  exact Y.iret rfl (lIa_ok dd6) h

def f_X_house (G : gH) (a0 : Nat) (a1 : Int32) : gR :=
  if a1 < 0 then gThrow "java/lang/IllegalArgumentException" G
  else if a1 < (nI 8) then gOb G a0 3 fun o2 => bI (f_X_worthOfHouse G a0 a1) fun v5 G4 => rI v5 G4
    else gThrow "java/lang/IllegalArgumentException" G
theorem k_X_house {l : Launch} {D : va_G} {B : Nat} {O : State → Heap → Prop} (hV : zG l D B O) (G : gH) (a0 : Nat) (a1 : Int32) : gMet (zVm l D B O) m_X_house 6 [.ref a0, .int a1] G (f_X_house G a0 a1) := by
  have hdd : lSa m_X_house 0 [(.iload_n 1, 0)] = true ∧ lIa m_X_house 1 (.ifCond .lt 9) 3 = true ∧ lIa m_X_house 10 (.new 81) 3 = true ∧ lIa m_X_house 13 (.dup) 1 = true ∧ lIa m_X_house 14 (.ldc 248) 2 = true ∧ lIa m_X_house 16 (.invokespecial 85) 3 = true ∧ lIa m_X_house 19 (.athrow) 1 = true ∧ lSa m_X_house 4 [(.iload_n 1, 0), (.bipush 8, nI 8)] = true ∧ lIa m_X_house 7 (.if_icmp .lt 13) 3 = true ∧ lSa m_X_house 20 [(.aload_n 0, 0), (.iload_n 1, 0)] = true ∧ lIa m_X_house 22 (.invokevirtual 250) 3 = true ∧ lIa m_X_house 25 (.ireturn) 1 = true := by decide +kernel
  refine lA8 hdd (fun dd0 dd1 dd2 dd3 dd4 dd5 dd6 dd7 hdd => ?_)
  obtain ⟨dd8, dd9, dd10, dd11⟩ := hdd
  refine gMet.of (by decide +kernel) (Nat.le_of_ble_eq_true rfl) [some (.ref a0), some (.int a1)] (fun ls h => zEn_ok (n := 2) h) ?_
  intro o Gf h
  unfold f_X_house at h
  refine Y.blk (pc' := 1) (L' := [some (.ref a0), some (.int a1)]) (st' := [.int a1]) (sg := [(.iload_n 1, 0)]) (lSa_ok dd0) rfl ?_
  refine Y.if_lt (off := 9) (tgt := 10) (lIa_ok dd1) (by decide) h (fun c7 h => ?_) (fun c7 h => ?_)
  · exact Y.throwS (is := 248) (text := "what is not 0 to 7") (names := zNm) hV.1 (hV.2 _ _ _ (by decide +kernel)) (by decide +kernel) (by decide +kernel) ck_X_81 ini_IAE tw_X_85 tg_X_85 (by decide) (by decide) rfl (Nat.le_of_ble_eq_true rfl) (lIa_ok dd2) (lIa_ok dd3) (lIa_ok dd4) (lIa_ok dd5) (lIa_ok dd6) h
  · refine Y.blk (pc' := 7) (L' := [some (.ref a0), some (.int a1)]) (st' := [.int (nI 8), .int a1]) (sg := [(.iload_n 1, 0), (.bipush 8, nI 8)]) (lSa_ok dd7) rfl ?_
    refine Y.ic_lt (off := 13) (tgt := 20) (lIa_ok dd8) (by decide) h (fun c6 h => ?_) (fun c6 h => ?_)
    · refine Y.blk (pc' := 22) (L' := [some (.ref a0), some (.int a1)]) (st' := [.int a1, .ref a0]) (sg := [(.aload_n 0, 0), (.iload_n 1, 0)]) (lSa_ok dd9) rfl ?_
      obtain ⟨_, o2, e1, m3, h⟩ := gOb_inv h
      refine Y.callI (yC.Vi (b := a0) (As := [.int a1]) (st := []) (r := ("Partlister", T_X, 5)) hV.1 cb_X_worthOfHouse lk_X_250 in_X_worthOfHouse rfl se_X_worthOfHouse (lIa_ok dd10) rfl rfl (Nat.le_of_ble_eq_true rfl) (by decide) e1 m3) (k_X_worthOfHouse hV G a0 a1) h (fun v5 G4 _ h => ?_)
      exact Y.iret rfl (lIa_ok dd11) h
    · exact Y.throwS (is := 248) (text := "what is not 0 to 7") (names := zNm) hV.1 (hV.2 _ _ _ (by decide +kernel)) (by decide +kernel) (by decide +kernel) ck_X_81 ini_IAE tw_X_85 tg_X_85 (by decide) (by decide) rfl (Nat.le_of_ble_eq_true rfl) (lIa_ok dd2) (lIa_ok dd3) (lIa_ok dd4) (lIa_ok dd5) (lIa_ok dd6) h

def f_X_insert (G : gH) (a0 : Nat) (a1 : Int32) (a2 : Int32) : gR :=
  gOb G a0 3 fun o2 => bV (f_X_needCursor G a0 a1) fun G4 => gOb G4 a0 3 fun o6 => bV (f_X_needKey G4 a0 a2) fun G8 => gFA G8 a0 3 1 fun v9 => gOb G8 v9 0 fun o11 => bI (f_U_listOf G8 v9 a1) fun v14 G13 => gOb G13 a0 3 fun o16 => bV (f_X_needRoom G13 a0 v14 (nI 1)) fun G18 => gFA G18 a0 3 1 fun v19 => gOb G18 v19 0 fun o21 => bI (f_U_isStale G18 v19 a1) fun v24 G23 => if v24 = 0 then gFA G23 a0 3 1 fun v25 => gOb G23 v25 0 fun o27 => bI (f_U_nextOf G23 v25 a1) fun v30 G29 => gOb G29 a0 3 fun o32 => bI (f_X_make G29 a0 a2) fun v35 G34 => gOb G34 a0 3 fun o37 => bV (f_X_bringIn G34 a0 v14 v30 v35 a1) fun G39 => gFA G39 a0 3 1 fun v40 => gOb G39 v40 0 fun o42 => bV (f_U_stand G39 v40 a1 (v30 + (nI 1)) (-1)) fun G44 => bI (f_X_tagOf G44 v35) fun v47 G46 => rI v47 G46
  else gOb G23 a0 3 fun o49 => bI (f_X_failWith G23 a0 (-9)) fun v52 G51 => rI v52 G51
theorem k_X_insert {l : Launch} {D : va_G} {B : Nat} {O : State → Heap → Prop} (hV : zG l D B O) (G : gH) (a0 : Nat) (a1 : Int32) (a2 : Int32) : gMet (zVm l D B O) m_X_insert 7 [.ref a0, .int a1, .int a2] G (f_X_insert G a0 a1 a2) := by
  have hdd : lSa m_X_insert 0 [(.aload_n 0, 0), (.iload_n 1, 0)] = true ∧ lIa m_X_insert 2 (.invokevirtual 167) 3 = true ∧ lSa m_X_insert 5 [(.aload_n 0, 0), (.iload_n 2, 0)] = true ∧ lIa m_X_insert 7 (.invokevirtual 27) 3 = true ∧ lSa m_X_insert 10 [(.aload_n 0, 0)] = true ∧ lIa m_X_insert 11 (.getfield 19) 3 = true ∧ lSa m_X_insert 14 [(.iload_n 1, 0)] = true ∧ lIa m_X_insert 15 (.invokevirtual 152) 3 = true ∧ lSa m_X_insert 18 [(.istore_n 3, 0), (.aload_n 0, 0), (.iload_n 3, 0), (.iconst 1, nI 1)] = true ∧ lIa m_X_insert 22 (.invokevirtual 30) 3 = true ∧ lSa m_X_insert 25 [(.aload_n 0, 0)] = true ∧ lIa m_X_insert 26 (.getfield 19) 3 = true ∧ lSa m_X_insert 29 [(.iload_n 1, 0)] = true ∧ lIa m_X_insert 30 (.invokevirtual 170) 3 = true ∧ lIa m_X_insert 33 (.ifCond .eq 10) 3 = true ∧ lSa m_X_insert 43 [(.aload_n 0, 0)] = true ∧ lIa m_X_insert 44 (.getfield 19) 3 = true ∧ lSa m_X_insert 47 [(.iload_n 1, 0)] = true ∧ lIa m_X_insert 48 (.invokevirtual 176) 3 = true ∧ lSa m_X_insert 51 [(.istore 4, 0), (.aload_n 0, 0), (.iload_n 2, 0)] = true ∧ lIa m_X_insert 55 (.invokevirtual 38) 3 = true ∧ lSa m_X_insert 58 [(.istore 5, 0), (.aload_n 0, 0), (.iload_n 3, 0), (.iload 4, 0), (.iload 5, 0), (.iload_n 1, 0)] = true ∧ lIa m_X_insert 67 (.invokevirtual 41) 3 = true ∧ lSa m_X_insert 70 [(.aload_n 0, 0)] = true ∧ lIa m_X_insert 71 (.getfield 19) 3 = true ∧ lSa m_X_insert 74 [(.iload_n 1, 0), (.iload 4, 0), (.iconst 1, nI 1), (.iadd, 0), (.iconst (-1), -1)] = true ∧ lIa m_X_insert 80 (.invokevirtual 179) 3 = true ∧ lSa m_X_insert 83 [(.iload 5, 0)] = true ∧ lIa m_X_insert 85 (.invokestatic 48) 3 = true ∧ lIa m_X_insert 88 (.ireturn) 1 = true ∧ lSa m_X_insert 36 [(.aload_n 0, 0), (.bipush (-9), -9)] = true ∧ lIa m_X_insert 39 (.invokevirtual 173) 3 = true ∧ lIa m_X_insert 42 (.ireturn) 1 = true := by decide +kernel
  refine lA8 hdd (fun dd0 dd1 dd2 dd3 dd4 dd5 dd6 dd7 hdd => ?_)
  refine lA8 hdd (fun dd8 dd9 dd10 dd11 dd12 dd13 dd14 dd15 hdd => ?_)
  refine lA8 hdd (fun dd16 dd17 dd18 dd19 dd20 dd21 dd22 dd23 hdd => ?_)
  refine lA8 hdd (fun dd24 dd25 dd26 dd27 dd28 dd29 dd30 dd31 hdd => ?_)
  have dd32 := hdd
  refine gMet.of (by decide +kernel) (Nat.le_of_ble_eq_true rfl) [some (.ref a0), some (.int a1), some (.int a2), none, none, none] (fun ls h => zEn_ok (n := 6) h) ?_
  intro o Gf h
  unfold f_X_insert at h
  refine Y.blk (pc' := 2) (L' := [some (.ref a0), some (.int a1), some (.int a2), none, none, none]) (st' := [.int a1, .ref a0]) (sg := [(.aload_n 0, 0), (.iload_n 1, 0)]) (lSa_ok dd0) rfl ?_
  obtain ⟨_, o2, e1, m3, h⟩ := gOb_inv h
  refine Y.callN (yC.Vi (b := a0) (As := [.int a1]) (st := []) (r := ("Partlister", T_X, 5)) hV.1 cb_X_needCursor lk_X_167 in_X_needCursor rfl se_X_needCursor (lIa_ok dd1) rfl rfl (Nat.le_of_ble_eq_true rfl) (by decide) e1 m3) (k_X_needCursor hV G a0 a1) h (fun G4 _ h => ?_)
  refine Y.blk (pc' := 7) (L' := [some (.ref a0), some (.int a1), some (.int a2), none, none, none]) (st' := [.int a2, .ref a0]) (sg := [(.aload_n 0, 0), (.iload_n 2, 0)]) (lSa_ok dd2) rfl ?_
  obtain ⟨_, o6, e5, m7, h⟩ := gOb_inv h
  refine Y.callN (yC.Vi (b := a0) (As := [.int a2]) (st := []) (r := ("Partlister", T_X, 5)) hV.1 cb_X_needKey lk_X_27 in_X_needKey rfl se_X_needKey (lIa_ok dd3) rfl rfl (Nat.le_of_ble_eq_true rfl) (by decide) e5 m7) (k_X_needKey hV G4 a0 a2) h (fun G8 _ h => ?_)
  refine Y.blk (pc' := 11) (L' := [some (.ref a0), some (.int a1), some (.int a2), none, none, none]) (st' := [.ref a0]) (sg := [(.aload_n 0, 0)]) (lSa_ok dd4) rfl ?_
  refine Y.getA fl_X_19 (lIa_ok dd5) h (fun v9 h => ?_)
  refine Y.blk (pc' := 15) (L' := [some (.ref a0), some (.int a1), some (.int a2), none, none, none]) (st' := [.int a1, .ref v9]) (sg := [(.iload_n 1, 0)]) (lSa_ok dd6) rfl ?_
  obtain ⟨_, o11, e10, m12, h⟩ := gOb_inv h
  refine Y.callI (yC.Vi (b := v9) (As := [.int a1]) (st := []) (r := ("Partlister$Cursors", T_U, 5)) hV.1 cb_U_listOf lk_X_152 in_U_listOf rfl se_U_listOf (lIa_ok dd7) rfl rfl (Nat.le_of_ble_eq_true rfl) (by decide) e10 m12) (k_U_listOf hV G8 v9 a1) h (fun v14 G13 _ h => ?_)
  refine Y.blk (pc' := 22) (L' := [some (.ref a0), some (.int a1), some (.int a2), some (.int v14), none, none]) (st' := [.int (nI 1), .int v14, .ref a0]) (sg := [(.istore_n 3, 0), (.aload_n 0, 0), (.iload_n 3, 0), (.iconst 1, nI 1)]) (lSa_ok dd8) rfl ?_
  obtain ⟨_, o16, e15, m17, h⟩ := gOb_inv h
  refine Y.callN (yC.Vi (b := a0) (As := [.int v14, .int (nI 1)]) (st := []) (r := ("Partlister", T_X, 5)) hV.1 cb_X_needRoom lk_X_30 in_X_needRoom rfl se_X_needRoom (lIa_ok dd9) rfl rfl (Nat.le_of_ble_eq_true rfl) (by decide) e15 m17) (k_X_needRoom hV G13 a0 v14 (nI 1)) h (fun G18 _ h => ?_)
  refine Y.blk (pc' := 26) (L' := [some (.ref a0), some (.int a1), some (.int a2), some (.int v14), none, none]) (st' := [.ref a0]) (sg := [(.aload_n 0, 0)]) (lSa_ok dd10) rfl ?_
  refine Y.getA fl_X_19 (lIa_ok dd11) h (fun v19 h => ?_)
  refine Y.blk (pc' := 30) (L' := [some (.ref a0), some (.int a1), some (.int a2), some (.int v14), none, none]) (st' := [.int a1, .ref v19]) (sg := [(.iload_n 1, 0)]) (lSa_ok dd12) rfl ?_
  obtain ⟨_, o21, e20, m22, h⟩ := gOb_inv h
  refine Y.callI (yC.Vi (b := v19) (As := [.int a1]) (st := []) (r := ("Partlister$Cursors", T_U, 5)) hV.1 cb_U_isStale lk_X_170 in_U_isStale rfl se_U_isStale (lIa_ok dd13) rfl rfl (Nat.le_of_ble_eq_true rfl) (by decide) e20 m22) (k_U_isStale hV G18 v19 a1) h (fun v24 G23 _ h => ?_)
  refine Y.if_eq (off := 10) (tgt := 43) (lIa_ok dd14) (by decide) h (fun c53 h => ?_) (fun c53 h => ?_)
  · refine Y.blk (pc' := 44) (L' := [some (.ref a0), some (.int a1), some (.int a2), some (.int v14), none, none]) (st' := [.ref a0]) (sg := [(.aload_n 0, 0)]) (lSa_ok dd15) rfl ?_
    refine Y.getA fl_X_19 (lIa_ok dd16) h (fun v25 h => ?_)
    refine Y.blk (pc' := 48) (L' := [some (.ref a0), some (.int a1), some (.int a2), some (.int v14), none, none]) (st' := [.int a1, .ref v25]) (sg := [(.iload_n 1, 0)]) (lSa_ok dd17) rfl ?_
    obtain ⟨_, o27, e26, m28, h⟩ := gOb_inv h
    refine Y.callI (yC.Vi (b := v25) (As := [.int a1]) (st := []) (r := ("Partlister$Cursors", T_U, 5)) hV.1 cb_U_nextOf lk_X_176 in_U_nextOf rfl se_U_nextOf (lIa_ok dd18) rfl rfl (Nat.le_of_ble_eq_true rfl) (by decide) e26 m28) (k_U_nextOf hV G23 v25 a1) h (fun v30 G29 _ h => ?_)
    refine Y.blk (pc' := 55) (L' := [some (.ref a0), some (.int a1), some (.int a2), some (.int v14), some (.int v30), none]) (st' := [.int a2, .ref a0]) (sg := [(.istore 4, 0), (.aload_n 0, 0), (.iload_n 2, 0)]) (lSa_ok dd19) rfl ?_
    obtain ⟨_, o32, e31, m33, h⟩ := gOb_inv h
    refine Y.callI (yC.Vi (b := a0) (As := [.int a2]) (st := []) (r := ("Partlister", T_X, 5)) hV.1 cb_X_make lk_X_38 in_X_make rfl se_X_make (lIa_ok dd20) rfl rfl (Nat.le_of_ble_eq_true rfl) (by decide) e31 m33) (k_X_make hV G29 a0 a2) h (fun v35 G34 _ h => ?_)
    refine Y.blk (pc' := 67) (L' := [some (.ref a0), some (.int a1), some (.int a2), some (.int v14), some (.int v30), some (.int v35)]) (st' := [.int a1, .int v35, .int v30, .int v14, .ref a0]) (sg := [(.istore 5, 0), (.aload_n 0, 0), (.iload_n 3, 0), (.iload 4, 0), (.iload 5, 0), (.iload_n 1, 0)]) (lSa_ok dd21) rfl ?_
    obtain ⟨_, o37, e36, m38, h⟩ := gOb_inv h
    refine Y.callN (yC.Vi (b := a0) (As := [.int v14, .int v30, .int v35, .int a1]) (st := []) (r := ("Partlister", T_X, 5)) hV.1 cb_X_bringIn lk_X_41 in_X_bringIn rfl se_X_bringIn (lIa_ok dd22) rfl rfl (Nat.le_of_ble_eq_true rfl) (by decide) e36 m38) (k_X_bringIn hV G34 a0 v14 v30 v35 a1) h (fun G39 _ h => ?_)
    refine Y.blk (pc' := 71) (L' := [some (.ref a0), some (.int a1), some (.int a2), some (.int v14), some (.int v30), some (.int v35)]) (st' := [.ref a0]) (sg := [(.aload_n 0, 0)]) (lSa_ok dd23) rfl ?_
    refine Y.getA fl_X_19 (lIa_ok dd24) h (fun v40 h => ?_)
    refine Y.blk (pc' := 80) (L' := [some (.ref a0), some (.int a1), some (.int a2), some (.int v14), some (.int v30), some (.int v35)]) (st' := [.int (-1), .int (v30 + (nI 1)), .int a1, .ref v40]) (sg := [(.iload_n 1, 0), (.iload 4, 0), (.iconst 1, nI 1), (.iadd, 0), (.iconst (-1), -1)]) (lSa_ok dd25) rfl ?_
    obtain ⟨_, o42, e41, m43, h⟩ := gOb_inv h
    refine Y.callN (yC.Vi (b := v40) (As := [.int a1, .int (v30 + (nI 1)), .int (-1)]) (st := []) (r := ("Partlister$Cursors", T_U, 5)) hV.1 cb_U_stand lk_X_179 in_U_stand rfl se_U_stand (lIa_ok dd26) rfl rfl (Nat.le_of_ble_eq_true rfl) (by decide) e41 m43) (k_U_stand hV G39 v40 a1 (v30 + (nI 1)) (-1)) h (fun G44 _ h => ?_)
    refine Y.blk (pc' := 85) (L' := [some (.ref a0), some (.int a1), some (.int a2), some (.int v14), some (.int v30), some (.int v35)]) (st' := [.int v35]) (sg := [(.iload 5, 0)]) (lSa_ok dd27) rfl ?_
    refine Y.callI (yC.S (As := [.int v35]) (st := []) hV.1 cb_X_tagOf lk_X_48 st_X_tagOf (lIa_ok dd28) rfl rfl (Nat.le_of_ble_eq_true rfl) (by decide)) (k_X_tagOf hV G44 v35) h (fun v47 G46 _ h => ?_)
    exact Y.iret rfl (lIa_ok dd29) h
  · refine Y.blk (pc' := 39) (L' := [some (.ref a0), some (.int a1), some (.int a2), some (.int v14), none, none]) (st' := [.int (-9), .ref a0]) (sg := [(.aload_n 0, 0), (.bipush (-9), -9)]) (lSa_ok dd30) rfl ?_
    obtain ⟨_, o49, e48, m50, h⟩ := gOb_inv h
    refine Y.callI (yC.Vi (b := a0) (As := [.int (-9)]) (st := []) (r := ("Partlister", T_X, 5)) hV.1 cb_X_failWith lk_X_173 in_X_failWith rfl se_X_failWith (lIa_ok dd31) rfl rfl (Nat.le_of_ble_eq_true rfl) (by decide) e48 m50) (k_X_failWith hV G23 a0 (-9)) h (fun v52 G51 _ h => ?_)
    exact Y.iret rfl (lIa_ok dd32) h
end
section
def f_X_isSame (G : gH) (a0 : Nat) (a1 : Int32) (a2 : Int32) : gR :=
  gOb G a0 3 fun o2 => bV (f_X_needList G a0 a1) fun G4 => gOb G4 a0 3 fun o6 => bV (f_X_needList G4 a0 a2) fun G8 => gFA G8 a0 3 0 fun v9 => gOb G8 v9 1 fun o11 => bI (f_I_matchWholly G8 v9 a1 a2) fun v14 G13 => rZ v14 G13
theorem k_X_isSame {l : Launch} {D : va_G} {B : Nat} {O : State → Heap → Prop} (hV : zG l D B O) (G : gH) (a0 : Nat) (a1 : Int32) (a2 : Int32) : gMet (zVm l D B O) m_X_isSame 7 [.ref a0, .int a1, .int a2] G (f_X_isSame G a0 a1 a2) := by
  have hdd : lSa m_X_isSame 0 [(.aload_n 0, 0), (.iload_n 1, 0)] = true ∧ lIa m_X_isSame 2 (.invokevirtual 23) 3 = true ∧ lSa m_X_isSame 5 [(.aload_n 0, 0), (.iload_n 2, 0)] = true ∧ lIa m_X_isSame 7 (.invokevirtual 23) 3 = true ∧ lSa m_X_isSame 10 [(.aload_n 0, 0)] = true ∧ lIa m_X_isSame 11 (.getfield 10) 3 = true ∧ lSa m_X_isSame 14 [(.iload_n 1, 0), (.iload_n 2, 0)] = true ∧ lIa m_X_isSame 16 (.invokevirtual 199) 3 = true ∧ lIa m_X_isSame 19 (.ireturn) 1 = true := by decide +kernel
  refine lA8 hdd (fun dd0 dd1 dd2 dd3 dd4 dd5 dd6 dd7 hdd => ?_)
  have dd8 := hdd
  refine gMet.of (by decide +kernel) (Nat.le_of_ble_eq_true rfl) [some (.ref a0), some (.int a1), some (.int a2)] (fun ls h => zEn_ok (n := 3) h) ?_
  intro o Gf h
  unfold f_X_isSame at h
  refine Y.blk (pc' := 2) (L' := [some (.ref a0), some (.int a1), some (.int a2)]) (st' := [.int a1, .ref a0]) (sg := [(.aload_n 0, 0), (.iload_n 1, 0)]) (lSa_ok dd0) rfl ?_
  obtain ⟨_, o2, e1, m3, h⟩ := gOb_inv h
  refine Y.callN (yC.Vi (b := a0) (As := [.int a1]) (st := []) (r := ("Partlister", T_X, 5)) hV.1 cb_X_needList lk_X_23 in_X_needList rfl se_X_needList (lIa_ok dd1) rfl rfl (Nat.le_of_ble_eq_true rfl) (by decide) e1 m3) (k_X_needList hV G a0 a1) h (fun G4 _ h => ?_)
  refine Y.blk (pc' := 7) (L' := [some (.ref a0), some (.int a1), some (.int a2)]) (st' := [.int a2, .ref a0]) (sg := [(.aload_n 0, 0), (.iload_n 2, 0)]) (lSa_ok dd2) rfl ?_
  obtain ⟨_, o6, e5, m7, h⟩ := gOb_inv h
  refine Y.callN (yC.Vi (b := a0) (As := [.int a2]) (st := []) (r := ("Partlister", T_X, 5)) hV.1 cb_X_needList lk_X_23 in_X_needList rfl se_X_needList (lIa_ok dd3) rfl rfl (Nat.le_of_ble_eq_true rfl) (by decide) e5 m7) (k_X_needList hV G4 a0 a2) h (fun G8 _ h => ?_)
  refine Y.blk (pc' := 11) (L' := [some (.ref a0), some (.int a1), some (.int a2)]) (st' := [.ref a0]) (sg := [(.aload_n 0, 0)]) (lSa_ok dd4) rfl ?_
  refine Y.getA fl_X_10 (lIa_ok dd5) h (fun v9 h => ?_)
  refine Y.blk (pc' := 16) (L' := [some (.ref a0), some (.int a1), some (.int a2)]) (st' := [.int a2, .int a1, .ref v9]) (sg := [(.iload_n 1, 0), (.iload_n 2, 0)]) (lSa_ok dd6) rfl ?_
  obtain ⟨_, o11, e10, m12, h⟩ := gOb_inv h
  refine Y.callI (yC.Vi (b := v9) (As := [.int a1, .int a2]) (st := []) (r := ("Partlister$Lists", T_I, 7)) hV.1 cb_I_matchWholly lk_X_199 in_I_matchWholly rfl se_I_matchWholly (lIa_ok dd7) rfl rfl (Nat.le_of_ble_eq_true rfl) (by decide) e10 m12) (k_I_matchWholly hV G8 v9 a1 a2) h (fun v14 G13 _ h => ?_)
  exact Y.zret rfl (lIa_ok dd8) h

def f_X_isSound (G : gH) (a0 : Nat) : gR :=
  gFA G a0 3 0 fun v1 => gOb G v1 1 fun o3 => bI (f_I_areSound G v1) fun v6 G5 => rZ v6 G5
theorem k_X_isSound {l : Launch} {D : va_G} {B : Nat} {O : State → Heap → Prop} (hV : zG l D B O) (G : gH) (a0 : Nat) : gMet (zVm l D B O) m_X_isSound 7 [.ref a0] G (f_X_isSound G a0) := by
  have hdd : lSa m_X_isSound 0 [(.aload_n 0, 0)] = true ∧ lIa m_X_isSound 1 (.getfield 10) 3 = true ∧ lIa m_X_isSound 4 (.invokevirtual 253) 3 = true ∧ lIa m_X_isSound 7 (.ireturn) 1 = true := by decide +kernel
  obtain ⟨dd0, dd1, dd2, dd3⟩ := hdd
  refine gMet.of (by decide +kernel) (Nat.le_of_ble_eq_true rfl) [some (.ref a0)] (fun ls h => zEn_ok (n := 1) h) ?_
  intro o Gf h
  unfold f_X_isSound at h
  refine Y.blk (pc' := 1) (L' := [some (.ref a0)]) (st' := [.ref a0]) (sg := [(.aload_n 0, 0)]) (lSa_ok dd0) rfl ?_
  refine Y.getA fl_X_10 (lIa_ok dd1) h (fun v1 h => ?_)
  obtain ⟨_, o3, e2, m4, h⟩ := gOb_inv h
  refine Y.callI (yC.Vi (b := v1) (As := []) (st := []) (r := ("Partlister$Lists", T_I, 7)) hV.1 cb_I_areSound lk_X_253 in_I_areSound rfl se_I_areSound (lIa_ok dd2) rfl rfl (Nat.le_of_ble_eq_true rfl) (by decide) e2 m4) (k_I_areSound hV G v1) h (fun v6 G5 _ h => ?_)
  exact Y.zret rfl (lIa_ok dd3) h

def f_X_key (G : gH) (a0 : Nat) (a1 : Int32) (a2 : Int32) : gR :=
  gOb G a0 3 fun o2 => bV (f_X_needList G a0 a1) fun G4 => gOb G4 a0 3 fun o6 => bV (f_X_needPlace G4 a0 a1 a2) fun G8 => gFA G8 a0 3 0 fun v9 => gOb G8 v9 1 fun o11 => bI (f_I_keyAt G8 v9 a1 a2) fun v14 G13 => rI v14 G13
theorem k_X_key {l : Launch} {D : va_G} {B : Nat} {O : State → Heap → Prop} (hV : zG l D B O) (G : gH) (a0 : Nat) (a1 : Int32) (a2 : Int32) : gMet (zVm l D B O) m_X_key 7 [.ref a0, .int a1, .int a2] G (f_X_key G a0 a1 a2) := by
  have hdd : lSa m_X_key 0 [(.aload_n 0, 0), (.iload_n 1, 0)] = true ∧ lIa m_X_key 2 (.invokevirtual 23) 3 = true ∧ lSa m_X_key 5 [(.aload_n 0, 0), (.iload_n 1, 0), (.iload_n 2, 0)] = true ∧ lIa m_X_key 8 (.invokevirtual 58) 3 = true ∧ lSa m_X_key 11 [(.aload_n 0, 0)] = true ∧ lIa m_X_key 12 (.getfield 10) 3 = true ∧ lSa m_X_key 15 [(.iload_n 1, 0), (.iload_n 2, 0)] = true ∧ lIa m_X_key 17 (.invokevirtual 61) 3 = true ∧ lIa m_X_key 20 (.ireturn) 1 = true := by decide +kernel
  refine lA8 hdd (fun dd0 dd1 dd2 dd3 dd4 dd5 dd6 dd7 hdd => ?_)
  have dd8 := hdd
  refine gMet.of (by decide +kernel) (Nat.le_of_ble_eq_true rfl) [some (.ref a0), some (.int a1), some (.int a2)] (fun ls h => zEn_ok (n := 3) h) ?_
  intro o Gf h
  unfold f_X_key at h
  refine Y.blk (pc' := 2) (L' := [some (.ref a0), some (.int a1), some (.int a2)]) (st' := [.int a1, .ref a0]) (sg := [(.aload_n 0, 0), (.iload_n 1, 0)]) (lSa_ok dd0) rfl ?_
  obtain ⟨_, o2, e1, m3, h⟩ := gOb_inv h
  refine Y.callN (yC.Vi (b := a0) (As := [.int a1]) (st := []) (r := ("Partlister", T_X, 5)) hV.1 cb_X_needList lk_X_23 in_X_needList rfl se_X_needList (lIa_ok dd1) rfl rfl (Nat.le_of_ble_eq_true rfl) (by decide) e1 m3) (k_X_needList hV G a0 a1) h (fun G4 _ h => ?_)
  refine Y.blk (pc' := 8) (L' := [some (.ref a0), some (.int a1), some (.int a2)]) (st' := [.int a2, .int a1, .ref a0]) (sg := [(.aload_n 0, 0), (.iload_n 1, 0), (.iload_n 2, 0)]) (lSa_ok dd2) rfl ?_
  obtain ⟨_, o6, e5, m7, h⟩ := gOb_inv h
  refine Y.callN (yC.Vi (b := a0) (As := [.int a1, .int a2]) (st := []) (r := ("Partlister", T_X, 5)) hV.1 cb_X_needPlace lk_X_58 in_X_needPlace rfl se_X_needPlace (lIa_ok dd3) rfl rfl (Nat.le_of_ble_eq_true rfl) (by decide) e5 m7) (k_X_needPlace hV G4 a0 a1 a2) h (fun G8 _ h => ?_)
  refine Y.blk (pc' := 12) (L' := [some (.ref a0), some (.int a1), some (.int a2)]) (st' := [.ref a0]) (sg := [(.aload_n 0, 0)]) (lSa_ok dd4) rfl ?_
  refine Y.getA fl_X_10 (lIa_ok dd5) h (fun v9 h => ?_)
  refine Y.blk (pc' := 17) (L' := [some (.ref a0), some (.int a1), some (.int a2)]) (st' := [.int a2, .int a1, .ref v9]) (sg := [(.iload_n 1, 0), (.iload_n 2, 0)]) (lSa_ok dd6) rfl ?_
  obtain ⟨_, o11, e10, m12, h⟩ := gOb_inv h
  refine Y.callI (yC.Vi (b := v9) (As := [.int a1, .int a2]) (st := []) (r := ("Partlister$Lists", T_I, 7)) hV.1 cb_I_keyAt lk_X_61 in_I_keyAt rfl se_I_keyAt (lIa_ok dd7) rfl rfl (Nat.le_of_ble_eq_true rfl) (by decide) e10 m12) (k_I_keyAt hV G8 v9 a1 a2) h (fun v14 G13 _ h => ?_)
  exact Y.iret rfl (lIa_ok dd8) h

def f_X_knock (G : gH) (a0 : Nat) : gR :=
  gFI G a0 3 4 fun v1 => gPut G a0 3 4 (.int (v1 + (nI 1))) fun G2 => gFI G2 a0 3 4 fun v3 => rI v3 G2
theorem k_X_knock {l : Launch} {D : va_G} {B : Nat} {O : State → Heap → Prop} (hV : zG l D B O) (G : gH) (a0 : Nat) : gMet (zVm l D B O) m_X_knock 1 [.ref a0] G (f_X_knock G a0) := by
  have hdd : lSa m_X_knock 0 [(.aload_n 0, 0), (.dup, 0)] = true ∧ lIa m_X_knock 2 (.getfield 257) 3 = true ∧ lSa m_X_knock 5 [(.iconst 1, nI 1), (.iadd, 0)] = true ∧ lIa m_X_knock 7 (.putfield 257) 3 = true ∧ lSa m_X_knock 10 [(.aload_n 0, 0)] = true ∧ lIa m_X_knock 11 (.getfield 257) 3 = true ∧ lIa m_X_knock 14 (.ireturn) 1 = true := by decide +kernel
  obtain ⟨dd0, dd1, dd2, dd3, dd4, dd5, dd6⟩ := hdd
  refine gMet.of (by decide +kernel) (Nat.le_of_ble_eq_true rfl) [some (.ref a0)] (fun ls h => zEn_ok (n := 1) h) ?_
  intro o Gf h
  unfold f_X_knock at h
  refine Y.blk (pc' := 2) (L' := [some (.ref a0)]) (st' := [.ref a0, .ref a0]) (sg := [(.aload_n 0, 0), (.dup, 0)]) (lSa_ok dd0) rfl ?_
  refine Y.getI fl_X_257 (lIa_ok dd1) h (fun v1 h => ?_)
  refine Y.blk (pc' := 7) (L' := [some (.ref a0)]) (st' := [.int (v1 + (nI 1)), .ref a0]) (sg := [(.iconst 1, nI 1), (.iadd, 0)]) (lSa_ok dd2) rfl ?_
  refine Y.putf fl_X_257 (by decide) rfl rfl (lIa_ok dd3) h (fun G2 _ _ h => ?_)
  refine Y.blk (pc' := 11) (L' := [some (.ref a0)]) (st' := [.ref a0]) (sg := [(.aload_n 0, 0)]) (lSa_ok dd4) rfl ?_
  refine Y.getI fl_X_257 (lIa_ok dd5) h (fun v3 h => ?_)
  exact Y.iret rfl (lIa_ok dd6) h

def f_X_last (G : gH) (a0 : Nat) (a1 : Int32) (a2 : Int32) : gR :=
  gOb G a0 3 fun o2 => bV (f_X_needList G a0 a1) fun G4 => gOb G4 a0 3 fun o6 => bV (f_X_needKey G4 a0 a2) fun G8 => gFA G8 a0 3 0 fun v9 => gOb G8 v9 1 fun o11 => bI (f_I_lastOf G8 v9 a1 a2) fun v14 G13 => rI v14 G13
theorem k_X_last {l : Launch} {D : va_G} {B : Nat} {O : State → Heap → Prop} (hV : zG l D B O) (G : gH) (a0 : Nat) (a1 : Int32) (a2 : Int32) : gMet (zVm l D B O) m_X_last 7 [.ref a0, .int a1, .int a2] G (f_X_last G a0 a1 a2) := by
  have hdd : lSa m_X_last 0 [(.aload_n 0, 0), (.iload_n 1, 0)] = true ∧ lIa m_X_last 2 (.invokevirtual 23) 3 = true ∧ lSa m_X_last 5 [(.aload_n 0, 0), (.iload_n 2, 0)] = true ∧ lIa m_X_last 7 (.invokevirtual 27) 3 = true ∧ lSa m_X_last 10 [(.aload_n 0, 0)] = true ∧ lIa m_X_last 11 (.getfield 10) 3 = true ∧ lSa m_X_last 14 [(.iload_n 1, 0), (.iload_n 2, 0)] = true ∧ lIa m_X_last 16 (.invokevirtual 187) 3 = true ∧ lIa m_X_last 19 (.ireturn) 1 = true := by decide +kernel
  refine lA8 hdd (fun dd0 dd1 dd2 dd3 dd4 dd5 dd6 dd7 hdd => ?_)
  have dd8 := hdd
  refine gMet.of (by decide +kernel) (Nat.le_of_ble_eq_true rfl) [some (.ref a0), some (.int a1), some (.int a2)] (fun ls h => zEn_ok (n := 3) h) ?_
  intro o Gf h
  unfold f_X_last at h
  refine Y.blk (pc' := 2) (L' := [some (.ref a0), some (.int a1), some (.int a2)]) (st' := [.int a1, .ref a0]) (sg := [(.aload_n 0, 0), (.iload_n 1, 0)]) (lSa_ok dd0) rfl ?_
  obtain ⟨_, o2, e1, m3, h⟩ := gOb_inv h
  refine Y.callN (yC.Vi (b := a0) (As := [.int a1]) (st := []) (r := ("Partlister", T_X, 5)) hV.1 cb_X_needList lk_X_23 in_X_needList rfl se_X_needList (lIa_ok dd1) rfl rfl (Nat.le_of_ble_eq_true rfl) (by decide) e1 m3) (k_X_needList hV G a0 a1) h (fun G4 _ h => ?_)
  refine Y.blk (pc' := 7) (L' := [some (.ref a0), some (.int a1), some (.int a2)]) (st' := [.int a2, .ref a0]) (sg := [(.aload_n 0, 0), (.iload_n 2, 0)]) (lSa_ok dd2) rfl ?_
  obtain ⟨_, o6, e5, m7, h⟩ := gOb_inv h
  refine Y.callN (yC.Vi (b := a0) (As := [.int a2]) (st := []) (r := ("Partlister", T_X, 5)) hV.1 cb_X_needKey lk_X_27 in_X_needKey rfl se_X_needKey (lIa_ok dd3) rfl rfl (Nat.le_of_ble_eq_true rfl) (by decide) e5 m7) (k_X_needKey hV G4 a0 a2) h (fun G8 _ h => ?_)
  refine Y.blk (pc' := 11) (L' := [some (.ref a0), some (.int a1), some (.int a2)]) (st' := [.ref a0]) (sg := [(.aload_n 0, 0)]) (lSa_ok dd4) rfl ?_
  refine Y.getA fl_X_10 (lIa_ok dd5) h (fun v9 h => ?_)
  refine Y.blk (pc' := 16) (L' := [some (.ref a0), some (.int a1), some (.int a2)]) (st' := [.int a2, .int a1, .ref v9]) (sg := [(.iload_n 1, 0), (.iload_n 2, 0)]) (lSa_ok dd6) rfl ?_
  obtain ⟨_, o11, e10, m12, h⟩ := gOb_inv h
  refine Y.callI (yC.Vi (b := v9) (As := [.int a1, .int a2]) (st := []) (r := ("Partlister$Lists", T_I, 7)) hV.1 cb_I_lastOf lk_X_187 in_I_lastOf rfl se_I_lastOf (lIa_ok dd7) rfl rfl (Nat.le_of_ble_eq_true rfl) (by decide) e10 m12) (k_I_lastOf hV G8 v9 a1 a2) h (fun v14 G13 _ h => ?_)
  exact Y.iret rfl (lIa_ok dd8) h

def f_X_many (G : gH) (a0 : Nat) (a1 : Int32) (a2 : Int32) : gR :=
  gOb G a0 3 fun o2 => bV (f_X_needList G a0 a1) fun G4 => gOb G4 a0 3 fun o6 => bV (f_X_needKey G4 a0 a2) fun G8 => gFA G8 a0 3 0 fun v9 => gOb G8 v9 1 fun o11 => bI (f_I_countOf G8 v9 a1 a2) fun v14 G13 => rI v14 G13
theorem k_X_many {l : Launch} {D : va_G} {B : Nat} {O : State → Heap → Prop} (hV : zG l D B O) (G : gH) (a0 : Nat) (a1 : Int32) (a2 : Int32) : gMet (zVm l D B O) m_X_many 7 [.ref a0, .int a1, .int a2] G (f_X_many G a0 a1 a2) := by
  have hdd : lSa m_X_many 0 [(.aload_n 0, 0), (.iload_n 1, 0)] = true ∧ lIa m_X_many 2 (.invokevirtual 23) 3 = true ∧ lSa m_X_many 5 [(.aload_n 0, 0), (.iload_n 2, 0)] = true ∧ lIa m_X_many 7 (.invokevirtual 27) 3 = true ∧ lSa m_X_many 10 [(.aload_n 0, 0)] = true ∧ lIa m_X_many 11 (.getfield 10) 3 = true ∧ lSa m_X_many 14 [(.iload_n 1, 0), (.iload_n 2, 0)] = true ∧ lIa m_X_many 16 (.invokevirtual 189) 3 = true ∧ lIa m_X_many 19 (.ireturn) 1 = true := by decide +kernel
  refine lA8 hdd (fun dd0 dd1 dd2 dd3 dd4 dd5 dd6 dd7 hdd => ?_)
  have dd8 := hdd
  refine gMet.of (by decide +kernel) (Nat.le_of_ble_eq_true rfl) [some (.ref a0), some (.int a1), some (.int a2)] (fun ls h => zEn_ok (n := 3) h) ?_
  intro o Gf h
  unfold f_X_many at h
  refine Y.blk (pc' := 2) (L' := [some (.ref a0), some (.int a1), some (.int a2)]) (st' := [.int a1, .ref a0]) (sg := [(.aload_n 0, 0), (.iload_n 1, 0)]) (lSa_ok dd0) rfl ?_
  obtain ⟨_, o2, e1, m3, h⟩ := gOb_inv h
  refine Y.callN (yC.Vi (b := a0) (As := [.int a1]) (st := []) (r := ("Partlister", T_X, 5)) hV.1 cb_X_needList lk_X_23 in_X_needList rfl se_X_needList (lIa_ok dd1) rfl rfl (Nat.le_of_ble_eq_true rfl) (by decide) e1 m3) (k_X_needList hV G a0 a1) h (fun G4 _ h => ?_)
  refine Y.blk (pc' := 7) (L' := [some (.ref a0), some (.int a1), some (.int a2)]) (st' := [.int a2, .ref a0]) (sg := [(.aload_n 0, 0), (.iload_n 2, 0)]) (lSa_ok dd2) rfl ?_
  obtain ⟨_, o6, e5, m7, h⟩ := gOb_inv h
  refine Y.callN (yC.Vi (b := a0) (As := [.int a2]) (st := []) (r := ("Partlister", T_X, 5)) hV.1 cb_X_needKey lk_X_27 in_X_needKey rfl se_X_needKey (lIa_ok dd3) rfl rfl (Nat.le_of_ble_eq_true rfl) (by decide) e5 m7) (k_X_needKey hV G4 a0 a2) h (fun G8 _ h => ?_)
  refine Y.blk (pc' := 11) (L' := [some (.ref a0), some (.int a1), some (.int a2)]) (st' := [.ref a0]) (sg := [(.aload_n 0, 0)]) (lSa_ok dd4) rfl ?_
  refine Y.getA fl_X_10 (lIa_ok dd5) h (fun v9 h => ?_)
  refine Y.blk (pc' := 16) (L' := [some (.ref a0), some (.int a1), some (.int a2)]) (st' := [.int a2, .int a1, .ref v9]) (sg := [(.iload_n 1, 0), (.iload_n 2, 0)]) (lSa_ok dd6) rfl ?_
  obtain ⟨_, o11, e10, m12, h⟩ := gOb_inv h
  refine Y.callI (yC.Vi (b := v9) (As := [.int a1, .int a2]) (st := []) (r := ("Partlister$Lists", T_I, 7)) hV.1 cb_I_countOf lk_X_189 in_I_countOf rfl se_I_countOf (lIa_ok dd7) rfl rfl (Nat.le_of_ble_eq_true rfl) (by decide) e10 m12) (k_I_countOf hV G8 v9 a1 a2) h (fun v14 G13 _ h => ?_)
  exact Y.iret rfl (lIa_ok dd8) h

def f_MA_floorMod (G : gH) (a0 : Int32) (a1 : Int32) : gR :=
  gRem a0 a1 fun v1 => if 0 ≤ (a0 ^^^ a1) then rI v1 G
  else if v1 = 0 then rI v1 G
    else rI (v1 + a1) G
theorem k_MA_floorMod {l : Launch} {D : va_G} {B : Nat} {O : State → Heap → Prop} (hV : zG l D B O) (G : gH) (a0 : Int32) (a1 : Int32) : gMet (zVm l D B O) m_MA_floorMod 1 [.int a0, .int a1] G (f_MA_floorMod G a0 a1) := by
  have hdd : lSa m_MA_floorMod 0 [(.iload_n 0, 0), (.iload_n 1, 0)] = true ∧ lIa m_MA_floorMod 2 (.irem) 1 = true ∧ lSa m_MA_floorMod 3 [(.istore_n 2, 0), (.iload_n 0, 0), (.iload_n 1, 0), (.ixor, 0)] = true ∧ lIa m_MA_floorMod 7 (.ifCond .ge 11) 3 = true ∧ lSa m_MA_floorMod 18 [(.iload_n 2, 0)] = true ∧ lIa m_MA_floorMod 19 (.ireturn) 1 = true ∧ lSa m_MA_floorMod 10 [(.iload_n 2, 0)] = true ∧ lIa m_MA_floorMod 11 (.ifCond .eq 7) 3 = true ∧ lSa m_MA_floorMod 14 [(.iload_n 2, 0), (.iload_n 1, 0), (.iadd, 0)] = true ∧ lIa m_MA_floorMod 17 (.ireturn) 1 = true := by decide +kernel
  refine lA8 hdd (fun dd0 dd1 dd2 dd3 dd4 dd5 dd6 dd7 hdd => ?_)
  obtain ⟨dd8, dd9⟩ := hdd
  refine gMet.of (by decide +kernel) (Nat.le_of_ble_eq_true rfl) [some (.int a0), some (.int a1), none] (fun ls h => zEn_ok (n := 3) h) ?_
  intro o Gf h
  unfold f_MA_floorMod at h
  refine Y.blk (pc' := 2) (L' := [some (.int a0), some (.int a1), none]) (st' := [.int a1, .int a0]) (sg := [(.iload_n 0, 0), (.iload_n 1, 0)]) (lSa_ok dd0) rfl ?_
  refine Y.irem (lIa_ok dd1) h (fun v1 h => ?_)
  refine Y.blk (pc' := 7) (L' := [some (.int a0), some (.int a1), some (.int v1)]) (st' := [.int (a0 ^^^ a1)]) (sg := [(.istore_n 2, 0), (.iload_n 0, 0), (.iload_n 1, 0), (.ixor, 0)]) (lSa_ok dd2) rfl ?_
  refine Y.if_ge (off := 11) (tgt := 18) (lIa_ok dd3) (by decide) h (fun c3 h => ?_) (fun c3 h => ?_)
  · refine Y.blk (pc' := 19) (L' := [some (.int a0), some (.int a1), some (.int v1)]) (st' := [.int v1]) (sg := [(.iload_n 2, 0)]) (lSa_ok dd4) rfl ?_
    exact Y.iret rfl (lIa_ok dd5) h
  · refine Y.blk (pc' := 11) (L' := [some (.int a0), some (.int a1), some (.int v1)]) (st' := [.int v1]) (sg := [(.iload_n 2, 0)]) (lSa_ok dd6) rfl ?_
    refine Y.if_eq (off := 7) (tgt := 18) (lIa_ok dd7) (by decide) h (fun c2 h => ?_) (fun c2 h => ?_)
    · refine Y.blk (pc' := 19) (L' := [some (.int a0), some (.int a1), some (.int v1)]) (st' := [.int v1]) (sg := [(.iload_n 2, 0)]) (lSa_ok dd4) rfl ?_
      exact Y.iret rfl (lIa_ok dd5) h
    · refine Y.blk (pc' := 17) (L' := [some (.int a0), some (.int a1), some (.int v1)]) (st' := [.int (v1 + a1)]) (sg := [(.iload_n 2, 0), (.iload_n 1, 0), (.iadd, 0)]) (lSa_ok dd8) rfl ?_
      exact Y.iret rfl (lIa_ok dd9) h

def f_I_moveOn_L20 (K51 : gH → gR) : Nat → gH → Nat → Int32 → Int32 → Int32 → Int32 → gR
  | 0, _, _, _, _, _, _ => none
  | n + 1, G, x0, x1, x2, x3, x4 =>
    if x3 ≤ x4 then K51 G
    else bI (f_MA_floorMod G (x4 + x2) x3) fun v12 G11 => gOb G11 x0 1 fun o14 => bI (f_I_thingInSpare G11 x0 x4) fun v17 G16 => gOb G16 x0 1 fun o19 => bV (f_I_write G16 x0 x1 v12 v17) fun G21 => f_I_moveOn_L20 K51 n G21 x0 x1 x2 x3 (x4 + (nI 1))
def f_I_moveOn (G : gH) (a0 : Nat) (a1 : Int32) (a2 : Int32) : gR :=
  gOb G a0 1 fun o2 => bI (f_I_lengthOf G a0 a1) fun v5 G4 => if (nI 1) ≤ v5 then gOb G4 a0 1 fun o7 => bV (f_I_copyToSpare G4 a0 a1) fun G9 => f_I_moveOn_L20 (fun G23 => rV G23) zFu G9 a0 a1 a2 v5 (nI 0)
  else rV G4
theorem k_I_moveOn_L20 {l : Launch} {D : va_G} {B : Nat} {O : State → Heap → Prop} (hV : zG l D B O) {o : gO} {Gf : gH} (K51 : gH → gR) (hK51 : ∀ (G : gH), K51 G  = some (o, Gf) → Y (zVm l D B O) m_I_moveOn 5 o Gf 51 [none, none, none, none, none] [] G) : ∀ (n : Nat) (G : gH) (x0 : Nat) (x1 : Int32) (x2 : Int32) (x3 : Int32) (x4 : Int32), f_I_moveOn_L20 K51 n G x0 x1 x2 x3 x4 = some (o, Gf) → Y (zVm l D B O) m_I_moveOn 5 o Gf 20 [some (.ref x0), some (.int x1), some (.int x2), some (.int x3), some (.int x4)] [] G := by
  have hdd : lSa m_I_moveOn 20 [(.iload 4, 0), (.iload_n 3, 0)] = true ∧ lIa m_I_moveOn 23 (.if_icmp .ge 28) 3 = true ∧ lSa m_I_moveOn 26 [(.aload_n 0, 0), (.iload_n 1, 0), (.iload 4, 0), (.iload_n 2, 0), (.iadd, 0), (.iload_n 3, 0)] = true ∧ lIa m_I_moveOn 33 (.invokestatic 68) 3 = true ∧ lSa m_I_moveOn 36 [(.aload_n 0, 0), (.iload 4, 0)] = true ∧ lIa m_I_moveOn 39 (.invokevirtual 73) 3 = true ∧ lIa m_I_moveOn 42 (.invokevirtual 53) 3 = true ∧ lSa m_I_moveOn 45 [(.iinc 4 1, nI 1)] = true ∧ lIa m_I_moveOn 48 (.goto (-28)) 3 = true := by decide +kernel
  refine lA8 hdd (fun dd0 dd1 dd2 dd3 dd4 dd5 dd6 dd7 hdd => ?_)
  have dd8 := hdd
  intro n
  induction n with
  | zero => intro G x0 x1 x2 x3 x4 h; cases h
  | succ n ih =>
    intro G x0 x1 x2 x3 x4 h
    unfold f_I_moveOn_L20 at h
    refine Y.blk (pc' := 23) (L' := [some (.ref x0), some (.int x1), some (.int x2), some (.int x3), some (.int x4)]) (st' := [.int x3, .int x4]) (sg := [(.iload 4, 0), (.iload_n 3, 0)]) (lSa_ok dd0) rfl ?_
    refine Y.ic_ge (off := 28) (tgt := 51) (lIa_ok dd1) (by decide) h (fun c22 h => ?_) (fun c22 h => ?_)
    · refine Y.less (L' := [none, none, none, none, none]) (zLe_none (zLe_none (zLe_none (zLe_none (zLe_none (zLe_nil)))))) ?_
      exact hK51 G  h
    · refine Y.blk (pc' := 33) (L' := [some (.ref x0), some (.int x1), some (.int x2), some (.int x3), some (.int x4)]) (st' := [.int x3, .int (x4 + x2), .int x1, .ref x0]) (sg := [(.aload_n 0, 0), (.iload_n 1, 0), (.iload 4, 0), (.iload_n 2, 0), (.iadd, 0), (.iload_n 3, 0)]) (lSa_ok dd2) rfl ?_
      refine Y.callI (yC.S (As := [.int (x4 + x2), .int x3]) (st := [.int x1, .ref x0]) hV.1 cb_MA_floorMod lk_I_68 st_MA_floorMod (lIa_ok dd3) rfl rfl (Nat.le_of_ble_eq_true rfl) (by decide)) (k_MA_floorMod hV G (x4 + x2) x3) h (fun v12 G11 _ h => ?_)
      refine Y.blk (pc' := 39) (L' := [some (.ref x0), some (.int x1), some (.int x2), some (.int x3), some (.int x4)]) (st' := [.int x4, .ref x0, .int v12, .int x1, .ref x0]) (sg := [(.aload_n 0, 0), (.iload 4, 0)]) (lSa_ok dd4) rfl ?_
      obtain ⟨_, o14, e13, m15, h⟩ := gOb_inv h
      refine Y.callI (yC.Vi (b := x0) (As := [.int x4]) (st := [.int v12, .int x1, .ref x0]) (r := ("Partlister$Lists", T_I, 7)) hV.1 cb_I_thingInSpare lk_I_73 in_I_thingInSpare rfl se_I_thingInSpare (lIa_ok dd5) rfl rfl (Nat.le_of_ble_eq_true rfl) (by decide) e13 m15) (k_I_thingInSpare hV G11 x0 x4) h (fun v17 G16 _ h => ?_)
      obtain ⟨_, o19, e18, m20, h⟩ := gOb_inv h
      refine Y.callN (yC.Vi (b := x0) (As := [.int x1, .int v12, .int v17]) (st := []) (r := ("Partlister$Lists", T_I, 7)) hV.1 cb_I_write lk_I_53 in_I_write rfl se_I_write (lIa_ok dd6) rfl rfl (Nat.le_of_ble_eq_true rfl) (by decide) e18 m20) (k_I_write hV G16 x0 x1 v12 v17) h (fun G21 _ h => ?_)
      refine Y.blk (pc' := 48) (L' := [some (.ref x0), some (.int x1), some (.int x2), some (.int x3), some (.int (x4 + (nI 1)))]) (st' := []) (sg := [(.iinc 4 1, nI 1)]) (lSa_ok dd7) rfl ?_
      refine Y.goto (off := -28) (tgt := 20) (lIa_ok dd8) (by decide) ?_
      exact ih G21 x0 x1 x2 x3 (x4 + (nI 1)) h
theorem k_I_moveOn {l : Launch} {D : va_G} {B : Nat} {O : State → Heap → Prop} (hV : zG l D B O) (G : gH) (a0 : Nat) (a1 : Int32) (a2 : Int32) : gMet (zVm l D B O) m_I_moveOn 5 [.ref a0, .int a1, .int a2] G (f_I_moveOn G a0 a1 a2) := by
  have hdd : lSa m_I_moveOn 0 [(.aload_n 0, 0), (.iload_n 1, 0)] = true ∧ lIa m_I_moveOn 2 (.invokevirtual 59) 3 = true ∧ lSa m_I_moveOn 5 [(.istore_n 3, 0), (.iload_n 3, 0), (.iconst 1, nI 1)] = true ∧ lIa m_I_moveOn 8 (.if_icmp .ge 4) 3 = true ∧ lSa m_I_moveOn 12 [(.aload_n 0, 0), (.iload_n 1, 0)] = true ∧ lIa m_I_moveOn 14 (.invokevirtual 65) 3 = true ∧ lSa m_I_moveOn 17 [(.iconst 0, nI 0), (.istore 4, 0)] = true ∧ lIa m_I_moveOn 51 (.return_) 1 = true ∧ lIa m_I_moveOn 11 (.return_) 1 = true := by decide +kernel
  refine lA8 hdd (fun dd0 dd1 dd2 dd3 dd4 dd5 dd6 dd7 hdd => ?_)
  have dd8 := hdd
  refine gMet.of (by decide +kernel) (Nat.le_of_ble_eq_true rfl) [some (.ref a0), some (.int a1), some (.int a2), none, none] (fun ls h => zEn_ok (n := 5) h) ?_
  intro o Gf h
  unfold f_I_moveOn at h
  refine Y.blk (pc' := 2) (L' := [some (.ref a0), some (.int a1), some (.int a2), none, none]) (st' := [.int a1, .ref a0]) (sg := [(.aload_n 0, 0), (.iload_n 1, 0)]) (lSa_ok dd0) rfl ?_
  obtain ⟨_, o2, e1, m3, h⟩ := gOb_inv h
  refine Y.callI (yC.Vi (b := a0) (As := [.int a1]) (st := []) (r := ("Partlister$Lists", T_I, 7)) hV.1 cb_I_lengthOf lk_I_59 in_I_lengthOf rfl se_I_lengthOf (lIa_ok dd1) rfl rfl (Nat.le_of_ble_eq_true rfl) (by decide) e1 m3) (k_I_lengthOf hV G a0 a1) h (fun v5 G4 _ h => ?_)
  refine Y.blk (pc' := 8) (L' := [some (.ref a0), some (.int a1), some (.int a2), some (.int v5), none]) (st' := [.int (nI 1), .int v5]) (sg := [(.istore_n 3, 0), (.iload_n 3, 0), (.iconst 1, nI 1)]) (lSa_ok dd2) rfl ?_
  refine Y.ic_ge (off := 4) (tgt := 12) (lIa_ok dd3) (by decide) h (fun c24 h => ?_) (fun c24 h => ?_)
  · refine Y.blk (pc' := 14) (L' := [some (.ref a0), some (.int a1), some (.int a2), some (.int v5), none]) (st' := [.int a1, .ref a0]) (sg := [(.aload_n 0, 0), (.iload_n 1, 0)]) (lSa_ok dd4) rfl ?_
    obtain ⟨_, o7, e6, m8, h⟩ := gOb_inv h
    refine Y.callN (yC.Vi (b := a0) (As := [.int a1]) (st := []) (r := ("Partlister$Lists", T_I, 7)) hV.1 cb_I_copyToSpare lk_I_65 in_I_copyToSpare rfl se_I_copyToSpare (lIa_ok dd5) rfl rfl (Nat.le_of_ble_eq_true rfl) (by decide) e6 m8) (k_I_copyToSpare hV G4 a0 a1) h (fun G9 _ h => ?_)
    refine Y.blk (pc' := 20) (L' := [some (.ref a0), some (.int a1), some (.int a2), some (.int v5), some (.int (nI 0))]) (st' := []) (sg := [(.iconst 0, nI 0), (.istore 4, 0)]) (lSa_ok dd6) rfl ?_
    refine k_I_moveOn_L20 hV _ ?_  zFu G9 a0 a1 a2 v5 (nI 0) h
    · intro G23 h
      exact Y.vret rfl (lIa_ok dd7) h
  · exact Y.vret rfl (lIa_ok dd8) h

def f_X_move (G : gH) (a0 : Nat) (a1 : Int32) (a2 : Int32) : gR :=
  gOb G a0 3 fun o2 => bV (f_X_needList G a0 a1) fun G4 => if a2 < (-40) then gThrow "java/lang/IllegalArgumentException" G4
  else if a2 ≤ (nI 40) then (gFA G4 a0 3 0 fun v5 => gOb G4 v5 1 fun o7 => bI (f_I_lengthOf G4 v5 a1) fun v10 G9 => if v10 = 0 then rI (-1) G9
      else gFA G9 a0 3 0 fun v11 => gOb G9 v11 1 fun o13 => bV (f_I_moveOn G9 v11 a1 a2) fun G15 => gFA G15 a0 3 0 fun v16 => gOb G15 v16 1 fun o18 => bI (f_I_thingAt G15 v16 a1 (nI 0)) fun v21 G20 => bI (f_X_tagOf G20 v21) fun v24 G23 => rI v24 G23)
    else gThrow "java/lang/IllegalArgumentException" G4
theorem k_X_move {l : Launch} {D : va_G} {B : Nat} {O : State → Heap → Prop} (hV : zG l D B O) (G : gH) (a0 : Nat) (a1 : Int32) (a2 : Int32) : gMet (zVm l D B O) m_X_move 7 [.ref a0, .int a1, .int a2] G (f_X_move G a0 a1 a2) := by
  have hdd : lSa m_X_move 0 [(.aload_n 0, 0), (.iload_n 1, 0)] = true ∧ lIa m_X_move 2 (.invokevirtual 23) 3 = true ∧ lSa m_X_move 5 [(.iload_n 2, 0), (.bipush (-40), -40)] = true ∧ lIa m_X_move 8 (.if_icmp .lt 9) 3 = true ∧ lIa m_X_move 17 (.new 81) 3 = true ∧ lIa m_X_move 20 (.dup) 1 = true ∧ lIa m_X_move 21 (.ldc 120) 2 = true ∧ lIa m_X_move 23 (.invokespecial 85) 3 = true ∧ lIa m_X_move 26 (.athrow) 1 = true ∧ lSa m_X_move 11 [(.iload_n 2, 0), (.bipush 40, nI 40)] = true ∧ lIa m_X_move 14 (.if_icmp .le 13) 3 = true ∧ lSa m_X_move 27 [(.aload_n 0, 0)] = true ∧ lIa m_X_move 28 (.getfield 10) 3 = true ∧ lSa m_X_move 31 [(.iload_n 1, 0)] = true ∧ lIa m_X_move 32 (.invokevirtual 34) 3 = true ∧ lIa m_X_move 35 (.ifCond .ne 5) 3 = true ∧ lSa m_X_move 38 [(.iconst (-1), -1)] = true ∧ lIa m_X_move 39 (.ireturn) 1 = true ∧ lSa m_X_move 40 [(.aload_n 0, 0)] = true ∧ lIa m_X_move 41 (.getfield 10) 3 = true ∧ lSa m_X_move 44 [(.iload_n 1, 0), (.iload_n 2, 0)] = true ∧ lIa m_X_move 46 (.invokevirtual 122) 3 = true ∧ lSa m_X_move 49 [(.aload_n 0, 0)] = true ∧ lIa m_X_move 50 (.getfield 10) 3 = true ∧ lSa m_X_move 53 [(.iload_n 1, 0), (.iconst 0, nI 0)] = true ∧ lIa m_X_move 55 (.invokevirtual 94) 3 = true ∧ lIa m_X_move 58 (.invokestatic 48) 3 = true ∧ lIa m_X_move 61 (.ireturn) 1 = true := by decide +kernel
  refine lA8 hdd (fun dd0 dd1 dd2 dd3 dd4 dd5 dd6 dd7 hdd => ?_)
  refine lA8 hdd (fun dd8 dd9 dd10 dd11 dd12 dd13 dd14 dd15 hdd => ?_)
  refine lA8 hdd (fun dd16 dd17 dd18 dd19 dd20 dd21 dd22 dd23 hdd => ?_)
  obtain ⟨dd24, dd25, dd26, dd27⟩ := hdd
  refine gMet.of (by decide +kernel) (Nat.le_of_ble_eq_true rfl) [some (.ref a0), some (.int a1), some (.int a2)] (fun ls h => zEn_ok (n := 3) h) ?_
  intro o Gf h
  unfold f_X_move at h
  refine Y.blk (pc' := 2) (L' := [some (.ref a0), some (.int a1), some (.int a2)]) (st' := [.int a1, .ref a0]) (sg := [(.aload_n 0, 0), (.iload_n 1, 0)]) (lSa_ok dd0) rfl ?_
  obtain ⟨_, o2, e1, m3, h⟩ := gOb_inv h
  refine Y.callN (yC.Vi (b := a0) (As := [.int a1]) (st := []) (r := ("Partlister", T_X, 5)) hV.1 cb_X_needList lk_X_23 in_X_needList rfl se_X_needList (lIa_ok dd1) rfl rfl (Nat.le_of_ble_eq_true rfl) (by decide) e1 m3) (k_X_needList hV G a0 a1) h (fun G4 _ h => ?_)
  refine Y.blk (pc' := 8) (L' := [some (.ref a0), some (.int a1), some (.int a2)]) (st' := [.int (-40), .int a2]) (sg := [(.iload_n 2, 0), (.bipush (-40), -40)]) (lSa_ok dd2) rfl ?_
  refine Y.ic_lt (off := 9) (tgt := 17) (lIa_ok dd3) (by decide) h (fun c27 h => ?_) (fun c27 h => ?_)
  · exact Y.throwS (is := 120) (text := "by is not -40 to 40") (names := zNm) hV.1 (hV.2 _ _ _ (by decide +kernel)) (by decide +kernel) (by decide +kernel) ck_X_81 ini_IAE tw_X_85 tg_X_85 (by decide) (by decide) rfl (Nat.le_of_ble_eq_true rfl) (lIa_ok dd4) (lIa_ok dd5) (lIa_ok dd6) (lIa_ok dd7) (lIa_ok dd8) h
  · refine Y.blk (pc' := 14) (L' := [some (.ref a0), some (.int a1), some (.int a2)]) (st' := [.int (nI 40), .int a2]) (sg := [(.iload_n 2, 0), (.bipush 40, nI 40)]) (lSa_ok dd9) rfl ?_
    refine Y.ic_le (off := 13) (tgt := 27) (lIa_ok dd10) (by decide) h (fun c26 h => ?_) (fun c26 h => ?_)
    · refine Y.blk (pc' := 28) (L' := [some (.ref a0), some (.int a1), some (.int a2)]) (st' := [.ref a0]) (sg := [(.aload_n 0, 0)]) (lSa_ok dd11) rfl ?_
      refine Y.getA fl_X_10 (lIa_ok dd12) h (fun v5 h => ?_)
      refine Y.blk (pc' := 32) (L' := [some (.ref a0), some (.int a1), some (.int a2)]) (st' := [.int a1, .ref v5]) (sg := [(.iload_n 1, 0)]) (lSa_ok dd13) rfl ?_
      obtain ⟨_, o7, e6, m8, h⟩ := gOb_inv h
      refine Y.callI (yC.Vi (b := v5) (As := [.int a1]) (st := []) (r := ("Partlister$Lists", T_I, 7)) hV.1 cb_I_lengthOf lk_X_34 in_I_lengthOf rfl se_I_lengthOf (lIa_ok dd14) rfl rfl (Nat.le_of_ble_eq_true rfl) (by decide) e6 m8) (k_I_lengthOf hV G4 v5 a1) h (fun v10 G9 _ h => ?_)
      refine Y.if_ne (off := 5) (tgt := 40) (lIa_ok dd15) (by decide) h (fun c25 h => ?_) (fun c25 h => ?_)
      · refine Y.blk (pc' := 39) (L' := [some (.ref a0), some (.int a1), some (.int a2)]) (st' := [.int (-1)]) (sg := [(.iconst (-1), -1)]) (lSa_ok dd16) rfl ?_
        exact Y.iret rfl (lIa_ok dd17) h
      · refine Y.blk (pc' := 41) (L' := [some (.ref a0), some (.int a1), some (.int a2)]) (st' := [.ref a0]) (sg := [(.aload_n 0, 0)]) (lSa_ok dd18) rfl ?_
        refine Y.getA fl_X_10 (lIa_ok dd19) h (fun v11 h => ?_)
        refine Y.blk (pc' := 46) (L' := [some (.ref a0), some (.int a1), some (.int a2)]) (st' := [.int a2, .int a1, .ref v11]) (sg := [(.iload_n 1, 0), (.iload_n 2, 0)]) (lSa_ok dd20) rfl ?_
        obtain ⟨_, o13, e12, m14, h⟩ := gOb_inv h
        refine Y.callN (yC.Vi (b := v11) (As := [.int a1, .int a2]) (st := []) (r := ("Partlister$Lists", T_I, 7)) hV.1 cb_I_moveOn lk_X_122 in_I_moveOn rfl se_I_moveOn (lIa_ok dd21) rfl rfl (Nat.le_of_ble_eq_true rfl) (by decide) e12 m14) (k_I_moveOn hV G9 v11 a1 a2) h (fun G15 _ h => ?_)
        refine Y.blk (pc' := 50) (L' := [some (.ref a0), some (.int a1), some (.int a2)]) (st' := [.ref a0]) (sg := [(.aload_n 0, 0)]) (lSa_ok dd22) rfl ?_
        refine Y.getA fl_X_10 (lIa_ok dd23) h (fun v16 h => ?_)
        refine Y.blk (pc' := 55) (L' := [some (.ref a0), some (.int a1), some (.int a2)]) (st' := [.int (nI 0), .int a1, .ref v16]) (sg := [(.iload_n 1, 0), (.iconst 0, nI 0)]) (lSa_ok dd24) rfl ?_
        obtain ⟨_, o18, e17, m19, h⟩ := gOb_inv h
        refine Y.callI (yC.Vi (b := v16) (As := [.int a1, .int (nI 0)]) (st := []) (r := ("Partlister$Lists", T_I, 7)) hV.1 cb_I_thingAt lk_X_94 in_I_thingAt rfl se_I_thingAt (lIa_ok dd25) rfl rfl (Nat.le_of_ble_eq_true rfl) (by decide) e17 m19) (k_I_thingAt hV G15 v16 a1 (nI 0)) h (fun v21 G20 _ h => ?_)
        refine Y.callI (yC.S (As := [.int v21]) (st := []) hV.1 cb_X_tagOf lk_X_48 st_X_tagOf (lIa_ok dd26) rfl rfl (Nat.le_of_ble_eq_true rfl) (by decide)) (k_X_tagOf hV G20 v21) h (fun v24 G23 _ h => ?_)
        exact Y.iret rfl (lIa_ok dd27) h
    · exact Y.throwS (is := 120) (text := "by is not -40 to 40") (names := zNm) hV.1 (hV.2 _ _ _ (by decide +kernel)) (by decide +kernel) (by decide +kernel) ck_X_81 ini_IAE tw_X_85 tg_X_85 (by decide) (by decide) rfl (Nat.le_of_ble_eq_true rfl) (lIa_ok dd4) (lIa_ok dd5) (lIa_ok dd6) (lIa_ok dd7) (lIa_ok dd8) h

def f_X_next (G : gH) (a0 : Nat) (a1 : Int32) : gR :=
  gOb G a0 3 fun o2 => bV (f_X_needCursor G a0 a1) fun G4 => gFA G4 a0 3 1 fun v5 => gOb G4 v5 0 fun o7 => bI (f_U_isStale G4 v5 a1) fun v10 G9 => if v10 = 0 then (gFA G9 a0 3 1 fun v11 => gOb G9 v11 0 fun o13 => bI (f_U_listOf G9 v11 a1) fun v16 G15 => gFA G15 a0 3 1 fun v17 => gOb G15 v17 0 fun o19 => bI (f_U_nextOf G15 v17 a1) fun v22 G21 => gFA G21 a0 3 0 fun v23 => gOb G21 v23 1 fun o25 => bI (f_I_lengthOf G21 v23 v16) fun v28 G27 => if v22 < v28 then gFA G27 a0 3 1 fun v29 => gOb G27 v29 0 fun o31 => bV (f_U_stand G27 v29 a1 (v22 + (nI 1)) v22) fun G33 => gFA G33 a0 3 0 fun v34 => gOb G33 v34 1 fun o36 => bI (f_I_thingAt G33 v34 v16 v22) fun v39 G38 => bI (f_X_tagOf G38 v39) fun v42 G41 => rI v42 G41
    else gOb G27 a0 3 fun o44 => bI (f_X_failWith G27 a0 (-8)) fun v47 G46 => rI v47 G46)
  else gOb G9 a0 3 fun o50 => bI (f_X_failWith G9 a0 (-9)) fun v53 G52 => rI v53 G52
theorem k_X_next {l : Launch} {D : va_G} {B : Nat} {O : State → Heap → Prop} (hV : zG l D B O) (G : gH) (a0 : Nat) (a1 : Int32) : gMet (zVm l D B O) m_X_next 7 [.ref a0, .int a1] G (f_X_next G a0 a1) := by
  have hdd : lSa m_X_next 0 [(.aload_n 0, 0), (.iload_n 1, 0)] = true ∧ lIa m_X_next 2 (.invokevirtual 167) 3 = true ∧ lSa m_X_next 5 [(.aload_n 0, 0)] = true ∧ lIa m_X_next 6 (.getfield 19) 3 = true ∧ lSa m_X_next 9 [(.iload_n 1, 0)] = true ∧ lIa m_X_next 10 (.invokevirtual 170) 3 = true ∧ lIa m_X_next 13 (.ifCond .eq 10) 3 = true ∧ lSa m_X_next 23 [(.aload_n 0, 0)] = true ∧ lIa m_X_next 24 (.getfield 19) 3 = true ∧ lSa m_X_next 27 [(.iload_n 1, 0)] = true ∧ lIa m_X_next 28 (.invokevirtual 152) 3 = true ∧ lSa m_X_next 31 [(.istore_n 2, 0), (.aload_n 0, 0)] = true ∧ lIa m_X_next 33 (.getfield 19) 3 = true ∧ lSa m_X_next 36 [(.iload_n 1, 0)] = true ∧ lIa m_X_next 37 (.invokevirtual 176) 3 = true ∧ lSa m_X_next 40 [(.istore_n 3, 0), (.iload_n 3, 0), (.aload_n 0, 0)] = true ∧ lIa m_X_next 43 (.getfield 10) 3 = true ∧ lSa m_X_next 46 [(.iload_n 2, 0)] = true ∧ lIa m_X_next 47 (.invokevirtual 34) 3 = true ∧ lIa m_X_next 50 (.if_icmp .lt 10) 3 = true ∧ lSa m_X_next 60 [(.aload_n 0, 0)] = true ∧ lIa m_X_next 61 (.getfield 19) 3 = true ∧ lSa m_X_next 64 [(.iload_n 1, 0), (.iload_n 3, 0), (.iconst 1, nI 1), (.iadd, 0), (.iload_n 3, 0)] = true ∧ lIa m_X_next 69 (.invokevirtual 179) 3 = true ∧ lSa m_X_next 72 [(.aload_n 0, 0)] = true ∧ lIa m_X_next 73 (.getfield 10) 3 = true ∧ lSa m_X_next 76 [(.iload_n 2, 0), (.iload_n 3, 0)] = true ∧ lIa m_X_next 78 (.invokevirtual 94) 3 = true ∧ lIa m_X_next 81 (.invokestatic 48) 3 = true ∧ lIa m_X_next 84 (.ireturn) 1 = true ∧ lSa m_X_next 53 [(.aload_n 0, 0), (.bipush (-8), -8)] = true ∧ lIa m_X_next 56 (.invokevirtual 173) 3 = true ∧ lIa m_X_next 59 (.ireturn) 1 = true ∧ lSa m_X_next 16 [(.aload_n 0, 0), (.bipush (-9), -9)] = true ∧ lIa m_X_next 19 (.invokevirtual 173) 3 = true ∧ lIa m_X_next 22 (.ireturn) 1 = true := by decide +kernel
  refine lA8 hdd (fun dd0 dd1 dd2 dd3 dd4 dd5 dd6 dd7 hdd => ?_)
  refine lA8 hdd (fun dd8 dd9 dd10 dd11 dd12 dd13 dd14 dd15 hdd => ?_)
  refine lA8 hdd (fun dd16 dd17 dd18 dd19 dd20 dd21 dd22 dd23 hdd => ?_)
  refine lA8 hdd (fun dd24 dd25 dd26 dd27 dd28 dd29 dd30 dd31 hdd => ?_)
  obtain ⟨dd32, dd33, dd34, dd35⟩ := hdd
  refine gMet.of (by decide +kernel) (Nat.le_of_ble_eq_true rfl) [some (.ref a0), some (.int a1), none, none] (fun ls h => zEn_ok (n := 4) h) ?_
  intro o Gf h
  unfold f_X_next at h
  refine Y.blk (pc' := 2) (L' := [some (.ref a0), some (.int a1), none, none]) (st' := [.int a1, .ref a0]) (sg := [(.aload_n 0, 0), (.iload_n 1, 0)]) (lSa_ok dd0) rfl ?_
  obtain ⟨_, o2, e1, m3, h⟩ := gOb_inv h
  refine Y.callN (yC.Vi (b := a0) (As := [.int a1]) (st := []) (r := ("Partlister", T_X, 5)) hV.1 cb_X_needCursor lk_X_167 in_X_needCursor rfl se_X_needCursor (lIa_ok dd1) rfl rfl (Nat.le_of_ble_eq_true rfl) (by decide) e1 m3) (k_X_needCursor hV G a0 a1) h (fun G4 _ h => ?_)
  refine Y.blk (pc' := 6) (L' := [some (.ref a0), some (.int a1), none, none]) (st' := [.ref a0]) (sg := [(.aload_n 0, 0)]) (lSa_ok dd2) rfl ?_
  refine Y.getA fl_X_19 (lIa_ok dd3) h (fun v5 h => ?_)
  refine Y.blk (pc' := 10) (L' := [some (.ref a0), some (.int a1), none, none]) (st' := [.int a1, .ref v5]) (sg := [(.iload_n 1, 0)]) (lSa_ok dd4) rfl ?_
  obtain ⟨_, o7, e6, m8, h⟩ := gOb_inv h
  refine Y.callI (yC.Vi (b := v5) (As := [.int a1]) (st := []) (r := ("Partlister$Cursors", T_U, 5)) hV.1 cb_U_isStale lk_X_170 in_U_isStale rfl se_U_isStale (lIa_ok dd5) rfl rfl (Nat.le_of_ble_eq_true rfl) (by decide) e6 m8) (k_U_isStale hV G4 v5 a1) h (fun v10 G9 _ h => ?_)
  refine Y.if_eq (off := 10) (tgt := 23) (lIa_ok dd6) (by decide) h (fun c54 h => ?_) (fun c54 h => ?_)
  · refine Y.blk (pc' := 24) (L' := [some (.ref a0), some (.int a1), none, none]) (st' := [.ref a0]) (sg := [(.aload_n 0, 0)]) (lSa_ok dd7) rfl ?_
    refine Y.getA fl_X_19 (lIa_ok dd8) h (fun v11 h => ?_)
    refine Y.blk (pc' := 28) (L' := [some (.ref a0), some (.int a1), none, none]) (st' := [.int a1, .ref v11]) (sg := [(.iload_n 1, 0)]) (lSa_ok dd9) rfl ?_
    obtain ⟨_, o13, e12, m14, h⟩ := gOb_inv h
    refine Y.callI (yC.Vi (b := v11) (As := [.int a1]) (st := []) (r := ("Partlister$Cursors", T_U, 5)) hV.1 cb_U_listOf lk_X_152 in_U_listOf rfl se_U_listOf (lIa_ok dd10) rfl rfl (Nat.le_of_ble_eq_true rfl) (by decide) e12 m14) (k_U_listOf hV G9 v11 a1) h (fun v16 G15 _ h => ?_)
    refine Y.blk (pc' := 33) (L' := [some (.ref a0), some (.int a1), some (.int v16), none]) (st' := [.ref a0]) (sg := [(.istore_n 2, 0), (.aload_n 0, 0)]) (lSa_ok dd11) rfl ?_
    refine Y.getA fl_X_19 (lIa_ok dd12) h (fun v17 h => ?_)
    refine Y.blk (pc' := 37) (L' := [some (.ref a0), some (.int a1), some (.int v16), none]) (st' := [.int a1, .ref v17]) (sg := [(.iload_n 1, 0)]) (lSa_ok dd13) rfl ?_
    obtain ⟨_, o19, e18, m20, h⟩ := gOb_inv h
    refine Y.callI (yC.Vi (b := v17) (As := [.int a1]) (st := []) (r := ("Partlister$Cursors", T_U, 5)) hV.1 cb_U_nextOf lk_X_176 in_U_nextOf rfl se_U_nextOf (lIa_ok dd14) rfl rfl (Nat.le_of_ble_eq_true rfl) (by decide) e18 m20) (k_U_nextOf hV G15 v17 a1) h (fun v22 G21 _ h => ?_)
    refine Y.blk (pc' := 43) (L' := [some (.ref a0), some (.int a1), some (.int v16), some (.int v22)]) (st' := [.ref a0, .int v22]) (sg := [(.istore_n 3, 0), (.iload_n 3, 0), (.aload_n 0, 0)]) (lSa_ok dd15) rfl ?_
    refine Y.getA fl_X_10 (lIa_ok dd16) h (fun v23 h => ?_)
    refine Y.blk (pc' := 47) (L' := [some (.ref a0), some (.int a1), some (.int v16), some (.int v22)]) (st' := [.int v16, .ref v23, .int v22]) (sg := [(.iload_n 2, 0)]) (lSa_ok dd17) rfl ?_
    obtain ⟨_, o25, e24, m26, h⟩ := gOb_inv h
    refine Y.callI (yC.Vi (b := v23) (As := [.int v16]) (st := [.int v22]) (r := ("Partlister$Lists", T_I, 7)) hV.1 cb_I_lengthOf lk_X_34 in_I_lengthOf rfl se_I_lengthOf (lIa_ok dd18) rfl rfl (Nat.le_of_ble_eq_true rfl) (by decide) e24 m26) (k_I_lengthOf hV G21 v23 v16) h (fun v28 G27 _ h => ?_)
    refine Y.ic_lt (off := 10) (tgt := 60) (lIa_ok dd19) (by decide) h (fun c48 h => ?_) (fun c48 h => ?_)
    · refine Y.blk (pc' := 61) (L' := [some (.ref a0), some (.int a1), some (.int v16), some (.int v22)]) (st' := [.ref a0]) (sg := [(.aload_n 0, 0)]) (lSa_ok dd20) rfl ?_
      refine Y.getA fl_X_19 (lIa_ok dd21) h (fun v29 h => ?_)
      refine Y.blk (pc' := 69) (L' := [some (.ref a0), some (.int a1), some (.int v16), some (.int v22)]) (st' := [.int v22, .int (v22 + (nI 1)), .int a1, .ref v29]) (sg := [(.iload_n 1, 0), (.iload_n 3, 0), (.iconst 1, nI 1), (.iadd, 0), (.iload_n 3, 0)]) (lSa_ok dd22) rfl ?_
      obtain ⟨_, o31, e30, m32, h⟩ := gOb_inv h
      refine Y.callN (yC.Vi (b := v29) (As := [.int a1, .int (v22 + (nI 1)), .int v22]) (st := []) (r := ("Partlister$Cursors", T_U, 5)) hV.1 cb_U_stand lk_X_179 in_U_stand rfl se_U_stand (lIa_ok dd23) rfl rfl (Nat.le_of_ble_eq_true rfl) (by decide) e30 m32) (k_U_stand hV G27 v29 a1 (v22 + (nI 1)) v22) h (fun G33 _ h => ?_)
      refine Y.blk (pc' := 73) (L' := [some (.ref a0), some (.int a1), some (.int v16), some (.int v22)]) (st' := [.ref a0]) (sg := [(.aload_n 0, 0)]) (lSa_ok dd24) rfl ?_
      refine Y.getA fl_X_10 (lIa_ok dd25) h (fun v34 h => ?_)
      refine Y.blk (pc' := 78) (L' := [some (.ref a0), some (.int a1), some (.int v16), some (.int v22)]) (st' := [.int v22, .int v16, .ref v34]) (sg := [(.iload_n 2, 0), (.iload_n 3, 0)]) (lSa_ok dd26) rfl ?_
      obtain ⟨_, o36, e35, m37, h⟩ := gOb_inv h
      refine Y.callI (yC.Vi (b := v34) (As := [.int v16, .int v22]) (st := []) (r := ("Partlister$Lists", T_I, 7)) hV.1 cb_I_thingAt lk_X_94 in_I_thingAt rfl se_I_thingAt (lIa_ok dd27) rfl rfl (Nat.le_of_ble_eq_true rfl) (by decide) e35 m37) (k_I_thingAt hV G33 v34 v16 v22) h (fun v39 G38 _ h => ?_)
      refine Y.callI (yC.S (As := [.int v39]) (st := []) hV.1 cb_X_tagOf lk_X_48 st_X_tagOf (lIa_ok dd28) rfl rfl (Nat.le_of_ble_eq_true rfl) (by decide)) (k_X_tagOf hV G38 v39) h (fun v42 G41 _ h => ?_)
      exact Y.iret rfl (lIa_ok dd29) h
    · refine Y.blk (pc' := 56) (L' := [some (.ref a0), some (.int a1), some (.int v16), some (.int v22)]) (st' := [.int (-8), .ref a0]) (sg := [(.aload_n 0, 0), (.bipush (-8), -8)]) (lSa_ok dd30) rfl ?_
      obtain ⟨_, o44, e43, m45, h⟩ := gOb_inv h
      refine Y.callI (yC.Vi (b := a0) (As := [.int (-8)]) (st := []) (r := ("Partlister", T_X, 5)) hV.1 cb_X_failWith lk_X_173 in_X_failWith rfl se_X_failWith (lIa_ok dd31) rfl rfl (Nat.le_of_ble_eq_true rfl) (by decide) e43 m45) (k_X_failWith hV G27 a0 (-8)) h (fun v47 G46 _ h => ?_)
      exact Y.iret rfl (lIa_ok dd32) h
  · refine Y.blk (pc' := 19) (L' := [some (.ref a0), some (.int a1), none, none]) (st' := [.int (-9), .ref a0]) (sg := [(.aload_n 0, 0), (.bipush (-9), -9)]) (lSa_ok dd33) rfl ?_
    obtain ⟨_, o50, e49, m51, h⟩ := gOb_inv h
    refine Y.callI (yC.Vi (b := a0) (As := [.int (-9)]) (st := []) (r := ("Partlister", T_X, 5)) hV.1 cb_X_failWith lk_X_173 in_X_failWith rfl se_X_failWith (lIa_ok dd34) rfl rfl (Nat.le_of_ble_eq_true rfl) (by decide) e49 m51) (k_X_failWith hV G9 a0 (-9)) h (fun v53 G52 _ h => ?_)
    exact Y.iret rfl (lIa_ok dd35) h

def f_X_ofCursor (G : gH) (a0 : Nat) (a1 : Int32) (a2 : Int32) : gR :=
  if a1 < 0 then gThrow "java/lang/IndexOutOfBoundsException" G
  else if a1 < (nI 3) then (if a2 < 0 then gThrow "java/lang/IllegalArgumentException" G
      else if a2 < (nI 7) then gOb G a0 3 fun o2 => bI (f_X_worthOfCursor G a0 a1 a2) fun v5 G4 => rI v5 G4
        else gThrow "java/lang/IllegalArgumentException" G)
    else gThrow "java/lang/IndexOutOfBoundsException" G
theorem k_X_ofCursor {l : Launch} {D : va_G} {B : Nat} {O : State → Heap → Prop} (hV : zG l D B O) (G : gH) (a0 : Nat) (a1 : Int32) (a2 : Int32) : gMet (zVm l D B O) m_X_ofCursor 6 [.ref a0, .int a1, .int a2] G (f_X_ofCursor G a0 a1 a2) := by
  have hdd : lSa m_X_ofCursor 0 [(.iload_n 1, 0)] = true ∧ lIa m_X_ofCursor 1 (.ifCond .lt 8) 3 = true ∧ lIa m_X_ofCursor 9 (.new 125) 3 = true ∧ lIa m_X_ofCursor 12 (.dup) 1 = true ∧ lIa m_X_ofCursor 13 (.ldc 241) 2 = true ∧ lIa m_X_ofCursor 15 (.invokespecial 129) 3 = true ∧ lIa m_X_ofCursor 18 (.athrow) 1 = true ∧ lSa m_X_ofCursor 4 [(.iload_n 1, 0), (.iconst 3, nI 3)] = true ∧ lIa m_X_ofCursor 6 (.if_icmp .lt 13) 3 = true ∧ lSa m_X_ofCursor 19 [(.iload_n 2, 0)] = true ∧ lIa m_X_ofCursor 20 (.ifCond .lt 9) 3 = true ∧ lIa m_X_ofCursor 29 (.new 81) 3 = true ∧ lIa m_X_ofCursor 32 (.dup) 1 = true ∧ lIa m_X_ofCursor 33 (.ldc 243) 2 = true ∧ lIa m_X_ofCursor 35 (.invokespecial 85) 3 = true ∧ lIa m_X_ofCursor 38 (.athrow) 1 = true ∧ lSa m_X_ofCursor 23 [(.iload_n 2, 0), (.bipush 7, nI 7)] = true ∧ lIa m_X_ofCursor 26 (.if_icmp .lt 13) 3 = true ∧ lSa m_X_ofCursor 39 [(.aload_n 0, 0), (.iload_n 1, 0), (.iload_n 2, 0)] = true ∧ lIa m_X_ofCursor 42 (.invokevirtual 245) 3 = true ∧ lIa m_X_ofCursor 45 (.ireturn) 1 = true := by decide +kernel
  refine lA8 hdd (fun dd0 dd1 dd2 dd3 dd4 dd5 dd6 dd7 hdd => ?_)
  refine lA8 hdd (fun dd8 dd9 dd10 dd11 dd12 dd13 dd14 dd15 hdd => ?_)
  obtain ⟨dd16, dd17, dd18, dd19, dd20⟩ := hdd
  refine gMet.of (by decide +kernel) (Nat.le_of_ble_eq_true rfl) [some (.ref a0), some (.int a1), some (.int a2)] (fun ls h => zEn_ok (n := 3) h) ?_
  intro o Gf h
  unfold f_X_ofCursor at h
  refine Y.blk (pc' := 1) (L' := [some (.ref a0), some (.int a1), some (.int a2)]) (st' := [.int a1]) (sg := [(.iload_n 1, 0)]) (lSa_ok dd0) rfl ?_
  refine Y.if_lt (off := 8) (tgt := 9) (lIa_ok dd1) (by decide) h (fun c9 h => ?_) (fun c9 h => ?_)
  · exact Y.throwS (is := 241) (text := "cursor is not 0 to 2") (names := zNm) hV.1 (hV.2 _ _ _ (by decide +kernel)) (by decide +kernel) (by decide +kernel) ck_X_125 ini_IOE tw_X_129 tg_X_129 (by decide) (by decide) rfl (Nat.le_of_ble_eq_true rfl) (lIa_ok dd2) (lIa_ok dd3) (lIa_ok dd4) (lIa_ok dd5) (lIa_ok dd6) h
  · refine Y.blk (pc' := 6) (L' := [some (.ref a0), some (.int a1), some (.int a2)]) (st' := [.int (nI 3), .int a1]) (sg := [(.iload_n 1, 0), (.iconst 3, nI 3)]) (lSa_ok dd7) rfl ?_
    refine Y.ic_lt (off := 13) (tgt := 19) (lIa_ok dd8) (by decide) h (fun c8 h => ?_) (fun c8 h => ?_)
    · refine Y.blk (pc' := 20) (L' := [some (.ref a0), some (.int a1), some (.int a2)]) (st' := [.int a2]) (sg := [(.iload_n 2, 0)]) (lSa_ok dd9) rfl ?_
      refine Y.if_lt (off := 9) (tgt := 29) (lIa_ok dd10) (by decide) h (fun c7 h => ?_) (fun c7 h => ?_)
      · exact Y.throwS (is := 243) (text := "what is not 0 to 6") (names := zNm) hV.1 (hV.2 _ _ _ (by decide +kernel)) (by decide +kernel) (by decide +kernel) ck_X_81 ini_IAE tw_X_85 tg_X_85 (by decide) (by decide) rfl (Nat.le_of_ble_eq_true rfl) (lIa_ok dd11) (lIa_ok dd12) (lIa_ok dd13) (lIa_ok dd14) (lIa_ok dd15) h
      · refine Y.blk (pc' := 26) (L' := [some (.ref a0), some (.int a1), some (.int a2)]) (st' := [.int (nI 7), .int a2]) (sg := [(.iload_n 2, 0), (.bipush 7, nI 7)]) (lSa_ok dd16) rfl ?_
        refine Y.ic_lt (off := 13) (tgt := 39) (lIa_ok dd17) (by decide) h (fun c6 h => ?_) (fun c6 h => ?_)
        · refine Y.blk (pc' := 42) (L' := [some (.ref a0), some (.int a1), some (.int a2)]) (st' := [.int a2, .int a1, .ref a0]) (sg := [(.aload_n 0, 0), (.iload_n 1, 0), (.iload_n 2, 0)]) (lSa_ok dd18) rfl ?_
          obtain ⟨_, o2, e1, m3, h⟩ := gOb_inv h
          refine Y.callI (yC.Vi (b := a0) (As := [.int a1, .int a2]) (st := []) (r := ("Partlister", T_X, 5)) hV.1 cb_X_worthOfCursor lk_X_245 in_X_worthOfCursor rfl se_X_worthOfCursor (lIa_ok dd19) rfl rfl (Nat.le_of_ble_eq_true rfl) (by decide) e1 m3) (k_X_worthOfCursor hV G a0 a1 a2) h (fun v5 G4 _ h => ?_)
          exact Y.iret rfl (lIa_ok dd20) h
        · exact Y.throwS (is := 243) (text := "what is not 0 to 6") (names := zNm) hV.1 (hV.2 _ _ _ (by decide +kernel)) (by decide +kernel) (by decide +kernel) ck_X_81 ini_IAE tw_X_85 tg_X_85 (by decide) (by decide) rfl (Nat.le_of_ble_eq_true rfl) (lIa_ok dd11) (lIa_ok dd12) (lIa_ok dd13) (lIa_ok dd14) (lIa_ok dd15) h
    · exact Y.throwS (is := 241) (text := "cursor is not 0 to 2") (names := zNm) hV.1 (hV.2 _ _ _ (by decide +kernel)) (by decide +kernel) (by decide +kernel) ck_X_125 ini_IOE tw_X_129 tg_X_129 (by decide) (by decide) rfl (Nat.le_of_ble_eq_true rfl) (lIa_ok dd2) (lIa_ok dd3) (lIa_ok dd4) (lIa_ok dd5) (lIa_ok dd6) h

def f_X_ofPart (G : gH) (a0 : Nat) (a1 : Int32) (a2 : Int32) : gR :=
  gOb G a0 3 fun o2 => bV (f_X_needPart G a0 a1) fun G4 => if a2 < 0 then gThrow "java/lang/IllegalArgumentException" G4
  else if a2 < (nI 4) then gFA G4 a0 3 0 fun v5 => gOb G4 v5 1 fun o7 => bI (f_I_worthOf G4 v5 a1 a2) fun v10 G9 => rI v10 G9
    else gThrow "java/lang/IllegalArgumentException" G4
theorem k_X_ofPart {l : Launch} {D : va_G} {B : Nat} {O : State → Heap → Prop} (hV : zG l D B O) (G : gH) (a0 : Nat) (a1 : Int32) (a2 : Int32) : gMet (zVm l D B O) m_X_ofPart 7 [.ref a0, .int a1, .int a2] G (f_X_ofPart G a0 a1 a2) := by
  have hdd : lSa m_X_ofPart 0 [(.aload_n 0, 0), (.iload_n 1, 0)] = true ∧ lIa m_X_ofPart 2 (.invokevirtual 142) 3 = true ∧ lSa m_X_ofPart 5 [(.iload_n 2, 0)] = true ∧ lIa m_X_ofPart 6 (.ifCond .lt 8) 3 = true ∧ lIa m_X_ofPart 14 (.new 81) 3 = true ∧ lIa m_X_ofPart 17 (.dup) 1 = true ∧ lIa m_X_ofPart 18 (.ldc 236) 2 = true ∧ lIa m_X_ofPart 20 (.invokespecial 85) 3 = true ∧ lIa m_X_ofPart 23 (.athrow) 1 = true ∧ lSa m_X_ofPart 9 [(.iload_n 2, 0), (.iconst 4, nI 4)] = true ∧ lIa m_X_ofPart 11 (.if_icmp .lt 13) 3 = true ∧ lSa m_X_ofPart 24 [(.aload_n 0, 0)] = true ∧ lIa m_X_ofPart 25 (.getfield 10) 3 = true ∧ lSa m_X_ofPart 28 [(.iload_n 1, 0), (.iload_n 2, 0)] = true ∧ lIa m_X_ofPart 30 (.invokevirtual 238) 3 = true ∧ lIa m_X_ofPart 33 (.ireturn) 1 = true := by decide +kernel
  refine lA8 hdd (fun dd0 dd1 dd2 dd3 dd4 dd5 dd6 dd7 hdd => ?_)
  obtain ⟨dd8, dd9, dd10, dd11, dd12, dd13, dd14, dd15⟩ := hdd
  refine gMet.of (by decide +kernel) (Nat.le_of_ble_eq_true rfl) [some (.ref a0), some (.int a1), some (.int a2)] (fun ls h => zEn_ok (n := 3) h) ?_
  intro o Gf h
  unfold f_X_ofPart at h
  refine Y.blk (pc' := 2) (L' := [some (.ref a0), some (.int a1), some (.int a2)]) (st' := [.int a1, .ref a0]) (sg := [(.aload_n 0, 0), (.iload_n 1, 0)]) (lSa_ok dd0) rfl ?_
  obtain ⟨_, o2, e1, m3, h⟩ := gOb_inv h
  refine Y.callN (yC.Vi (b := a0) (As := [.int a1]) (st := []) (r := ("Partlister", T_X, 5)) hV.1 cb_X_needPart lk_X_142 in_X_needPart rfl se_X_needPart (lIa_ok dd1) rfl rfl (Nat.le_of_ble_eq_true rfl) (by decide) e1 m3) (k_X_needPart hV G a0 a1) h (fun G4 _ h => ?_)
  refine Y.blk (pc' := 6) (L' := [some (.ref a0), some (.int a1), some (.int a2)]) (st' := [.int a2]) (sg := [(.iload_n 2, 0)]) (lSa_ok dd2) rfl ?_
  refine Y.if_lt (off := 8) (tgt := 14) (lIa_ok dd3) (by decide) h (fun c12 h => ?_) (fun c12 h => ?_)
  · exact Y.throwS (is := 236) (text := "what is not 0 to 3") (names := zNm) hV.1 (hV.2 _ _ _ (by decide +kernel)) (by decide +kernel) (by decide +kernel) ck_X_81 ini_IAE tw_X_85 tg_X_85 (by decide) (by decide) rfl (Nat.le_of_ble_eq_true rfl) (lIa_ok dd4) (lIa_ok dd5) (lIa_ok dd6) (lIa_ok dd7) (lIa_ok dd8) h
  · refine Y.blk (pc' := 11) (L' := [some (.ref a0), some (.int a1), some (.int a2)]) (st' := [.int (nI 4), .int a2]) (sg := [(.iload_n 2, 0), (.iconst 4, nI 4)]) (lSa_ok dd9) rfl ?_
    refine Y.ic_lt (off := 13) (tgt := 24) (lIa_ok dd10) (by decide) h (fun c11 h => ?_) (fun c11 h => ?_)
    · refine Y.blk (pc' := 25) (L' := [some (.ref a0), some (.int a1), some (.int a2)]) (st' := [.ref a0]) (sg := [(.aload_n 0, 0)]) (lSa_ok dd11) rfl ?_
      refine Y.getA fl_X_10 (lIa_ok dd12) h (fun v5 h => ?_)
      refine Y.blk (pc' := 30) (L' := [some (.ref a0), some (.int a1), some (.int a2)]) (st' := [.int a2, .int a1, .ref v5]) (sg := [(.iload_n 1, 0), (.iload_n 2, 0)]) (lSa_ok dd13) rfl ?_
      obtain ⟨_, o7, e6, m8, h⟩ := gOb_inv h
      refine Y.callI (yC.Vi (b := v5) (As := [.int a1, .int a2]) (st := []) (r := ("Partlister$Lists", T_I, 7)) hV.1 cb_I_worthOf lk_X_238 in_I_worthOf rfl se_I_worthOf (lIa_ok dd14) rfl rfl (Nat.le_of_ble_eq_true rfl) (by decide) e6 m8) (k_I_worthOf hV G4 v5 a1 a2) h (fun v10 G9 _ h => ?_)
      exact Y.iret rfl (lIa_ok dd15) h
    · exact Y.throwS (is := 236) (text := "what is not 0 to 3") (names := zNm) hV.1 (hV.2 _ _ _ (by decide +kernel)) (by decide +kernel) (by decide +kernel) ck_X_81 ini_IAE tw_X_85 tg_X_85 (by decide) (by decide) rfl (Nat.le_of_ble_eq_true rfl) (lIa_ok dd4) (lIa_ok dd5) (lIa_ok dd6) (lIa_ok dd7) (lIa_ok dd8) h

def f_X_pack (G : gH) (a0 : Nat) (a1 : Int32) (a2 : Int32) : gR :=
  gOb G a0 3 fun o2 => bV (f_X_needRow G a0 a1) fun G4 => gOb G4 a0 3 fun o6 => bI (f_X_endAround G4 a0 a1) fun v9 G8 => rI v9 G8
theorem k_X_pack {l : Launch} {D : va_G} {B : Nat} {O : State → Heap → Prop} (hV : zG l D B O) (G : gH) (a0 : Nat) (a1 : Int32) (a2 : Int32) : gMet (zVm l D B O) m_X_pack 7 [.ref a0, .int a1, .int a2] G (f_X_pack G a0 a1 a2) := by
  have hdd : lSa m_X_pack 0 [(.aload_n 0, 0), (.iload_n 1, 0)] = true ∧ lIa m_X_pack 2 (.invokevirtual 106) 3 = true ∧ lSa m_X_pack 5 [(.aload_n 0, 0), (.iload_n 1, 0)] = true ∧ lIa m_X_pack 7 (.invokevirtual 103) 3 = true ∧ lIa m_X_pack 10 (.ireturn) 1 = true := by decide +kernel
  obtain ⟨dd0, dd1, dd2, dd3, dd4⟩ := hdd
  refine gMet.of (by decide +kernel) (Nat.le_of_ble_eq_true rfl) [some (.ref a0), some (.int a1), some (.int a2)] (fun ls h => zEn_ok (n := 3) h) ?_
  intro o Gf h
  unfold f_X_pack at h
  refine Y.blk (pc' := 2) (L' := [some (.ref a0), some (.int a1), some (.int a2)]) (st' := [.int a1, .ref a0]) (sg := [(.aload_n 0, 0), (.iload_n 1, 0)]) (lSa_ok dd0) rfl ?_
  obtain ⟨_, o2, e1, m3, h⟩ := gOb_inv h
  refine Y.callN (yC.Vi (b := a0) (As := [.int a1]) (st := []) (r := ("Partlister", T_X, 5)) hV.1 cb_X_needRow lk_X_106 in_X_needRow rfl se_X_needRow (lIa_ok dd1) rfl rfl (Nat.le_of_ble_eq_true rfl) (by decide) e1 m3) (k_X_needRow hV G a0 a1) h (fun G4 _ h => ?_)
  refine Y.blk (pc' := 7) (L' := [some (.ref a0), some (.int a1), some (.int a2)]) (st' := [.int a1, .ref a0]) (sg := [(.aload_n 0, 0), (.iload_n 1, 0)]) (lSa_ok dd2) rfl ?_
  obtain ⟨_, o6, e5, m7, h⟩ := gOb_inv h
  refine Y.callI (yC.Vi (b := a0) (As := [.int a1]) (st := []) (r := ("Partlister", T_X, 5)) hV.1 cb_X_endAround lk_X_103 in_X_endAround rfl se_X_endAround (lIa_ok dd3) rfl rfl (Nat.le_of_ble_eq_true rfl) (by decide) e5 m7) (k_X_endAround hV G4 a0 a1) h (fun v9 G8 _ h => ?_)
  exact Y.iret rfl (lIa_ok dd4) h

def f_I_freePart_L2 (K16 : gH → Int32 → gR) (K24 : gH → gR) : Nat → gH → Nat → Int32 → gR
  | 0, _, _, _ => none
  | n + 1, G, x0, x1 =>
    if (nI 6) ≤ x1 then K24 G
    else gOb G x0 1 fun o2 => bI (f_I_isThere G x0 x1) fun v5 G4 => if v5 = 0 then K16 G4 x1
      else f_I_freePart_L2 K16 K24 n G4 x0 (x1 + (nI 1))
def f_I_freePart (G : gH) (a0 : Nat) : gR :=
  f_I_freePart_L2 (fun G9 x8 => rI x8 G9) (fun G10 => rI (-1) G10) zFu G a0 (nI 2)
theorem k_I_freePart_L2 {l : Launch} {D : va_G} {B : Nat} {O : State → Heap → Prop} (hV : zG l D B O) {o : gO} {Gf : gH} (K16 : gH → Int32 → gR) (K24 : gH → gR) (hK16 : ∀ (G : gH) (x1 : Int32), K16 G x1 = some (o, Gf) → Y (zVm l D B O) m_I_freePart 3 o Gf 16 [none, some (.int x1)] [] G) (hK24 : ∀ (G : gH), K24 G  = some (o, Gf) → Y (zVm l D B O) m_I_freePart 3 o Gf 24 [none, none] [] G) : ∀ (n : Nat) (G : gH) (x0 : Nat) (x1 : Int32), f_I_freePart_L2 K16 K24 n G x0 x1 = some (o, Gf) → Y (zVm l D B O) m_I_freePart 3 o Gf 2 [some (.ref x0), some (.int x1)] [] G := by
  have hdd : lSa m_I_freePart 2 [(.iload_n 1, 0), (.bipush 6, nI 6)] = true ∧ lIa m_I_freePart 5 (.if_icmp .ge 19) 3 = true ∧ lSa m_I_freePart 8 [(.aload_n 0, 0), (.iload_n 1, 0)] = true ∧ lIa m_I_freePart 10 (.invokevirtual 86) 3 = true ∧ lIa m_I_freePart 13 (.ifCond .ne 5) 3 = true ∧ lSa m_I_freePart 18 [(.iinc 1 1, nI 1)] = true ∧ lIa m_I_freePart 21 (.goto (-19)) 3 = true := by decide +kernel
  obtain ⟨dd0, dd1, dd2, dd3, dd4, dd5, dd6⟩ := hdd
  intro n
  induction n with
  | zero => intro G x0 x1 h; cases h
  | succ n ih =>
    intro G x0 x1 h
    unfold f_I_freePart_L2 at h
    refine Y.blk (pc' := 5) (L' := [some (.ref x0), some (.int x1)]) (st' := [.int (nI 6), .int x1]) (sg := [(.iload_n 1, 0), (.bipush 6, nI 6)]) (lSa_ok dd0) rfl ?_
    refine Y.ic_ge (off := 19) (tgt := 24) (lIa_ok dd1) (by decide) h (fun c7 h => ?_) (fun c7 h => ?_)
    · refine Y.less (L' := [none, none]) (zLe_none (zLe_none (zLe_nil))) ?_
      exact hK24 G  h
    · refine Y.blk (pc' := 10) (L' := [some (.ref x0), some (.int x1)]) (st' := [.int x1, .ref x0]) (sg := [(.aload_n 0, 0), (.iload_n 1, 0)]) (lSa_ok dd2) rfl ?_
      obtain ⟨_, o2, e1, m3, h⟩ := gOb_inv h
      refine Y.callI (yC.Vi (b := x0) (As := [.int x1]) (st := []) (r := ("Partlister$Lists", T_I, 7)) hV.1 cb_I_isThere lk_I_86 in_I_isThere rfl se_I_isThere (lIa_ok dd3) rfl rfl (Nat.le_of_ble_eq_true rfl) (by decide) e1 m3) (k_I_isThere hV G x0 x1) h (fun v5 G4 _ h => ?_)
      refine Y.if_ne (off := 5) (tgt := 18) (lIa_ok dd4) (by decide) h (fun c6 h => ?_) (fun c6 h => ?_)
      · refine Y.less (L' := [none, some (.int x1)]) (zLe_none (zLe_some (zLe_nil))) ?_
        exact hK16 G4 x1 h
      · refine Y.blk (pc' := 21) (L' := [some (.ref x0), some (.int (x1 + (nI 1)))]) (st' := []) (sg := [(.iinc 1 1, nI 1)]) (lSa_ok dd5) rfl ?_
        refine Y.goto (off := -19) (tgt := 2) (lIa_ok dd6) (by decide) ?_
        exact ih G4 x0 (x1 + (nI 1)) h
theorem k_I_freePart {l : Launch} {D : va_G} {B : Nat} {O : State → Heap → Prop} (hV : zG l D B O) (G : gH) (a0 : Nat) : gMet (zVm l D B O) m_I_freePart 3 [.ref a0] G (f_I_freePart G a0) := by
  have hdd : lSa m_I_freePart 0 [(.iconst 2, nI 2), (.istore_n 1, 0)] = true ∧ lSa m_I_freePart 16 [(.iload_n 1, 0)] = true ∧ lIa m_I_freePart 17 (.ireturn) 1 = true ∧ lSa m_I_freePart 24 [(.iconst (-1), -1)] = true ∧ lIa m_I_freePart 25 (.ireturn) 1 = true := by decide +kernel
  obtain ⟨dd0, dd1, dd2, dd3, dd4⟩ := hdd
  refine gMet.of (by decide +kernel) (Nat.le_of_ble_eq_true rfl) [some (.ref a0), none] (fun ls h => zEn_ok (n := 2) h) ?_
  intro o Gf h
  unfold f_I_freePart at h
  refine Y.blk (pc' := 2) (L' := [some (.ref a0), some (.int (nI 2))]) (st' := []) (sg := [(.iconst 2, nI 2), (.istore_n 1, 0)]) (lSa_ok dd0) rfl ?_
  refine k_I_freePart_L2 hV _ _ ?_ ?_  zFu G a0 (nI 2) h
  · intro G9 x8 h
    refine Y.blk (pc' := 17) (L' := [none, some (.int x8)]) (st' := [.int x8]) (sg := [(.iload_n 1, 0)]) (lSa_ok dd1) rfl ?_
    exact Y.iret rfl (lIa_ok dd2) h
  · intro G10 h
    refine Y.blk (pc' := 25) (L' := [none, none]) (st' := [.int (-1)]) (sg := [(.iconst (-1), -1)]) (lSa_ok dd3) rfl ?_
    exact Y.iret rfl (lIa_ok dd4) h

def f_I_open (G : gH) (a0 : Nat) (a1 : Int32) (a2 : Int32) (a3 : Int32) (a4 : Int32) : gR :=
  gFA G a0 1 2 fun v1 => gOb G v1 2 fun o3 => bV (f_N_write G v1 a1 a2) fun G5 => gFA G5 a0 1 3 fun v6 => gOb G5 a0 1 fun o8 => bI (f_I_rowOf G5 a0 a2) fun v11 G10 => gOb G10 v6 2 fun o13 => bV (f_N_write G10 v6 a1 v11) fun G15 => gFA G15 a0 1 4 fun v16 => gFA G15 a0 1 4 fun v17 => gOb G15 v17 2 fun o19 => bI (f_N_read G15 v17 a2) fun v22 G21 => gOb G21 v16 2 fun o24 => bV (f_N_write G21 v16 a1 (v22 + a3)) fun G26 => gFA G26 a0 1 1 fun v27 => gOb G26 v27 2 fun o29 => bV (f_N_write G26 v27 a1 a4) fun G31 => rV G31
theorem k_I_open {l : Launch} {D : va_G} {B : Nat} {O : State → Heap → Prop} (hV : zG l D B O) (G : gH) (a0 : Nat) (a1 : Int32) (a2 : Int32) (a3 : Int32) (a4 : Int32) : gMet (zVm l D B O) m_I_open 3 [.ref a0, .int a1, .int a2, .int a3, .int a4] G (f_I_open G a0 a1 a2 a3 a4) := by
  have hdd : lSa m_I_open 0 [(.aload_n 0, 0)] = true ∧ lIa m_I_open 1 (.getfield 23) 3 = true ∧ lSa m_I_open 4 [(.iload_n 1, 0), (.iload_n 2, 0)] = true ∧ lIa m_I_open 6 (.invokevirtual 35) 3 = true ∧ lSa m_I_open 9 [(.aload_n 0, 0)] = true ∧ lIa m_I_open 10 (.getfield 26) 3 = true ∧ lSa m_I_open 13 [(.iload_n 1, 0), (.aload_n 0, 0), (.iload_n 2, 0)] = true ∧ lIa m_I_open 16 (.invokevirtual 56) 3 = true ∧ lIa m_I_open 19 (.invokevirtual 35) 3 = true ∧ lSa m_I_open 22 [(.aload_n 0, 0)] = true ∧ lIa m_I_open 23 (.getfield 29) 3 = true ∧ lSa m_I_open 26 [(.iload_n 1, 0), (.aload_n 0, 0)] = true ∧ lIa m_I_open 28 (.getfield 29) 3 = true ∧ lSa m_I_open 31 [(.iload_n 2, 0)] = true ∧ lIa m_I_open 32 (.invokevirtual 39) 3 = true ∧ lSa m_I_open 35 [(.iload_n 3, 0), (.iadd, 0)] = true ∧ lIa m_I_open 37 (.invokevirtual 35) 3 = true ∧ lSa m_I_open 40 [(.aload_n 0, 0)] = true ∧ lIa m_I_open 41 (.getfield 20) 3 = true ∧ lSa m_I_open 44 [(.iload_n 1, 0), (.iload 4, 0)] = true ∧ lIa m_I_open 47 (.invokevirtual 35) 3 = true ∧ lIa m_I_open 50 (.return_) 1 = true := by decide +kernel
  refine lA8 hdd (fun dd0 dd1 dd2 dd3 dd4 dd5 dd6 dd7 hdd => ?_)
  refine lA8 hdd (fun dd8 dd9 dd10 dd11 dd12 dd13 dd14 dd15 hdd => ?_)
  obtain ⟨dd16, dd17, dd18, dd19, dd20, dd21⟩ := hdd
  refine gMet.of (by decide +kernel) (Nat.le_of_ble_eq_true rfl) [some (.ref a0), some (.int a1), some (.int a2), some (.int a3), some (.int a4)] (fun ls h => zEn_ok (n := 5) h) ?_
  intro o Gf h
  unfold f_I_open at h
  refine Y.blk (pc' := 1) (L' := [some (.ref a0), some (.int a1), some (.int a2), some (.int a3), some (.int a4)]) (st' := [.ref a0]) (sg := [(.aload_n 0, 0)]) (lSa_ok dd0) rfl ?_
  refine Y.getA fl_I_23 (lIa_ok dd1) h (fun v1 h => ?_)
  refine Y.blk (pc' := 6) (L' := [some (.ref a0), some (.int a1), some (.int a2), some (.int a3), some (.int a4)]) (st' := [.int a2, .int a1, .ref v1]) (sg := [(.iload_n 1, 0), (.iload_n 2, 0)]) (lSa_ok dd2) rfl ?_
  obtain ⟨_, o3, e2, m4, h⟩ := gOb_inv h
  refine Y.callN (yC.Vi (b := v1) (As := [.int a1, .int a2]) (st := []) (r := ("Partlister$Numbers", T_N, 1)) hV.1 cb_N_write lk_I_35 in_N_write rfl se_N_write (lIa_ok dd3) rfl rfl (Nat.le_of_ble_eq_true rfl) (by decide) e2 m4) (k_N_write hV G v1 a1 a2) h (fun G5 _ h => ?_)
  refine Y.blk (pc' := 10) (L' := [some (.ref a0), some (.int a1), some (.int a2), some (.int a3), some (.int a4)]) (st' := [.ref a0]) (sg := [(.aload_n 0, 0)]) (lSa_ok dd4) rfl ?_
  refine Y.getA fl_I_26 (lIa_ok dd5) h (fun v6 h => ?_)
  refine Y.blk (pc' := 16) (L' := [some (.ref a0), some (.int a1), some (.int a2), some (.int a3), some (.int a4)]) (st' := [.int a2, .ref a0, .int a1, .ref v6]) (sg := [(.iload_n 1, 0), (.aload_n 0, 0), (.iload_n 2, 0)]) (lSa_ok dd6) rfl ?_
  obtain ⟨_, o8, e7, m9, h⟩ := gOb_inv h
  refine Y.callI (yC.Vi (b := a0) (As := [.int a2]) (st := [.int a1, .ref v6]) (r := ("Partlister$Lists", T_I, 7)) hV.1 cb_I_rowOf lk_I_56 in_I_rowOf rfl se_I_rowOf (lIa_ok dd7) rfl rfl (Nat.le_of_ble_eq_true rfl) (by decide) e7 m9) (k_I_rowOf hV G5 a0 a2) h (fun v11 G10 _ h => ?_)
  obtain ⟨_, o13, e12, m14, h⟩ := gOb_inv h
  refine Y.callN (yC.Vi (b := v6) (As := [.int a1, .int v11]) (st := []) (r := ("Partlister$Numbers", T_N, 1)) hV.1 cb_N_write lk_I_35 in_N_write rfl se_N_write (lIa_ok dd8) rfl rfl (Nat.le_of_ble_eq_true rfl) (by decide) e12 m14) (k_N_write hV G10 v6 a1 v11) h (fun G15 _ h => ?_)
  refine Y.blk (pc' := 23) (L' := [some (.ref a0), some (.int a1), some (.int a2), some (.int a3), some (.int a4)]) (st' := [.ref a0]) (sg := [(.aload_n 0, 0)]) (lSa_ok dd9) rfl ?_
  refine Y.getA fl_I_29 (lIa_ok dd10) h (fun v16 h => ?_)
  refine Y.blk (pc' := 28) (L' := [some (.ref a0), some (.int a1), some (.int a2), some (.int a3), some (.int a4)]) (st' := [.ref a0, .int a1, .ref v16]) (sg := [(.iload_n 1, 0), (.aload_n 0, 0)]) (lSa_ok dd11) rfl ?_
  refine Y.getA fl_I_29 (lIa_ok dd12) h (fun v17 h => ?_)
  refine Y.blk (pc' := 32) (L' := [some (.ref a0), some (.int a1), some (.int a2), some (.int a3), some (.int a4)]) (st' := [.int a2, .ref v17, .int a1, .ref v16]) (sg := [(.iload_n 2, 0)]) (lSa_ok dd13) rfl ?_
  obtain ⟨_, o19, e18, m20, h⟩ := gOb_inv h
  refine Y.callI (yC.Vi (b := v17) (As := [.int a2]) (st := [.int a1, .ref v16]) (r := ("Partlister$Numbers", T_N, 1)) hV.1 cb_N_read lk_I_39 in_N_read rfl se_N_read (lIa_ok dd14) rfl rfl (Nat.le_of_ble_eq_true rfl) (by decide) e18 m20) (k_N_read hV G15 v17 a2) h (fun v22 G21 _ h => ?_)
  refine Y.blk (pc' := 37) (L' := [some (.ref a0), some (.int a1), some (.int a2), some (.int a3), some (.int a4)]) (st' := [.int (v22 + a3), .int a1, .ref v16]) (sg := [(.iload_n 3, 0), (.iadd, 0)]) (lSa_ok dd15) rfl ?_
  obtain ⟨_, o24, e23, m25, h⟩ := gOb_inv h
  refine Y.callN (yC.Vi (b := v16) (As := [.int a1, .int (v22 + a3)]) (st := []) (r := ("Partlister$Numbers", T_N, 1)) hV.1 cb_N_write lk_I_35 in_N_write rfl se_N_write (lIa_ok dd16) rfl rfl (Nat.le_of_ble_eq_true rfl) (by decide) e23 m25) (k_N_write hV G21 v16 a1 (v22 + a3)) h (fun G26 _ h => ?_)
  refine Y.blk (pc' := 41) (L' := [some (.ref a0), some (.int a1), some (.int a2), some (.int a3), some (.int a4)]) (st' := [.ref a0]) (sg := [(.aload_n 0, 0)]) (lSa_ok dd17) rfl ?_
  refine Y.getA fl_I_20 (lIa_ok dd18) h (fun v27 h => ?_)
  refine Y.blk (pc' := 47) (L' := [some (.ref a0), some (.int a1), some (.int a2), some (.int a3), some (.int a4)]) (st' := [.int a4, .int a1, .ref v27]) (sg := [(.iload_n 1, 0), (.iload 4, 0)]) (lSa_ok dd19) rfl ?_
  obtain ⟨_, o29, e28, m30, h⟩ := gOb_inv h
  refine Y.callN (yC.Vi (b := v27) (As := [.int a1, .int a4]) (st := []) (r := ("Partlister$Numbers", T_N, 1)) hV.1 cb_N_write lk_I_35 in_N_write rfl se_N_write (lIa_ok dd20) rfl rfl (Nat.le_of_ble_eq_true rfl) (by decide) e28 m30) (k_N_write hV G26 v27 a1 a4) h (fun G31 _ h => ?_)
  exact Y.vret rfl (lIa_ok dd21) h

def f_X_part (G : gH) (a0 : Nat) (a1 : Int32) (a2 : Int32) (a3 : Int32) : gR :=
  gOb G a0 3 fun o2 => bV (f_X_needList G a0 a1) fun G4 => gOb G4 a0 3 fun o6 => bV (f_X_needGap G4 a0 a1 a2) fun G8 => if a3 < a2 then gThrow "java/lang/IndexOutOfBoundsException" G8
  else gFA G8 a0 3 0 fun v9 => gOb G8 v9 1 fun o11 => bI (f_I_lengthOf G8 v9 a1) fun v14 G13 => if a3 ≤ v14 then (gFA G13 a0 3 0 fun v15 => gOb G13 v15 1 fun o17 => bI (f_I_freePart G13 v15) fun v20 G19 => if v20 = (-1) then gThrow "java/lang/IllegalStateException" G19
      else gFA G19 a0 3 0 fun v21 => gOb G19 v21 1 fun o23 => bV (f_I_open G19 v21 v20 a1 a2 (a3 - a2)) fun G25 => rI v20 G25)
    else gThrow "java/lang/IndexOutOfBoundsException" G13
theorem k_X_part {l : Launch} {D : va_G} {B : Nat} {O : State → Heap → Prop} (hV : zG l D B O) (G : gH) (a0 : Nat) (a1 : Int32) (a2 : Int32) (a3 : Int32) : gMet (zVm l D B O) m_X_part 7 [.ref a0, .int a1, .int a2, .int a3] G (f_X_part G a0 a1 a2 a3) := by
  have hdd : lSa m_X_part 0 [(.aload_n 0, 0), (.iload_n 1, 0)] = true ∧ lIa m_X_part 2 (.invokevirtual 23) 3 = true ∧ lSa m_X_part 5 [(.aload_n 0, 0), (.iload_n 1, 0), (.iload_n 2, 0)] = true ∧ lIa m_X_part 8 (.invokevirtual 45) 3 = true ∧ lSa m_X_part 11 [(.iload_n 3, 0), (.iload_n 2, 0)] = true ∧ lIa m_X_part 13 (.if_icmp .lt 15) 3 = true ∧ lIa m_X_part 28 (.new 125) 3 = true ∧ lIa m_X_part 31 (.dup) 1 = true ∧ lIa m_X_part 32 (.ldc 127) 2 = true ∧ lIa m_X_part 34 (.invokespecial 129) 3 = true ∧ lIa m_X_part 37 (.athrow) 1 = true ∧ lSa m_X_part 16 [(.iload_n 3, 0), (.aload_n 0, 0)] = true ∧ lIa m_X_part 18 (.getfield 10) 3 = true ∧ lSa m_X_part 21 [(.iload_n 1, 0)] = true ∧ lIa m_X_part 22 (.invokevirtual 34) 3 = true ∧ lIa m_X_part 25 (.if_icmp .le 13) 3 = true ∧ lSa m_X_part 38 [(.aload_n 0, 0)] = true ∧ lIa m_X_part 39 (.getfield 10) 3 = true ∧ lIa m_X_part 42 (.invokevirtual 130) 3 = true ∧ lSa m_X_part 45 [(.istore 4, 0), (.iload 4, 0), (.iconst (-1), -1)] = true ∧ lIa m_X_part 50 (.if_icmp .ne 13) 3 = true ∧ lIa m_X_part 53 (.new 134) 3 = true ∧ lIa m_X_part 56 (.dup) 1 = true ∧ lIa m_X_part 57 (.ldc 136) 2 = true ∧ lIa m_X_part 59 (.invokespecial 138) 3 = true ∧ lIa m_X_part 62 (.athrow) 1 = true ∧ lSa m_X_part 63 [(.aload_n 0, 0)] = true ∧ lIa m_X_part 64 (.getfield 10) 3 = true ∧ lSa m_X_part 67 [(.iload 4, 0), (.iload_n 1, 0), (.iload_n 2, 0), (.iload_n 3, 0), (.iload_n 2, 0), (.isub, 0)] = true ∧ lIa m_X_part 74 (.invokevirtual 139) 3 = true ∧ lSa m_X_part 77 [(.iload 4, 0)] = true ∧ lIa m_X_part 79 (.ireturn) 1 = true := by decide +kernel
  refine lA8 hdd (fun dd0 dd1 dd2 dd3 dd4 dd5 dd6 dd7 hdd => ?_)
  refine lA8 hdd (fun dd8 dd9 dd10 dd11 dd12 dd13 dd14 dd15 hdd => ?_)
  refine lA8 hdd (fun dd16 dd17 dd18 dd19 dd20 dd21 dd22 dd23 hdd => ?_)
  obtain ⟨dd24, dd25, dd26, dd27, dd28, dd29, dd30, dd31⟩ := hdd
  refine gMet.of (by decide +kernel) (Nat.le_of_ble_eq_true rfl) [some (.ref a0), some (.int a1), some (.int a2), some (.int a3), none] (fun ls h => zEn_ok (n := 5) h) ?_
  intro o Gf h
  unfold f_X_part at h
  refine Y.blk (pc' := 2) (L' := [some (.ref a0), some (.int a1), some (.int a2), some (.int a3), none]) (st' := [.int a1, .ref a0]) (sg := [(.aload_n 0, 0), (.iload_n 1, 0)]) (lSa_ok dd0) rfl ?_
  obtain ⟨_, o2, e1, m3, h⟩ := gOb_inv h
  refine Y.callN (yC.Vi (b := a0) (As := [.int a1]) (st := []) (r := ("Partlister", T_X, 5)) hV.1 cb_X_needList lk_X_23 in_X_needList rfl se_X_needList (lIa_ok dd1) rfl rfl (Nat.le_of_ble_eq_true rfl) (by decide) e1 m3) (k_X_needList hV G a0 a1) h (fun G4 _ h => ?_)
  refine Y.blk (pc' := 8) (L' := [some (.ref a0), some (.int a1), some (.int a2), some (.int a3), none]) (st' := [.int a2, .int a1, .ref a0]) (sg := [(.aload_n 0, 0), (.iload_n 1, 0), (.iload_n 2, 0)]) (lSa_ok dd2) rfl ?_
  obtain ⟨_, o6, e5, m7, h⟩ := gOb_inv h
  refine Y.callN (yC.Vi (b := a0) (As := [.int a1, .int a2]) (st := []) (r := ("Partlister", T_X, 5)) hV.1 cb_X_needGap lk_X_45 in_X_needGap rfl se_X_needGap (lIa_ok dd3) rfl rfl (Nat.le_of_ble_eq_true rfl) (by decide) e5 m7) (k_X_needGap hV G4 a0 a1 a2) h (fun G8 _ h => ?_)
  refine Y.blk (pc' := 13) (L' := [some (.ref a0), some (.int a1), some (.int a2), some (.int a3), none]) (st' := [.int a2, .int a3]) (sg := [(.iload_n 3, 0), (.iload_n 2, 0)]) (lSa_ok dd4) rfl ?_
  refine Y.ic_lt (off := 15) (tgt := 28) (lIa_ok dd5) (by decide) h (fun c28 h => ?_) (fun c28 h => ?_)
  · exact Y.throwS (is := 127) (text := "to is not from to LENGTH") (names := zNm) hV.1 (hV.2 _ _ _ (by decide +kernel)) (by decide +kernel) (by decide +kernel) ck_X_125 ini_IOE tw_X_129 tg_X_129 (by decide) (by decide) rfl (Nat.le_of_ble_eq_true rfl) (lIa_ok dd6) (lIa_ok dd7) (lIa_ok dd8) (lIa_ok dd9) (lIa_ok dd10) h
  · refine Y.blk (pc' := 18) (L' := [some (.ref a0), some (.int a1), some (.int a2), some (.int a3), none]) (st' := [.ref a0, .int a3]) (sg := [(.iload_n 3, 0), (.aload_n 0, 0)]) (lSa_ok dd11) rfl ?_
    refine Y.getA fl_X_10 (lIa_ok dd12) h (fun v9 h => ?_)
    refine Y.blk (pc' := 22) (L' := [some (.ref a0), some (.int a1), some (.int a2), some (.int a3), none]) (st' := [.int a1, .ref v9, .int a3]) (sg := [(.iload_n 1, 0)]) (lSa_ok dd13) rfl ?_
    obtain ⟨_, o11, e10, m12, h⟩ := gOb_inv h
    refine Y.callI (yC.Vi (b := v9) (As := [.int a1]) (st := [.int a3]) (r := ("Partlister$Lists", T_I, 7)) hV.1 cb_I_lengthOf lk_X_34 in_I_lengthOf rfl se_I_lengthOf (lIa_ok dd14) rfl rfl (Nat.le_of_ble_eq_true rfl) (by decide) e10 m12) (k_I_lengthOf hV G8 v9 a1) h (fun v14 G13 _ h => ?_)
    refine Y.ic_le (off := 13) (tgt := 38) (lIa_ok dd15) (by decide) h (fun c27 h => ?_) (fun c27 h => ?_)
    · refine Y.blk (pc' := 39) (L' := [some (.ref a0), some (.int a1), some (.int a2), some (.int a3), none]) (st' := [.ref a0]) (sg := [(.aload_n 0, 0)]) (lSa_ok dd16) rfl ?_
      refine Y.getA fl_X_10 (lIa_ok dd17) h (fun v15 h => ?_)
      obtain ⟨_, o17, e16, m18, h⟩ := gOb_inv h
      refine Y.callI (yC.Vi (b := v15) (As := []) (st := []) (r := ("Partlister$Lists", T_I, 7)) hV.1 cb_I_freePart lk_X_130 in_I_freePart rfl se_I_freePart (lIa_ok dd18) rfl rfl (Nat.le_of_ble_eq_true rfl) (by decide) e16 m18) (k_I_freePart hV G13 v15) h (fun v20 G19 _ h => ?_)
      refine Y.blk (pc' := 50) (L' := [some (.ref a0), some (.int a1), some (.int a2), some (.int a3), some (.int v20)]) (st' := [.int (-1), .int v20]) (sg := [(.istore 4, 0), (.iload 4, 0), (.iconst (-1), -1)]) (lSa_ok dd19) rfl ?_
      refine Y.ic_ne (off := 13) (tgt := 63) (lIa_ok dd20) (by decide) h (fun c26 h => ?_) (fun c26 h => ?_)
      · exact Y.throwS (is := 136) (text := "there are four PARTS") (names := zNm) hV.1 (hV.2 _ _ _ (by decide +kernel)) (by decide +kernel) (by decide +kernel) ck_X_134 ini_ISE tw_X_138 tg_X_138 (by decide) (by decide) rfl (Nat.le_of_ble_eq_true rfl) (lIa_ok dd21) (lIa_ok dd22) (lIa_ok dd23) (lIa_ok dd24) (lIa_ok dd25) h
      · refine Y.blk (pc' := 64) (L' := [some (.ref a0), some (.int a1), some (.int a2), some (.int a3), some (.int v20)]) (st' := [.ref a0]) (sg := [(.aload_n 0, 0)]) (lSa_ok dd26) rfl ?_
        refine Y.getA fl_X_10 (lIa_ok dd27) h (fun v21 h => ?_)
        refine Y.blk (pc' := 74) (L' := [some (.ref a0), some (.int a1), some (.int a2), some (.int a3), some (.int v20)]) (st' := [.int (a3 - a2), .int a2, .int a1, .int v20, .ref v21]) (sg := [(.iload 4, 0), (.iload_n 1, 0), (.iload_n 2, 0), (.iload_n 3, 0), (.iload_n 2, 0), (.isub, 0)]) (lSa_ok dd28) rfl ?_
        obtain ⟨_, o23, e22, m24, h⟩ := gOb_inv h
        refine Y.callN (yC.Vi (b := v21) (As := [.int v20, .int a1, .int a2, .int (a3 - a2)]) (st := []) (r := ("Partlister$Lists", T_I, 7)) hV.1 cb_I_open lk_X_139 in_I_open rfl se_I_open (lIa_ok dd29) rfl rfl (Nat.le_of_ble_eq_true rfl) (by decide) e22 m24) (k_I_open hV G19 v21 v20 a1 a2 (a3 - a2)) h (fun G25 _ h => ?_)
        refine Y.blk (pc' := 79) (L' := [some (.ref a0), some (.int a1), some (.int a2), some (.int a3), some (.int v20)]) (st' := [.int v20]) (sg := [(.iload 4, 0)]) (lSa_ok dd30) rfl ?_
        exact Y.iret rfl (lIa_ok dd31) h
    · exact Y.throwS (is := 127) (text := "to is not from to LENGTH") (names := zNm) hV.1 (hV.2 _ _ _ (by decide +kernel)) (by decide +kernel) (by decide +kernel) ck_X_125 ini_IOE tw_X_129 tg_X_129 (by decide) (by decide) rfl (Nat.le_of_ble_eq_true rfl) (lIa_ok dd6) (lIa_ok dd7) (lIa_ok dd8) (lIa_ok dd9) (lIa_ok dd10) h
end
section
def f_X_previous (G : gH) (a0 : Nat) (a1 : Int32) : gR :=
  gOb G a0 3 fun o2 => bV (f_X_needCursor G a0 a1) fun G4 => gFA G4 a0 3 1 fun v5 => gOb G4 v5 0 fun o7 => bI (f_U_isStale G4 v5 a1) fun v10 G9 => if v10 = 0 then (gFA G9 a0 3 1 fun v11 => gOb G9 v11 0 fun o13 => bI (f_U_nextOf G9 v11 a1) fun v16 G15 => if 0 ≤ (v16 - (nI 1)) then gFA G15 a0 3 1 fun v17 => gOb G15 v17 0 fun o19 => bV (f_U_stand G15 v17 a1 (v16 - (nI 1)) (v16 - (nI 1))) fun G21 => gFA G21 a0 3 0 fun v22 => gFA G21 a0 3 1 fun v23 => gOb G21 v23 0 fun o25 => bI (f_U_listOf G21 v23 a1) fun v28 G27 => gOb G27 v22 1 fun o30 => bI (f_I_thingAt G27 v22 v28 (v16 - (nI 1))) fun v33 G32 => bI (f_X_tagOf G32 v33) fun v36 G35 => rI v36 G35
    else gOb G15 a0 3 fun o38 => bI (f_X_failWith G15 a0 (-8)) fun v41 G40 => rI v41 G40)
  else gOb G9 a0 3 fun o44 => bI (f_X_failWith G9 a0 (-9)) fun v47 G46 => rI v47 G46
theorem k_X_previous {l : Launch} {D : va_G} {B : Nat} {O : State → Heap → Prop} (hV : zG l D B O) (G : gH) (a0 : Nat) (a1 : Int32) : gMet (zVm l D B O) m_X_previous 7 [.ref a0, .int a1] G (f_X_previous G a0 a1) := by
  have hdd : lSa m_X_previous 0 [(.aload_n 0, 0), (.iload_n 1, 0)] = true ∧ lIa m_X_previous 2 (.invokevirtual 167) 3 = true ∧ lSa m_X_previous 5 [(.aload_n 0, 0)] = true ∧ lIa m_X_previous 6 (.getfield 19) 3 = true ∧ lSa m_X_previous 9 [(.iload_n 1, 0)] = true ∧ lIa m_X_previous 10 (.invokevirtual 170) 3 = true ∧ lIa m_X_previous 13 (.ifCond .eq 10) 3 = true ∧ lSa m_X_previous 23 [(.aload_n 0, 0)] = true ∧ lIa m_X_previous 24 (.getfield 19) 3 = true ∧ lSa m_X_previous 27 [(.iload_n 1, 0)] = true ∧ lIa m_X_previous 28 (.invokevirtual 176) 3 = true ∧ lSa m_X_previous 31 [(.iconst 1, nI 1), (.isub, 0), (.istore_n 2, 0), (.iload_n 2, 0)] = true ∧ lIa m_X_previous 35 (.ifCond .ge 10) 3 = true ∧ lSa m_X_previous 45 [(.aload_n 0, 0)] = true ∧ lIa m_X_previous 46 (.getfield 19) 3 = true ∧ lSa m_X_previous 49 [(.iload_n 1, 0), (.iload_n 2, 0), (.iload_n 2, 0)] = true ∧ lIa m_X_previous 52 (.invokevirtual 179) 3 = true ∧ lSa m_X_previous 55 [(.aload_n 0, 0)] = true ∧ lIa m_X_previous 56 (.getfield 10) 3 = true ∧ lSa m_X_previous 59 [(.aload_n 0, 0)] = true ∧ lIa m_X_previous 60 (.getfield 19) 3 = true ∧ lSa m_X_previous 63 [(.iload_n 1, 0)] = true ∧ lIa m_X_previous 64 (.invokevirtual 152) 3 = true ∧ lSa m_X_previous 67 [(.iload_n 2, 0)] = true ∧ lIa m_X_previous 68 (.invokevirtual 94) 3 = true ∧ lIa m_X_previous 71 (.invokestatic 48) 3 = true ∧ lIa m_X_previous 74 (.ireturn) 1 = true ∧ lSa m_X_previous 38 [(.aload_n 0, 0), (.bipush (-8), -8)] = true ∧ lIa m_X_previous 41 (.invokevirtual 173) 3 = true ∧ lIa m_X_previous 44 (.ireturn) 1 = true ∧ lSa m_X_previous 16 [(.aload_n 0, 0), (.bipush (-9), -9)] = true ∧ lIa m_X_previous 19 (.invokevirtual 173) 3 = true ∧ lIa m_X_previous 22 (.ireturn) 1 = true := by decide +kernel
  refine lA8 hdd (fun dd0 dd1 dd2 dd3 dd4 dd5 dd6 dd7 hdd => ?_)
  refine lA8 hdd (fun dd8 dd9 dd10 dd11 dd12 dd13 dd14 dd15 hdd => ?_)
  refine lA8 hdd (fun dd16 dd17 dd18 dd19 dd20 dd21 dd22 dd23 hdd => ?_)
  refine lA8 hdd (fun dd24 dd25 dd26 dd27 dd28 dd29 dd30 dd31 hdd => ?_)
  have dd32 := hdd
  refine gMet.of (by decide +kernel) (Nat.le_of_ble_eq_true rfl) [some (.ref a0), some (.int a1), none] (fun ls h => zEn_ok (n := 3) h) ?_
  intro o Gf h
  unfold f_X_previous at h
  refine Y.blk (pc' := 2) (L' := [some (.ref a0), some (.int a1), none]) (st' := [.int a1, .ref a0]) (sg := [(.aload_n 0, 0), (.iload_n 1, 0)]) (lSa_ok dd0) rfl ?_
  obtain ⟨_, o2, e1, m3, h⟩ := gOb_inv h
  refine Y.callN (yC.Vi (b := a0) (As := [.int a1]) (st := []) (r := ("Partlister", T_X, 5)) hV.1 cb_X_needCursor lk_X_167 in_X_needCursor rfl se_X_needCursor (lIa_ok dd1) rfl rfl (Nat.le_of_ble_eq_true rfl) (by decide) e1 m3) (k_X_needCursor hV G a0 a1) h (fun G4 _ h => ?_)
  refine Y.blk (pc' := 6) (L' := [some (.ref a0), some (.int a1), none]) (st' := [.ref a0]) (sg := [(.aload_n 0, 0)]) (lSa_ok dd2) rfl ?_
  refine Y.getA fl_X_19 (lIa_ok dd3) h (fun v5 h => ?_)
  refine Y.blk (pc' := 10) (L' := [some (.ref a0), some (.int a1), none]) (st' := [.int a1, .ref v5]) (sg := [(.iload_n 1, 0)]) (lSa_ok dd4) rfl ?_
  obtain ⟨_, o7, e6, m8, h⟩ := gOb_inv h
  refine Y.callI (yC.Vi (b := v5) (As := [.int a1]) (st := []) (r := ("Partlister$Cursors", T_U, 5)) hV.1 cb_U_isStale lk_X_170 in_U_isStale rfl se_U_isStale (lIa_ok dd5) rfl rfl (Nat.le_of_ble_eq_true rfl) (by decide) e6 m8) (k_U_isStale hV G4 v5 a1) h (fun v10 G9 _ h => ?_)
  refine Y.if_eq (off := 10) (tgt := 23) (lIa_ok dd6) (by decide) h (fun c48 h => ?_) (fun c48 h => ?_)
  · refine Y.blk (pc' := 24) (L' := [some (.ref a0), some (.int a1), none]) (st' := [.ref a0]) (sg := [(.aload_n 0, 0)]) (lSa_ok dd7) rfl ?_
    refine Y.getA fl_X_19 (lIa_ok dd8) h (fun v11 h => ?_)
    refine Y.blk (pc' := 28) (L' := [some (.ref a0), some (.int a1), none]) (st' := [.int a1, .ref v11]) (sg := [(.iload_n 1, 0)]) (lSa_ok dd9) rfl ?_
    obtain ⟨_, o13, e12, m14, h⟩ := gOb_inv h
    refine Y.callI (yC.Vi (b := v11) (As := [.int a1]) (st := []) (r := ("Partlister$Cursors", T_U, 5)) hV.1 cb_U_nextOf lk_X_176 in_U_nextOf rfl se_U_nextOf (lIa_ok dd10) rfl rfl (Nat.le_of_ble_eq_true rfl) (by decide) e12 m14) (k_U_nextOf hV G9 v11 a1) h (fun v16 G15 _ h => ?_)
    refine Y.blk (pc' := 35) (L' := [some (.ref a0), some (.int a1), some (.int (v16 - (nI 1)))]) (st' := [.int (v16 - (nI 1))]) (sg := [(.iconst 1, nI 1), (.isub, 0), (.istore_n 2, 0), (.iload_n 2, 0)]) (lSa_ok dd11) rfl ?_
    refine Y.if_ge (off := 10) (tgt := 45) (lIa_ok dd12) (by decide) h (fun c42 h => ?_) (fun c42 h => ?_)
    · refine Y.blk (pc' := 46) (L' := [some (.ref a0), some (.int a1), some (.int (v16 - (nI 1)))]) (st' := [.ref a0]) (sg := [(.aload_n 0, 0)]) (lSa_ok dd13) rfl ?_
      refine Y.getA fl_X_19 (lIa_ok dd14) h (fun v17 h => ?_)
      refine Y.blk (pc' := 52) (L' := [some (.ref a0), some (.int a1), some (.int (v16 - (nI 1)))]) (st' := [.int (v16 - (nI 1)), .int (v16 - (nI 1)), .int a1, .ref v17]) (sg := [(.iload_n 1, 0), (.iload_n 2, 0), (.iload_n 2, 0)]) (lSa_ok dd15) rfl ?_
      obtain ⟨_, o19, e18, m20, h⟩ := gOb_inv h
      refine Y.callN (yC.Vi (b := v17) (As := [.int a1, .int (v16 - (nI 1)), .int (v16 - (nI 1))]) (st := []) (r := ("Partlister$Cursors", T_U, 5)) hV.1 cb_U_stand lk_X_179 in_U_stand rfl se_U_stand (lIa_ok dd16) rfl rfl (Nat.le_of_ble_eq_true rfl) (by decide) e18 m20) (k_U_stand hV G15 v17 a1 (v16 - (nI 1)) (v16 - (nI 1))) h (fun G21 _ h => ?_)
      refine Y.blk (pc' := 56) (L' := [some (.ref a0), some (.int a1), some (.int (v16 - (nI 1)))]) (st' := [.ref a0]) (sg := [(.aload_n 0, 0)]) (lSa_ok dd17) rfl ?_
      refine Y.getA fl_X_10 (lIa_ok dd18) h (fun v22 h => ?_)
      refine Y.blk (pc' := 60) (L' := [some (.ref a0), some (.int a1), some (.int (v16 - (nI 1)))]) (st' := [.ref a0, .ref v22]) (sg := [(.aload_n 0, 0)]) (lSa_ok dd19) rfl ?_
      refine Y.getA fl_X_19 (lIa_ok dd20) h (fun v23 h => ?_)
      refine Y.blk (pc' := 64) (L' := [some (.ref a0), some (.int a1), some (.int (v16 - (nI 1)))]) (st' := [.int a1, .ref v23, .ref v22]) (sg := [(.iload_n 1, 0)]) (lSa_ok dd21) rfl ?_
      obtain ⟨_, o25, e24, m26, h⟩ := gOb_inv h
      refine Y.callI (yC.Vi (b := v23) (As := [.int a1]) (st := [.ref v22]) (r := ("Partlister$Cursors", T_U, 5)) hV.1 cb_U_listOf lk_X_152 in_U_listOf rfl se_U_listOf (lIa_ok dd22) rfl rfl (Nat.le_of_ble_eq_true rfl) (by decide) e24 m26) (k_U_listOf hV G21 v23 a1) h (fun v28 G27 _ h => ?_)
      refine Y.blk (pc' := 68) (L' := [some (.ref a0), some (.int a1), some (.int (v16 - (nI 1)))]) (st' := [.int (v16 - (nI 1)), .int v28, .ref v22]) (sg := [(.iload_n 2, 0)]) (lSa_ok dd23) rfl ?_
      obtain ⟨_, o30, e29, m31, h⟩ := gOb_inv h
      refine Y.callI (yC.Vi (b := v22) (As := [.int v28, .int (v16 - (nI 1))]) (st := []) (r := ("Partlister$Lists", T_I, 7)) hV.1 cb_I_thingAt lk_X_94 in_I_thingAt rfl se_I_thingAt (lIa_ok dd24) rfl rfl (Nat.le_of_ble_eq_true rfl) (by decide) e29 m31) (k_I_thingAt hV G27 v22 v28 (v16 - (nI 1))) h (fun v33 G32 _ h => ?_)
      refine Y.callI (yC.S (As := [.int v33]) (st := []) hV.1 cb_X_tagOf lk_X_48 st_X_tagOf (lIa_ok dd25) rfl rfl (Nat.le_of_ble_eq_true rfl) (by decide)) (k_X_tagOf hV G32 v33) h (fun v36 G35 _ h => ?_)
      exact Y.iret rfl (lIa_ok dd26) h
    · refine Y.blk (pc' := 41) (L' := [some (.ref a0), some (.int a1), some (.int (v16 - (nI 1)))]) (st' := [.int (-8), .ref a0]) (sg := [(.aload_n 0, 0), (.bipush (-8), -8)]) (lSa_ok dd27) rfl ?_
      obtain ⟨_, o38, e37, m39, h⟩ := gOb_inv h
      refine Y.callI (yC.Vi (b := a0) (As := [.int (-8)]) (st := []) (r := ("Partlister", T_X, 5)) hV.1 cb_X_failWith lk_X_173 in_X_failWith rfl se_X_failWith (lIa_ok dd28) rfl rfl (Nat.le_of_ble_eq_true rfl) (by decide) e37 m39) (k_X_failWith hV G15 a0 (-8)) h (fun v41 G40 _ h => ?_)
      exact Y.iret rfl (lIa_ok dd29) h
  · refine Y.blk (pc' := 19) (L' := [some (.ref a0), some (.int a1), none]) (st' := [.int (-9), .ref a0]) (sg := [(.aload_n 0, 0), (.bipush (-9), -9)]) (lSa_ok dd30) rfl ?_
    obtain ⟨_, o44, e43, m45, h⟩ := gOb_inv h
    refine Y.callI (yC.Vi (b := a0) (As := [.int (-9)]) (st := []) (r := ("Partlister", T_X, 5)) hV.1 cb_X_failWith lk_X_173 in_X_failWith rfl se_X_failWith (lIa_ok dd31) rfl rfl (Nat.le_of_ble_eq_true rfl) (by decide) e43 m45) (k_X_failWith hV G9 a0 (-9)) h (fun v47 G46 _ h => ?_)
    exact Y.iret rfl (lIa_ok dd32) h

def f_X_put (G : gH) (a0 : Nat) (a1 : Int32) (a2 : Int32) : gR :=
  gOb G a0 3 fun o2 => bV (f_X_needCursor G a0 a1) fun G4 => gOb G4 a0 3 fun o6 => bV (f_X_needKey G4 a0 a2) fun G8 => gFA G8 a0 3 1 fun v9 => gOb G8 v9 0 fun o11 => bI (f_U_isStale G8 v9 a1) fun v14 G13 => if v14 = 0 then (gFA G13 a0 3 1 fun v15 => gOb G13 v15 0 fun o17 => bI (f_U_lastOf G13 v15 a1) fun v20 G19 => if v20 = (-1) then gOb G19 a0 3 fun o22 => bI (f_X_failWith G19 a0 (-7)) fun v25 G24 => rI v25 G24
    else gOb G19 a0 3 fun o27 => bI (f_X_make G19 a0 a2) fun v30 G29 => gFA G29 a0 3 0 fun v31 => gFA G29 a0 3 1 fun v32 => gOb G29 v32 0 fun o34 => bI (f_U_listOf G29 v32 a1) fun v37 G36 => gOb G36 v31 1 fun o39 => bV (f_I_write G36 v31 v37 v20 v30) fun G41 => bI (f_X_tagOf G41 v30) fun v44 G43 => rI v44 G43)
  else gOb G13 a0 3 fun o47 => bI (f_X_failWith G13 a0 (-9)) fun v50 G49 => rI v50 G49
theorem k_X_put {l : Launch} {D : va_G} {B : Nat} {O : State → Heap → Prop} (hV : zG l D B O) (G : gH) (a0 : Nat) (a1 : Int32) (a2 : Int32) : gMet (zVm l D B O) m_X_put 7 [.ref a0, .int a1, .int a2] G (f_X_put G a0 a1 a2) := by
  have hdd : lSa m_X_put 0 [(.aload_n 0, 0), (.iload_n 1, 0)] = true ∧ lIa m_X_put 2 (.invokevirtual 167) 3 = true ∧ lSa m_X_put 5 [(.aload_n 0, 0), (.iload_n 2, 0)] = true ∧ lIa m_X_put 7 (.invokevirtual 27) 3 = true ∧ lSa m_X_put 10 [(.aload_n 0, 0)] = true ∧ lIa m_X_put 11 (.getfield 19) 3 = true ∧ lSa m_X_put 14 [(.iload_n 1, 0)] = true ∧ lIa m_X_put 15 (.invokevirtual 170) 3 = true ∧ lIa m_X_put 18 (.ifCond .eq 10) 3 = true ∧ lSa m_X_put 28 [(.aload_n 0, 0)] = true ∧ lIa m_X_put 29 (.getfield 19) 3 = true ∧ lSa m_X_put 32 [(.iload_n 1, 0)] = true ∧ lIa m_X_put 33 (.invokevirtual 182) 3 = true ∧ lSa m_X_put 36 [(.istore_n 3, 0), (.iload_n 3, 0), (.iconst (-1), -1)] = true ∧ lIa m_X_put 39 (.if_icmp .ne 10) 3 = true ∧ lSa m_X_put 42 [(.aload_n 0, 0), (.bipush (-7), -7)] = true ∧ lIa m_X_put 45 (.invokevirtual 173) 3 = true ∧ lIa m_X_put 48 (.ireturn) 1 = true ∧ lSa m_X_put 49 [(.aload_n 0, 0), (.iload_n 2, 0)] = true ∧ lIa m_X_put 51 (.invokevirtual 38) 3 = true ∧ lSa m_X_put 54 [(.istore 4, 0), (.aload_n 0, 0)] = true ∧ lIa m_X_put 57 (.getfield 10) 3 = true ∧ lSa m_X_put 60 [(.aload_n 0, 0)] = true ∧ lIa m_X_put 61 (.getfield 19) 3 = true ∧ lSa m_X_put 64 [(.iload_n 1, 0)] = true ∧ lIa m_X_put 65 (.invokevirtual 152) 3 = true ∧ lSa m_X_put 68 [(.iload_n 3, 0), (.iload 4, 0)] = true ∧ lIa m_X_put 71 (.invokevirtual 65) 3 = true ∧ lSa m_X_put 74 [(.iload 4, 0)] = true ∧ lIa m_X_put 76 (.invokestatic 48) 3 = true ∧ lIa m_X_put 79 (.ireturn) 1 = true ∧ lSa m_X_put 21 [(.aload_n 0, 0), (.bipush (-9), -9)] = true ∧ lIa m_X_put 24 (.invokevirtual 173) 3 = true ∧ lIa m_X_put 27 (.ireturn) 1 = true := by decide +kernel
  refine lA8 hdd (fun dd0 dd1 dd2 dd3 dd4 dd5 dd6 dd7 hdd => ?_)
  refine lA8 hdd (fun dd8 dd9 dd10 dd11 dd12 dd13 dd14 dd15 hdd => ?_)
  refine lA8 hdd (fun dd16 dd17 dd18 dd19 dd20 dd21 dd22 dd23 hdd => ?_)
  refine lA8 hdd (fun dd24 dd25 dd26 dd27 dd28 dd29 dd30 dd31 hdd => ?_)
  obtain ⟨dd32, dd33⟩ := hdd
  refine gMet.of (by decide +kernel) (Nat.le_of_ble_eq_true rfl) [some (.ref a0), some (.int a1), some (.int a2), none, none] (fun ls h => zEn_ok (n := 5) h) ?_
  intro o Gf h
  unfold f_X_put at h
  refine Y.blk (pc' := 2) (L' := [some (.ref a0), some (.int a1), some (.int a2), none, none]) (st' := [.int a1, .ref a0]) (sg := [(.aload_n 0, 0), (.iload_n 1, 0)]) (lSa_ok dd0) rfl ?_
  obtain ⟨_, o2, e1, m3, h⟩ := gOb_inv h
  refine Y.callN (yC.Vi (b := a0) (As := [.int a1]) (st := []) (r := ("Partlister", T_X, 5)) hV.1 cb_X_needCursor lk_X_167 in_X_needCursor rfl se_X_needCursor (lIa_ok dd1) rfl rfl (Nat.le_of_ble_eq_true rfl) (by decide) e1 m3) (k_X_needCursor hV G a0 a1) h (fun G4 _ h => ?_)
  refine Y.blk (pc' := 7) (L' := [some (.ref a0), some (.int a1), some (.int a2), none, none]) (st' := [.int a2, .ref a0]) (sg := [(.aload_n 0, 0), (.iload_n 2, 0)]) (lSa_ok dd2) rfl ?_
  obtain ⟨_, o6, e5, m7, h⟩ := gOb_inv h
  refine Y.callN (yC.Vi (b := a0) (As := [.int a2]) (st := []) (r := ("Partlister", T_X, 5)) hV.1 cb_X_needKey lk_X_27 in_X_needKey rfl se_X_needKey (lIa_ok dd3) rfl rfl (Nat.le_of_ble_eq_true rfl) (by decide) e5 m7) (k_X_needKey hV G4 a0 a2) h (fun G8 _ h => ?_)
  refine Y.blk (pc' := 11) (L' := [some (.ref a0), some (.int a1), some (.int a2), none, none]) (st' := [.ref a0]) (sg := [(.aload_n 0, 0)]) (lSa_ok dd4) rfl ?_
  refine Y.getA fl_X_19 (lIa_ok dd5) h (fun v9 h => ?_)
  refine Y.blk (pc' := 15) (L' := [some (.ref a0), some (.int a1), some (.int a2), none, none]) (st' := [.int a1, .ref v9]) (sg := [(.iload_n 1, 0)]) (lSa_ok dd6) rfl ?_
  obtain ⟨_, o11, e10, m12, h⟩ := gOb_inv h
  refine Y.callI (yC.Vi (b := v9) (As := [.int a1]) (st := []) (r := ("Partlister$Cursors", T_U, 5)) hV.1 cb_U_isStale lk_X_170 in_U_isStale rfl se_U_isStale (lIa_ok dd7) rfl rfl (Nat.le_of_ble_eq_true rfl) (by decide) e10 m12) (k_U_isStale hV G8 v9 a1) h (fun v14 G13 _ h => ?_)
  refine Y.if_eq (off := 10) (tgt := 28) (lIa_ok dd8) (by decide) h (fun c51 h => ?_) (fun c51 h => ?_)
  · refine Y.blk (pc' := 29) (L' := [some (.ref a0), some (.int a1), some (.int a2), none, none]) (st' := [.ref a0]) (sg := [(.aload_n 0, 0)]) (lSa_ok dd9) rfl ?_
    refine Y.getA fl_X_19 (lIa_ok dd10) h (fun v15 h => ?_)
    refine Y.blk (pc' := 33) (L' := [some (.ref a0), some (.int a1), some (.int a2), none, none]) (st' := [.int a1, .ref v15]) (sg := [(.iload_n 1, 0)]) (lSa_ok dd11) rfl ?_
    obtain ⟨_, o17, e16, m18, h⟩ := gOb_inv h
    refine Y.callI (yC.Vi (b := v15) (As := [.int a1]) (st := []) (r := ("Partlister$Cursors", T_U, 5)) hV.1 cb_U_lastOf lk_X_182 in_U_lastOf rfl se_U_lastOf (lIa_ok dd12) rfl rfl (Nat.le_of_ble_eq_true rfl) (by decide) e16 m18) (k_U_lastOf hV G13 v15 a1) h (fun v20 G19 _ h => ?_)
    refine Y.blk (pc' := 39) (L' := [some (.ref a0), some (.int a1), some (.int a2), some (.int v20), none]) (st' := [.int (-1), .int v20]) (sg := [(.istore_n 3, 0), (.iload_n 3, 0), (.iconst (-1), -1)]) (lSa_ok dd13) rfl ?_
    refine Y.ic_ne (off := 10) (tgt := 49) (lIa_ok dd14) (by decide) h (fun c45 h => ?_) (fun c45 h => ?_)
    · refine Y.blk (pc' := 45) (L' := [some (.ref a0), some (.int a1), some (.int a2), some (.int v20), none]) (st' := [.int (-7), .ref a0]) (sg := [(.aload_n 0, 0), (.bipush (-7), -7)]) (lSa_ok dd15) rfl ?_
      obtain ⟨_, o22, e21, m23, h⟩ := gOb_inv h
      refine Y.callI (yC.Vi (b := a0) (As := [.int (-7)]) (st := []) (r := ("Partlister", T_X, 5)) hV.1 cb_X_failWith lk_X_173 in_X_failWith rfl se_X_failWith (lIa_ok dd16) rfl rfl (Nat.le_of_ble_eq_true rfl) (by decide) e21 m23) (k_X_failWith hV G19 a0 (-7)) h (fun v25 G24 _ h => ?_)
      exact Y.iret rfl (lIa_ok dd17) h
    · refine Y.blk (pc' := 51) (L' := [some (.ref a0), some (.int a1), some (.int a2), some (.int v20), none]) (st' := [.int a2, .ref a0]) (sg := [(.aload_n 0, 0), (.iload_n 2, 0)]) (lSa_ok dd18) rfl ?_
      obtain ⟨_, o27, e26, m28, h⟩ := gOb_inv h
      refine Y.callI (yC.Vi (b := a0) (As := [.int a2]) (st := []) (r := ("Partlister", T_X, 5)) hV.1 cb_X_make lk_X_38 in_X_make rfl se_X_make (lIa_ok dd19) rfl rfl (Nat.le_of_ble_eq_true rfl) (by decide) e26 m28) (k_X_make hV G19 a0 a2) h (fun v30 G29 _ h => ?_)
      refine Y.blk (pc' := 57) (L' := [some (.ref a0), some (.int a1), some (.int a2), some (.int v20), some (.int v30)]) (st' := [.ref a0]) (sg := [(.istore 4, 0), (.aload_n 0, 0)]) (lSa_ok dd20) rfl ?_
      refine Y.getA fl_X_10 (lIa_ok dd21) h (fun v31 h => ?_)
      refine Y.blk (pc' := 61) (L' := [some (.ref a0), some (.int a1), some (.int a2), some (.int v20), some (.int v30)]) (st' := [.ref a0, .ref v31]) (sg := [(.aload_n 0, 0)]) (lSa_ok dd22) rfl ?_
      refine Y.getA fl_X_19 (lIa_ok dd23) h (fun v32 h => ?_)
      refine Y.blk (pc' := 65) (L' := [some (.ref a0), some (.int a1), some (.int a2), some (.int v20), some (.int v30)]) (st' := [.int a1, .ref v32, .ref v31]) (sg := [(.iload_n 1, 0)]) (lSa_ok dd24) rfl ?_
      obtain ⟨_, o34, e33, m35, h⟩ := gOb_inv h
      refine Y.callI (yC.Vi (b := v32) (As := [.int a1]) (st := [.ref v31]) (r := ("Partlister$Cursors", T_U, 5)) hV.1 cb_U_listOf lk_X_152 in_U_listOf rfl se_U_listOf (lIa_ok dd25) rfl rfl (Nat.le_of_ble_eq_true rfl) (by decide) e33 m35) (k_U_listOf hV G29 v32 a1) h (fun v37 G36 _ h => ?_)
      refine Y.blk (pc' := 71) (L' := [some (.ref a0), some (.int a1), some (.int a2), some (.int v20), some (.int v30)]) (st' := [.int v30, .int v20, .int v37, .ref v31]) (sg := [(.iload_n 3, 0), (.iload 4, 0)]) (lSa_ok dd26) rfl ?_
      obtain ⟨_, o39, e38, m40, h⟩ := gOb_inv h
      refine Y.callN (yC.Vi (b := v31) (As := [.int v37, .int v20, .int v30]) (st := []) (r := ("Partlister$Lists", T_I, 7)) hV.1 cb_I_write lk_X_65 in_I_write rfl se_I_write (lIa_ok dd27) rfl rfl (Nat.le_of_ble_eq_true rfl) (by decide) e38 m40) (k_I_write hV G36 v31 v37 v20 v30) h (fun G41 _ h => ?_)
      refine Y.blk (pc' := 76) (L' := [some (.ref a0), some (.int a1), some (.int a2), some (.int v20), some (.int v30)]) (st' := [.int v30]) (sg := [(.iload 4, 0)]) (lSa_ok dd28) rfl ?_
      refine Y.callI (yC.S (As := [.int v30]) (st := []) hV.1 cb_X_tagOf lk_X_48 st_X_tagOf (lIa_ok dd29) rfl rfl (Nat.le_of_ble_eq_true rfl) (by decide)) (k_X_tagOf hV G41 v30) h (fun v44 G43 _ h => ?_)
      exact Y.iret rfl (lIa_ok dd30) h
  · refine Y.blk (pc' := 24) (L' := [some (.ref a0), some (.int a1), some (.int a2), none, none]) (st' := [.int (-9), .ref a0]) (sg := [(.aload_n 0, 0), (.bipush (-9), -9)]) (lSa_ok dd31) rfl ?_
    obtain ⟨_, o47, e46, m48, h⟩ := gOb_inv h
    refine Y.callI (yC.Vi (b := a0) (As := [.int (-9)]) (st := []) (r := ("Partlister", T_X, 5)) hV.1 cb_X_failWith lk_X_173 in_X_failWith rfl se_X_failWith (lIa_ok dd32) rfl rfl (Nat.le_of_ble_eq_true rfl) (by decide) e46 m48) (k_X_failWith hV G13 a0 (-9)) h (fun v50 G49 _ h => ?_)
    exact Y.iret rfl (lIa_ok dd33) h

def f_X_remove (G : gH) (a0 : Nat) (a1 : Int32) (a2 : Int32) : gR :=
  gOb G a0 3 fun o2 => bV (f_X_needList G a0 a1) fun G4 => gOb G4 a0 3 fun o6 => bV (f_X_needKey G4 a0 a2) fun G8 => gFA G8 a0 3 0 fun v9 => gOb G8 v9 1 fun o11 => bI (f_I_firstOf G8 v9 a1 a2) fun v14 G13 => if v14 = (-1) then rZ (nI 0) G13
  else gOb G13 a0 3 fun o16 => bI (f_X_takeOut G13 a0 a1 v14 (-1)) fun v19 G18 => rZ (nI 1) G18
theorem k_X_remove {l : Launch} {D : va_G} {B : Nat} {O : State → Heap → Prop} (hV : zG l D B O) (G : gH) (a0 : Nat) (a1 : Int32) (a2 : Int32) : gMet (zVm l D B O) m_X_remove 7 [.ref a0, .int a1, .int a2] G (f_X_remove G a0 a1 a2) := by
  have hdd : lSa m_X_remove 0 [(.aload_n 0, 0), (.iload_n 1, 0)] = true ∧ lIa m_X_remove 2 (.invokevirtual 23) 3 = true ∧ lSa m_X_remove 5 [(.aload_n 0, 0), (.iload_n 2, 0)] = true ∧ lIa m_X_remove 7 (.invokevirtual 27) 3 = true ∧ lSa m_X_remove 10 [(.aload_n 0, 0)] = true ∧ lIa m_X_remove 11 (.getfield 10) 3 = true ∧ lSa m_X_remove 14 [(.iload_n 1, 0), (.iload_n 2, 0)] = true ∧ lIa m_X_remove 16 (.invokevirtual 72) 3 = true ∧ lSa m_X_remove 19 [(.istore_n 3, 0), (.iload_n 3, 0), (.iconst (-1), -1)] = true ∧ lIa m_X_remove 22 (.if_icmp .ne 5) 3 = true ∧ lSa m_X_remove 25 [(.iconst 0, nI 0)] = true ∧ lIa m_X_remove 26 (.ireturn) 1 = true ∧ lSa m_X_remove 27 [(.aload_n 0, 0), (.iload_n 1, 0), (.iload_n 3, 0), (.iconst (-1), -1)] = true ∧ lIa m_X_remove 31 (.invokevirtual 69) 3 = true ∧ lSa m_X_remove 34 [(.pop, 0), (.iconst 1, nI 1)] = true ∧ lIa m_X_remove 36 (.ireturn) 1 = true := by decide +kernel
  refine lA8 hdd (fun dd0 dd1 dd2 dd3 dd4 dd5 dd6 dd7 hdd => ?_)
  obtain ⟨dd8, dd9, dd10, dd11, dd12, dd13, dd14, dd15⟩ := hdd
  refine gMet.of (by decide +kernel) (Nat.le_of_ble_eq_true rfl) [some (.ref a0), some (.int a1), some (.int a2), none] (fun ls h => zEn_ok (n := 4) h) ?_
  intro o Gf h
  unfold f_X_remove at h
  refine Y.blk (pc' := 2) (L' := [some (.ref a0), some (.int a1), some (.int a2), none]) (st' := [.int a1, .ref a0]) (sg := [(.aload_n 0, 0), (.iload_n 1, 0)]) (lSa_ok dd0) rfl ?_
  obtain ⟨_, o2, e1, m3, h⟩ := gOb_inv h
  refine Y.callN (yC.Vi (b := a0) (As := [.int a1]) (st := []) (r := ("Partlister", T_X, 5)) hV.1 cb_X_needList lk_X_23 in_X_needList rfl se_X_needList (lIa_ok dd1) rfl rfl (Nat.le_of_ble_eq_true rfl) (by decide) e1 m3) (k_X_needList hV G a0 a1) h (fun G4 _ h => ?_)
  refine Y.blk (pc' := 7) (L' := [some (.ref a0), some (.int a1), some (.int a2), none]) (st' := [.int a2, .ref a0]) (sg := [(.aload_n 0, 0), (.iload_n 2, 0)]) (lSa_ok dd2) rfl ?_
  obtain ⟨_, o6, e5, m7, h⟩ := gOb_inv h
  refine Y.callN (yC.Vi (b := a0) (As := [.int a2]) (st := []) (r := ("Partlister", T_X, 5)) hV.1 cb_X_needKey lk_X_27 in_X_needKey rfl se_X_needKey (lIa_ok dd3) rfl rfl (Nat.le_of_ble_eq_true rfl) (by decide) e5 m7) (k_X_needKey hV G4 a0 a2) h (fun G8 _ h => ?_)
  refine Y.blk (pc' := 11) (L' := [some (.ref a0), some (.int a1), some (.int a2), none]) (st' := [.ref a0]) (sg := [(.aload_n 0, 0)]) (lSa_ok dd4) rfl ?_
  refine Y.getA fl_X_10 (lIa_ok dd5) h (fun v9 h => ?_)
  refine Y.blk (pc' := 16) (L' := [some (.ref a0), some (.int a1), some (.int a2), none]) (st' := [.int a2, .int a1, .ref v9]) (sg := [(.iload_n 1, 0), (.iload_n 2, 0)]) (lSa_ok dd6) rfl ?_
  obtain ⟨_, o11, e10, m12, h⟩ := gOb_inv h
  refine Y.callI (yC.Vi (b := v9) (As := [.int a1, .int a2]) (st := []) (r := ("Partlister$Lists", T_I, 7)) hV.1 cb_I_firstOf lk_X_72 in_I_firstOf rfl se_I_firstOf (lIa_ok dd7) rfl rfl (Nat.le_of_ble_eq_true rfl) (by decide) e10 m12) (k_I_firstOf hV G8 v9 a1 a2) h (fun v14 G13 _ h => ?_)
  refine Y.blk (pc' := 22) (L' := [some (.ref a0), some (.int a1), some (.int a2), some (.int v14)]) (st' := [.int (-1), .int v14]) (sg := [(.istore_n 3, 0), (.iload_n 3, 0), (.iconst (-1), -1)]) (lSa_ok dd8) rfl ?_
  refine Y.ic_ne (off := 5) (tgt := 27) (lIa_ok dd9) (by decide) h (fun c20 h => ?_) (fun c20 h => ?_)
  · refine Y.blk (pc' := 26) (L' := [some (.ref a0), some (.int a1), some (.int a2), some (.int v14)]) (st' := [.int (nI 0)]) (sg := [(.iconst 0, nI 0)]) (lSa_ok dd10) rfl ?_
    exact Y.zret rfl (lIa_ok dd11) h
  · refine Y.blk (pc' := 31) (L' := [some (.ref a0), some (.int a1), some (.int a2), some (.int v14)]) (st' := [.int (-1), .int v14, .int a1, .ref a0]) (sg := [(.aload_n 0, 0), (.iload_n 1, 0), (.iload_n 3, 0), (.iconst (-1), -1)]) (lSa_ok dd12) rfl ?_
    obtain ⟨_, o16, e15, m17, h⟩ := gOb_inv h
    refine Y.callI (yC.Vi (b := a0) (As := [.int a1, .int v14, .int (-1)]) (st := []) (r := ("Partlister", T_X, 5)) hV.1 cb_X_takeOut lk_X_69 in_X_takeOut rfl se_X_takeOut (lIa_ok dd13) rfl rfl (Nat.le_of_ble_eq_true rfl) (by decide) e15 m17) (k_X_takeOut hV G13 a0 a1 v14 (-1)) h (fun v19 G18 _ h => ?_)
    refine Y.blk (pc' := 36) (L' := [some (.ref a0), some (.int a1), some (.int a2), some (.int v14)]) (st' := [.int (nI 1)]) (sg := [(.pop, 0), (.iconst 1, nI 1)]) (lSa_ok dd14) rfl ?_
    exact Y.zret rfl (lIa_ok dd15) h

def f_X_removeAll (G : gH) (a0 : Nat) (a1 : Int32) (a2 : Int32) : gR :=
  gOb G a0 3 fun o2 => bV (f_X_needList G a0 a1) fun G4 => gOb G4 a0 3 fun o6 => bV (f_X_needList G4 a0 a2) fun G8 => gOb G8 a0 3 fun o10 => bV (f_X_needOtherRow G8 a0 a1 a2) fun G12 => gFA G12 a0 3 0 fun v13 => gOb G12 v13 1 fun o15 => bI (f_I_keysOf G12 v13 a2) fun v18 G17 => gOb G17 a0 3 fun o20 => bI (f_X_takeOutAll G17 a0 a1 v18) fun v23 G22 => rI v23 G22
theorem k_X_removeAll {l : Launch} {D : va_G} {B : Nat} {O : State → Heap → Prop} (hV : zG l D B O) (G : gH) (a0 : Nat) (a1 : Int32) (a2 : Int32) : gMet (zVm l D B O) m_X_removeAll 7 [.ref a0, .int a1, .int a2] G (f_X_removeAll G a0 a1 a2) := by
  have hdd : lSa m_X_removeAll 0 [(.aload_n 0, 0), (.iload_n 1, 0)] = true ∧ lIa m_X_removeAll 2 (.invokevirtual 23) 3 = true ∧ lSa m_X_removeAll 5 [(.aload_n 0, 0), (.iload_n 2, 0)] = true ∧ lIa m_X_removeAll 7 (.invokevirtual 23) 3 = true ∧ lSa m_X_removeAll 10 [(.aload_n 0, 0), (.iload_n 1, 0), (.iload_n 2, 0)] = true ∧ lIa m_X_removeAll 13 (.invokevirtual 51) 3 = true ∧ lSa m_X_removeAll 16 [(.aload_n 0, 0), (.iload_n 1, 0), (.aload_n 0, 0)] = true ∧ lIa m_X_removeAll 19 (.getfield 10) 3 = true ∧ lSa m_X_removeAll 22 [(.iload_n 2, 0)] = true ∧ lIa m_X_removeAll 23 (.invokevirtual 75) 3 = true ∧ lIa m_X_removeAll 26 (.invokevirtual 78) 3 = true ∧ lIa m_X_removeAll 29 (.ireturn) 1 = true := by decide +kernel
  refine lA8 hdd (fun dd0 dd1 dd2 dd3 dd4 dd5 dd6 dd7 hdd => ?_)
  obtain ⟨dd8, dd9, dd10, dd11⟩ := hdd
  refine gMet.of (by decide +kernel) (Nat.le_of_ble_eq_true rfl) [some (.ref a0), some (.int a1), some (.int a2)] (fun ls h => zEn_ok (n := 3) h) ?_
  intro o Gf h
  unfold f_X_removeAll at h
  refine Y.blk (pc' := 2) (L' := [some (.ref a0), some (.int a1), some (.int a2)]) (st' := [.int a1, .ref a0]) (sg := [(.aload_n 0, 0), (.iload_n 1, 0)]) (lSa_ok dd0) rfl ?_
  obtain ⟨_, o2, e1, m3, h⟩ := gOb_inv h
  refine Y.callN (yC.Vi (b := a0) (As := [.int a1]) (st := []) (r := ("Partlister", T_X, 5)) hV.1 cb_X_needList lk_X_23 in_X_needList rfl se_X_needList (lIa_ok dd1) rfl rfl (Nat.le_of_ble_eq_true rfl) (by decide) e1 m3) (k_X_needList hV G a0 a1) h (fun G4 _ h => ?_)
  refine Y.blk (pc' := 7) (L' := [some (.ref a0), some (.int a1), some (.int a2)]) (st' := [.int a2, .ref a0]) (sg := [(.aload_n 0, 0), (.iload_n 2, 0)]) (lSa_ok dd2) rfl ?_
  obtain ⟨_, o6, e5, m7, h⟩ := gOb_inv h
  refine Y.callN (yC.Vi (b := a0) (As := [.int a2]) (st := []) (r := ("Partlister", T_X, 5)) hV.1 cb_X_needList lk_X_23 in_X_needList rfl se_X_needList (lIa_ok dd3) rfl rfl (Nat.le_of_ble_eq_true rfl) (by decide) e5 m7) (k_X_needList hV G4 a0 a2) h (fun G8 _ h => ?_)
  refine Y.blk (pc' := 13) (L' := [some (.ref a0), some (.int a1), some (.int a2)]) (st' := [.int a2, .int a1, .ref a0]) (sg := [(.aload_n 0, 0), (.iload_n 1, 0), (.iload_n 2, 0)]) (lSa_ok dd4) rfl ?_
  obtain ⟨_, o10, e9, m11, h⟩ := gOb_inv h
  refine Y.callN (yC.Vi (b := a0) (As := [.int a1, .int a2]) (st := []) (r := ("Partlister", T_X, 5)) hV.1 cb_X_needOtherRow lk_X_51 in_X_needOtherRow rfl se_X_needOtherRow (lIa_ok dd5) rfl rfl (Nat.le_of_ble_eq_true rfl) (by decide) e9 m11) (k_X_needOtherRow hV G8 a0 a1 a2) h (fun G12 _ h => ?_)
  refine Y.blk (pc' := 19) (L' := [some (.ref a0), some (.int a1), some (.int a2)]) (st' := [.ref a0, .int a1, .ref a0]) (sg := [(.aload_n 0, 0), (.iload_n 1, 0), (.aload_n 0, 0)]) (lSa_ok dd6) rfl ?_
  refine Y.getA fl_X_10 (lIa_ok dd7) h (fun v13 h => ?_)
  refine Y.blk (pc' := 23) (L' := [some (.ref a0), some (.int a1), some (.int a2)]) (st' := [.int a2, .ref v13, .int a1, .ref a0]) (sg := [(.iload_n 2, 0)]) (lSa_ok dd8) rfl ?_
  obtain ⟨_, o15, e14, m16, h⟩ := gOb_inv h
  refine Y.callI (yC.Vi (b := v13) (As := [.int a2]) (st := [.int a1, .ref a0]) (r := ("Partlister$Lists", T_I, 7)) hV.1 cb_I_keysOf lk_X_75 in_I_keysOf rfl se_I_keysOf (lIa_ok dd9) rfl rfl (Nat.le_of_ble_eq_true rfl) (by decide) e14 m16) (k_I_keysOf hV G12 v13 a2) h (fun v18 G17 _ h => ?_)
  obtain ⟨_, o20, e19, m21, h⟩ := gOb_inv h
  refine Y.callI (yC.Vi (b := a0) (As := [.int a1, .int v18]) (st := []) (r := ("Partlister", T_X, 5)) hV.1 cb_X_takeOutAll lk_X_78 in_X_takeOutAll rfl se_X_takeOutAll (lIa_ok dd10) rfl rfl (Nat.le_of_ble_eq_true rfl) (by decide) e19 m21) (k_X_takeOutAll hV G17 a0 a1 v18) h (fun v23 G22 _ h => ?_)
  exact Y.iret rfl (lIa_ok dd11) h

def f_X_removeAt (G : gH) (a0 : Nat) (a1 : Int32) (a2 : Int32) : gR :=
  gOb G a0 3 fun o2 => bV (f_X_needList G a0 a1) fun G4 => gOb G4 a0 3 fun o6 => bV (f_X_needPlace G4 a0 a1 a2) fun G8 => gOb G8 a0 3 fun o10 => bI (f_X_takeOut G8 a0 a1 a2 (-1)) fun v13 G12 => bI (f_X_tagOf G12 v13) fun v16 G15 => rI v16 G15
theorem k_X_removeAt {l : Launch} {D : va_G} {B : Nat} {O : State → Heap → Prop} (hV : zG l D B O) (G : gH) (a0 : Nat) (a1 : Int32) (a2 : Int32) : gMet (zVm l D B O) m_X_removeAt 7 [.ref a0, .int a1, .int a2] G (f_X_removeAt G a0 a1 a2) := by
  have hdd : lSa m_X_removeAt 0 [(.aload_n 0, 0), (.iload_n 1, 0)] = true ∧ lIa m_X_removeAt 2 (.invokevirtual 23) 3 = true ∧ lSa m_X_removeAt 5 [(.aload_n 0, 0), (.iload_n 1, 0), (.iload_n 2, 0)] = true ∧ lIa m_X_removeAt 8 (.invokevirtual 58) 3 = true ∧ lSa m_X_removeAt 11 [(.aload_n 0, 0), (.iload_n 1, 0), (.iload_n 2, 0), (.iconst (-1), -1)] = true ∧ lIa m_X_removeAt 15 (.invokevirtual 69) 3 = true ∧ lIa m_X_removeAt 18 (.invokestatic 48) 3 = true ∧ lIa m_X_removeAt 21 (.ireturn) 1 = true := by decide +kernel
  obtain ⟨dd0, dd1, dd2, dd3, dd4, dd5, dd6, dd7⟩ := hdd
  refine gMet.of (by decide +kernel) (Nat.le_of_ble_eq_true rfl) [some (.ref a0), some (.int a1), some (.int a2)] (fun ls h => zEn_ok (n := 3) h) ?_
  intro o Gf h
  unfold f_X_removeAt at h
  refine Y.blk (pc' := 2) (L' := [some (.ref a0), some (.int a1), some (.int a2)]) (st' := [.int a1, .ref a0]) (sg := [(.aload_n 0, 0), (.iload_n 1, 0)]) (lSa_ok dd0) rfl ?_
  obtain ⟨_, o2, e1, m3, h⟩ := gOb_inv h
  refine Y.callN (yC.Vi (b := a0) (As := [.int a1]) (st := []) (r := ("Partlister", T_X, 5)) hV.1 cb_X_needList lk_X_23 in_X_needList rfl se_X_needList (lIa_ok dd1) rfl rfl (Nat.le_of_ble_eq_true rfl) (by decide) e1 m3) (k_X_needList hV G a0 a1) h (fun G4 _ h => ?_)
  refine Y.blk (pc' := 8) (L' := [some (.ref a0), some (.int a1), some (.int a2)]) (st' := [.int a2, .int a1, .ref a0]) (sg := [(.aload_n 0, 0), (.iload_n 1, 0), (.iload_n 2, 0)]) (lSa_ok dd2) rfl ?_
  obtain ⟨_, o6, e5, m7, h⟩ := gOb_inv h
  refine Y.callN (yC.Vi (b := a0) (As := [.int a1, .int a2]) (st := []) (r := ("Partlister", T_X, 5)) hV.1 cb_X_needPlace lk_X_58 in_X_needPlace rfl se_X_needPlace (lIa_ok dd3) rfl rfl (Nat.le_of_ble_eq_true rfl) (by decide) e5 m7) (k_X_needPlace hV G4 a0 a1 a2) h (fun G8 _ h => ?_)
  refine Y.blk (pc' := 15) (L' := [some (.ref a0), some (.int a1), some (.int a2)]) (st' := [.int (-1), .int a2, .int a1, .ref a0]) (sg := [(.aload_n 0, 0), (.iload_n 1, 0), (.iload_n 2, 0), (.iconst (-1), -1)]) (lSa_ok dd4) rfl ?_
  obtain ⟨_, o10, e9, m11, h⟩ := gOb_inv h
  refine Y.callI (yC.Vi (b := a0) (As := [.int a1, .int a2, .int (-1)]) (st := []) (r := ("Partlister", T_X, 5)) hV.1 cb_X_takeOut lk_X_69 in_X_takeOut rfl se_X_takeOut (lIa_ok dd5) rfl rfl (Nat.le_of_ble_eq_true rfl) (by decide) e9 m11) (k_X_takeOut hV G8 a0 a1 a2 (-1)) h (fun v13 G12 _ h => ?_)
  refine Y.callI (yC.S (As := [.int v13]) (st := []) hV.1 cb_X_tagOf lk_X_48 st_X_tagOf (lIa_ok dd6) rfl rfl (Nat.le_of_ble_eq_true rfl) (by decide)) (k_X_tagOf hV G12 v13) h (fun v16 G15 _ h => ?_)
  exact Y.iret rfl (lIa_ok dd7) h

def f_X_removeIf_L51 (K85 : gH → Nat → Int32 → Int32 → gR) : Nat → gH → Nat → Int32 → Int32 → Int32 → Int32 → Int32 → gR
  | 0, _, _, _, _, _, _, _ => none
  | n + 1, G, x0, x1, x2, x3, x4, x5 =>
    if (nI 31) ≤ x5 then K85 G x0 x1 x4
    else gRem x5 x2 fun v5 => if v5 = x3 then f_X_removeIf_L51 K85 n G x0 x1 x2 x3 (x4 ||| ((nI 1) <<< (x5 &&& 31))) (x5 + (nI 1))
      else f_X_removeIf_L51 K85 n G x0 x1 x2 x3 (x4 ||| (nI 0)) (x5 + (nI 1))
def f_X_removeIf (G : gH) (a0 : Nat) (a1 : Int32) (a2 : Int32) (a3 : Int32) : gR :=
  gOb G a0 3 fun o2 => bV (f_X_needList G a0 a1) fun G4 => if a2 < (nI 1) then gThrow "java/lang/IllegalArgumentException" G4
  else if a2 ≤ (nI 9) then (if a3 < 0 then gThrow "java/lang/IllegalArgumentException" G4
      else if a3 < a2 then f_X_removeIf_L51 (fun G11 x8 x9 x10 => gOb G11 x8 3 fun o13 => bI (f_X_takeOutAll G11 x8 x9 x10) fun v16 G15 => rI v16 G15) zFu G4 a0 a1 a2 a3 (nI 0) (nI 0)
        else gThrow "java/lang/IllegalArgumentException" G4)
    else gThrow "java/lang/IllegalArgumentException" G4
theorem k_X_removeIf_L51 {l : Launch} {D : va_G} {B : Nat} {O : State → Heap → Prop} (hV : zG l D B O) {o : gO} {Gf : gH} (K85 : gH → Nat → Int32 → Int32 → gR) (hK85 : ∀ (G : gH) (x0 : Nat) (x1 : Int32) (x4 : Int32), K85 G x0 x1 x4 = some (o, Gf) → Y (zVm l D B O) m_X_removeIf 7 o Gf 85 [some (.ref x0), some (.int x1), none, none, some (.int x4), none] [] G) : ∀ (n : Nat) (G : gH) (x0 : Nat) (x1 : Int32) (x2 : Int32) (x3 : Int32) (x4 : Int32) (x5 : Int32), f_X_removeIf_L51 K85 n G x0 x1 x2 x3 x4 x5 = some (o, Gf) → Y (zVm l D B O) m_X_removeIf 7 o Gf 51 [some (.ref x0), some (.int x1), some (.int x2), some (.int x3), some (.int x4), some (.int x5)] [] G := by
  have hdd : lSa m_X_removeIf 51 [(.iload 5, 0), (.bipush 31, nI 31)] = true ∧ lIa m_X_removeIf 55 (.if_icmp .ge 30) 3 = true ∧ lSa m_X_removeIf 58 [(.iload 4, 0), (.iload 5, 0), (.iload_n 2, 0)] = true ∧ lIa m_X_removeIf 63 (.irem) 1 = true ∧ lSa m_X_removeIf 64 [(.iload_n 3, 0)] = true ∧ lIa m_X_removeIf 65 (.if_icmp .ne 10) 3 = true ∧ lSa m_X_removeIf 68 [(.iconst 1, nI 1), (.iload 5, 0), (.ishl, 0)] = true ∧ lIa m_X_removeIf 72 (.goto 4) 3 = true ∧ lSa m_X_removeIf 76 [(.ior, 0), (.istore 4, 0), (.iinc 5 1, nI 1)] = true ∧ lIa m_X_removeIf 82 (.goto (-31)) 3 = true ∧ lSa m_X_removeIf 75 [(.iconst 0, nI 0), (.ior, 0), (.istore 4, 0), (.iinc 5 1, nI 1)] = true := by decide +kernel
  refine lA8 hdd (fun dd0 dd1 dd2 dd3 dd4 dd5 dd6 dd7 hdd => ?_)
  obtain ⟨dd8, dd9, dd10⟩ := hdd
  intro n
  induction n with
  | zero => intro G x0 x1 x2 x3 x4 x5 h; cases h
  | succ n ih =>
    intro G x0 x1 x2 x3 x4 x5 h
    unfold f_X_removeIf_L51 at h
    refine Y.blk (pc' := 55) (L' := [some (.ref x0), some (.int x1), some (.int x2), some (.int x3), some (.int x4), some (.int x5)]) (st' := [.int (nI 31), .int x5]) (sg := [(.iload 5, 0), (.bipush 31, nI 31)]) (lSa_ok dd0) rfl ?_
    refine Y.ic_ge (off := 30) (tgt := 85) (lIa_ok dd1) (by decide) h (fun c7 h => ?_) (fun c7 h => ?_)
    · refine Y.less (L' := [some (.ref x0), some (.int x1), none, none, some (.int x4), none]) (zLe_some (zLe_some (zLe_none (zLe_none (zLe_some (zLe_none (zLe_nil))))))) ?_
      exact hK85 G x0 x1 x4 h
    · refine Y.blk (pc' := 63) (L' := [some (.ref x0), some (.int x1), some (.int x2), some (.int x3), some (.int x4), some (.int x5)]) (st' := [.int x2, .int x5, .int x4]) (sg := [(.iload 4, 0), (.iload 5, 0), (.iload_n 2, 0)]) (lSa_ok dd2) rfl ?_
      refine Y.irem (lIa_ok dd3) h (fun v5 h => ?_)
      refine Y.blk (pc' := 65) (L' := [some (.ref x0), some (.int x1), some (.int x2), some (.int x3), some (.int x4), some (.int x5)]) (st' := [.int x3, .int v5, .int x4]) (sg := [(.iload_n 3, 0)]) (lSa_ok dd4) rfl ?_
      refine Y.ic_ne (off := 10) (tgt := 75) (lIa_ok dd5) (by decide) h (fun c6 h => ?_) (fun c6 h => ?_)
      · refine Y.blk (pc' := 72) (L' := [some (.ref x0), some (.int x1), some (.int x2), some (.int x3), some (.int x4), some (.int x5)]) (st' := [.int ((nI 1) <<< (x5 &&& 31)), .int x4]) (sg := [(.iconst 1, nI 1), (.iload 5, 0), (.ishl, 0)]) (lSa_ok dd6) rfl ?_
        refine Y.goto (off := 4) (tgt := 76) (lIa_ok dd7) (by decide) ?_
        refine Y.blk (pc' := 82) (L' := [some (.ref x0), some (.int x1), some (.int x2), some (.int x3), some (.int (x4 ||| ((nI 1) <<< (x5 &&& 31)))), some (.int (x5 + (nI 1)))]) (st' := []) (sg := [(.ior, 0), (.istore 4, 0), (.iinc 5 1, nI 1)]) (lSa_ok dd8) rfl ?_
        refine Y.goto (off := -31) (tgt := 51) (lIa_ok dd9) (by decide) ?_
        exact ih G x0 x1 x2 x3 (x4 ||| ((nI 1) <<< (x5 &&& 31))) (x5 + (nI 1)) h
      · refine Y.blk (pc' := 82) (L' := [some (.ref x0), some (.int x1), some (.int x2), some (.int x3), some (.int (x4 ||| (nI 0))), some (.int (x5 + (nI 1)))]) (st' := []) (sg := [(.iconst 0, nI 0), (.ior, 0), (.istore 4, 0), (.iinc 5 1, nI 1)]) (lSa_ok dd10) rfl ?_
        refine Y.goto (off := -31) (tgt := 51) (lIa_ok dd9) (by decide) ?_
        exact ih G x0 x1 x2 x3 (x4 ||| (nI 0)) (x5 + (nI 1)) h
theorem k_X_removeIf {l : Launch} {D : va_G} {B : Nat} {O : State → Heap → Prop} (hV : zG l D B O) (G : gH) (a0 : Nat) (a1 : Int32) (a2 : Int32) (a3 : Int32) : gMet (zVm l D B O) m_X_removeIf 7 [.ref a0, .int a1, .int a2, .int a3] G (f_X_removeIf G a0 a1 a2 a3) := by
  have hdd : lSa m_X_removeIf 0 [(.aload_n 0, 0), (.iload_n 1, 0)] = true ∧ lIa m_X_removeIf 2 (.invokevirtual 23) 3 = true ∧ lSa m_X_removeIf 5 [(.iload_n 2, 0), (.iconst 1, nI 1)] = true ∧ lIa m_X_removeIf 7 (.if_icmp .lt 9) 3 = true ∧ lIa m_X_removeIf 16 (.new 81) 3 = true ∧ lIa m_X_removeIf 19 (.dup) 1 = true ∧ lIa m_X_removeIf 20 (.ldc 83) 2 = true ∧ lIa m_X_removeIf 22 (.invokespecial 85) 3 = true ∧ lIa m_X_removeIf 25 (.athrow) 1 = true ∧ lSa m_X_removeIf 10 [(.iload_n 2, 0), (.bipush 9, nI 9)] = true ∧ lIa m_X_removeIf 13 (.if_icmp .le 13) 3 = true ∧ lSa m_X_removeIf 26 [(.iload_n 3, 0)] = true ∧ lIa m_X_removeIf 27 (.ifCond .lt 8) 3 = true ∧ lIa m_X_removeIf 35 (.new 81) 3 = true ∧ lIa m_X_removeIf 38 (.dup) 1 = true ∧ lIa m_X_removeIf 39 (.ldc 88) 2 = true ∧ lIa m_X_removeIf 41 (.invokespecial 85) 3 = true ∧ lIa m_X_removeIf 44 (.athrow) 1 = true ∧ lSa m_X_removeIf 30 [(.iload_n 3, 0), (.iload_n 2, 0)] = true ∧ lIa m_X_removeIf 32 (.if_icmp .lt 13) 3 = true ∧ lSa m_X_removeIf 45 [(.iconst 0, nI 0), (.istore 4, 0), (.iconst 0, nI 0), (.istore 5, 0)] = true ∧ lSa m_X_removeIf 85 [(.aload_n 0, 0), (.iload_n 1, 0), (.iload 4, 0)] = true ∧ lIa m_X_removeIf 89 (.invokevirtual 78) 3 = true ∧ lIa m_X_removeIf 92 (.ireturn) 1 = true := by decide +kernel
  refine lA8 hdd (fun dd0 dd1 dd2 dd3 dd4 dd5 dd6 dd7 hdd => ?_)
  refine lA8 hdd (fun dd8 dd9 dd10 dd11 dd12 dd13 dd14 dd15 hdd => ?_)
  obtain ⟨dd16, dd17, dd18, dd19, dd20, dd21, dd22, dd23⟩ := hdd
  refine gMet.of (by decide +kernel) (Nat.le_of_ble_eq_true rfl) [some (.ref a0), some (.int a1), some (.int a2), some (.int a3), none, none] (fun ls h => zEn_ok (n := 6) h) ?_
  intro o Gf h
  unfold f_X_removeIf at h
  refine Y.blk (pc' := 2) (L' := [some (.ref a0), some (.int a1), some (.int a2), some (.int a3), none, none]) (st' := [.int a1, .ref a0]) (sg := [(.aload_n 0, 0), (.iload_n 1, 0)]) (lSa_ok dd0) rfl ?_
  obtain ⟨_, o2, e1, m3, h⟩ := gOb_inv h
  refine Y.callN (yC.Vi (b := a0) (As := [.int a1]) (st := []) (r := ("Partlister", T_X, 5)) hV.1 cb_X_needList lk_X_23 in_X_needList rfl se_X_needList (lIa_ok dd1) rfl rfl (Nat.le_of_ble_eq_true rfl) (by decide) e1 m3) (k_X_needList hV G a0 a1) h (fun G4 _ h => ?_)
  refine Y.blk (pc' := 7) (L' := [some (.ref a0), some (.int a1), some (.int a2), some (.int a3), none, none]) (st' := [.int (nI 1), .int a2]) (sg := [(.iload_n 2, 0), (.iconst 1, nI 1)]) (lSa_ok dd2) rfl ?_
  refine Y.ic_lt (off := 9) (tgt := 16) (lIa_ok dd3) (by decide) h (fun c20 h => ?_) (fun c20 h => ?_)
  · exact Y.throwS (is := 83) (text := "by is not 1 to 9") (names := zNm) hV.1 (hV.2 _ _ _ (by decide +kernel)) (by decide +kernel) (by decide +kernel) ck_X_81 ini_IAE tw_X_85 tg_X_85 (by decide) (by decide) rfl (Nat.le_of_ble_eq_true rfl) (lIa_ok dd4) (lIa_ok dd5) (lIa_ok dd6) (lIa_ok dd7) (lIa_ok dd8) h
  · refine Y.blk (pc' := 13) (L' := [some (.ref a0), some (.int a1), some (.int a2), some (.int a3), none, none]) (st' := [.int (nI 9), .int a2]) (sg := [(.iload_n 2, 0), (.bipush 9, nI 9)]) (lSa_ok dd9) rfl ?_
    refine Y.ic_le (off := 13) (tgt := 26) (lIa_ok dd10) (by decide) h (fun c19 h => ?_) (fun c19 h => ?_)
    · refine Y.blk (pc' := 27) (L' := [some (.ref a0), some (.int a1), some (.int a2), some (.int a3), none, none]) (st' := [.int a3]) (sg := [(.iload_n 3, 0)]) (lSa_ok dd11) rfl ?_
      refine Y.if_lt (off := 8) (tgt := 35) (lIa_ok dd12) (by decide) h (fun c18 h => ?_) (fun c18 h => ?_)
      · exact Y.throwS (is := 88) (text := "rest is not 0 to by - 1") (names := zNm) hV.1 (hV.2 _ _ _ (by decide +kernel)) (by decide +kernel) (by decide +kernel) ck_X_81 ini_IAE tw_X_85 tg_X_85 (by decide) (by decide) rfl (Nat.le_of_ble_eq_true rfl) (lIa_ok dd13) (lIa_ok dd14) (lIa_ok dd15) (lIa_ok dd16) (lIa_ok dd17) h
      · refine Y.blk (pc' := 32) (L' := [some (.ref a0), some (.int a1), some (.int a2), some (.int a3), none, none]) (st' := [.int a2, .int a3]) (sg := [(.iload_n 3, 0), (.iload_n 2, 0)]) (lSa_ok dd18) rfl ?_
        refine Y.ic_lt (off := 13) (tgt := 45) (lIa_ok dd19) (by decide) h (fun c17 h => ?_) (fun c17 h => ?_)
        · refine Y.blk (pc' := 51) (L' := [some (.ref a0), some (.int a1), some (.int a2), some (.int a3), some (.int (nI 0)), some (.int (nI 0))]) (st' := []) (sg := [(.iconst 0, nI 0), (.istore 4, 0), (.iconst 0, nI 0), (.istore 5, 0)]) (lSa_ok dd20) rfl ?_
          refine k_X_removeIf_L51 hV _ ?_  zFu G4 a0 a1 a2 a3 (nI 0) (nI 0) h
          · intro G11 x8 x9 x10 h
            refine Y.blk (pc' := 89) (L' := [some (.ref x8), some (.int x9), none, none, some (.int x10), none]) (st' := [.int x10, .int x9, .ref x8]) (sg := [(.aload_n 0, 0), (.iload_n 1, 0), (.iload 4, 0)]) (lSa_ok dd21) rfl ?_
            obtain ⟨_, o13, e12, m14, h⟩ := gOb_inv h
            refine Y.callI (yC.Vi (b := x8) (As := [.int x9, .int x10]) (st := []) (r := ("Partlister", T_X, 5)) hV.1 cb_X_takeOutAll lk_X_78 in_X_takeOutAll rfl se_X_takeOutAll (lIa_ok dd22) rfl rfl (Nat.le_of_ble_eq_true rfl) (by decide) e12 m14) (k_X_takeOutAll hV G11 x8 x9 x10) h (fun v16 G15 _ h => ?_)
            exact Y.iret rfl (lIa_ok dd23) h
        · exact Y.throwS (is := 88) (text := "rest is not 0 to by - 1") (names := zNm) hV.1 (hV.2 _ _ _ (by decide +kernel)) (by decide +kernel) (by decide +kernel) ck_X_81 ini_IAE tw_X_85 tg_X_85 (by decide) (by decide) rfl (Nat.le_of_ble_eq_true rfl) (lIa_ok dd13) (lIa_ok dd14) (lIa_ok dd15) (lIa_ok dd16) (lIa_ok dd17) h
    · exact Y.throwS (is := 83) (text := "by is not 1 to 9") (names := zNm) hV.1 (hV.2 _ _ _ (by decide +kernel)) (by decide +kernel) (by decide +kernel) ck_X_81 ini_IAE tw_X_85 tg_X_85 (by decide) (by decide) rfl (Nat.le_of_ble_eq_true rfl) (lIa_ok dd4) (lIa_ok dd5) (lIa_ok dd6) (lIa_ok dd7) (lIa_ok dd8) h

def f_X_replaceAll_L58 (K113 : gH → Nat → Int32 → Int32 → gR) : Nat → gH → Nat → Int32 → Int32 → Int32 → Int32 → Int32 → gR
  | 0, _, _, _, _, _, _, _ => none
  | n + 1, G, x0, x1, x2, x3, x4, x5 =>
    if x4 ≤ x5 then K113 G x0 x1 x4
    else gFA G x0 3 0 fun v11 => gOb G v11 1 fun o13 => bI (f_I_thingAt G v11 x1 x5) fun v16 G15 => gFA G15 x0 3 0 fun v17 => bI (f_X_tagOf G15 v16) fun v20 G19 => bI (f_X_keyOf G19 v16) fun v23 G22 => gRem ((v23 * x2) + x3) (nI 31) fun v24 => bI (f_X_thingOf G22 v20 v24) fun v27 G26 => gOb G26 v17 1 fun o29 => bV (f_I_write G26 v17 x1 x5 v27) fun G31 => f_X_replaceAll_L58 K113 n G31 x0 x1 x2 x3 x4 (x5 + (nI 1))
def f_X_replaceAll (G : gH) (a0 : Nat) (a1 : Int32) (a2 : Int32) (a3 : Int32) : gR :=
  gOb G a0 3 fun o2 => bV (f_X_needList G a0 a1) fun G4 => if a2 < 0 then gThrow "java/lang/IllegalArgumentException" G4
  else if a2 < (nI 31) then (if a3 < 0 then gThrow "java/lang/IllegalArgumentException" G4
      else if a3 < (nI 31) then gFA G4 a0 3 0 fun v5 => gOb G4 v5 1 fun o7 => bI (f_I_lengthOf G4 v5 a1) fun v10 G9 => f_X_replaceAll_L58 (fun G36 x33 x34 x35 => gOb G36 x33 3 fun o38 => bI (f_X_endAround G36 x33 x34) fun v41 G40 => rI x35 G40) zFu G9 a0 a1 a2 a3 v10 (nI 0)
        else gThrow "java/lang/IllegalArgumentException" G4)
    else gThrow "java/lang/IllegalArgumentException" G4
theorem k_X_replaceAll_L58 {l : Launch} {D : va_G} {B : Nat} {O : State → Heap → Prop} (hV : zG l D B O) {o : gO} {Gf : gH} (K113 : gH → Nat → Int32 → Int32 → gR) (hK113 : ∀ (G : gH) (x0 : Nat) (x1 : Int32) (x4 : Int32), K113 G x0 x1 x4 = some (o, Gf) → Y (zVm l D B O) m_X_replaceAll 7 o Gf 113 [some (.ref x0), some (.int x1), none, none, some (.int x4), none, none] [] G) : ∀ (n : Nat) (G : gH) (x0 : Nat) (x1 : Int32) (x2 : Int32) (x3 : Int32) (x4 : Int32) (x5 : Int32), f_X_replaceAll_L58 K113 n G x0 x1 x2 x3 x4 x5 = some (o, Gf) → Y (zVm l D B O) m_X_replaceAll 7 o Gf 58 [some (.ref x0), some (.int x1), some (.int x2), some (.int x3), some (.int x4), some (.int x5), none] [] G := by
  have hdd : lSa m_X_replaceAll 58 [(.iload 5, 0), (.iload 4, 0)] = true ∧ lIa m_X_replaceAll 62 (.if_icmp .ge 51) 3 = true ∧ lSa m_X_replaceAll 65 [(.aload_n 0, 0)] = true ∧ lIa m_X_replaceAll 66 (.getfield 10) 3 = true ∧ lSa m_X_replaceAll 69 [(.iload_n 1, 0), (.iload 5, 0)] = true ∧ lIa m_X_replaceAll 72 (.invokevirtual 94) 3 = true ∧ lSa m_X_replaceAll 75 [(.istore 6, 0), (.aload_n 0, 0)] = true ∧ lIa m_X_replaceAll 78 (.getfield 10) 3 = true ∧ lSa m_X_replaceAll 81 [(.iload_n 1, 0), (.iload 5, 0), (.iload 6, 0)] = true ∧ lIa m_X_replaceAll 86 (.invokestatic 48) 3 = true ∧ lSa m_X_replaceAll 89 [(.iload 6, 0)] = true ∧ lIa m_X_replaceAll 91 (.invokestatic 97) 3 = true ∧ lSa m_X_replaceAll 94 [(.iload_n 2, 0), (.imul, 0), (.iload_n 3, 0), (.iadd, 0), (.bipush 31, nI 31)] = true ∧ lIa m_X_replaceAll 100 (.irem) 1 = true ∧ lIa m_X_replaceAll 101 (.invokestatic 100) 3 = true ∧ lIa m_X_replaceAll 104 (.invokevirtual 65) 3 = true ∧ lSa m_X_replaceAll 107 [(.iinc 5 1, nI 1)] = true ∧ lIa m_X_replaceAll 110 (.goto (-52)) 3 = true := by decide +kernel
  refine lA8 hdd (fun dd0 dd1 dd2 dd3 dd4 dd5 dd6 dd7 hdd => ?_)
  refine lA8 hdd (fun dd8 dd9 dd10 dd11 dd12 dd13 dd14 dd15 hdd => ?_)
  obtain ⟨dd16, dd17⟩ := hdd
  intro n
  induction n with
  | zero => intro G x0 x1 x2 x3 x4 x5 h; cases h
  | succ n ih =>
    intro G x0 x1 x2 x3 x4 x5 h
    unfold f_X_replaceAll_L58 at h
    refine Y.blk (pc' := 62) (L' := [some (.ref x0), some (.int x1), some (.int x2), some (.int x3), some (.int x4), some (.int x5), none]) (st' := [.int x4, .int x5]) (sg := [(.iload 5, 0), (.iload 4, 0)]) (lSa_ok dd0) rfl ?_
    refine Y.ic_ge (off := 51) (tgt := 113) (lIa_ok dd1) (by decide) h (fun c32 h => ?_) (fun c32 h => ?_)
    · refine Y.less (L' := [some (.ref x0), some (.int x1), none, none, some (.int x4), none, none]) (zLe_some (zLe_some (zLe_none (zLe_none (zLe_some (zLe_none (zLe_some (zLe_nil)))))))) ?_
      exact hK113 G x0 x1 x4 h
    · refine Y.blk (pc' := 66) (L' := [some (.ref x0), some (.int x1), some (.int x2), some (.int x3), some (.int x4), some (.int x5), none]) (st' := [.ref x0]) (sg := [(.aload_n 0, 0)]) (lSa_ok dd2) rfl ?_
      refine Y.getA fl_X_10 (lIa_ok dd3) h (fun v11 h => ?_)
      refine Y.blk (pc' := 72) (L' := [some (.ref x0), some (.int x1), some (.int x2), some (.int x3), some (.int x4), some (.int x5), none]) (st' := [.int x5, .int x1, .ref v11]) (sg := [(.iload_n 1, 0), (.iload 5, 0)]) (lSa_ok dd4) rfl ?_
      obtain ⟨_, o13, e12, m14, h⟩ := gOb_inv h
      refine Y.callI (yC.Vi (b := v11) (As := [.int x1, .int x5]) (st := []) (r := ("Partlister$Lists", T_I, 7)) hV.1 cb_I_thingAt lk_X_94 in_I_thingAt rfl se_I_thingAt (lIa_ok dd5) rfl rfl (Nat.le_of_ble_eq_true rfl) (by decide) e12 m14) (k_I_thingAt hV G v11 x1 x5) h (fun v16 G15 _ h => ?_)
      refine Y.blk (pc' := 78) (L' := [some (.ref x0), some (.int x1), some (.int x2), some (.int x3), some (.int x4), some (.int x5), some (.int v16)]) (st' := [.ref x0]) (sg := [(.istore 6, 0), (.aload_n 0, 0)]) (lSa_ok dd6) rfl ?_
      refine Y.getA fl_X_10 (lIa_ok dd7) h (fun v17 h => ?_)
      refine Y.blk (pc' := 86) (L' := [some (.ref x0), some (.int x1), some (.int x2), some (.int x3), some (.int x4), some (.int x5), some (.int v16)]) (st' := [.int v16, .int x5, .int x1, .ref v17]) (sg := [(.iload_n 1, 0), (.iload 5, 0), (.iload 6, 0)]) (lSa_ok dd8) rfl ?_
      refine Y.callI (yC.S (As := [.int v16]) (st := [.int x5, .int x1, .ref v17]) hV.1 cb_X_tagOf lk_X_48 st_X_tagOf (lIa_ok dd9) rfl rfl (Nat.le_of_ble_eq_true rfl) (by decide)) (k_X_tagOf hV G15 v16) h (fun v20 G19 _ h => ?_)
      refine Y.blk (pc' := 91) (L' := [some (.ref x0), some (.int x1), some (.int x2), some (.int x3), some (.int x4), some (.int x5), some (.int v16)]) (st' := [.int v16, .int v20, .int x5, .int x1, .ref v17]) (sg := [(.iload 6, 0)]) (lSa_ok dd10) rfl ?_
      refine Y.callI (yC.S (As := [.int v16]) (st := [.int v20, .int x5, .int x1, .ref v17]) hV.1 cb_X_keyOf lk_X_97 st_X_keyOf (lIa_ok dd11) rfl rfl (Nat.le_of_ble_eq_true rfl) (by decide)) (k_X_keyOf hV G19 v16) h (fun v23 G22 _ h => ?_)
      refine Y.blk (pc' := 100) (L' := [some (.ref x0), some (.int x1), some (.int x2), some (.int x3), some (.int x4), some (.int x5), some (.int v16)]) (st' := [.int (nI 31), .int ((v23 * x2) + x3), .int v20, .int x5, .int x1, .ref v17]) (sg := [(.iload_n 2, 0), (.imul, 0), (.iload_n 3, 0), (.iadd, 0), (.bipush 31, nI 31)]) (lSa_ok dd12) rfl ?_
      refine Y.irem (lIa_ok dd13) h (fun v24 h => ?_)
      refine Y.callI (yC.S (As := [.int v20, .int v24]) (st := [.int x5, .int x1, .ref v17]) hV.1 cb_X_thingOf lk_X_100 st_X_thingOf (lIa_ok dd14) rfl rfl (Nat.le_of_ble_eq_true rfl) (by decide)) (k_X_thingOf hV G22 v20 v24) h (fun v27 G26 _ h => ?_)
      obtain ⟨_, o29, e28, m30, h⟩ := gOb_inv h
      refine Y.callN (yC.Vi (b := v17) (As := [.int x1, .int x5, .int v27]) (st := []) (r := ("Partlister$Lists", T_I, 7)) hV.1 cb_I_write lk_X_65 in_I_write rfl se_I_write (lIa_ok dd15) rfl rfl (Nat.le_of_ble_eq_true rfl) (by decide) e28 m30) (k_I_write hV G26 v17 x1 x5 v27) h (fun G31 _ h => ?_)
      refine Y.blk (pc' := 110) (L' := [some (.ref x0), some (.int x1), some (.int x2), some (.int x3), some (.int x4), some (.int (x5 + (nI 1))), some (.int v16)]) (st' := []) (sg := [(.iinc 5 1, nI 1)]) (lSa_ok dd16) rfl ?_
      refine Y.goto (off := -52) (tgt := 58) (lIa_ok dd17) (by decide) ?_
      refine Y.less (L' := [some (.ref x0), some (.int x1), some (.int x2), some (.int x3), some (.int x4), some (.int (x5 + (nI 1))), none]) (zLe_some (zLe_some (zLe_some (zLe_some (zLe_some (zLe_some (zLe_none (zLe_nil)))))))) ?_
      exact ih G31 x0 x1 x2 x3 x4 (x5 + (nI 1)) h
theorem k_X_replaceAll {l : Launch} {D : va_G} {B : Nat} {O : State → Heap → Prop} (hV : zG l D B O) (G : gH) (a0 : Nat) (a1 : Int32) (a2 : Int32) (a3 : Int32) : gMet (zVm l D B O) m_X_replaceAll 7 [.ref a0, .int a1, .int a2, .int a3] G (f_X_replaceAll G a0 a1 a2 a3) := by
  have hdd : lSa m_X_replaceAll 0 [(.aload_n 0, 0), (.iload_n 1, 0)] = true ∧ lIa m_X_replaceAll 2 (.invokevirtual 23) 3 = true ∧ lSa m_X_replaceAll 5 [(.iload_n 2, 0)] = true ∧ lIa m_X_replaceAll 6 (.ifCond .lt 9) 3 = true ∧ lIa m_X_replaceAll 15 (.new 81) 3 = true ∧ lIa m_X_replaceAll 18 (.dup) 1 = true ∧ lIa m_X_replaceAll 19 (.ldc 90) 2 = true ∧ lIa m_X_replaceAll 21 (.invokespecial 85) 3 = true ∧ lIa m_X_replaceAll 24 (.athrow) 1 = true ∧ lSa m_X_replaceAll 9 [(.iload_n 2, 0), (.bipush 31, nI 31)] = true ∧ lIa m_X_replaceAll 12 (.if_icmp .lt 13) 3 = true ∧ lSa m_X_replaceAll 25 [(.iload_n 3, 0)] = true ∧ lIa m_X_replaceAll 26 (.ifCond .lt 9) 3 = true ∧ lIa m_X_replaceAll 35 (.new 81) 3 = true ∧ lIa m_X_replaceAll 38 (.dup) 1 = true ∧ lIa m_X_replaceAll 39 (.ldc 92) 2 = true ∧ lIa m_X_replaceAll 41 (.invokespecial 85) 3 = true ∧ lIa m_X_replaceAll 44 (.athrow) 1 = true ∧ lSa m_X_replaceAll 29 [(.iload_n 3, 0), (.bipush 31, nI 31)] = true ∧ lIa m_X_replaceAll 32 (.if_icmp .lt 13) 3 = true ∧ lSa m_X_replaceAll 45 [(.aload_n 0, 0)] = true ∧ lIa m_X_replaceAll 46 (.getfield 10) 3 = true ∧ lSa m_X_replaceAll 49 [(.iload_n 1, 0)] = true ∧ lIa m_X_replaceAll 50 (.invokevirtual 34) 3 = true ∧ lSa m_X_replaceAll 53 [(.istore 4, 0), (.iconst 0, nI 0), (.istore 5, 0)] = true ∧ lSa m_X_replaceAll 113 [(.aload_n 0, 0), (.iload_n 1, 0)] = true ∧ lIa m_X_replaceAll 115 (.invokevirtual 103) 3 = true ∧ lSa m_X_replaceAll 118 [(.pop, 0), (.iload 4, 0)] = true ∧ lIa m_X_replaceAll 121 (.ireturn) 1 = true := by decide +kernel
  refine lA8 hdd (fun dd0 dd1 dd2 dd3 dd4 dd5 dd6 dd7 hdd => ?_)
  refine lA8 hdd (fun dd8 dd9 dd10 dd11 dd12 dd13 dd14 dd15 hdd => ?_)
  refine lA8 hdd (fun dd16 dd17 dd18 dd19 dd20 dd21 dd22 dd23 hdd => ?_)
  obtain ⟨dd24, dd25, dd26, dd27, dd28⟩ := hdd
  refine gMet.of (by decide +kernel) (Nat.le_of_ble_eq_true rfl) [some (.ref a0), some (.int a1), some (.int a2), some (.int a3), none, none, none] (fun ls h => zEn_ok (n := 7) h) ?_
  intro o Gf h
  unfold f_X_replaceAll at h
  refine Y.blk (pc' := 2) (L' := [some (.ref a0), some (.int a1), some (.int a2), some (.int a3), none, none, none]) (st' := [.int a1, .ref a0]) (sg := [(.aload_n 0, 0), (.iload_n 1, 0)]) (lSa_ok dd0) rfl ?_
  obtain ⟨_, o2, e1, m3, h⟩ := gOb_inv h
  refine Y.callN (yC.Vi (b := a0) (As := [.int a1]) (st := []) (r := ("Partlister", T_X, 5)) hV.1 cb_X_needList lk_X_23 in_X_needList rfl se_X_needList (lIa_ok dd1) rfl rfl (Nat.le_of_ble_eq_true rfl) (by decide) e1 m3) (k_X_needList hV G a0 a1) h (fun G4 _ h => ?_)
  refine Y.blk (pc' := 6) (L' := [some (.ref a0), some (.int a1), some (.int a2), some (.int a3), none, none, none]) (st' := [.int a2]) (sg := [(.iload_n 2, 0)]) (lSa_ok dd2) rfl ?_
  refine Y.if_lt (off := 9) (tgt := 15) (lIa_ok dd3) (by decide) h (fun c45 h => ?_) (fun c45 h => ?_)
  · exact Y.throwS (is := 90) (text := "times is not 0 to 30") (names := zNm) hV.1 (hV.2 _ _ _ (by decide +kernel)) (by decide +kernel) (by decide +kernel) ck_X_81 ini_IAE tw_X_85 tg_X_85 (by decide) (by decide) rfl (Nat.le_of_ble_eq_true rfl) (lIa_ok dd4) (lIa_ok dd5) (lIa_ok dd6) (lIa_ok dd7) (lIa_ok dd8) h
  · refine Y.blk (pc' := 12) (L' := [some (.ref a0), some (.int a1), some (.int a2), some (.int a3), none, none, none]) (st' := [.int (nI 31), .int a2]) (sg := [(.iload_n 2, 0), (.bipush 31, nI 31)]) (lSa_ok dd9) rfl ?_
    refine Y.ic_lt (off := 13) (tgt := 25) (lIa_ok dd10) (by decide) h (fun c44 h => ?_) (fun c44 h => ?_)
    · refine Y.blk (pc' := 26) (L' := [some (.ref a0), some (.int a1), some (.int a2), some (.int a3), none, none, none]) (st' := [.int a3]) (sg := [(.iload_n 3, 0)]) (lSa_ok dd11) rfl ?_
      refine Y.if_lt (off := 9) (tgt := 35) (lIa_ok dd12) (by decide) h (fun c43 h => ?_) (fun c43 h => ?_)
      · exact Y.throwS (is := 92) (text := "more is not 0 to 30") (names := zNm) hV.1 (hV.2 _ _ _ (by decide +kernel)) (by decide +kernel) (by decide +kernel) ck_X_81 ini_IAE tw_X_85 tg_X_85 (by decide) (by decide) rfl (Nat.le_of_ble_eq_true rfl) (lIa_ok dd13) (lIa_ok dd14) (lIa_ok dd15) (lIa_ok dd16) (lIa_ok dd17) h
      · refine Y.blk (pc' := 32) (L' := [some (.ref a0), some (.int a1), some (.int a2), some (.int a3), none, none, none]) (st' := [.int (nI 31), .int a3]) (sg := [(.iload_n 3, 0), (.bipush 31, nI 31)]) (lSa_ok dd18) rfl ?_
        refine Y.ic_lt (off := 13) (tgt := 45) (lIa_ok dd19) (by decide) h (fun c42 h => ?_) (fun c42 h => ?_)
        · refine Y.blk (pc' := 46) (L' := [some (.ref a0), some (.int a1), some (.int a2), some (.int a3), none, none, none]) (st' := [.ref a0]) (sg := [(.aload_n 0, 0)]) (lSa_ok dd20) rfl ?_
          refine Y.getA fl_X_10 (lIa_ok dd21) h (fun v5 h => ?_)
          refine Y.blk (pc' := 50) (L' := [some (.ref a0), some (.int a1), some (.int a2), some (.int a3), none, none, none]) (st' := [.int a1, .ref v5]) (sg := [(.iload_n 1, 0)]) (lSa_ok dd22) rfl ?_
          obtain ⟨_, o7, e6, m8, h⟩ := gOb_inv h
          refine Y.callI (yC.Vi (b := v5) (As := [.int a1]) (st := []) (r := ("Partlister$Lists", T_I, 7)) hV.1 cb_I_lengthOf lk_X_34 in_I_lengthOf rfl se_I_lengthOf (lIa_ok dd23) rfl rfl (Nat.le_of_ble_eq_true rfl) (by decide) e6 m8) (k_I_lengthOf hV G4 v5 a1) h (fun v10 G9 _ h => ?_)
          refine Y.blk (pc' := 58) (L' := [some (.ref a0), some (.int a1), some (.int a2), some (.int a3), some (.int v10), some (.int (nI 0)), none]) (st' := []) (sg := [(.istore 4, 0), (.iconst 0, nI 0), (.istore 5, 0)]) (lSa_ok dd24) rfl ?_
          refine k_X_replaceAll_L58 hV _ ?_  zFu G9 a0 a1 a2 a3 v10 (nI 0) h
          · intro G36 x33 x34 x35 h
            refine Y.blk (pc' := 115) (L' := [some (.ref x33), some (.int x34), none, none, some (.int x35), none, none]) (st' := [.int x34, .ref x33]) (sg := [(.aload_n 0, 0), (.iload_n 1, 0)]) (lSa_ok dd25) rfl ?_
            obtain ⟨_, o38, e37, m39, h⟩ := gOb_inv h
            refine Y.callI (yC.Vi (b := x33) (As := [.int x34]) (st := []) (r := ("Partlister", T_X, 5)) hV.1 cb_X_endAround lk_X_103 in_X_endAround rfl se_X_endAround (lIa_ok dd26) rfl rfl (Nat.le_of_ble_eq_true rfl) (by decide) e37 m39) (k_X_endAround hV G36 x33 x34) h (fun v41 G40 _ h => ?_)
            refine Y.blk (pc' := 121) (L' := [some (.ref x33), some (.int x34), none, none, some (.int x35), none, none]) (st' := [.int x35]) (sg := [(.pop, 0), (.iload 4, 0)]) (lSa_ok dd27) rfl ?_
            exact Y.iret rfl (lIa_ok dd28) h
        · exact Y.throwS (is := 92) (text := "more is not 0 to 30") (names := zNm) hV.1 (hV.2 _ _ _ (by decide +kernel)) (by decide +kernel) (by decide +kernel) ck_X_81 ini_IAE tw_X_85 tg_X_85 (by decide) (by decide) rfl (Nat.le_of_ble_eq_true rfl) (lIa_ok dd13) (lIa_ok dd14) (lIa_ok dd15) (lIa_ok dd16) (lIa_ok dd17) h
    · exact Y.throwS (is := 90) (text := "times is not 0 to 30") (names := zNm) hV.1 (hV.2 _ _ _ (by decide +kernel)) (by decide +kernel) (by decide +kernel) ck_X_81 ini_IAE tw_X_85 tg_X_85 (by decide) (by decide) rfl (Nat.le_of_ble_eq_true rfl) (lIa_ok dd4) (lIa_ok dd5) (lIa_ok dd6) (lIa_ok dd7) (lIa_ok dd8) h

def f_X_retainAll (G : gH) (a0 : Nat) (a1 : Int32) (a2 : Int32) : gR :=
  gOb G a0 3 fun o2 => bV (f_X_needList G a0 a1) fun G4 => gOb G4 a0 3 fun o6 => bV (f_X_needList G4 a0 a2) fun G8 => gOb G8 a0 3 fun o10 => bV (f_X_needOtherRow G8 a0 a1 a2) fun G12 => gFA G12 a0 3 0 fun v13 => gOb G12 v13 1 fun o15 => bI (f_I_keysOf G12 v13 a2) fun v18 G17 => gOb G17 a0 3 fun o20 => bI (f_X_takeOutAll G17 a0 a1 (v18 ^^^ (-1))) fun v23 G22 => rI v23 G22
theorem k_X_retainAll {l : Launch} {D : va_G} {B : Nat} {O : State → Heap → Prop} (hV : zG l D B O) (G : gH) (a0 : Nat) (a1 : Int32) (a2 : Int32) : gMet (zVm l D B O) m_X_retainAll 7 [.ref a0, .int a1, .int a2] G (f_X_retainAll G a0 a1 a2) := by
  have hdd : lSa m_X_retainAll 0 [(.aload_n 0, 0), (.iload_n 1, 0)] = true ∧ lIa m_X_retainAll 2 (.invokevirtual 23) 3 = true ∧ lSa m_X_retainAll 5 [(.aload_n 0, 0), (.iload_n 2, 0)] = true ∧ lIa m_X_retainAll 7 (.invokevirtual 23) 3 = true ∧ lSa m_X_retainAll 10 [(.aload_n 0, 0), (.iload_n 1, 0), (.iload_n 2, 0)] = true ∧ lIa m_X_retainAll 13 (.invokevirtual 51) 3 = true ∧ lSa m_X_retainAll 16 [(.aload_n 0, 0), (.iload_n 1, 0), (.aload_n 0, 0)] = true ∧ lIa m_X_retainAll 19 (.getfield 10) 3 = true ∧ lSa m_X_retainAll 22 [(.iload_n 2, 0)] = true ∧ lIa m_X_retainAll 23 (.invokevirtual 75) 3 = true ∧ lSa m_X_retainAll 26 [(.iconst (-1), -1), (.ixor, 0)] = true ∧ lIa m_X_retainAll 28 (.invokevirtual 78) 3 = true ∧ lIa m_X_retainAll 31 (.ireturn) 1 = true := by decide +kernel
  refine lA8 hdd (fun dd0 dd1 dd2 dd3 dd4 dd5 dd6 dd7 hdd => ?_)
  obtain ⟨dd8, dd9, dd10, dd11, dd12⟩ := hdd
  refine gMet.of (by decide +kernel) (Nat.le_of_ble_eq_true rfl) [some (.ref a0), some (.int a1), some (.int a2)] (fun ls h => zEn_ok (n := 3) h) ?_
  intro o Gf h
  unfold f_X_retainAll at h
  refine Y.blk (pc' := 2) (L' := [some (.ref a0), some (.int a1), some (.int a2)]) (st' := [.int a1, .ref a0]) (sg := [(.aload_n 0, 0), (.iload_n 1, 0)]) (lSa_ok dd0) rfl ?_
  obtain ⟨_, o2, e1, m3, h⟩ := gOb_inv h
  refine Y.callN (yC.Vi (b := a0) (As := [.int a1]) (st := []) (r := ("Partlister", T_X, 5)) hV.1 cb_X_needList lk_X_23 in_X_needList rfl se_X_needList (lIa_ok dd1) rfl rfl (Nat.le_of_ble_eq_true rfl) (by decide) e1 m3) (k_X_needList hV G a0 a1) h (fun G4 _ h => ?_)
  refine Y.blk (pc' := 7) (L' := [some (.ref a0), some (.int a1), some (.int a2)]) (st' := [.int a2, .ref a0]) (sg := [(.aload_n 0, 0), (.iload_n 2, 0)]) (lSa_ok dd2) rfl ?_
  obtain ⟨_, o6, e5, m7, h⟩ := gOb_inv h
  refine Y.callN (yC.Vi (b := a0) (As := [.int a2]) (st := []) (r := ("Partlister", T_X, 5)) hV.1 cb_X_needList lk_X_23 in_X_needList rfl se_X_needList (lIa_ok dd3) rfl rfl (Nat.le_of_ble_eq_true rfl) (by decide) e5 m7) (k_X_needList hV G4 a0 a2) h (fun G8 _ h => ?_)
  refine Y.blk (pc' := 13) (L' := [some (.ref a0), some (.int a1), some (.int a2)]) (st' := [.int a2, .int a1, .ref a0]) (sg := [(.aload_n 0, 0), (.iload_n 1, 0), (.iload_n 2, 0)]) (lSa_ok dd4) rfl ?_
  obtain ⟨_, o10, e9, m11, h⟩ := gOb_inv h
  refine Y.callN (yC.Vi (b := a0) (As := [.int a1, .int a2]) (st := []) (r := ("Partlister", T_X, 5)) hV.1 cb_X_needOtherRow lk_X_51 in_X_needOtherRow rfl se_X_needOtherRow (lIa_ok dd5) rfl rfl (Nat.le_of_ble_eq_true rfl) (by decide) e9 m11) (k_X_needOtherRow hV G8 a0 a1 a2) h (fun G12 _ h => ?_)
  refine Y.blk (pc' := 19) (L' := [some (.ref a0), some (.int a1), some (.int a2)]) (st' := [.ref a0, .int a1, .ref a0]) (sg := [(.aload_n 0, 0), (.iload_n 1, 0), (.aload_n 0, 0)]) (lSa_ok dd6) rfl ?_
  refine Y.getA fl_X_10 (lIa_ok dd7) h (fun v13 h => ?_)
  refine Y.blk (pc' := 23) (L' := [some (.ref a0), some (.int a1), some (.int a2)]) (st' := [.int a2, .ref v13, .int a1, .ref a0]) (sg := [(.iload_n 2, 0)]) (lSa_ok dd8) rfl ?_
  obtain ⟨_, o15, e14, m16, h⟩ := gOb_inv h
  refine Y.callI (yC.Vi (b := v13) (As := [.int a2]) (st := [.int a1, .ref a0]) (r := ("Partlister$Lists", T_I, 7)) hV.1 cb_I_keysOf lk_X_75 in_I_keysOf rfl se_I_keysOf (lIa_ok dd9) rfl rfl (Nat.le_of_ble_eq_true rfl) (by decide) e14 m16) (k_I_keysOf hV G12 v13 a2) h (fun v18 G17 _ h => ?_)
  refine Y.blk (pc' := 28) (L' := [some (.ref a0), some (.int a1), some (.int a2)]) (st' := [.int (v18 ^^^ (-1)), .int a1, .ref a0]) (sg := [(.iconst (-1), -1), (.ixor, 0)]) (lSa_ok dd10) rfl ?_
  obtain ⟨_, o20, e19, m21, h⟩ := gOb_inv h
  refine Y.callI (yC.Vi (b := a0) (As := [.int a1, .int (v18 ^^^ (-1))]) (st := []) (r := ("Partlister", T_X, 5)) hV.1 cb_X_takeOutAll lk_X_78 in_X_takeOutAll rfl se_X_takeOutAll (lIa_ok dd11) rfl rfl (Nat.le_of_ble_eq_true rfl) (by decide) e19 m21) (k_X_takeOutAll hV G17 a0 a1 (v18 ^^^ (-1))) h (fun v23 G22 _ h => ?_)
  exact Y.iret rfl (lIa_ok dd12) h

def f_X_run (G : gH) (a0 : Nat) (a1 : Int32) (a2 : Int32) : gR :=
  gOb G a0 3 fun o2 => bV (f_X_needCursor G a0 a1) fun G4 => gFA G4 a0 3 1 fun v5 => gOb G4 v5 0 fun o7 => bI (f_U_isStale G4 v5 a1) fun v10 G9 => if v10 = 0 then (gFA G9 a0 3 1 fun v11 => gOb G9 v11 0 fun o13 => bI (f_U_nextOf G9 v11 a1) fun v16 G15 => gFA G15 a0 3 0 fun v17 => gFA G15 a0 3 1 fun v18 => gOb G15 v18 0 fun o20 => bI (f_U_listOf G15 v18 a1) fun v23 G22 => gOb G22 v17 1 fun o25 => bI (f_I_lengthOf G22 v17 v23) fun v28 G27 => if a2 = 0 then (if (v28 - v16) ≤ 0 then (if (v28 - v16) ≤ 0 then rI (v28 - v16) G27
        else gFA G27 a0 3 1 fun v29 => gOb G27 v29 0 fun o31 => bV (f_U_stand G27 v29 a1 v28 (v28 - (nI 1))) fun G33 => rI (v28 - v16) G33)
      else if a2 = 0 then (if (v28 - v16) ≤ 0 then rI (v28 - v16) G27
          else gFA G27 a0 3 1 fun v35 => gOb G27 v35 0 fun o37 => bV (f_U_stand G27 v35 a1 v28 (v28 - (nI 1))) fun G39 => rI (v28 - v16) G39)
        else gFA G27 a0 3 1 fun v41 => gOb G27 v41 0 fun o43 => bV (f_U_stand G27 v41 a1 (nI 0) (nI 0)) fun G45 => rI (v28 - v16) G45)
    else if v16 ≤ 0 then (if v16 ≤ 0 then rI v16 G27
        else gFA G27 a0 3 1 fun v48 => gOb G27 v48 0 fun o50 => bV (f_U_stand G27 v48 a1 v28 (v28 - (nI 1))) fun G52 => rI v16 G52)
      else if a2 = 0 then (if v16 ≤ 0 then rI v16 G27
          else gFA G27 a0 3 1 fun v54 => gOb G27 v54 0 fun o56 => bV (f_U_stand G27 v54 a1 v28 (v28 - (nI 1))) fun G58 => rI v16 G58)
        else gFA G27 a0 3 1 fun v60 => gOb G27 v60 0 fun o62 => bV (f_U_stand G27 v60 a1 (nI 0) (nI 0)) fun G64 => rI v16 G64)
  else gOb G9 a0 3 fun o69 => bI (f_X_failWith G9 a0 (-9)) fun v72 G71 => rI v72 G71
theorem k_X_run {l : Launch} {D : va_G} {B : Nat} {O : State → Heap → Prop} (hV : zG l D B O) (G : gH) (a0 : Nat) (a1 : Int32) (a2 : Int32) : gMet (zVm l D B O) m_X_run 7 [.ref a0, .int a1, .int a2] G (f_X_run G a0 a1 a2) := by
  have hdd : lSa m_X_run 0 [(.aload_n 0, 0), (.iload_n 1, 0)] = true ∧ lIa m_X_run 2 (.invokevirtual 167) 3 = true ∧ lSa m_X_run 5 [(.aload_n 0, 0)] = true ∧ lIa m_X_run 6 (.getfield 19) 3 = true ∧ lSa m_X_run 9 [(.iload_n 1, 0)] = true ∧ lIa m_X_run 10 (.invokevirtual 170) 3 = true ∧ lIa m_X_run 13 (.ifCond .eq 10) 3 = true ∧ lSa m_X_run 23 [(.aload_n 0, 0)] = true ∧ lIa m_X_run 24 (.getfield 19) 3 = true ∧ lSa m_X_run 27 [(.iload_n 1, 0)] = true ∧ lIa m_X_run 28 (.invokevirtual 176) 3 = true ∧ lSa m_X_run 31 [(.istore_n 3, 0), (.aload_n 0, 0)] = true ∧ lIa m_X_run 33 (.getfield 10) 3 = true ∧ lSa m_X_run 36 [(.aload_n 0, 0)] = true ∧ lIa m_X_run 37 (.getfield 19) 3 = true ∧ lSa m_X_run 40 [(.iload_n 1, 0)] = true ∧ lIa m_X_run 41 (.invokevirtual 152) 3 = true ∧ lIa m_X_run 44 (.invokevirtual 34) 3 = true ∧ lSa m_X_run 47 [(.istore 4, 0), (.iload_n 2, 0)] = true ∧ lIa m_X_run 50 (.ifCond .eq 7) 3 = true ∧ lSa m_X_run 57 [(.iload 4, 0), (.iload_n 3, 0), (.isub, 0), (.istore 5, 0), (.iload 5, 0)] = true ∧ lIa m_X_run 65 (.ifCond .le 20) 3 = true ∧ lSa m_X_run 85 [(.iload 5, 0)] = true ∧ lIa m_X_run 87 (.ifCond .le 17) 3 = true ∧ lSa m_X_run 104 [(.iload 5, 0)] = true ∧ lIa m_X_run 106 (.ireturn) 1 = true ∧ lSa m_X_run 90 [(.aload_n 0, 0)] = true ∧ lIa m_X_run 91 (.getfield 19) 3 = true ∧ lSa m_X_run 94 [(.iload_n 1, 0), (.iload 4, 0), (.iload 4, 0), (.iconst 1, nI 1), (.isub, 0)] = true ∧ lIa m_X_run 101 (.invokevirtual 179) 3 = true ∧ lSa m_X_run 68 [(.iload_n 2, 0)] = true ∧ lIa m_X_run 69 (.ifCond .eq 16) 3 = true ∧ lSa m_X_run 72 [(.aload_n 0, 0)] = true ∧ lIa m_X_run 73 (.getfield 19) 3 = true ∧ lSa m_X_run 76 [(.iload_n 1, 0), (.iconst 0, nI 0), (.iconst 0, nI 0)] = true ∧ lIa m_X_run 79 (.invokevirtual 179) 3 = true ∧ lIa m_X_run 82 (.goto 22) 3 = true ∧ lSa m_X_run 53 [(.iload_n 3, 0)] = true ∧ lIa m_X_run 54 (.goto 7) 3 = true ∧ lSa m_X_run 61 [(.istore 5, 0), (.iload 5, 0)] = true ∧ lSa m_X_run 16 [(.aload_n 0, 0), (.bipush (-9), -9)] = true ∧ lIa m_X_run 19 (.invokevirtual 173) 3 = true ∧ lIa m_X_run 22 (.ireturn) 1 = true := by decide +kernel
  refine lA8 hdd (fun dd0 dd1 dd2 dd3 dd4 dd5 dd6 dd7 hdd => ?_)
  refine lA8 hdd (fun dd8 dd9 dd10 dd11 dd12 dd13 dd14 dd15 hdd => ?_)
  refine lA8 hdd (fun dd16 dd17 dd18 dd19 dd20 dd21 dd22 dd23 hdd => ?_)
  refine lA8 hdd (fun dd24 dd25 dd26 dd27 dd28 dd29 dd30 dd31 hdd => ?_)
  refine lA8 hdd (fun dd32 dd33 dd34 dd35 dd36 dd37 dd38 dd39 hdd => ?_)
  obtain ⟨dd40, dd41, dd42⟩ := hdd
  refine gMet.of (by decide +kernel) (Nat.le_of_ble_eq_true rfl) [some (.ref a0), some (.int a1), some (.int a2), none, none, none] (fun ls h => zEn_ok (n := 6) h) ?_
  intro o Gf h
  unfold f_X_run at h
  refine Y.blk (pc' := 2) (L' := [some (.ref a0), some (.int a1), some (.int a2), none, none, none]) (st' := [.int a1, .ref a0]) (sg := [(.aload_n 0, 0), (.iload_n 1, 0)]) (lSa_ok dd0) rfl ?_
  obtain ⟨_, o2, e1, m3, h⟩ := gOb_inv h
  refine Y.callN (yC.Vi (b := a0) (As := [.int a1]) (st := []) (r := ("Partlister", T_X, 5)) hV.1 cb_X_needCursor lk_X_167 in_X_needCursor rfl se_X_needCursor (lIa_ok dd1) rfl rfl (Nat.le_of_ble_eq_true rfl) (by decide) e1 m3) (k_X_needCursor hV G a0 a1) h (fun G4 _ h => ?_)
  refine Y.blk (pc' := 6) (L' := [some (.ref a0), some (.int a1), some (.int a2), none, none, none]) (st' := [.ref a0]) (sg := [(.aload_n 0, 0)]) (lSa_ok dd2) rfl ?_
  refine Y.getA fl_X_19 (lIa_ok dd3) h (fun v5 h => ?_)
  refine Y.blk (pc' := 10) (L' := [some (.ref a0), some (.int a1), some (.int a2), none, none, none]) (st' := [.int a1, .ref v5]) (sg := [(.iload_n 1, 0)]) (lSa_ok dd4) rfl ?_
  obtain ⟨_, o7, e6, m8, h⟩ := gOb_inv h
  refine Y.callI (yC.Vi (b := v5) (As := [.int a1]) (st := []) (r := ("Partlister$Cursors", T_U, 5)) hV.1 cb_U_isStale lk_X_170 in_U_isStale rfl se_U_isStale (lIa_ok dd5) rfl rfl (Nat.le_of_ble_eq_true rfl) (by decide) e6 m8) (k_U_isStale hV G4 v5 a1) h (fun v10 G9 _ h => ?_)
  refine Y.if_eq (off := 10) (tgt := 23) (lIa_ok dd6) (by decide) h (fun c73 h => ?_) (fun c73 h => ?_)
  · refine Y.blk (pc' := 24) (L' := [some (.ref a0), some (.int a1), some (.int a2), none, none, none]) (st' := [.ref a0]) (sg := [(.aload_n 0, 0)]) (lSa_ok dd7) rfl ?_
    refine Y.getA fl_X_19 (lIa_ok dd8) h (fun v11 h => ?_)
    refine Y.blk (pc' := 28) (L' := [some (.ref a0), some (.int a1), some (.int a2), none, none, none]) (st' := [.int a1, .ref v11]) (sg := [(.iload_n 1, 0)]) (lSa_ok dd9) rfl ?_
    obtain ⟨_, o13, e12, m14, h⟩ := gOb_inv h
    refine Y.callI (yC.Vi (b := v11) (As := [.int a1]) (st := []) (r := ("Partlister$Cursors", T_U, 5)) hV.1 cb_U_nextOf lk_X_176 in_U_nextOf rfl se_U_nextOf (lIa_ok dd10) rfl rfl (Nat.le_of_ble_eq_true rfl) (by decide) e12 m14) (k_U_nextOf hV G9 v11 a1) h (fun v16 G15 _ h => ?_)
    refine Y.blk (pc' := 33) (L' := [some (.ref a0), some (.int a1), some (.int a2), some (.int v16), none, none]) (st' := [.ref a0]) (sg := [(.istore_n 3, 0), (.aload_n 0, 0)]) (lSa_ok dd11) rfl ?_
    refine Y.getA fl_X_10 (lIa_ok dd12) h (fun v17 h => ?_)
    refine Y.blk (pc' := 37) (L' := [some (.ref a0), some (.int a1), some (.int a2), some (.int v16), none, none]) (st' := [.ref a0, .ref v17]) (sg := [(.aload_n 0, 0)]) (lSa_ok dd13) rfl ?_
    refine Y.getA fl_X_19 (lIa_ok dd14) h (fun v18 h => ?_)
    refine Y.blk (pc' := 41) (L' := [some (.ref a0), some (.int a1), some (.int a2), some (.int v16), none, none]) (st' := [.int a1, .ref v18, .ref v17]) (sg := [(.iload_n 1, 0)]) (lSa_ok dd15) rfl ?_
    obtain ⟨_, o20, e19, m21, h⟩ := gOb_inv h
    refine Y.callI (yC.Vi (b := v18) (As := [.int a1]) (st := [.ref v17]) (r := ("Partlister$Cursors", T_U, 5)) hV.1 cb_U_listOf lk_X_152 in_U_listOf rfl se_U_listOf (lIa_ok dd16) rfl rfl (Nat.le_of_ble_eq_true rfl) (by decide) e19 m21) (k_U_listOf hV G15 v18 a1) h (fun v23 G22 _ h => ?_)
    obtain ⟨_, o25, e24, m26, h⟩ := gOb_inv h
    refine Y.callI (yC.Vi (b := v17) (As := [.int v23]) (st := []) (r := ("Partlister$Lists", T_I, 7)) hV.1 cb_I_lengthOf lk_X_34 in_I_lengthOf rfl se_I_lengthOf (lIa_ok dd17) rfl rfl (Nat.le_of_ble_eq_true rfl) (by decide) e24 m26) (k_I_lengthOf hV G22 v17 v23) h (fun v28 G27 _ h => ?_)
    refine Y.blk (pc' := 50) (L' := [some (.ref a0), some (.int a1), some (.int a2), some (.int v16), some (.int v28), none]) (st' := [.int a2]) (sg := [(.istore 4, 0), (.iload_n 2, 0)]) (lSa_ok dd18) rfl ?_
    refine Y.if_eq (off := 7) (tgt := 57) (lIa_ok dd19) (by decide) h (fun c67 h => ?_) (fun c67 h => ?_)
    · refine Y.blk (pc' := 65) (L' := [some (.ref a0), some (.int a1), some (.int a2), some (.int v16), some (.int v28), some (.int (v28 - v16))]) (st' := [.int (v28 - v16)]) (sg := [(.iload 4, 0), (.iload_n 3, 0), (.isub, 0), (.istore 5, 0), (.iload 5, 0)]) (lSa_ok dd20) rfl ?_
      refine Y.if_le (off := 20) (tgt := 85) (lIa_ok dd21) (by decide) h (fun c47 h => ?_) (fun c47 h => ?_)
      · refine Y.blk (pc' := 87) (L' := [some (.ref a0), some (.int a1), some (.int a2), some (.int v16), some (.int v28), some (.int (v28 - v16))]) (st' := [.int (v28 - v16)]) (sg := [(.iload 5, 0)]) (lSa_ok dd22) rfl ?_
        refine Y.if_le (off := 17) (tgt := 104) (lIa_ok dd23) (by decide) h (fun c34 h => ?_) (fun c34 h => ?_)
        · refine Y.blk (pc' := 106) (L' := [some (.ref a0), some (.int a1), some (.int a2), some (.int v16), some (.int v28), some (.int (v28 - v16))]) (st' := [.int (v28 - v16)]) (sg := [(.iload 5, 0)]) (lSa_ok dd24) rfl ?_
          exact Y.iret rfl (lIa_ok dd25) h
        · refine Y.blk (pc' := 91) (L' := [some (.ref a0), some (.int a1), some (.int a2), some (.int v16), some (.int v28), some (.int (v28 - v16))]) (st' := [.ref a0]) (sg := [(.aload_n 0, 0)]) (lSa_ok dd26) rfl ?_
          refine Y.getA fl_X_19 (lIa_ok dd27) h (fun v29 h => ?_)
          refine Y.blk (pc' := 101) (L' := [some (.ref a0), some (.int a1), some (.int a2), some (.int v16), some (.int v28), some (.int (v28 - v16))]) (st' := [.int (v28 - (nI 1)), .int v28, .int a1, .ref v29]) (sg := [(.iload_n 1, 0), (.iload 4, 0), (.iload 4, 0), (.iconst 1, nI 1), (.isub, 0)]) (lSa_ok dd28) rfl ?_
          obtain ⟨_, o31, e30, m32, h⟩ := gOb_inv h
          refine Y.callN (yC.Vi (b := v29) (As := [.int a1, .int v28, .int (v28 - (nI 1))]) (st := []) (r := ("Partlister$Cursors", T_U, 5)) hV.1 cb_U_stand lk_X_179 in_U_stand rfl se_U_stand (lIa_ok dd29) rfl rfl (Nat.le_of_ble_eq_true rfl) (by decide) e30 m32) (k_U_stand hV G27 v29 a1 v28 (v28 - (nI 1))) h (fun G33 _ h => ?_)
          refine Y.blk (pc' := 106) (L' := [some (.ref a0), some (.int a1), some (.int a2), some (.int v16), some (.int v28), some (.int (v28 - v16))]) (st' := [.int (v28 - v16)]) (sg := [(.iload 5, 0)]) (lSa_ok dd24) rfl ?_
          exact Y.iret rfl (lIa_ok dd25) h
      · refine Y.blk (pc' := 69) (L' := [some (.ref a0), some (.int a1), some (.int a2), some (.int v16), some (.int v28), some (.int (v28 - v16))]) (st' := [.int a2]) (sg := [(.iload_n 2, 0)]) (lSa_ok dd30) rfl ?_
        refine Y.if_eq (off := 16) (tgt := 85) (lIa_ok dd31) (by decide) h (fun c46 h => ?_) (fun c46 h => ?_)
        · refine Y.blk (pc' := 87) (L' := [some (.ref a0), some (.int a1), some (.int a2), some (.int v16), some (.int v28), some (.int (v28 - v16))]) (st' := [.int (v28 - v16)]) (sg := [(.iload 5, 0)]) (lSa_ok dd22) rfl ?_
          refine Y.if_le (off := 17) (tgt := 104) (lIa_ok dd23) (by decide) h (fun c40 h => ?_) (fun c40 h => ?_)
          · refine Y.blk (pc' := 106) (L' := [some (.ref a0), some (.int a1), some (.int a2), some (.int v16), some (.int v28), some (.int (v28 - v16))]) (st' := [.int (v28 - v16)]) (sg := [(.iload 5, 0)]) (lSa_ok dd24) rfl ?_
            exact Y.iret rfl (lIa_ok dd25) h
          · refine Y.blk (pc' := 91) (L' := [some (.ref a0), some (.int a1), some (.int a2), some (.int v16), some (.int v28), some (.int (v28 - v16))]) (st' := [.ref a0]) (sg := [(.aload_n 0, 0)]) (lSa_ok dd26) rfl ?_
            refine Y.getA fl_X_19 (lIa_ok dd27) h (fun v35 h => ?_)
            refine Y.blk (pc' := 101) (L' := [some (.ref a0), some (.int a1), some (.int a2), some (.int v16), some (.int v28), some (.int (v28 - v16))]) (st' := [.int (v28 - (nI 1)), .int v28, .int a1, .ref v35]) (sg := [(.iload_n 1, 0), (.iload 4, 0), (.iload 4, 0), (.iconst 1, nI 1), (.isub, 0)]) (lSa_ok dd28) rfl ?_
            obtain ⟨_, o37, e36, m38, h⟩ := gOb_inv h
            refine Y.callN (yC.Vi (b := v35) (As := [.int a1, .int v28, .int (v28 - (nI 1))]) (st := []) (r := ("Partlister$Cursors", T_U, 5)) hV.1 cb_U_stand lk_X_179 in_U_stand rfl se_U_stand (lIa_ok dd29) rfl rfl (Nat.le_of_ble_eq_true rfl) (by decide) e36 m38) (k_U_stand hV G27 v35 a1 v28 (v28 - (nI 1))) h (fun G39 _ h => ?_)
            refine Y.blk (pc' := 106) (L' := [some (.ref a0), some (.int a1), some (.int a2), some (.int v16), some (.int v28), some (.int (v28 - v16))]) (st' := [.int (v28 - v16)]) (sg := [(.iload 5, 0)]) (lSa_ok dd24) rfl ?_
            exact Y.iret rfl (lIa_ok dd25) h
        · refine Y.blk (pc' := 73) (L' := [some (.ref a0), some (.int a1), some (.int a2), some (.int v16), some (.int v28), some (.int (v28 - v16))]) (st' := [.ref a0]) (sg := [(.aload_n 0, 0)]) (lSa_ok dd32) rfl ?_
          refine Y.getA fl_X_19 (lIa_ok dd33) h (fun v41 h => ?_)
          refine Y.blk (pc' := 79) (L' := [some (.ref a0), some (.int a1), some (.int a2), some (.int v16), some (.int v28), some (.int (v28 - v16))]) (st' := [.int (nI 0), .int (nI 0), .int a1, .ref v41]) (sg := [(.iload_n 1, 0), (.iconst 0, nI 0), (.iconst 0, nI 0)]) (lSa_ok dd34) rfl ?_
          obtain ⟨_, o43, e42, m44, h⟩ := gOb_inv h
          refine Y.callN (yC.Vi (b := v41) (As := [.int a1, .int (nI 0), .int (nI 0)]) (st := []) (r := ("Partlister$Cursors", T_U, 5)) hV.1 cb_U_stand lk_X_179 in_U_stand rfl se_U_stand (lIa_ok dd35) rfl rfl (Nat.le_of_ble_eq_true rfl) (by decide) e42 m44) (k_U_stand hV G27 v41 a1 (nI 0) (nI 0)) h (fun G45 _ h => ?_)
          refine Y.goto (off := 22) (tgt := 104) (lIa_ok dd36) (by decide) ?_
          refine Y.blk (pc' := 106) (L' := [some (.ref a0), some (.int a1), some (.int a2), some (.int v16), some (.int v28), some (.int (v28 - v16))]) (st' := [.int (v28 - v16)]) (sg := [(.iload 5, 0)]) (lSa_ok dd24) rfl ?_
          exact Y.iret rfl (lIa_ok dd25) h
    · refine Y.blk (pc' := 54) (L' := [some (.ref a0), some (.int a1), some (.int a2), some (.int v16), some (.int v28), none]) (st' := [.int v16]) (sg := [(.iload_n 3, 0)]) (lSa_ok dd37) rfl ?_
      refine Y.goto (off := 7) (tgt := 61) (lIa_ok dd38) (by decide) ?_
      refine Y.blk (pc' := 65) (L' := [some (.ref a0), some (.int a1), some (.int a2), some (.int v16), some (.int v28), some (.int v16)]) (st' := [.int v16]) (sg := [(.istore 5, 0), (.iload 5, 0)]) (lSa_ok dd39) rfl ?_
      refine Y.if_le (off := 20) (tgt := 85) (lIa_ok dd21) (by decide) h (fun c66 h => ?_) (fun c66 h => ?_)
      · refine Y.blk (pc' := 87) (L' := [some (.ref a0), some (.int a1), some (.int a2), some (.int v16), some (.int v28), some (.int v16)]) (st' := [.int v16]) (sg := [(.iload 5, 0)]) (lSa_ok dd22) rfl ?_
        refine Y.if_le (off := 17) (tgt := 104) (lIa_ok dd23) (by decide) h (fun c53 h => ?_) (fun c53 h => ?_)
        · refine Y.blk (pc' := 106) (L' := [some (.ref a0), some (.int a1), some (.int a2), some (.int v16), some (.int v28), some (.int v16)]) (st' := [.int v16]) (sg := [(.iload 5, 0)]) (lSa_ok dd24) rfl ?_
          exact Y.iret rfl (lIa_ok dd25) h
        · refine Y.blk (pc' := 91) (L' := [some (.ref a0), some (.int a1), some (.int a2), some (.int v16), some (.int v28), some (.int v16)]) (st' := [.ref a0]) (sg := [(.aload_n 0, 0)]) (lSa_ok dd26) rfl ?_
          refine Y.getA fl_X_19 (lIa_ok dd27) h (fun v48 h => ?_)
          refine Y.blk (pc' := 101) (L' := [some (.ref a0), some (.int a1), some (.int a2), some (.int v16), some (.int v28), some (.int v16)]) (st' := [.int (v28 - (nI 1)), .int v28, .int a1, .ref v48]) (sg := [(.iload_n 1, 0), (.iload 4, 0), (.iload 4, 0), (.iconst 1, nI 1), (.isub, 0)]) (lSa_ok dd28) rfl ?_
          obtain ⟨_, o50, e49, m51, h⟩ := gOb_inv h
          refine Y.callN (yC.Vi (b := v48) (As := [.int a1, .int v28, .int (v28 - (nI 1))]) (st := []) (r := ("Partlister$Cursors", T_U, 5)) hV.1 cb_U_stand lk_X_179 in_U_stand rfl se_U_stand (lIa_ok dd29) rfl rfl (Nat.le_of_ble_eq_true rfl) (by decide) e49 m51) (k_U_stand hV G27 v48 a1 v28 (v28 - (nI 1))) h (fun G52 _ h => ?_)
          refine Y.blk (pc' := 106) (L' := [some (.ref a0), some (.int a1), some (.int a2), some (.int v16), some (.int v28), some (.int v16)]) (st' := [.int v16]) (sg := [(.iload 5, 0)]) (lSa_ok dd24) rfl ?_
          exact Y.iret rfl (lIa_ok dd25) h
      · refine Y.blk (pc' := 69) (L' := [some (.ref a0), some (.int a1), some (.int a2), some (.int v16), some (.int v28), some (.int v16)]) (st' := [.int a2]) (sg := [(.iload_n 2, 0)]) (lSa_ok dd30) rfl ?_
        refine Y.if_eq (off := 16) (tgt := 85) (lIa_ok dd31) (by decide) h (fun c65 h => ?_) (fun c65 h => ?_)
        · refine Y.blk (pc' := 87) (L' := [some (.ref a0), some (.int a1), some (.int a2), some (.int v16), some (.int v28), some (.int v16)]) (st' := [.int v16]) (sg := [(.iload 5, 0)]) (lSa_ok dd22) rfl ?_
          refine Y.if_le (off := 17) (tgt := 104) (lIa_ok dd23) (by decide) h (fun c59 h => ?_) (fun c59 h => ?_)
          · refine Y.blk (pc' := 106) (L' := [some (.ref a0), some (.int a1), some (.int a2), some (.int v16), some (.int v28), some (.int v16)]) (st' := [.int v16]) (sg := [(.iload 5, 0)]) (lSa_ok dd24) rfl ?_
            exact Y.iret rfl (lIa_ok dd25) h
          · refine Y.blk (pc' := 91) (L' := [some (.ref a0), some (.int a1), some (.int a2), some (.int v16), some (.int v28), some (.int v16)]) (st' := [.ref a0]) (sg := [(.aload_n 0, 0)]) (lSa_ok dd26) rfl ?_
            refine Y.getA fl_X_19 (lIa_ok dd27) h (fun v54 h => ?_)
            refine Y.blk (pc' := 101) (L' := [some (.ref a0), some (.int a1), some (.int a2), some (.int v16), some (.int v28), some (.int v16)]) (st' := [.int (v28 - (nI 1)), .int v28, .int a1, .ref v54]) (sg := [(.iload_n 1, 0), (.iload 4, 0), (.iload 4, 0), (.iconst 1, nI 1), (.isub, 0)]) (lSa_ok dd28) rfl ?_
            obtain ⟨_, o56, e55, m57, h⟩ := gOb_inv h
            refine Y.callN (yC.Vi (b := v54) (As := [.int a1, .int v28, .int (v28 - (nI 1))]) (st := []) (r := ("Partlister$Cursors", T_U, 5)) hV.1 cb_U_stand lk_X_179 in_U_stand rfl se_U_stand (lIa_ok dd29) rfl rfl (Nat.le_of_ble_eq_true rfl) (by decide) e55 m57) (k_U_stand hV G27 v54 a1 v28 (v28 - (nI 1))) h (fun G58 _ h => ?_)
            refine Y.blk (pc' := 106) (L' := [some (.ref a0), some (.int a1), some (.int a2), some (.int v16), some (.int v28), some (.int v16)]) (st' := [.int v16]) (sg := [(.iload 5, 0)]) (lSa_ok dd24) rfl ?_
            exact Y.iret rfl (lIa_ok dd25) h
        · refine Y.blk (pc' := 73) (L' := [some (.ref a0), some (.int a1), some (.int a2), some (.int v16), some (.int v28), some (.int v16)]) (st' := [.ref a0]) (sg := [(.aload_n 0, 0)]) (lSa_ok dd32) rfl ?_
          refine Y.getA fl_X_19 (lIa_ok dd33) h (fun v60 h => ?_)
          refine Y.blk (pc' := 79) (L' := [some (.ref a0), some (.int a1), some (.int a2), some (.int v16), some (.int v28), some (.int v16)]) (st' := [.int (nI 0), .int (nI 0), .int a1, .ref v60]) (sg := [(.iload_n 1, 0), (.iconst 0, nI 0), (.iconst 0, nI 0)]) (lSa_ok dd34) rfl ?_
          obtain ⟨_, o62, e61, m63, h⟩ := gOb_inv h
          refine Y.callN (yC.Vi (b := v60) (As := [.int a1, .int (nI 0), .int (nI 0)]) (st := []) (r := ("Partlister$Cursors", T_U, 5)) hV.1 cb_U_stand lk_X_179 in_U_stand rfl se_U_stand (lIa_ok dd35) rfl rfl (Nat.le_of_ble_eq_true rfl) (by decide) e61 m63) (k_U_stand hV G27 v60 a1 (nI 0) (nI 0)) h (fun G64 _ h => ?_)
          refine Y.goto (off := 22) (tgt := 104) (lIa_ok dd36) (by decide) ?_
          refine Y.blk (pc' := 106) (L' := [some (.ref a0), some (.int a1), some (.int a2), some (.int v16), some (.int v28), some (.int v16)]) (st' := [.int v16]) (sg := [(.iload 5, 0)]) (lSa_ok dd24) rfl ?_
          exact Y.iret rfl (lIa_ok dd25) h
  · refine Y.blk (pc' := 19) (L' := [some (.ref a0), some (.int a1), some (.int a2), none, none, none]) (st' := [.int (-9), .ref a0]) (sg := [(.aload_n 0, 0), (.bipush (-9), -9)]) (lSa_ok dd40) rfl ?_
    obtain ⟨_, o69, e68, m70, h⟩ := gOb_inv h
    refine Y.callI (yC.Vi (b := a0) (As := [.int (-9)]) (st := []) (r := ("Partlister", T_X, 5)) hV.1 cb_X_failWith lk_X_173 in_X_failWith rfl se_X_failWith (lIa_ok dd41) rfl rfl (Nat.le_of_ble_eq_true rfl) (by decide) e68 m70) (k_X_failWith hV G9 a0 (-9)) h (fun v72 G71 _ h => ?_)
    exact Y.iret rfl (lIa_ok dd42) h
end
section
def f_X_set (G : gH) (a0 : Nat) (a1 : Int32) (a2 : Int32) (a3 : Int32) : gR :=
  gOb G a0 3 fun o2 => bV (f_X_needList G a0 a1) fun G4 => gOb G4 a0 3 fun o6 => bV (f_X_needPlace G4 a0 a1 a2) fun G8 => gOb G8 a0 3 fun o10 => bV (f_X_needKey G8 a0 a3) fun G12 => gFA G12 a0 3 0 fun v13 => gOb G12 v13 1 fun o15 => bI (f_I_keyAt G12 v13 a1 a2) fun v18 G17 => gFA G17 a0 3 0 fun v19 => gOb G17 a0 3 fun o21 => bI (f_X_make G17 a0 a3) fun v24 G23 => gOb G23 v19 1 fun o26 => bV (f_I_write G23 v19 a1 a2 v24) fun G28 => rI v18 G28
theorem k_X_set {l : Launch} {D : va_G} {B : Nat} {O : State → Heap → Prop} (hV : zG l D B O) (G : gH) (a0 : Nat) (a1 : Int32) (a2 : Int32) (a3 : Int32) : gMet (zVm l D B O) m_X_set 7 [.ref a0, .int a1, .int a2, .int a3] G (f_X_set G a0 a1 a2 a3) := by
  have hdd : lSa m_X_set 0 [(.aload_n 0, 0), (.iload_n 1, 0)] = true ∧ lIa m_X_set 2 (.invokevirtual 23) 3 = true ∧ lSa m_X_set 5 [(.aload_n 0, 0), (.iload_n 1, 0), (.iload_n 2, 0)] = true ∧ lIa m_X_set 8 (.invokevirtual 58) 3 = true ∧ lSa m_X_set 11 [(.aload_n 0, 0), (.iload_n 3, 0)] = true ∧ lIa m_X_set 13 (.invokevirtual 27) 3 = true ∧ lSa m_X_set 16 [(.aload_n 0, 0)] = true ∧ lIa m_X_set 17 (.getfield 10) 3 = true ∧ lSa m_X_set 20 [(.iload_n 1, 0), (.iload_n 2, 0)] = true ∧ lIa m_X_set 22 (.invokevirtual 61) 3 = true ∧ lSa m_X_set 25 [(.istore 4, 0), (.aload_n 0, 0)] = true ∧ lIa m_X_set 28 (.getfield 10) 3 = true ∧ lSa m_X_set 31 [(.iload_n 1, 0), (.iload_n 2, 0), (.aload_n 0, 0), (.iload_n 3, 0)] = true ∧ lIa m_X_set 35 (.invokevirtual 38) 3 = true ∧ lIa m_X_set 38 (.invokevirtual 65) 3 = true ∧ lSa m_X_set 41 [(.iload 4, 0)] = true ∧ lIa m_X_set 43 (.ireturn) 1 = true := by decide +kernel
  refine lA8 hdd (fun dd0 dd1 dd2 dd3 dd4 dd5 dd6 dd7 hdd => ?_)
  refine lA8 hdd (fun dd8 dd9 dd10 dd11 dd12 dd13 dd14 dd15 hdd => ?_)
  have dd16 := hdd
  refine gMet.of (by decide +kernel) (Nat.le_of_ble_eq_true rfl) [some (.ref a0), some (.int a1), some (.int a2), some (.int a3), none] (fun ls h => zEn_ok (n := 5) h) ?_
  intro o Gf h
  unfold f_X_set at h
  refine Y.blk (pc' := 2) (L' := [some (.ref a0), some (.int a1), some (.int a2), some (.int a3), none]) (st' := [.int a1, .ref a0]) (sg := [(.aload_n 0, 0), (.iload_n 1, 0)]) (lSa_ok dd0) rfl ?_
  obtain ⟨_, o2, e1, m3, h⟩ := gOb_inv h
  refine Y.callN (yC.Vi (b := a0) (As := [.int a1]) (st := []) (r := ("Partlister", T_X, 5)) hV.1 cb_X_needList lk_X_23 in_X_needList rfl se_X_needList (lIa_ok dd1) rfl rfl (Nat.le_of_ble_eq_true rfl) (by decide) e1 m3) (k_X_needList hV G a0 a1) h (fun G4 _ h => ?_)
  refine Y.blk (pc' := 8) (L' := [some (.ref a0), some (.int a1), some (.int a2), some (.int a3), none]) (st' := [.int a2, .int a1, .ref a0]) (sg := [(.aload_n 0, 0), (.iload_n 1, 0), (.iload_n 2, 0)]) (lSa_ok dd2) rfl ?_
  obtain ⟨_, o6, e5, m7, h⟩ := gOb_inv h
  refine Y.callN (yC.Vi (b := a0) (As := [.int a1, .int a2]) (st := []) (r := ("Partlister", T_X, 5)) hV.1 cb_X_needPlace lk_X_58 in_X_needPlace rfl se_X_needPlace (lIa_ok dd3) rfl rfl (Nat.le_of_ble_eq_true rfl) (by decide) e5 m7) (k_X_needPlace hV G4 a0 a1 a2) h (fun G8 _ h => ?_)
  refine Y.blk (pc' := 13) (L' := [some (.ref a0), some (.int a1), some (.int a2), some (.int a3), none]) (st' := [.int a3, .ref a0]) (sg := [(.aload_n 0, 0), (.iload_n 3, 0)]) (lSa_ok dd4) rfl ?_
  obtain ⟨_, o10, e9, m11, h⟩ := gOb_inv h
  refine Y.callN (yC.Vi (b := a0) (As := [.int a3]) (st := []) (r := ("Partlister", T_X, 5)) hV.1 cb_X_needKey lk_X_27 in_X_needKey rfl se_X_needKey (lIa_ok dd5) rfl rfl (Nat.le_of_ble_eq_true rfl) (by decide) e9 m11) (k_X_needKey hV G8 a0 a3) h (fun G12 _ h => ?_)
  refine Y.blk (pc' := 17) (L' := [some (.ref a0), some (.int a1), some (.int a2), some (.int a3), none]) (st' := [.ref a0]) (sg := [(.aload_n 0, 0)]) (lSa_ok dd6) rfl ?_
  refine Y.getA fl_X_10 (lIa_ok dd7) h (fun v13 h => ?_)
  refine Y.blk (pc' := 22) (L' := [some (.ref a0), some (.int a1), some (.int a2), some (.int a3), none]) (st' := [.int a2, .int a1, .ref v13]) (sg := [(.iload_n 1, 0), (.iload_n 2, 0)]) (lSa_ok dd8) rfl ?_
  obtain ⟨_, o15, e14, m16, h⟩ := gOb_inv h
  refine Y.callI (yC.Vi (b := v13) (As := [.int a1, .int a2]) (st := []) (r := ("Partlister$Lists", T_I, 7)) hV.1 cb_I_keyAt lk_X_61 in_I_keyAt rfl se_I_keyAt (lIa_ok dd9) rfl rfl (Nat.le_of_ble_eq_true rfl) (by decide) e14 m16) (k_I_keyAt hV G12 v13 a1 a2) h (fun v18 G17 _ h => ?_)
  refine Y.blk (pc' := 28) (L' := [some (.ref a0), some (.int a1), some (.int a2), some (.int a3), some (.int v18)]) (st' := [.ref a0]) (sg := [(.istore 4, 0), (.aload_n 0, 0)]) (lSa_ok dd10) rfl ?_
  refine Y.getA fl_X_10 (lIa_ok dd11) h (fun v19 h => ?_)
  refine Y.blk (pc' := 35) (L' := [some (.ref a0), some (.int a1), some (.int a2), some (.int a3), some (.int v18)]) (st' := [.int a3, .ref a0, .int a2, .int a1, .ref v19]) (sg := [(.iload_n 1, 0), (.iload_n 2, 0), (.aload_n 0, 0), (.iload_n 3, 0)]) (lSa_ok dd12) rfl ?_
  obtain ⟨_, o21, e20, m22, h⟩ := gOb_inv h
  refine Y.callI (yC.Vi (b := a0) (As := [.int a3]) (st := [.int a2, .int a1, .ref v19]) (r := ("Partlister", T_X, 5)) hV.1 cb_X_make lk_X_38 in_X_make rfl se_X_make (lIa_ok dd13) rfl rfl (Nat.le_of_ble_eq_true rfl) (by decide) e20 m22) (k_X_make hV G17 a0 a3) h (fun v24 G23 _ h => ?_)
  obtain ⟨_, o26, e25, m27, h⟩ := gOb_inv h
  refine Y.callN (yC.Vi (b := v19) (As := [.int a1, .int a2, .int v24]) (st := []) (r := ("Partlister$Lists", T_I, 7)) hV.1 cb_I_write lk_X_65 in_I_write rfl se_I_write (lIa_ok dd14) rfl rfl (Nat.le_of_ble_eq_true rfl) (by decide) e25 m27) (k_I_write hV G23 v19 a1 a2 v24) h (fun G28 _ h => ?_)
  refine Y.blk (pc' := 43) (L' := [some (.ref a0), some (.int a1), some (.int a2), some (.int a3), some (.int v18)]) (st' := [.int v18]) (sg := [(.iload 4, 0)]) (lSa_ok dd15) rfl ?_
  exact Y.iret rfl (lIa_ok dd16) h

def f_X_size (G : gH) (a0 : Nat) (a1 : Int32) : gR :=
  if a1 < 0 then gThrow "java/lang/IndexOutOfBoundsException" G
  else if a1 < (nI 6) then gFA G a0 3 0 fun v1 => gOb G v1 1 fun o3 => bI (f_I_lengthOf G v1 a1) fun v6 G5 => rI v6 G5
    else gThrow "java/lang/IndexOutOfBoundsException" G
theorem k_X_size {l : Launch} {D : va_G} {B : Nat} {O : State → Heap → Prop} (hV : zG l D B O) (G : gH) (a0 : Nat) (a1 : Int32) : gMet (zVm l D B O) m_X_size 6 [.ref a0, .int a1] G (f_X_size G a0 a1) := by
  have hdd : lSa m_X_size 0 [(.iload_n 1, 0)] = true ∧ lIa m_X_size 1 (.ifCond .lt 9) 3 = true ∧ lIa m_X_size 10 (.new 125) 3 = true ∧ lIa m_X_size 13 (.dup) 1 = true ∧ lIa m_X_size 14 (.ldc 185) 2 = true ∧ lIa m_X_size 16 (.invokespecial 129) 3 = true ∧ lIa m_X_size 19 (.athrow) 1 = true ∧ lSa m_X_size 4 [(.iload_n 1, 0), (.bipush 6, nI 6)] = true ∧ lIa m_X_size 7 (.if_icmp .lt 13) 3 = true ∧ lSa m_X_size 20 [(.aload_n 0, 0)] = true ∧ lIa m_X_size 21 (.getfield 10) 3 = true ∧ lSa m_X_size 24 [(.iload_n 1, 0)] = true ∧ lIa m_X_size 25 (.invokevirtual 34) 3 = true ∧ lIa m_X_size 28 (.ireturn) 1 = true := by decide +kernel
  refine lA8 hdd (fun dd0 dd1 dd2 dd3 dd4 dd5 dd6 dd7 hdd => ?_)
  obtain ⟨dd8, dd9, dd10, dd11, dd12, dd13⟩ := hdd
  refine gMet.of (by decide +kernel) (Nat.le_of_ble_eq_true rfl) [some (.ref a0), some (.int a1)] (fun ls h => zEn_ok (n := 2) h) ?_
  intro o Gf h
  unfold f_X_size at h
  refine Y.blk (pc' := 1) (L' := [some (.ref a0), some (.int a1)]) (st' := [.int a1]) (sg := [(.iload_n 1, 0)]) (lSa_ok dd0) rfl ?_
  refine Y.if_lt (off := 9) (tgt := 10) (lIa_ok dd1) (by decide) h (fun c8 h => ?_) (fun c8 h => ?_)
  · exact Y.throwS (is := 185) (text := "list is not 0 to 5") (names := zNm) hV.1 (hV.2 _ _ _ (by decide +kernel)) (by decide +kernel) (by decide +kernel) ck_X_125 ini_IOE tw_X_129 tg_X_129 (by decide) (by decide) rfl (Nat.le_of_ble_eq_true rfl) (lIa_ok dd2) (lIa_ok dd3) (lIa_ok dd4) (lIa_ok dd5) (lIa_ok dd6) h
  · refine Y.blk (pc' := 7) (L' := [some (.ref a0), some (.int a1)]) (st' := [.int (nI 6), .int a1]) (sg := [(.iload_n 1, 0), (.bipush 6, nI 6)]) (lSa_ok dd7) rfl ?_
    refine Y.ic_lt (off := 13) (tgt := 20) (lIa_ok dd8) (by decide) h (fun c7 h => ?_) (fun c7 h => ?_)
    · refine Y.blk (pc' := 21) (L' := [some (.ref a0), some (.int a1)]) (st' := [.ref a0]) (sg := [(.aload_n 0, 0)]) (lSa_ok dd9) rfl ?_
      refine Y.getA fl_X_10 (lIa_ok dd10) h (fun v1 h => ?_)
      refine Y.blk (pc' := 25) (L' := [some (.ref a0), some (.int a1)]) (st' := [.int a1, .ref v1]) (sg := [(.iload_n 1, 0)]) (lSa_ok dd11) rfl ?_
      obtain ⟨_, o3, e2, m4, h⟩ := gOb_inv h
      refine Y.callI (yC.Vi (b := v1) (As := [.int a1]) (st := []) (r := ("Partlister$Lists", T_I, 7)) hV.1 cb_I_lengthOf lk_X_34 in_I_lengthOf rfl se_I_lengthOf (lIa_ok dd12) rfl rfl (Nat.le_of_ble_eq_true rfl) (by decide) e2 m4) (k_I_lengthOf hV G v1 a1) h (fun v6 G5 _ h => ?_)
      exact Y.iret rfl (lIa_ok dd13) h
    · exact Y.throwS (is := 185) (text := "list is not 0 to 5") (names := zNm) hV.1 (hV.2 _ _ _ (by decide +kernel)) (by decide +kernel) (by decide +kernel) ck_X_125 ini_IOE tw_X_129 tg_X_129 (by decide) (by decide) rfl (Nat.le_of_ble_eq_true rfl) (lIa_ok dd2) (lIa_ok dd3) (lIa_ok dd4) (lIa_ok dd5) (lIa_ok dd6) h

def f_I_arrange_L23 (K73 : gH → Int32 → gR) : Nat → gH → Nat → Int32 → Int32 → Int32 → Int32 → gR
  | 0, _, _, _, _, _, _ => none
  | n + 1, G, x0, x1, x3, x4, x5 =>
    if x3 ≤ x5 then K73 G x4
    else gOb G x0 1 fun o15 => bI (f_I_thingInSpare G x0 x5) fun v18 G17 => bI (f_X_tagOf G17 v18) fun v21 G20 => gOb G20 x0 1 fun o23 => bI (f_I_thingAt G20 x0 x1 x5) fun v26 G25 => bI (f_X_tagOf G25 v26) fun v29 G28 => if v21 = v29 then gOb G28 x0 1 fun o31 => bV (f_I_write G28 x0 x1 x5 v18) fun G33 => f_I_arrange_L23 K73 n G33 x0 x1 x3 x4 (x5 + (nI 1))
      else gOb G28 x0 1 fun o35 => bV (f_I_write G28 x0 x1 x5 v18) fun G37 => f_I_arrange_L23 K73 n G37 x0 x1 x3 (x4 + (nI 1)) (x5 + (nI 1))
def f_I_arrange (G : gH) (a0 : Nat) (a1 : Int32) (a2 : Int32) : gR :=
  gOb G a0 1 fun o2 => bI (f_I_lengthOf G a0 a1) fun v5 G4 => gOb G4 a0 1 fun o7 => bV (f_I_copyToSpare G4 a0 a1) fun G9 => gOb G9 a0 1 fun o11 => bV (f_I_arrangeSpare G9 a0 v5 a2) fun G13 => f_I_arrange_L23 (fun G41 x40 => rI x40 G41) zFu G13 a0 a1 v5 (nI 0) (nI 0)
theorem k_I_arrange_L23 {l : Launch} {D : va_G} {B : Nat} {O : State → Heap → Prop} (hV : zG l D B O) {o : gO} {Gf : gH} (K73 : gH → Int32 → gR) (hK73 : ∀ (G : gH) (x4 : Int32), K73 G x4 = some (o, Gf) → Y (zVm l D B O) m_I_arrange 5 o Gf 73 [none, none, none, none, some (.int x4), none, none] [] G) : ∀ (n : Nat) (G : gH) (x0 : Nat) (x1 : Int32) (x3 : Int32) (x4 : Int32) (x5 : Int32), f_I_arrange_L23 K73 n G x0 x1 x3 x4 x5 = some (o, Gf) → Y (zVm l D B O) m_I_arrange 5 o Gf 23 [some (.ref x0), some (.int x1), none, some (.int x3), some (.int x4), some (.int x5), none] [] G := by
  have hdd : lSa m_I_arrange 23 [(.iload 5, 0), (.iload_n 3, 0)] = true ∧ lIa m_I_arrange 26 (.if_icmp .ge 47) 3 = true ∧ lSa m_I_arrange 29 [(.aload_n 0, 0), (.iload 5, 0)] = true ∧ lIa m_I_arrange 32 (.invokevirtual 73) 3 = true ∧ lSa m_I_arrange 35 [(.istore 6, 0), (.iload 6, 0)] = true ∧ lIa m_I_arrange 39 (.invokestatic 79) 3 = true ∧ lSa m_I_arrange 42 [(.aload_n 0, 0), (.iload_n 1, 0), (.iload 5, 0)] = true ∧ lIa m_I_arrange 46 (.invokevirtual 50) 3 = true ∧ lIa m_I_arrange 49 (.invokestatic 79) 3 = true ∧ lIa m_I_arrange 52 (.if_icmp .eq 6) 3 = true ∧ lSa m_I_arrange 58 [(.aload_n 0, 0), (.iload_n 1, 0), (.iload 5, 0), (.iload 6, 0)] = true ∧ lIa m_I_arrange 64 (.invokevirtual 53) 3 = true ∧ lSa m_I_arrange 67 [(.iinc 5 1, nI 1)] = true ∧ lIa m_I_arrange 70 (.goto (-47)) 3 = true ∧ lSa m_I_arrange 55 [(.iinc 4 1, nI 1), (.aload_n 0, 0), (.iload_n 1, 0), (.iload 5, 0), (.iload 6, 0)] = true := by decide +kernel
  refine lA8 hdd (fun dd0 dd1 dd2 dd3 dd4 dd5 dd6 dd7 hdd => ?_)
  obtain ⟨dd8, dd9, dd10, dd11, dd12, dd13, dd14⟩ := hdd
  intro n
  induction n with
  | zero => intro G x0 x1 x3 x4 x5 h; cases h
  | succ n ih =>
    intro G x0 x1 x3 x4 x5 h
    unfold f_I_arrange_L23 at h
    refine Y.blk (pc' := 26) (L' := [some (.ref x0), some (.int x1), none, some (.int x3), some (.int x4), some (.int x5), none]) (st' := [.int x3, .int x5]) (sg := [(.iload 5, 0), (.iload_n 3, 0)]) (lSa_ok dd0) rfl ?_
    refine Y.ic_ge (off := 47) (tgt := 73) (lIa_ok dd1) (by decide) h (fun c39 h => ?_) (fun c39 h => ?_)
    · refine Y.less (L' := [none, none, none, none, some (.int x4), none, none]) (zLe_none (zLe_none (zLe_some (zLe_none (zLe_some (zLe_none (zLe_some (zLe_nil)))))))) ?_
      exact hK73 G x4 h
    · refine Y.blk (pc' := 32) (L' := [some (.ref x0), some (.int x1), none, some (.int x3), some (.int x4), some (.int x5), none]) (st' := [.int x5, .ref x0]) (sg := [(.aload_n 0, 0), (.iload 5, 0)]) (lSa_ok dd2) rfl ?_
      obtain ⟨_, o15, e14, m16, h⟩ := gOb_inv h
      refine Y.callI (yC.Vi (b := x0) (As := [.int x5]) (st := []) (r := ("Partlister$Lists", T_I, 7)) hV.1 cb_I_thingInSpare lk_I_73 in_I_thingInSpare rfl se_I_thingInSpare (lIa_ok dd3) rfl rfl (Nat.le_of_ble_eq_true rfl) (by decide) e14 m16) (k_I_thingInSpare hV G x0 x5) h (fun v18 G17 _ h => ?_)
      refine Y.blk (pc' := 39) (L' := [some (.ref x0), some (.int x1), none, some (.int x3), some (.int x4), some (.int x5), some (.int v18)]) (st' := [.int v18]) (sg := [(.istore 6, 0), (.iload 6, 0)]) (lSa_ok dd4) rfl ?_
      refine Y.callI (yC.SN (As := [.int v18]) (st := []) hV.1 cb_X_tagOf lk_I_79 st_X_tagOf (lIa_ok dd5) rfl rfl (Nat.le_of_ble_eq_true rfl) (by decide)) (k_X_tagOf hV G17 v18) h (fun v21 G20 _ h => ?_)
      refine Y.blk (pc' := 46) (L' := [some (.ref x0), some (.int x1), none, some (.int x3), some (.int x4), some (.int x5), some (.int v18)]) (st' := [.int x5, .int x1, .ref x0, .int v21]) (sg := [(.aload_n 0, 0), (.iload_n 1, 0), (.iload 5, 0)]) (lSa_ok dd6) rfl ?_
      obtain ⟨_, o23, e22, m24, h⟩ := gOb_inv h
      refine Y.callI (yC.Vi (b := x0) (As := [.int x1, .int x5]) (st := [.int v21]) (r := ("Partlister$Lists", T_I, 7)) hV.1 cb_I_thingAt lk_I_50 in_I_thingAt rfl se_I_thingAt (lIa_ok dd7) rfl rfl (Nat.le_of_ble_eq_true rfl) (by decide) e22 m24) (k_I_thingAt hV G20 x0 x1 x5) h (fun v26 G25 _ h => ?_)
      refine Y.callI (yC.SN (As := [.int v26]) (st := [.int v21]) hV.1 cb_X_tagOf lk_I_79 st_X_tagOf (lIa_ok dd8) rfl rfl (Nat.le_of_ble_eq_true rfl) (by decide)) (k_X_tagOf hV G25 v26) h (fun v29 G28 _ h => ?_)
      refine Y.ic_eq (off := 6) (tgt := 58) (lIa_ok dd9) (by decide) h (fun c38 h => ?_) (fun c38 h => ?_)
      · refine Y.blk (pc' := 64) (L' := [some (.ref x0), some (.int x1), none, some (.int x3), some (.int x4), some (.int x5), some (.int v18)]) (st' := [.int v18, .int x5, .int x1, .ref x0]) (sg := [(.aload_n 0, 0), (.iload_n 1, 0), (.iload 5, 0), (.iload 6, 0)]) (lSa_ok dd10) rfl ?_
        obtain ⟨_, o31, e30, m32, h⟩ := gOb_inv h
        refine Y.callN (yC.Vi (b := x0) (As := [.int x1, .int x5, .int v18]) (st := []) (r := ("Partlister$Lists", T_I, 7)) hV.1 cb_I_write lk_I_53 in_I_write rfl se_I_write (lIa_ok dd11) rfl rfl (Nat.le_of_ble_eq_true rfl) (by decide) e30 m32) (k_I_write hV G28 x0 x1 x5 v18) h (fun G33 _ h => ?_)
        refine Y.blk (pc' := 70) (L' := [some (.ref x0), some (.int x1), none, some (.int x3), some (.int x4), some (.int (x5 + (nI 1))), some (.int v18)]) (st' := []) (sg := [(.iinc 5 1, nI 1)]) (lSa_ok dd12) rfl ?_
        refine Y.goto (off := -47) (tgt := 23) (lIa_ok dd13) (by decide) ?_
        refine Y.less (L' := [some (.ref x0), some (.int x1), none, some (.int x3), some (.int x4), some (.int (x5 + (nI 1))), none]) (zLe_some (zLe_some (zLe_some (zLe_some (zLe_some (zLe_some (zLe_none (zLe_nil)))))))) ?_
        exact ih G33 x0 x1 x3 x4 (x5 + (nI 1)) h
      · refine Y.blk (pc' := 64) (L' := [some (.ref x0), some (.int x1), none, some (.int x3), some (.int (x4 + (nI 1))), some (.int x5), some (.int v18)]) (st' := [.int v18, .int x5, .int x1, .ref x0]) (sg := [(.iinc 4 1, nI 1), (.aload_n 0, 0), (.iload_n 1, 0), (.iload 5, 0), (.iload 6, 0)]) (lSa_ok dd14) rfl ?_
        obtain ⟨_, o35, e34, m36, h⟩ := gOb_inv h
        refine Y.callN (yC.Vi (b := x0) (As := [.int x1, .int x5, .int v18]) (st := []) (r := ("Partlister$Lists", T_I, 7)) hV.1 cb_I_write lk_I_53 in_I_write rfl se_I_write (lIa_ok dd11) rfl rfl (Nat.le_of_ble_eq_true rfl) (by decide) e34 m36) (k_I_write hV G28 x0 x1 x5 v18) h (fun G37 _ h => ?_)
        refine Y.blk (pc' := 70) (L' := [some (.ref x0), some (.int x1), none, some (.int x3), some (.int (x4 + (nI 1))), some (.int (x5 + (nI 1))), some (.int v18)]) (st' := []) (sg := [(.iinc 5 1, nI 1)]) (lSa_ok dd12) rfl ?_
        refine Y.goto (off := -47) (tgt := 23) (lIa_ok dd13) (by decide) ?_
        refine Y.less (L' := [some (.ref x0), some (.int x1), none, some (.int x3), some (.int (x4 + (nI 1))), some (.int (x5 + (nI 1))), none]) (zLe_some (zLe_some (zLe_some (zLe_some (zLe_some (zLe_some (zLe_none (zLe_nil)))))))) ?_
        exact ih G37 x0 x1 x3 (x4 + (nI 1)) (x5 + (nI 1)) h
theorem k_I_arrange {l : Launch} {D : va_G} {B : Nat} {O : State → Heap → Prop} (hV : zG l D B O) (G : gH) (a0 : Nat) (a1 : Int32) (a2 : Int32) : gMet (zVm l D B O) m_I_arrange 5 [.ref a0, .int a1, .int a2] G (f_I_arrange G a0 a1 a2) := by
  have hdd : lSa m_I_arrange 0 [(.aload_n 0, 0), (.iload_n 1, 0)] = true ∧ lIa m_I_arrange 2 (.invokevirtual 59) 3 = true ∧ lSa m_I_arrange 5 [(.istore_n 3, 0), (.aload_n 0, 0), (.iload_n 1, 0)] = true ∧ lIa m_I_arrange 8 (.invokevirtual 65) 3 = true ∧ lSa m_I_arrange 11 [(.aload_n 0, 0), (.iload_n 3, 0), (.iload_n 2, 0)] = true ∧ lIa m_I_arrange 14 (.invokevirtual 76) 3 = true ∧ lSa m_I_arrange 17 [(.iconst 0, nI 0), (.istore 4, 0), (.iconst 0, nI 0), (.istore 5, 0)] = true ∧ lSa m_I_arrange 73 [(.iload 4, 0)] = true ∧ lIa m_I_arrange 75 (.ireturn) 1 = true := by decide +kernel
  refine lA8 hdd (fun dd0 dd1 dd2 dd3 dd4 dd5 dd6 dd7 hdd => ?_)
  have dd8 := hdd
  refine gMet.of (by decide +kernel) (Nat.le_of_ble_eq_true rfl) [some (.ref a0), some (.int a1), some (.int a2), none, none, none, none] (fun ls h => zEn_ok (n := 7) h) ?_
  intro o Gf h
  unfold f_I_arrange at h
  refine Y.blk (pc' := 2) (L' := [some (.ref a0), some (.int a1), some (.int a2), none, none, none, none]) (st' := [.int a1, .ref a0]) (sg := [(.aload_n 0, 0), (.iload_n 1, 0)]) (lSa_ok dd0) rfl ?_
  obtain ⟨_, o2, e1, m3, h⟩ := gOb_inv h
  refine Y.callI (yC.Vi (b := a0) (As := [.int a1]) (st := []) (r := ("Partlister$Lists", T_I, 7)) hV.1 cb_I_lengthOf lk_I_59 in_I_lengthOf rfl se_I_lengthOf (lIa_ok dd1) rfl rfl (Nat.le_of_ble_eq_true rfl) (by decide) e1 m3) (k_I_lengthOf hV G a0 a1) h (fun v5 G4 _ h => ?_)
  refine Y.blk (pc' := 8) (L' := [some (.ref a0), some (.int a1), some (.int a2), some (.int v5), none, none, none]) (st' := [.int a1, .ref a0]) (sg := [(.istore_n 3, 0), (.aload_n 0, 0), (.iload_n 1, 0)]) (lSa_ok dd2) rfl ?_
  obtain ⟨_, o7, e6, m8, h⟩ := gOb_inv h
  refine Y.callN (yC.Vi (b := a0) (As := [.int a1]) (st := []) (r := ("Partlister$Lists", T_I, 7)) hV.1 cb_I_copyToSpare lk_I_65 in_I_copyToSpare rfl se_I_copyToSpare (lIa_ok dd3) rfl rfl (Nat.le_of_ble_eq_true rfl) (by decide) e6 m8) (k_I_copyToSpare hV G4 a0 a1) h (fun G9 _ h => ?_)
  refine Y.blk (pc' := 14) (L' := [some (.ref a0), some (.int a1), some (.int a2), some (.int v5), none, none, none]) (st' := [.int a2, .int v5, .ref a0]) (sg := [(.aload_n 0, 0), (.iload_n 3, 0), (.iload_n 2, 0)]) (lSa_ok dd4) rfl ?_
  obtain ⟨_, o11, e10, m12, h⟩ := gOb_inv h
  refine Y.callN (yC.Vi (b := a0) (As := [.int v5, .int a2]) (st := []) (r := ("Partlister$Lists", T_I, 7)) hV.1 cb_I_arrangeSpare lk_I_76 in_I_arrangeSpare rfl se_I_arrangeSpare (lIa_ok dd5) rfl rfl (Nat.le_of_ble_eq_true rfl) (by decide) e10 m12) (k_I_arrangeSpare hV G9 a0 v5 a2) h (fun G13 _ h => ?_)
  refine Y.blk (pc' := 23) (L' := [some (.ref a0), some (.int a1), some (.int a2), some (.int v5), some (.int (nI 0)), some (.int (nI 0)), none]) (st' := []) (sg := [(.iconst 0, nI 0), (.istore 4, 0), (.iconst 0, nI 0), (.istore 5, 0)]) (lSa_ok dd6) rfl ?_
  refine Y.less (L' := [some (.ref a0), some (.int a1), none, some (.int v5), some (.int (nI 0)), some (.int (nI 0)), none]) (zLe_some (zLe_some (zLe_none (zLe_some (zLe_some (zLe_some (zLe_some (zLe_nil)))))))) ?_
  refine k_I_arrange_L23 hV _ ?_  zFu G13 a0 a1 v5 (nI 0) (nI 0) h
  · intro G41 x40 h
    refine Y.blk (pc' := 75) (L' := [none, none, none, none, some (.int x40), none, none]) (st' := [.int x40]) (sg := [(.iload 4, 0)]) (lSa_ok dd7) rfl ?_
    exact Y.iret rfl (lIa_ok dd8) h

def f_X_sort (G : gH) (a0 : Nat) (a1 : Int32) (a2 : Int32) : gR :=
  gOb G a0 3 fun o2 => bV (f_X_needList G a0 a1) fun G4 => if a2 < 0 then gThrow "java/lang/IllegalArgumentException" G4
  else if a2 < (nI 5) then gFA G4 a0 3 0 fun v5 => gOb G4 v5 1 fun o7 => bI (f_I_arrange G4 v5 a1 a2) fun v10 G9 => gOb G9 a0 3 fun o12 => bI (f_X_endAround G9 a0 a1) fun v15 G14 => rI v10 G14
    else gThrow "java/lang/IllegalArgumentException" G4
theorem k_X_sort {l : Launch} {D : va_G} {B : Nat} {O : State → Heap → Prop} (hV : zG l D B O) (G : gH) (a0 : Nat) (a1 : Int32) (a2 : Int32) : gMet (zVm l D B O) m_X_sort 7 [.ref a0, .int a1, .int a2] G (f_X_sort G a0 a1 a2) := by
  have hdd : lSa m_X_sort 0 [(.aload_n 0, 0), (.iload_n 1, 0)] = true ∧ lIa m_X_sort 2 (.invokevirtual 23) 3 = true ∧ lSa m_X_sort 5 [(.iload_n 2, 0)] = true ∧ lIa m_X_sort 6 (.ifCond .lt 8) 3 = true ∧ lIa m_X_sort 14 (.new 81) 3 = true ∧ lIa m_X_sort 17 (.dup) 1 = true ∧ lIa m_X_sort 18 (.ldc 112) 2 = true ∧ lIa m_X_sort 20 (.invokespecial 85) 3 = true ∧ lIa m_X_sort 23 (.athrow) 1 = true ∧ lSa m_X_sort 9 [(.iload_n 2, 0), (.iconst 5, nI 5)] = true ∧ lIa m_X_sort 11 (.if_icmp .lt 13) 3 = true ∧ lSa m_X_sort 24 [(.aload_n 0, 0)] = true ∧ lIa m_X_sort 25 (.getfield 10) 3 = true ∧ lSa m_X_sort 28 [(.iload_n 1, 0), (.iload_n 2, 0)] = true ∧ lIa m_X_sort 30 (.invokevirtual 114) 3 = true ∧ lSa m_X_sort 33 [(.istore_n 3, 0), (.aload_n 0, 0), (.iload_n 1, 0)] = true ∧ lIa m_X_sort 36 (.invokevirtual 103) 3 = true ∧ lSa m_X_sort 39 [(.pop, 0), (.iload_n 3, 0)] = true ∧ lIa m_X_sort 41 (.ireturn) 1 = true := by decide +kernel
  refine lA8 hdd (fun dd0 dd1 dd2 dd3 dd4 dd5 dd6 dd7 hdd => ?_)
  refine lA8 hdd (fun dd8 dd9 dd10 dd11 dd12 dd13 dd14 dd15 hdd => ?_)
  obtain ⟨dd16, dd17, dd18⟩ := hdd
  refine gMet.of (by decide +kernel) (Nat.le_of_ble_eq_true rfl) [some (.ref a0), some (.int a1), some (.int a2), none] (fun ls h => zEn_ok (n := 4) h) ?_
  intro o Gf h
  unfold f_X_sort at h
  refine Y.blk (pc' := 2) (L' := [some (.ref a0), some (.int a1), some (.int a2), none]) (st' := [.int a1, .ref a0]) (sg := [(.aload_n 0, 0), (.iload_n 1, 0)]) (lSa_ok dd0) rfl ?_
  obtain ⟨_, o2, e1, m3, h⟩ := gOb_inv h
  refine Y.callN (yC.Vi (b := a0) (As := [.int a1]) (st := []) (r := ("Partlister", T_X, 5)) hV.1 cb_X_needList lk_X_23 in_X_needList rfl se_X_needList (lIa_ok dd1) rfl rfl (Nat.le_of_ble_eq_true rfl) (by decide) e1 m3) (k_X_needList hV G a0 a1) h (fun G4 _ h => ?_)
  refine Y.blk (pc' := 6) (L' := [some (.ref a0), some (.int a1), some (.int a2), none]) (st' := [.int a2]) (sg := [(.iload_n 2, 0)]) (lSa_ok dd2) rfl ?_
  refine Y.if_lt (off := 8) (tgt := 14) (lIa_ok dd3) (by decide) h (fun c17 h => ?_) (fun c17 h => ?_)
  · exact Y.throwS (is := 112) (text := "order is not 0 to 4") (names := zNm) hV.1 (hV.2 _ _ _ (by decide +kernel)) (by decide +kernel) (by decide +kernel) ck_X_81 ini_IAE tw_X_85 tg_X_85 (by decide) (by decide) rfl (Nat.le_of_ble_eq_true rfl) (lIa_ok dd4) (lIa_ok dd5) (lIa_ok dd6) (lIa_ok dd7) (lIa_ok dd8) h
  · refine Y.blk (pc' := 11) (L' := [some (.ref a0), some (.int a1), some (.int a2), none]) (st' := [.int (nI 5), .int a2]) (sg := [(.iload_n 2, 0), (.iconst 5, nI 5)]) (lSa_ok dd9) rfl ?_
    refine Y.ic_lt (off := 13) (tgt := 24) (lIa_ok dd10) (by decide) h (fun c16 h => ?_) (fun c16 h => ?_)
    · refine Y.blk (pc' := 25) (L' := [some (.ref a0), some (.int a1), some (.int a2), none]) (st' := [.ref a0]) (sg := [(.aload_n 0, 0)]) (lSa_ok dd11) rfl ?_
      refine Y.getA fl_X_10 (lIa_ok dd12) h (fun v5 h => ?_)
      refine Y.blk (pc' := 30) (L' := [some (.ref a0), some (.int a1), some (.int a2), none]) (st' := [.int a2, .int a1, .ref v5]) (sg := [(.iload_n 1, 0), (.iload_n 2, 0)]) (lSa_ok dd13) rfl ?_
      obtain ⟨_, o7, e6, m8, h⟩ := gOb_inv h
      refine Y.callI (yC.Vi (b := v5) (As := [.int a1, .int a2]) (st := []) (r := ("Partlister$Lists", T_I, 7)) hV.1 cb_I_arrange lk_X_114 in_I_arrange rfl se_I_arrange (lIa_ok dd14) rfl rfl (Nat.le_of_ble_eq_true rfl) (by decide) e6 m8) (k_I_arrange hV G4 v5 a1 a2) h (fun v10 G9 _ h => ?_)
      refine Y.blk (pc' := 36) (L' := [some (.ref a0), some (.int a1), some (.int a2), some (.int v10)]) (st' := [.int a1, .ref a0]) (sg := [(.istore_n 3, 0), (.aload_n 0, 0), (.iload_n 1, 0)]) (lSa_ok dd15) rfl ?_
      obtain ⟨_, o12, e11, m13, h⟩ := gOb_inv h
      refine Y.callI (yC.Vi (b := a0) (As := [.int a1]) (st := []) (r := ("Partlister", T_X, 5)) hV.1 cb_X_endAround lk_X_103 in_X_endAround rfl se_X_endAround (lIa_ok dd16) rfl rfl (Nat.le_of_ble_eq_true rfl) (by decide) e11 m13) (k_X_endAround hV G9 a0 a1) h (fun v15 G14 _ h => ?_)
      refine Y.blk (pc' := 41) (L' := [some (.ref a0), some (.int a1), some (.int a2), some (.int v10)]) (st' := [.int v10]) (sg := [(.pop, 0), (.iload_n 3, 0)]) (lSa_ok dd17) rfl ?_
      exact Y.iret rfl (lIa_ok dd18) h
    · exact Y.throwS (is := 112) (text := "order is not 0 to 4") (names := zNm) hV.1 (hV.2 _ _ _ (by decide +kernel)) (by decide +kernel) (by decide +kernel) ck_X_81 ini_IAE tw_X_85 tg_X_85 (by decide) (by decide) rfl (Nat.le_of_ble_eq_true rfl) (lIa_ok dd4) (lIa_ok dd5) (lIa_ok dd6) (lIa_ok dd7) (lIa_ok dd8) h

def f_I_countBelow_L12 (K38 : gH → Int32 → gR) : Nat → gH → Nat → Int32 → Int32 → Int32 → Int32 → Int32 → gR
  | 0, _, _, _, _, _, _, _ => none
  | n + 1, G, x0, x1, x2, x3, x4, x5 =>
    if x3 ≤ x5 then K38 G x4
    else gOb G x0 1 fun o7 => bI (f_I_keyAt G x0 x1 x5) fun v10 G9 => if x2 ≤ v10 then f_I_countBelow_L12 K38 n G9 x0 x1 x2 x3 x4 (x5 + (nI 1))
      else f_I_countBelow_L12 K38 n G9 x0 x1 x2 x3 (x4 + (nI 1)) (x5 + (nI 1))
def f_I_countBelow (G : gH) (a0 : Nat) (a1 : Int32) (a2 : Int32) : gR :=
  gOb G a0 1 fun o2 => bI (f_I_lengthOf G a0 a1) fun v5 G4 => f_I_countBelow_L12 (fun G14 x13 => rI x13 G14) zFu G4 a0 a1 a2 v5 (nI 0) (nI 0)
theorem k_I_countBelow_L12 {l : Launch} {D : va_G} {B : Nat} {O : State → Heap → Prop} (hV : zG l D B O) {o : gO} {Gf : gH} (K38 : gH → Int32 → gR) (hK38 : ∀ (G : gH) (x4 : Int32), K38 G x4 = some (o, Gf) → Y (zVm l D B O) m_I_countBelow 4 o Gf 38 [none, none, none, none, some (.int x4), none] [] G) : ∀ (n : Nat) (G : gH) (x0 : Nat) (x1 : Int32) (x2 : Int32) (x3 : Int32) (x4 : Int32) (x5 : Int32), f_I_countBelow_L12 K38 n G x0 x1 x2 x3 x4 x5 = some (o, Gf) → Y (zVm l D B O) m_I_countBelow 4 o Gf 12 [some (.ref x0), some (.int x1), some (.int x2), some (.int x3), some (.int x4), some (.int x5)] [] G := by
  have hdd : lSa m_I_countBelow 12 [(.iload 5, 0), (.iload_n 3, 0)] = true ∧ lIa m_I_countBelow 15 (.if_icmp .ge 23) 3 = true ∧ lSa m_I_countBelow 18 [(.aload_n 0, 0), (.iload_n 1, 0), (.iload 5, 0)] = true ∧ lIa m_I_countBelow 22 (.invokevirtual 101) 3 = true ∧ lSa m_I_countBelow 25 [(.iload_n 2, 0)] = true ∧ lIa m_I_countBelow 26 (.if_icmp .ge 6) 3 = true ∧ lSa m_I_countBelow 32 [(.iinc 5 1, nI 1)] = true ∧ lIa m_I_countBelow 35 (.goto (-23)) 3 = true ∧ lSa m_I_countBelow 29 [(.iinc 4 1, nI 1), (.iinc 5 1, nI 1)] = true := by decide +kernel
  refine lA8 hdd (fun dd0 dd1 dd2 dd3 dd4 dd5 dd6 dd7 hdd => ?_)
  have dd8 := hdd
  intro n
  induction n with
  | zero => intro G x0 x1 x2 x3 x4 x5 h; cases h
  | succ n ih =>
    intro G x0 x1 x2 x3 x4 x5 h
    unfold f_I_countBelow_L12 at h
    refine Y.blk (pc' := 15) (L' := [some (.ref x0), some (.int x1), some (.int x2), some (.int x3), some (.int x4), some (.int x5)]) (st' := [.int x3, .int x5]) (sg := [(.iload 5, 0), (.iload_n 3, 0)]) (lSa_ok dd0) rfl ?_
    refine Y.ic_ge (off := 23) (tgt := 38) (lIa_ok dd1) (by decide) h (fun c12 h => ?_) (fun c12 h => ?_)
    · refine Y.less (L' := [none, none, none, none, some (.int x4), none]) (zLe_none (zLe_none (zLe_none (zLe_none (zLe_some (zLe_none (zLe_nil))))))) ?_
      exact hK38 G x4 h
    · refine Y.blk (pc' := 22) (L' := [some (.ref x0), some (.int x1), some (.int x2), some (.int x3), some (.int x4), some (.int x5)]) (st' := [.int x5, .int x1, .ref x0]) (sg := [(.aload_n 0, 0), (.iload_n 1, 0), (.iload 5, 0)]) (lSa_ok dd2) rfl ?_
      obtain ⟨_, o7, e6, m8, h⟩ := gOb_inv h
      refine Y.callI (yC.Vi (b := x0) (As := [.int x1, .int x5]) (st := []) (r := ("Partlister$Lists", T_I, 7)) hV.1 cb_I_keyAt lk_I_101 in_I_keyAt rfl se_I_keyAt (lIa_ok dd3) rfl rfl (Nat.le_of_ble_eq_true rfl) (by decide) e6 m8) (k_I_keyAt hV G x0 x1 x5) h (fun v10 G9 _ h => ?_)
      refine Y.blk (pc' := 26) (L' := [some (.ref x0), some (.int x1), some (.int x2), some (.int x3), some (.int x4), some (.int x5)]) (st' := [.int x2, .int v10]) (sg := [(.iload_n 2, 0)]) (lSa_ok dd4) rfl ?_
      refine Y.ic_ge (off := 6) (tgt := 32) (lIa_ok dd5) (by decide) h (fun c11 h => ?_) (fun c11 h => ?_)
      · refine Y.blk (pc' := 35) (L' := [some (.ref x0), some (.int x1), some (.int x2), some (.int x3), some (.int x4), some (.int (x5 + (nI 1)))]) (st' := []) (sg := [(.iinc 5 1, nI 1)]) (lSa_ok dd6) rfl ?_
        refine Y.goto (off := -23) (tgt := 12) (lIa_ok dd7) (by decide) ?_
        exact ih G9 x0 x1 x2 x3 x4 (x5 + (nI 1)) h
      · refine Y.blk (pc' := 35) (L' := [some (.ref x0), some (.int x1), some (.int x2), some (.int x3), some (.int (x4 + (nI 1))), some (.int (x5 + (nI 1)))]) (st' := []) (sg := [(.iinc 4 1, nI 1), (.iinc 5 1, nI 1)]) (lSa_ok dd8) rfl ?_
        refine Y.goto (off := -23) (tgt := 12) (lIa_ok dd7) (by decide) ?_
        exact ih G9 x0 x1 x2 x3 (x4 + (nI 1)) (x5 + (nI 1)) h
theorem k_I_countBelow {l : Launch} {D : va_G} {B : Nat} {O : State → Heap → Prop} (hV : zG l D B O) (G : gH) (a0 : Nat) (a1 : Int32) (a2 : Int32) : gMet (zVm l D B O) m_I_countBelow 4 [.ref a0, .int a1, .int a2] G (f_I_countBelow G a0 a1 a2) := by
  have hdd : lSa m_I_countBelow 0 [(.aload_n 0, 0), (.iload_n 1, 0)] = true ∧ lIa m_I_countBelow 2 (.invokevirtual 59) 3 = true ∧ lSa m_I_countBelow 5 [(.istore_n 3, 0), (.iconst 0, nI 0), (.istore 4, 0), (.iconst 0, nI 0), (.istore 5, 0)] = true ∧ lSa m_I_countBelow 38 [(.iload 4, 0)] = true ∧ lIa m_I_countBelow 40 (.ireturn) 1 = true := by decide +kernel
  obtain ⟨dd0, dd1, dd2, dd3, dd4⟩ := hdd
  refine gMet.of (by decide +kernel) (Nat.le_of_ble_eq_true rfl) [some (.ref a0), some (.int a1), some (.int a2), none, none, none] (fun ls h => zEn_ok (n := 6) h) ?_
  intro o Gf h
  unfold f_I_countBelow at h
  refine Y.blk (pc' := 2) (L' := [some (.ref a0), some (.int a1), some (.int a2), none, none, none]) (st' := [.int a1, .ref a0]) (sg := [(.aload_n 0, 0), (.iload_n 1, 0)]) (lSa_ok dd0) rfl ?_
  obtain ⟨_, o2, e1, m3, h⟩ := gOb_inv h
  refine Y.callI (yC.Vi (b := a0) (As := [.int a1]) (st := []) (r := ("Partlister$Lists", T_I, 7)) hV.1 cb_I_lengthOf lk_I_59 in_I_lengthOf rfl se_I_lengthOf (lIa_ok dd1) rfl rfl (Nat.le_of_ble_eq_true rfl) (by decide) e1 m3) (k_I_lengthOf hV G a0 a1) h (fun v5 G4 _ h => ?_)
  refine Y.blk (pc' := 12) (L' := [some (.ref a0), some (.int a1), some (.int a2), some (.int v5), some (.int (nI 0)), some (.int (nI 0))]) (st' := []) (sg := [(.istore_n 3, 0), (.iconst 0, nI 0), (.istore 4, 0), (.iconst 0, nI 0), (.istore 5, 0)]) (lSa_ok dd2) rfl ?_
  refine k_I_countBelow_L12 hV _ ?_  zFu G4 a0 a1 a2 v5 (nI 0) (nI 0) h
  · intro G14 x13 h
    refine Y.blk (pc' := 40) (L' := [none, none, none, none, some (.int x13), none]) (st' := [.int x13]) (sg := [(.iload 4, 0)]) (lSa_ok dd3) rfl ?_
    exact Y.iret rfl (lIa_ok dd4) h

def f_I_isSorted_L8 (K30 : gH → gR) (K38 : gH → gR) : Nat → gH → Nat → Int32 → Int32 → Int32 → gR
  | 0, _, _, _, _, _ => none
  | n + 1, G, x0, x1, x2, x3 =>
    if x2 ≤ x3 then K38 G
    else gOb G x0 1 fun o7 => bI (f_I_keyAt G x0 x1 x3) fun v10 G9 => gOb G9 x0 1 fun o12 => bI (f_I_keyAt G9 x0 x1 (x3 - (nI 1))) fun v15 G14 => if v15 ≤ v10 then f_I_isSorted_L8 K30 K38 n G14 x0 x1 x2 (x3 + (nI 1))
      else K30 G14
def f_I_isSorted (G : gH) (a0 : Nat) (a1 : Int32) : gR :=
  gOb G a0 1 fun o2 => bI (f_I_lengthOf G a0 a1) fun v5 G4 => f_I_isSorted_L8 (fun G18 => rZ (nI 0) G18) (fun G19 => rZ (nI 1) G19) zFu G4 a0 a1 v5 (nI 1)
theorem k_I_isSorted_L8 {l : Launch} {D : va_G} {B : Nat} {O : State → Heap → Prop} (hV : zG l D B O) {o : gO} {Gf : gH} (K30 : gH → gR) (K38 : gH → gR) (hK30 : ∀ (G : gH), K30 G  = some (o, Gf) → Y (zVm l D B O) m_I_isSorted 4 o Gf 30 [none, none, none, none] [] G) (hK38 : ∀ (G : gH), K38 G  = some (o, Gf) → Y (zVm l D B O) m_I_isSorted 4 o Gf 38 [none, none, none, none] [] G) : ∀ (n : Nat) (G : gH) (x0 : Nat) (x1 : Int32) (x2 : Int32) (x3 : Int32), f_I_isSorted_L8 K30 K38 n G x0 x1 x2 x3 = some (o, Gf) → Y (zVm l D B O) m_I_isSorted 4 o Gf 8 [some (.ref x0), some (.int x1), some (.int x2), some (.int x3)] [] G := by
  have hdd : lSa m_I_isSorted 8 [(.iload_n 3, 0), (.iload_n 2, 0)] = true ∧ lIa m_I_isSorted 10 (.if_icmp .ge 28) 3 = true ∧ lSa m_I_isSorted 13 [(.aload_n 0, 0), (.iload_n 1, 0), (.iload_n 3, 0)] = true ∧ lIa m_I_isSorted 16 (.invokevirtual 101) 3 = true ∧ lSa m_I_isSorted 19 [(.aload_n 0, 0), (.iload_n 1, 0), (.iload_n 3, 0), (.iconst 1, nI 1), (.isub, 0)] = true ∧ lIa m_I_isSorted 24 (.invokevirtual 101) 3 = true ∧ lIa m_I_isSorted 27 (.if_icmp .ge 5) 3 = true ∧ lSa m_I_isSorted 32 [(.iinc 3 1, nI 1)] = true ∧ lIa m_I_isSorted 35 (.goto (-27)) 3 = true := by decide +kernel
  refine lA8 hdd (fun dd0 dd1 dd2 dd3 dd4 dd5 dd6 dd7 hdd => ?_)
  have dd8 := hdd
  intro n
  induction n with
  | zero => intro G x0 x1 x2 x3 h; cases h
  | succ n ih =>
    intro G x0 x1 x2 x3 h
    unfold f_I_isSorted_L8 at h
    refine Y.blk (pc' := 10) (L' := [some (.ref x0), some (.int x1), some (.int x2), some (.int x3)]) (st' := [.int x2, .int x3]) (sg := [(.iload_n 3, 0), (.iload_n 2, 0)]) (lSa_ok dd0) rfl ?_
    refine Y.ic_ge (off := 28) (tgt := 38) (lIa_ok dd1) (by decide) h (fun c17 h => ?_) (fun c17 h => ?_)
    · refine Y.less (L' := [none, none, none, none]) (zLe_none (zLe_none (zLe_none (zLe_none (zLe_nil))))) ?_
      exact hK38 G  h
    · refine Y.blk (pc' := 16) (L' := [some (.ref x0), some (.int x1), some (.int x2), some (.int x3)]) (st' := [.int x3, .int x1, .ref x0]) (sg := [(.aload_n 0, 0), (.iload_n 1, 0), (.iload_n 3, 0)]) (lSa_ok dd2) rfl ?_
      obtain ⟨_, o7, e6, m8, h⟩ := gOb_inv h
      refine Y.callI (yC.Vi (b := x0) (As := [.int x1, .int x3]) (st := []) (r := ("Partlister$Lists", T_I, 7)) hV.1 cb_I_keyAt lk_I_101 in_I_keyAt rfl se_I_keyAt (lIa_ok dd3) rfl rfl (Nat.le_of_ble_eq_true rfl) (by decide) e6 m8) (k_I_keyAt hV G x0 x1 x3) h (fun v10 G9 _ h => ?_)
      refine Y.blk (pc' := 24) (L' := [some (.ref x0), some (.int x1), some (.int x2), some (.int x3)]) (st' := [.int (x3 - (nI 1)), .int x1, .ref x0, .int v10]) (sg := [(.aload_n 0, 0), (.iload_n 1, 0), (.iload_n 3, 0), (.iconst 1, nI 1), (.isub, 0)]) (lSa_ok dd4) rfl ?_
      obtain ⟨_, o12, e11, m13, h⟩ := gOb_inv h
      refine Y.callI (yC.Vi (b := x0) (As := [.int x1, .int (x3 - (nI 1))]) (st := [.int v10]) (r := ("Partlister$Lists", T_I, 7)) hV.1 cb_I_keyAt lk_I_101 in_I_keyAt rfl se_I_keyAt (lIa_ok dd5) rfl rfl (Nat.le_of_ble_eq_true rfl) (by decide) e11 m13) (k_I_keyAt hV G9 x0 x1 (x3 - (nI 1))) h (fun v15 G14 _ h => ?_)
      refine Y.ic_ge (off := 5) (tgt := 32) (lIa_ok dd6) (by decide) h (fun c16 h => ?_) (fun c16 h => ?_)
      · refine Y.blk (pc' := 35) (L' := [some (.ref x0), some (.int x1), some (.int x2), some (.int (x3 + (nI 1)))]) (st' := []) (sg := [(.iinc 3 1, nI 1)]) (lSa_ok dd7) rfl ?_
        refine Y.goto (off := -27) (tgt := 8) (lIa_ok dd8) (by decide) ?_
        exact ih G14 x0 x1 x2 (x3 + (nI 1)) h
      · refine Y.less (L' := [none, none, none, none]) (zLe_none (zLe_none (zLe_none (zLe_none (zLe_nil))))) ?_
        exact hK30 G14  h
theorem k_I_isSorted {l : Launch} {D : va_G} {B : Nat} {O : State → Heap → Prop} (hV : zG l D B O) (G : gH) (a0 : Nat) (a1 : Int32) : gMet (zVm l D B O) m_I_isSorted 4 [.ref a0, .int a1] G (f_I_isSorted G a0 a1) := by
  have hdd : lSa m_I_isSorted 0 [(.aload_n 0, 0), (.iload_n 1, 0)] = true ∧ lIa m_I_isSorted 2 (.invokevirtual 59) 3 = true ∧ lSa m_I_isSorted 5 [(.istore_n 2, 0), (.iconst 1, nI 1), (.istore_n 3, 0)] = true ∧ lSa m_I_isSorted 30 [(.iconst 0, nI 0)] = true ∧ lIa m_I_isSorted 31 (.ireturn) 1 = true ∧ lSa m_I_isSorted 38 [(.iconst 1, nI 1)] = true ∧ lIa m_I_isSorted 39 (.ireturn) 1 = true := by decide +kernel
  obtain ⟨dd0, dd1, dd2, dd3, dd4, dd5, dd6⟩ := hdd
  refine gMet.of (by decide +kernel) (Nat.le_of_ble_eq_true rfl) [some (.ref a0), some (.int a1), none, none] (fun ls h => zEn_ok (n := 4) h) ?_
  intro o Gf h
  unfold f_I_isSorted at h
  refine Y.blk (pc' := 2) (L' := [some (.ref a0), some (.int a1), none, none]) (st' := [.int a1, .ref a0]) (sg := [(.aload_n 0, 0), (.iload_n 1, 0)]) (lSa_ok dd0) rfl ?_
  obtain ⟨_, o2, e1, m3, h⟩ := gOb_inv h
  refine Y.callI (yC.Vi (b := a0) (As := [.int a1]) (st := []) (r := ("Partlister$Lists", T_I, 7)) hV.1 cb_I_lengthOf lk_I_59 in_I_lengthOf rfl se_I_lengthOf (lIa_ok dd1) rfl rfl (Nat.le_of_ble_eq_true rfl) (by decide) e1 m3) (k_I_lengthOf hV G a0 a1) h (fun v5 G4 _ h => ?_)
  refine Y.blk (pc' := 8) (L' := [some (.ref a0), some (.int a1), some (.int v5), some (.int (nI 1))]) (st' := []) (sg := [(.istore_n 2, 0), (.iconst 1, nI 1), (.istore_n 3, 0)]) (lSa_ok dd2) rfl ?_
  refine k_I_isSorted_L8 hV _ _ ?_ ?_  zFu G4 a0 a1 v5 (nI 1) h
  · intro G18 h
    refine Y.blk (pc' := 31) (L' := [none, none, none, none]) (st' := [.int (nI 0)]) (sg := [(.iconst 0, nI 0)]) (lSa_ok dd3) rfl ?_
    exact Y.zret rfl (lIa_ok dd4) h
  · intro G19 h
    refine Y.blk (pc' := 39) (L' := [none, none, none, none]) (st' := [.int (nI 1)]) (sg := [(.iconst 1, nI 1)]) (lSa_ok dd5) rfl ?_
    exact Y.zret rfl (lIa_ok dd6) h

def f_X_spot (G : gH) (a0 : Nat) (a1 : Int32) (a2 : Int32) : gR :=
  gOb G a0 3 fun o2 => bV (f_X_needList G a0 a1) fun G4 => gOb G4 a0 3 fun o6 => bV (f_X_needKey G4 a0 a2) fun G8 => gFA G8 a0 3 0 fun v9 => gOb G8 v9 1 fun o11 => bI (f_I_isSorted G8 v9 a1) fun v14 G13 => if v14 = 0 then gThrow "java/lang/IllegalStateException" G13
  else gFA G13 a0 3 0 fun v15 => gOb G13 v15 1 fun o17 => bI (f_I_firstOf G13 v15 a1 a2) fun v20 G19 => if v20 = (-1) then gFA G19 a0 3 0 fun v21 => gOb G19 v21 1 fun o23 => bI (f_I_countBelow G19 v21 a1 a2) fun v26 G25 => rI v26 G25
    else rI (nI 99) G19
theorem k_X_spot {l : Launch} {D : va_G} {B : Nat} {O : State → Heap → Prop} (hV : zG l D B O) (G : gH) (a0 : Nat) (a1 : Int32) (a2 : Int32) : gMet (zVm l D B O) m_X_spot 7 [.ref a0, .int a1, .int a2] G (f_X_spot G a0 a1 a2) := by
  have hdd : lSa m_X_spot 0 [(.aload_n 0, 0), (.iload_n 1, 0)] = true ∧ lIa m_X_spot 2 (.invokevirtual 23) 3 = true ∧ lSa m_X_spot 5 [(.aload_n 0, 0), (.iload_n 2, 0)] = true ∧ lIa m_X_spot 7 (.invokevirtual 27) 3 = true ∧ lSa m_X_spot 10 [(.aload_n 0, 0)] = true ∧ lIa m_X_spot 11 (.getfield 10) 3 = true ∧ lSa m_X_spot 14 [(.iload_n 1, 0)] = true ∧ lIa m_X_spot 15 (.invokevirtual 205) 3 = true ∧ lIa m_X_spot 18 (.ifCond .ne 13) 3 = true ∧ lIa m_X_spot 21 (.new 134) 3 = true ∧ lIa m_X_spot 24 (.dup) 1 = true ∧ lIa m_X_spot 25 (.ldc 208) 2 = true ∧ lIa m_X_spot 27 (.invokespecial 138) 3 = true ∧ lIa m_X_spot 30 (.athrow) 1 = true ∧ lSa m_X_spot 31 [(.aload_n 0, 0)] = true ∧ lIa m_X_spot 32 (.getfield 10) 3 = true ∧ lSa m_X_spot 35 [(.iload_n 1, 0), (.iload_n 2, 0)] = true ∧ lIa m_X_spot 37 (.invokevirtual 72) 3 = true ∧ lSa m_X_spot 40 [(.iconst (-1), -1)] = true ∧ lIa m_X_spot 41 (.if_icmp .eq 8) 3 = true ∧ lSa m_X_spot 49 [(.aload_n 0, 0)] = true ∧ lIa m_X_spot 50 (.getfield 10) 3 = true ∧ lSa m_X_spot 53 [(.iload_n 1, 0), (.iload_n 2, 0)] = true ∧ lIa m_X_spot 55 (.invokevirtual 210) 3 = true ∧ lIa m_X_spot 58 (.ireturn) 1 = true ∧ lSa m_X_spot 44 [(.bipush 99, nI 99)] = true ∧ lIa m_X_spot 46 (.goto 12) 3 = true := by decide +kernel
  refine lA8 hdd (fun dd0 dd1 dd2 dd3 dd4 dd5 dd6 dd7 hdd => ?_)
  refine lA8 hdd (fun dd8 dd9 dd10 dd11 dd12 dd13 dd14 dd15 hdd => ?_)
  refine lA8 hdd (fun dd16 dd17 dd18 dd19 dd20 dd21 dd22 dd23 hdd => ?_)
  obtain ⟨dd24, dd25, dd26⟩ := hdd
  refine gMet.of (by decide +kernel) (Nat.le_of_ble_eq_true rfl) [some (.ref a0), some (.int a1), some (.int a2)] (fun ls h => zEn_ok (n := 3) h) ?_
  intro o Gf h
  unfold f_X_spot at h
  refine Y.blk (pc' := 2) (L' := [some (.ref a0), some (.int a1), some (.int a2)]) (st' := [.int a1, .ref a0]) (sg := [(.aload_n 0, 0), (.iload_n 1, 0)]) (lSa_ok dd0) rfl ?_
  obtain ⟨_, o2, e1, m3, h⟩ := gOb_inv h
  refine Y.callN (yC.Vi (b := a0) (As := [.int a1]) (st := []) (r := ("Partlister", T_X, 5)) hV.1 cb_X_needList lk_X_23 in_X_needList rfl se_X_needList (lIa_ok dd1) rfl rfl (Nat.le_of_ble_eq_true rfl) (by decide) e1 m3) (k_X_needList hV G a0 a1) h (fun G4 _ h => ?_)
  refine Y.blk (pc' := 7) (L' := [some (.ref a0), some (.int a1), some (.int a2)]) (st' := [.int a2, .ref a0]) (sg := [(.aload_n 0, 0), (.iload_n 2, 0)]) (lSa_ok dd2) rfl ?_
  obtain ⟨_, o6, e5, m7, h⟩ := gOb_inv h
  refine Y.callN (yC.Vi (b := a0) (As := [.int a2]) (st := []) (r := ("Partlister", T_X, 5)) hV.1 cb_X_needKey lk_X_27 in_X_needKey rfl se_X_needKey (lIa_ok dd3) rfl rfl (Nat.le_of_ble_eq_true rfl) (by decide) e5 m7) (k_X_needKey hV G4 a0 a2) h (fun G8 _ h => ?_)
  refine Y.blk (pc' := 11) (L' := [some (.ref a0), some (.int a1), some (.int a2)]) (st' := [.ref a0]) (sg := [(.aload_n 0, 0)]) (lSa_ok dd4) rfl ?_
  refine Y.getA fl_X_10 (lIa_ok dd5) h (fun v9 h => ?_)
  refine Y.blk (pc' := 15) (L' := [some (.ref a0), some (.int a1), some (.int a2)]) (st' := [.int a1, .ref v9]) (sg := [(.iload_n 1, 0)]) (lSa_ok dd6) rfl ?_
  obtain ⟨_, o11, e10, m12, h⟩ := gOb_inv h
  refine Y.callI (yC.Vi (b := v9) (As := [.int a1]) (st := []) (r := ("Partlister$Lists", T_I, 7)) hV.1 cb_I_isSorted lk_X_205 in_I_isSorted rfl se_I_isSorted (lIa_ok dd7) rfl rfl (Nat.le_of_ble_eq_true rfl) (by decide) e10 m12) (k_I_isSorted hV G8 v9 a1) h (fun v14 G13 _ h => ?_)
  refine Y.if_ne (off := 13) (tgt := 31) (lIa_ok dd8) (by decide) h (fun c28 h => ?_) (fun c28 h => ?_)
  · exact Y.throwS (is := 208) (text := "the LIST is not SORTED") (names := zNm) hV.1 (hV.2 _ _ _ (by decide +kernel)) (by decide +kernel) (by decide +kernel) ck_X_134 ini_ISE tw_X_138 tg_X_138 (by decide) (by decide) rfl (Nat.le_of_ble_eq_true rfl) (lIa_ok dd9) (lIa_ok dd10) (lIa_ok dd11) (lIa_ok dd12) (lIa_ok dd13) h
  · refine Y.blk (pc' := 32) (L' := [some (.ref a0), some (.int a1), some (.int a2)]) (st' := [.ref a0]) (sg := [(.aload_n 0, 0)]) (lSa_ok dd14) rfl ?_
    refine Y.getA fl_X_10 (lIa_ok dd15) h (fun v15 h => ?_)
    refine Y.blk (pc' := 37) (L' := [some (.ref a0), some (.int a1), some (.int a2)]) (st' := [.int a2, .int a1, .ref v15]) (sg := [(.iload_n 1, 0), (.iload_n 2, 0)]) (lSa_ok dd16) rfl ?_
    obtain ⟨_, o17, e16, m18, h⟩ := gOb_inv h
    refine Y.callI (yC.Vi (b := v15) (As := [.int a1, .int a2]) (st := []) (r := ("Partlister$Lists", T_I, 7)) hV.1 cb_I_firstOf lk_X_72 in_I_firstOf rfl se_I_firstOf (lIa_ok dd17) rfl rfl (Nat.le_of_ble_eq_true rfl) (by decide) e16 m18) (k_I_firstOf hV G13 v15 a1 a2) h (fun v20 G19 _ h => ?_)
    refine Y.blk (pc' := 41) (L' := [some (.ref a0), some (.int a1), some (.int a2)]) (st' := [.int (-1), .int v20]) (sg := [(.iconst (-1), -1)]) (lSa_ok dd18) rfl ?_
    refine Y.ic_eq (off := 8) (tgt := 49) (lIa_ok dd19) (by decide) h (fun c27 h => ?_) (fun c27 h => ?_)
    · refine Y.blk (pc' := 50) (L' := [some (.ref a0), some (.int a1), some (.int a2)]) (st' := [.ref a0]) (sg := [(.aload_n 0, 0)]) (lSa_ok dd20) rfl ?_
      refine Y.getA fl_X_10 (lIa_ok dd21) h (fun v21 h => ?_)
      refine Y.blk (pc' := 55) (L' := [some (.ref a0), some (.int a1), some (.int a2)]) (st' := [.int a2, .int a1, .ref v21]) (sg := [(.iload_n 1, 0), (.iload_n 2, 0)]) (lSa_ok dd22) rfl ?_
      obtain ⟨_, o23, e22, m24, h⟩ := gOb_inv h
      refine Y.callI (yC.Vi (b := v21) (As := [.int a1, .int a2]) (st := []) (r := ("Partlister$Lists", T_I, 7)) hV.1 cb_I_countBelow lk_X_210 in_I_countBelow rfl se_I_countBelow (lIa_ok dd23) rfl rfl (Nat.le_of_ble_eq_true rfl) (by decide) e22 m24) (k_I_countBelow hV G19 v21 a1 a2) h (fun v26 G25 _ h => ?_)
      exact Y.iret rfl (lIa_ok dd24) h
    · refine Y.blk (pc' := 46) (L' := [some (.ref a0), some (.int a1), some (.int a2)]) (st' := [.int (nI 99)]) (sg := [(.bipush 99, nI 99)]) (lSa_ok dd25) rfl ?_
      refine Y.goto (off := 12) (tgt := 58) (lIa_ok dd26) (by decide) ?_
      exact Y.iret rfl (lIa_ok dd24) h

def f_X_tag (G : gH) (a0 : Nat) (a1 : Int32) (a2 : Int32) : gR :=
  gOb G a0 3 fun o2 => bV (f_X_needList G a0 a1) fun G4 => gOb G4 a0 3 fun o6 => bV (f_X_needPlace G4 a0 a1 a2) fun G8 => gFA G8 a0 3 0 fun v9 => gOb G8 v9 1 fun o11 => bI (f_I_thingAt G8 v9 a1 a2) fun v14 G13 => bI (f_X_tagOf G13 v14) fun v17 G16 => rI v17 G16
theorem k_X_tag {l : Launch} {D : va_G} {B : Nat} {O : State → Heap → Prop} (hV : zG l D B O) (G : gH) (a0 : Nat) (a1 : Int32) (a2 : Int32) : gMet (zVm l D B O) m_X_tag 7 [.ref a0, .int a1, .int a2] G (f_X_tag G a0 a1 a2) := by
  have hdd : lSa m_X_tag 0 [(.aload_n 0, 0), (.iload_n 1, 0)] = true ∧ lIa m_X_tag 2 (.invokevirtual 23) 3 = true ∧ lSa m_X_tag 5 [(.aload_n 0, 0), (.iload_n 1, 0), (.iload_n 2, 0)] = true ∧ lIa m_X_tag 8 (.invokevirtual 58) 3 = true ∧ lSa m_X_tag 11 [(.aload_n 0, 0)] = true ∧ lIa m_X_tag 12 (.getfield 10) 3 = true ∧ lSa m_X_tag 15 [(.iload_n 1, 0), (.iload_n 2, 0)] = true ∧ lIa m_X_tag 17 (.invokevirtual 94) 3 = true ∧ lIa m_X_tag 20 (.invokestatic 48) 3 = true ∧ lIa m_X_tag 23 (.ireturn) 1 = true := by decide +kernel
  refine lA8 hdd (fun dd0 dd1 dd2 dd3 dd4 dd5 dd6 dd7 hdd => ?_)
  obtain ⟨dd8, dd9⟩ := hdd
  refine gMet.of (by decide +kernel) (Nat.le_of_ble_eq_true rfl) [some (.ref a0), some (.int a1), some (.int a2)] (fun ls h => zEn_ok (n := 3) h) ?_
  intro o Gf h
  unfold f_X_tag at h
  refine Y.blk (pc' := 2) (L' := [some (.ref a0), some (.int a1), some (.int a2)]) (st' := [.int a1, .ref a0]) (sg := [(.aload_n 0, 0), (.iload_n 1, 0)]) (lSa_ok dd0) rfl ?_
  obtain ⟨_, o2, e1, m3, h⟩ := gOb_inv h
  refine Y.callN (yC.Vi (b := a0) (As := [.int a1]) (st := []) (r := ("Partlister", T_X, 5)) hV.1 cb_X_needList lk_X_23 in_X_needList rfl se_X_needList (lIa_ok dd1) rfl rfl (Nat.le_of_ble_eq_true rfl) (by decide) e1 m3) (k_X_needList hV G a0 a1) h (fun G4 _ h => ?_)
  refine Y.blk (pc' := 8) (L' := [some (.ref a0), some (.int a1), some (.int a2)]) (st' := [.int a2, .int a1, .ref a0]) (sg := [(.aload_n 0, 0), (.iload_n 1, 0), (.iload_n 2, 0)]) (lSa_ok dd2) rfl ?_
  obtain ⟨_, o6, e5, m7, h⟩ := gOb_inv h
  refine Y.callN (yC.Vi (b := a0) (As := [.int a1, .int a2]) (st := []) (r := ("Partlister", T_X, 5)) hV.1 cb_X_needPlace lk_X_58 in_X_needPlace rfl se_X_needPlace (lIa_ok dd3) rfl rfl (Nat.le_of_ble_eq_true rfl) (by decide) e5 m7) (k_X_needPlace hV G4 a0 a1 a2) h (fun G8 _ h => ?_)
  refine Y.blk (pc' := 12) (L' := [some (.ref a0), some (.int a1), some (.int a2)]) (st' := [.ref a0]) (sg := [(.aload_n 0, 0)]) (lSa_ok dd4) rfl ?_
  refine Y.getA fl_X_10 (lIa_ok dd5) h (fun v9 h => ?_)
  refine Y.blk (pc' := 17) (L' := [some (.ref a0), some (.int a1), some (.int a2)]) (st' := [.int a2, .int a1, .ref v9]) (sg := [(.iload_n 1, 0), (.iload_n 2, 0)]) (lSa_ok dd6) rfl ?_
  obtain ⟨_, o11, e10, m12, h⟩ := gOb_inv h
  refine Y.callI (yC.Vi (b := v9) (As := [.int a1, .int a2]) (st := []) (r := ("Partlister$Lists", T_I, 7)) hV.1 cb_I_thingAt lk_X_94 in_I_thingAt rfl se_I_thingAt (lIa_ok dd7) rfl rfl (Nat.le_of_ble_eq_true rfl) (by decide) e10 m12) (k_I_thingAt hV G8 v9 a1 a2) h (fun v14 G13 _ h => ?_)
  refine Y.callI (yC.S (As := [.int v14]) (st := []) hV.1 cb_X_tagOf lk_X_48 st_X_tagOf (lIa_ok dd8) rfl rfl (Nat.le_of_ble_eq_true rfl) (by decide)) (k_X_tagOf hV G13 v14) h (fun v17 G16 _ h => ?_)
  exact Y.iret rfl (lIa_ok dd9) h

def f_X_turn_L16 (K43 : gH → Int32 → gR) : Nat → gH → Nat → Int32 → Int32 → Int32 → gR
  | 0, _, _, _, _, _ => none
  | n + 1, G, x0, x1, x2, x3 =>
    gDiv x2 (nI 2) fun v11 => if v11 ≤ x3 then K43 G x2
    else gFA G x0 3 0 fun v12 => gOb G v12 1 fun o14 => bV (f_I_swap G v12 x1 x3 ((x2 - (nI 1)) - x3)) fun G16 => f_X_turn_L16 K43 n G16 x0 x1 x2 (x3 + (nI 1))
def f_X_turn (G : gH) (a0 : Nat) (a1 : Int32) : gR :=
  gOb G a0 3 fun o2 => bV (f_X_needList G a0 a1) fun G4 => gFA G4 a0 3 0 fun v5 => gOb G4 v5 1 fun o7 => bI (f_I_lengthOf G4 v5 a1) fun v10 G9 => f_X_turn_L16 (fun G19 x18 => rI x18 G19) zFu G9 a0 a1 v10 (nI 0)
theorem k_X_turn_L16 {l : Launch} {D : va_G} {B : Nat} {O : State → Heap → Prop} (hV : zG l D B O) {o : gO} {Gf : gH} (K43 : gH → Int32 → gR) (hK43 : ∀ (G : gH) (x2 : Int32), K43 G x2 = some (o, Gf) → Y (zVm l D B O) m_X_turn 7 o Gf 43 [none, none, some (.int x2), none] [] G) : ∀ (n : Nat) (G : gH) (x0 : Nat) (x1 : Int32) (x2 : Int32) (x3 : Int32), f_X_turn_L16 K43 n G x0 x1 x2 x3 = some (o, Gf) → Y (zVm l D B O) m_X_turn 7 o Gf 16 [some (.ref x0), some (.int x1), some (.int x2), some (.int x3)] [] G := by
  have hdd : lSa m_X_turn 16 [(.iload_n 3, 0), (.iload_n 2, 0), (.iconst 2, nI 2)] = true ∧ lIa m_X_turn 19 (.idiv) 1 = true ∧ lIa m_X_turn 20 (.if_icmp .ge 23) 3 = true ∧ lSa m_X_turn 23 [(.aload_n 0, 0)] = true ∧ lIa m_X_turn 24 (.getfield 10) 3 = true ∧ lSa m_X_turn 27 [(.iload_n 1, 0), (.iload_n 3, 0), (.iload_n 2, 0), (.iconst 1, nI 1), (.isub, 0), (.iload_n 3, 0), (.isub, 0)] = true ∧ lIa m_X_turn 34 (.invokevirtual 117) 3 = true ∧ lSa m_X_turn 37 [(.iinc 3 1, nI 1)] = true ∧ lIa m_X_turn 40 (.goto (-24)) 3 = true := by decide +kernel
  refine lA8 hdd (fun dd0 dd1 dd2 dd3 dd4 dd5 dd6 dd7 hdd => ?_)
  have dd8 := hdd
  intro n
  induction n with
  | zero => intro G x0 x1 x2 x3 h; cases h
  | succ n ih =>
    intro G x0 x1 x2 x3 h
    unfold f_X_turn_L16 at h
    refine Y.blk (pc' := 19) (L' := [some (.ref x0), some (.int x1), some (.int x2), some (.int x3)]) (st' := [.int (nI 2), .int x2, .int x3]) (sg := [(.iload_n 3, 0), (.iload_n 2, 0), (.iconst 2, nI 2)]) (lSa_ok dd0) rfl ?_
    refine Y.idiv (lIa_ok dd1) h (fun v11 h => ?_)
    refine Y.ic_ge (off := 23) (tgt := 43) (lIa_ok dd2) (by decide) h (fun c17 h => ?_) (fun c17 h => ?_)
    · refine Y.less (L' := [none, none, some (.int x2), none]) (zLe_none (zLe_none (zLe_some (zLe_none (zLe_nil))))) ?_
      exact hK43 G x2 h
    · refine Y.blk (pc' := 24) (L' := [some (.ref x0), some (.int x1), some (.int x2), some (.int x3)]) (st' := [.ref x0]) (sg := [(.aload_n 0, 0)]) (lSa_ok dd3) rfl ?_
      refine Y.getA fl_X_10 (lIa_ok dd4) h (fun v12 h => ?_)
      refine Y.blk (pc' := 34) (L' := [some (.ref x0), some (.int x1), some (.int x2), some (.int x3)]) (st' := [.int ((x2 - (nI 1)) - x3), .int x3, .int x1, .ref v12]) (sg := [(.iload_n 1, 0), (.iload_n 3, 0), (.iload_n 2, 0), (.iconst 1, nI 1), (.isub, 0), (.iload_n 3, 0), (.isub, 0)]) (lSa_ok dd5) rfl ?_
      obtain ⟨_, o14, e13, m15, h⟩ := gOb_inv h
      refine Y.callN (yC.Vi (b := v12) (As := [.int x1, .int x3, .int ((x2 - (nI 1)) - x3)]) (st := []) (r := ("Partlister$Lists", T_I, 7)) hV.1 cb_I_swap lk_X_117 in_I_swap rfl se_I_swap (lIa_ok dd6) rfl rfl (Nat.le_of_ble_eq_true rfl) (by decide) e13 m15) (k_I_swap hV G v12 x1 x3 ((x2 - (nI 1)) - x3)) h (fun G16 _ h => ?_)
      refine Y.blk (pc' := 40) (L' := [some (.ref x0), some (.int x1), some (.int x2), some (.int (x3 + (nI 1)))]) (st' := []) (sg := [(.iinc 3 1, nI 1)]) (lSa_ok dd7) rfl ?_
      refine Y.goto (off := -24) (tgt := 16) (lIa_ok dd8) (by decide) ?_
      exact ih G16 x0 x1 x2 (x3 + (nI 1)) h
theorem k_X_turn {l : Launch} {D : va_G} {B : Nat} {O : State → Heap → Prop} (hV : zG l D B O) (G : gH) (a0 : Nat) (a1 : Int32) : gMet (zVm l D B O) m_X_turn 7 [.ref a0, .int a1] G (f_X_turn G a0 a1) := by
  have hdd : lSa m_X_turn 0 [(.aload_n 0, 0), (.iload_n 1, 0)] = true ∧ lIa m_X_turn 2 (.invokevirtual 23) 3 = true ∧ lSa m_X_turn 5 [(.aload_n 0, 0)] = true ∧ lIa m_X_turn 6 (.getfield 10) 3 = true ∧ lSa m_X_turn 9 [(.iload_n 1, 0)] = true ∧ lIa m_X_turn 10 (.invokevirtual 34) 3 = true ∧ lSa m_X_turn 13 [(.istore_n 2, 0), (.iconst 0, nI 0), (.istore_n 3, 0)] = true ∧ lSa m_X_turn 43 [(.iload_n 2, 0)] = true ∧ lIa m_X_turn 44 (.ireturn) 1 = true := by decide +kernel
  refine lA8 hdd (fun dd0 dd1 dd2 dd3 dd4 dd5 dd6 dd7 hdd => ?_)
  have dd8 := hdd
  refine gMet.of (by decide +kernel) (Nat.le_of_ble_eq_true rfl) [some (.ref a0), some (.int a1), none, none] (fun ls h => zEn_ok (n := 4) h) ?_
  intro o Gf h
  unfold f_X_turn at h
  refine Y.blk (pc' := 2) (L' := [some (.ref a0), some (.int a1), none, none]) (st' := [.int a1, .ref a0]) (sg := [(.aload_n 0, 0), (.iload_n 1, 0)]) (lSa_ok dd0) rfl ?_
  obtain ⟨_, o2, e1, m3, h⟩ := gOb_inv h
  refine Y.callN (yC.Vi (b := a0) (As := [.int a1]) (st := []) (r := ("Partlister", T_X, 5)) hV.1 cb_X_needList lk_X_23 in_X_needList rfl se_X_needList (lIa_ok dd1) rfl rfl (Nat.le_of_ble_eq_true rfl) (by decide) e1 m3) (k_X_needList hV G a0 a1) h (fun G4 _ h => ?_)
  refine Y.blk (pc' := 6) (L' := [some (.ref a0), some (.int a1), none, none]) (st' := [.ref a0]) (sg := [(.aload_n 0, 0)]) (lSa_ok dd2) rfl ?_
  refine Y.getA fl_X_10 (lIa_ok dd3) h (fun v5 h => ?_)
  refine Y.blk (pc' := 10) (L' := [some (.ref a0), some (.int a1), none, none]) (st' := [.int a1, .ref v5]) (sg := [(.iload_n 1, 0)]) (lSa_ok dd4) rfl ?_
  obtain ⟨_, o7, e6, m8, h⟩ := gOb_inv h
  refine Y.callI (yC.Vi (b := v5) (As := [.int a1]) (st := []) (r := ("Partlister$Lists", T_I, 7)) hV.1 cb_I_lengthOf lk_X_34 in_I_lengthOf rfl se_I_lengthOf (lIa_ok dd5) rfl rfl (Nat.le_of_ble_eq_true rfl) (by decide) e6 m8) (k_I_lengthOf hV G4 v5 a1) h (fun v10 G9 _ h => ?_)
  refine Y.blk (pc' := 16) (L' := [some (.ref a0), some (.int a1), some (.int v10), some (.int (nI 0))]) (st' := []) (sg := [(.istore_n 2, 0), (.iconst 0, nI 0), (.istore_n 3, 0)]) (lSa_ok dd6) rfl ?_
  refine k_X_turn_L16 hV _ ?_  zFu G9 a0 a1 v10 (nI 0) h
  · intro G19 x18 h
    refine Y.blk (pc' := 44) (L' := [none, none, some (.int x18), none]) (st' := [.int x18]) (sg := [(.iload_n 2, 0)]) (lSa_ok dd7) rfl ?_
    exact Y.iret rfl (lIa_ok dd8) h
end
