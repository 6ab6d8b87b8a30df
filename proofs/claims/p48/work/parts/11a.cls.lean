def f_N_init (G : gH) (a0 : Nat) (a1 : Int32) : gR :=
  if 0 ≤ a1 then gNewA G 100 a1 fun a1 G2 => gPut G2 a0 2 0 (.ref a1) fun G3 => rV G3
  else gNewA G 100 (nI 0) fun a4 G5 => gPut G5 a0 2 0 (.ref a4) fun G6 => rV G6
theorem k_N_init {l : Launch} {D : va_G} {B : Nat} {O : State → Heap → Prop} (hV : zG l D B O) (G : gH) (a0 : Nat) (a1 : Int32) : gMet (zVm l D B O) m_N_init 1 [.ref a0, .int a1] G (f_N_init G a0 a1) := by
  refine gMet.of (by decide +kernel) (Nat.le_of_ble_eq_true rfl) [some (.ref a0), some (.int a1)] (fun ls h => zEn_ok (n := 2) h) ?_
  intro o Gf h
  unfold f_N_init at h
  refine Y.blk (pc' := 1) (L' := [some (.ref a0), some (.int a1)]) (st' := [.ref a0]) (sg := [(.aload_n 0, 0)]) (by decide +kernel) rfl ?_
  refine Y.objInit lk_N_3 in_OJ_init cw_OJ_init (by decide) rfl (Nat.le_of_ble_eq_true rfl) (by decide +kernel) ?_
  refine Y.blk (pc' := 6) (L' := [some (.ref a0), some (.int a1)]) (st' := [.int a1, .ref a0]) (sg := [(.aload_n 0, 0), (.iload_n 1, 0)]) (by decide +kernel) rfl ?_
  refine Y.if_ge (off := 7) (tgt := 13) (by decide +kernel) (by decide) h (fun c7 h => ?_) (fun c7 h => ?_)
  · refine Y.blk (pc' := 14) (L' := [some (.ref a0), some (.int a1)]) (st' := [.int a1, .ref a0]) (sg := [(.iload_n 1, 0)]) (by decide +kernel) rfl ?_
    refine Y.newa (at_ := .int) (t0 := 0) ac_i rfl rfl (by decide) (by decide +kernel) h (fun a1 G2 h => ?_)
    refine Y.putF fl_N_9 rfl rfl rfl (by decide +kernel) h (fun G3 _ _ h => ?_)
    exact Y.vret rfl (by decide +kernel) h
  · refine Y.blk (pc' := 10) (L' := [some (.ref a0), some (.int a1)]) (st' := [.int (nI 0), .ref a0]) (sg := [(.iconst 0, nI 0)]) (by decide +kernel) rfl ?_
    refine Y.goto (off := 4) (tgt := 14) (by decide +kernel) (by decide) ?_
    refine Y.newa (at_ := .int) (t0 := 0) ac_i rfl rfl (by decide) (by decide +kernel) h (fun a4 G5 h => ?_)
    refine Y.putF fl_N_9 rfl rfl rfl (by decide +kernel) h (fun G6 _ _ h => ?_)
    exact Y.vret rfl (by decide +kernel) h

def f_U_init (G : gH) (a0 : Nat) : gR :=
  gNewO G 2 1 [.null] fun a1 G2 => bV (f_N_init G2 a1 (nI 3)) fun G4 => gPut G4 a0 0 0 (.ref a1) fun G5 => gNewO G5 2 1 [.null] fun a6 G7 => bV (f_N_init G7 a6 (nI 3)) fun G9 => gPut G9 a0 0 1 (.ref a6) fun G10 => gNewO G10 2 1 [.null] fun a11 G12 => bV (f_N_init G12 a11 (nI 3)) fun G14 => gPut G14 a0 0 2 (.ref a11) fun G15 => gNewO G15 2 1 [.null] fun a16 G17 => bV (f_N_init G17 a16 (nI 3)) fun G19 => gPut G19 a0 0 3 (.ref a16) fun G20 => rV G20
theorem k_U_init {l : Launch} {D : va_G} {B : Nat} {O : State → Heap → Prop} (hV : zG l D B O) (G : gH) (a0 : Nat) : gMet (zVm l D B O) m_U_init 2 [.ref a0] G (f_U_init G a0) := by
  refine gMet.of (by decide +kernel) (Nat.le_of_ble_eq_true rfl) [some (.ref a0)] (fun ls h => zEn_ok (n := 1) h) ?_
  intro o Gf h
  unfold f_U_init at h
  refine Y.blk (pc' := 1) (L' := [some (.ref a0)]) (st' := [.ref a0]) (sg := [(.aload_n 0, 0)]) (by decide +kernel) rfl ?_
  refine Y.objInit lk_U_3 in_OJ_init cw_OJ_init (by decide) rfl (Nat.le_of_ble_eq_true rfl) (by decide +kernel) ?_
  refine Y.blk (pc' := 5) (L' := [some (.ref a0)]) (st' := [.ref a0]) (sg := [(.aload_n 0, 0)]) (by decide +kernel) rfl ?_
  refine Y.new nc_U_9 bk_N (by decide +kernel) h (fun a1 G2 h => ?_)
  refine Y.blk (pc' := 10) (L' := [some (.ref a0)]) (st' := [.int (nI 3), .ref a1, .ref a1, .ref a0]) (sg := [(.dup, 0), (.iconst 3, nI 3)]) (by decide +kernel) rfl ?_
  refine Y.callN (yC.I (b := a1) (As := [.int (nI 3)]) (st := [.ref a1, .ref a0]) hV.1 cb_N_init lk_U_11 in_N_init rfl rfl (by decide +kernel) rfl rfl (Nat.le_of_ble_eq_true rfl) (by decide)) (k_N_init hV G2 a1 (nI 3)) h (fun G4 _ h => ?_)
  refine Y.putF fl_U_14 rfl rfl rfl (by decide +kernel) h (fun G5 _ _ h => ?_)
  refine Y.blk (pc' := 17) (L' := [some (.ref a0)]) (st' := [.ref a0]) (sg := [(.aload_n 0, 0)]) (by decide +kernel) rfl ?_
  refine Y.new nc_U_9 bk_N (by decide +kernel) h (fun a6 G7 h => ?_)
  refine Y.blk (pc' := 22) (L' := [some (.ref a0)]) (st' := [.int (nI 3), .ref a6, .ref a6, .ref a0]) (sg := [(.dup, 0), (.iconst 3, nI 3)]) (by decide +kernel) rfl ?_
  refine Y.callN (yC.I (b := a6) (As := [.int (nI 3)]) (st := [.ref a6, .ref a0]) hV.1 cb_N_init lk_U_11 in_N_init rfl rfl (by decide +kernel) rfl rfl (Nat.le_of_ble_eq_true rfl) (by decide)) (k_N_init hV G7 a6 (nI 3)) h (fun G9 _ h => ?_)
  refine Y.putF fl_U_20 rfl rfl rfl (by decide +kernel) h (fun G10 _ _ h => ?_)
  refine Y.blk (pc' := 29) (L' := [some (.ref a0)]) (st' := [.ref a0]) (sg := [(.aload_n 0, 0)]) (by decide +kernel) rfl ?_
  refine Y.new nc_U_9 bk_N (by decide +kernel) h (fun a11 G12 h => ?_)
  refine Y.blk (pc' := 34) (L' := [some (.ref a0)]) (st' := [.int (nI 3), .ref a11, .ref a11, .ref a0]) (sg := [(.dup, 0), (.iconst 3, nI 3)]) (by decide +kernel) rfl ?_
  refine Y.callN (yC.I (b := a11) (As := [.int (nI 3)]) (st := [.ref a11, .ref a0]) hV.1 cb_N_init lk_U_11 in_N_init rfl rfl (by decide +kernel) rfl rfl (Nat.le_of_ble_eq_true rfl) (by decide)) (k_N_init hV G12 a11 (nI 3)) h (fun G14 _ h => ?_)
  refine Y.putF fl_U_23 rfl rfl rfl (by decide +kernel) h (fun G15 _ _ h => ?_)
  refine Y.blk (pc' := 41) (L' := [some (.ref a0)]) (st' := [.ref a0]) (sg := [(.aload_n 0, 0)]) (by decide +kernel) rfl ?_
  refine Y.new nc_U_9 bk_N (by decide +kernel) h (fun a16 G17 h => ?_)
  refine Y.blk (pc' := 46) (L' := [some (.ref a0)]) (st' := [.int (nI 3), .ref a16, .ref a16, .ref a0]) (sg := [(.dup, 0), (.iconst 3, nI 3)]) (by decide +kernel) rfl ?_
  refine Y.callN (yC.I (b := a16) (As := [.int (nI 3)]) (st := [.ref a16, .ref a0]) hV.1 cb_N_init lk_U_11 in_N_init rfl rfl (by decide +kernel) rfl rfl (Nat.le_of_ble_eq_true rfl) (by decide)) (k_N_init hV G17 a16 (nI 3)) h (fun G19 _ h => ?_)
  refine Y.putF fl_U_26 rfl rfl rfl (by decide +kernel) h (fun G20 _ _ h => ?_)
  exact Y.vret rfl (by decide +kernel) h

def f_N_write (G : gH) (a0 : Nat) (a1 : Int32) (a2 : Int32) : gR :=
  if a1 < 0 then rV G
  else gFA G a0 2 0 fun v1 => gLen G v1 100 fun v2 => if v2 ≤ a1 then rV G
    else gFA G a0 2 0 fun v3 => gSt G v3 100 a1 a2 fun G4 => rV G4
theorem k_N_write {l : Launch} {D : va_G} {B : Nat} {O : State → Heap → Prop} (hV : zG l D B O) (G : gH) (a0 : Nat) (a1 : Int32) (a2 : Int32) : gMet (zVm l D B O) m_N_write 1 [.ref a0, .int a1, .int a2] G (f_N_write G a0 a1 a2) := by
  refine gMet.of (by decide +kernel) (Nat.le_of_ble_eq_true rfl) [some (.ref a0), some (.int a1), some (.int a2)] (fun ls h => zEn_ok (n := 3) h) ?_
  intro o Gf h
  unfold f_N_write at h
  refine Y.blk (pc' := 1) (L' := [some (.ref a0), some (.int a1), some (.int a2)]) (st' := [.int a1]) (sg := [(.iload_n 1, 0)]) (by decide +kernel) rfl ?_
  refine Y.if_lt (off := 19) (tgt := 20) (by decide +kernel) (by decide) h (fun c6 h => ?_) (fun c6 h => ?_)
  · exact Y.vret rfl (by decide +kernel) h
  · refine Y.blk (pc' := 6) (L' := [some (.ref a0), some (.int a1), some (.int a2)]) (st' := [.ref a0, .int a1]) (sg := [(.iload_n 1, 0), (.aload_n 0, 0)]) (by decide +kernel) rfl ?_
    refine Y.getA fl_N_9 (by decide +kernel) h (fun v1 h => ?_)
    refine Y.alen (t0 := 0) (by decide +kernel) rfl h (fun v2 h => ?_)
    refine Y.ic_ge (off := 10) (tgt := 20) (by decide +kernel) (by decide) h (fun c5 h => ?_) (fun c5 h => ?_)
    · exact Y.vret rfl (by decide +kernel) h
    · refine Y.blk (pc' := 14) (L' := [some (.ref a0), some (.int a1), some (.int a2)]) (st' := [.ref a0]) (sg := [(.aload_n 0, 0)]) (by decide +kernel) rfl ?_
      refine Y.getA fl_N_9 (by decide +kernel) h (fun v3 h => ?_)
      refine Y.blk (pc' := 19) (L' := [some (.ref a0), some (.int a1), some (.int a2)]) (st' := [.int a2, .int a1, .ref v3]) (sg := [(.iload_n 1, 0), (.iload_n 2, 0)]) (by decide +kernel) rfl ?_
      refine Y.iast (t0 := 0) (by decide +kernel) rfl h (fun G4 _ _ h => ?_)
      exact Y.vret rfl (by decide +kernel) h

def f_I_init_L84 (K132 : gH → gR) : Nat → gH → Nat → Int32 → gR
  | 0, _, _, _ => none
  | n + 1, G, x0, x1 =>
    if (nI 6) ≤ x1 then K132 G
    else gFA G x0 1 1 fun v31 => if (nI 2) ≤ x1 then gOb G v31 2 fun o33 => bV (f_N_write G v31 x1 (-1)) fun G34 => gFA G34 x0 1 2 fun v35 => gOb G34 v35 2 fun o37 => bV (f_N_write G34 v35 x1 (-1)) fun G38 => gFA G38 x0 1 3 fun v39 => gOb G38 v39 2 fun o41 => bV (f_N_write G38 v39 x1 x1) fun G42 => f_I_init_L84 K132 n G42 x0 (x1 + (nI 1))
      else gOb G v31 2 fun o44 => bV (f_N_write G v31 x1 (nI 0)) fun G45 => gFA G45 x0 1 2 fun v46 => gOb G45 v46 2 fun o48 => bV (f_N_write G45 v46 x1 (-1)) fun G49 => gFA G49 x0 1 3 fun v50 => gOb G49 v50 2 fun o52 => bV (f_N_write G49 v50 x1 x1) fun G53 => f_I_init_L84 K132 n G53 x0 (x1 + (nI 1))
def f_I_init (G : gH) (a0 : Nat) : gR :=
  gNewO G 2 1 [.null] fun a1 G2 => bV (f_N_init G2 a1 (nI 62)) fun G4 => gPut G4 a0 1 0 (.ref a1) fun G5 => gNewO G5 2 1 [.null] fun a6 G7 => bV (f_N_init G7 a6 (nI 6)) fun G9 => gPut G9 a0 1 1 (.ref a6) fun G10 => gNewO G10 2 1 [.null] fun a11 G12 => bV (f_N_init G12 a11 (nI 6)) fun G14 => gPut G14 a0 1 2 (.ref a11) fun G15 => gNewO G15 2 1 [.null] fun a16 G17 => bV (f_N_init G17 a16 (nI 6)) fun G19 => gPut G19 a0 1 3 (.ref a16) fun G20 => gNewO G20 2 1 [.null] fun a21 G22 => bV (f_N_init G22 a21 (nI 6)) fun G24 => gPut G24 a0 1 4 (.ref a21) fun G25 => gNewO G25 2 1 [.null] fun a26 G27 => bV (f_N_init G27 a26 (nI 31)) fun G29 => gPut G29 a0 1 5 (.ref a26) fun G30 => f_I_init_L84 (fun G56 => rV G56) zFu G30 a0 (nI 0)
theorem k_I_init_L84 {l : Launch} {D : va_G} {B : Nat} {O : State → Heap → Prop} (hV : zG l D B O) {o : gO} {Gf : gH} (K132 : gH → gR) (hK132 : ∀ (G : gH), K132 G  = some (o, Gf) → Y (zVm l D B O) m_I_init 2 o Gf 132 [none, none] [] G) : ∀ (n : Nat) (G : gH) (x0 : Nat) (x1 : Int32), f_I_init_L84 K132 n G x0 x1 = some (o, Gf) → Y (zVm l D B O) m_I_init 2 o Gf 84 [some (.ref x0), some (.int x1)] [] G := by
  intro n
  induction n with
  | zero => intro G x0 x1 h; cases h
  | succ n ih =>
    intro G x0 x1 h
    unfold f_I_init_L84 at h
    refine Y.blk (pc' := 87) (L' := [some (.ref x0), some (.int x1)]) (st' := [.int (nI 6), .int x1]) (sg := [(.iload_n 1, 0), (.bipush 6, nI 6)]) (by decide +kernel) rfl ?_
    refine Y.ic_ge (off := 45) (tgt := 132) (by decide +kernel) (by decide) h (fun c55 h => ?_) (fun c55 h => ?_)
    · refine Y.less (L' := [none, none]) (zLe_none (zLe_none (zLe_nil))) ?_
      exact hK132 G  h
    · refine Y.blk (pc' := 91) (L' := [some (.ref x0), some (.int x1)]) (st' := [.ref x0]) (sg := [(.aload_n 0, 0)]) (by decide +kernel) rfl ?_
      refine Y.getA fl_I_20 (by decide +kernel) h (fun v31 h => ?_)
      refine Y.blk (pc' := 97) (L' := [some (.ref x0), some (.int x1)]) (st' := [.int (nI 2), .int x1, .int x1, .ref v31]) (sg := [(.iload_n 1, 0), (.iload_n 1, 0), (.iconst 2, nI 2)]) (by decide +kernel) rfl ?_
      refine Y.ic_ge (off := 7) (tgt := 104) (by decide +kernel) (by decide) h (fun c54 h => ?_) (fun c54 h => ?_)
      · refine Y.blk (pc' := 105) (L' := [some (.ref x0), some (.int x1)]) (st' := [.int (-1), .int x1, .ref v31]) (sg := [(.iconst (-1), -1)]) (by decide +kernel) rfl ?_
        obtain ⟨o33, e32, h⟩ := gOb_inv h
        refine Y.callN (yC.Vi (b := v31) (As := [.int x1, .int (-1)]) (st := []) (r := ("Partlister$Numbers", T_N, 1)) hV.1 cb_N_write lk_I_35 in_N_write rfl se_N_write (by decide +kernel) rfl rfl (Nat.le_of_ble_eq_true rfl) (by decide) e32) (k_N_write hV G v31 x1 (-1)) h (fun G34 _ h => ?_)
        refine Y.blk (pc' := 109) (L' := [some (.ref x0), some (.int x1)]) (st' := [.ref x0]) (sg := [(.aload_n 0, 0)]) (by decide +kernel) rfl ?_
        refine Y.getA fl_I_23 (by decide +kernel) h (fun v35 h => ?_)
        refine Y.blk (pc' := 114) (L' := [some (.ref x0), some (.int x1)]) (st' := [.int (-1), .int x1, .ref v35]) (sg := [(.iload_n 1, 0), (.iconst (-1), -1)]) (by decide +kernel) rfl ?_
        obtain ⟨o37, e36, h⟩ := gOb_inv h
        refine Y.callN (yC.Vi (b := v35) (As := [.int x1, .int (-1)]) (st := []) (r := ("Partlister$Numbers", T_N, 1)) hV.1 cb_N_write lk_I_35 in_N_write rfl se_N_write (by decide +kernel) rfl rfl (Nat.le_of_ble_eq_true rfl) (by decide) e36) (k_N_write hV G34 v35 x1 (-1)) h (fun G38 _ h => ?_)
        refine Y.blk (pc' := 118) (L' := [some (.ref x0), some (.int x1)]) (st' := [.ref x0]) (sg := [(.aload_n 0, 0)]) (by decide +kernel) rfl ?_
        refine Y.getA fl_I_26 (by decide +kernel) h (fun v39 h => ?_)
        refine Y.blk (pc' := 123) (L' := [some (.ref x0), some (.int x1)]) (st' := [.int x1, .int x1, .ref v39]) (sg := [(.iload_n 1, 0), (.iload_n 1, 0)]) (by decide +kernel) rfl ?_
        obtain ⟨o41, e40, h⟩ := gOb_inv h
        refine Y.callN (yC.Vi (b := v39) (As := [.int x1, .int x1]) (st := []) (r := ("Partlister$Numbers", T_N, 1)) hV.1 cb_N_write lk_I_35 in_N_write rfl se_N_write (by decide +kernel) rfl rfl (Nat.le_of_ble_eq_true rfl) (by decide) e40) (k_N_write hV G38 v39 x1 x1) h (fun G42 _ h => ?_)
        refine Y.blk (pc' := 129) (L' := [some (.ref x0), some (.int (x1 + (nI 1)))]) (st' := []) (sg := [(.iinc 1 1, nI 1)]) (by decide +kernel) rfl ?_
        refine Y.goto (off := -45) (tgt := 84) (by decide +kernel) (by decide) ?_
        exact ih G42 x0 (x1 + (nI 1)) h
      · refine Y.blk (pc' := 101) (L' := [some (.ref x0), some (.int x1)]) (st' := [.int (nI 0), .int x1, .ref v31]) (sg := [(.iconst 0, nI 0)]) (by decide +kernel) rfl ?_
        refine Y.goto (off := 4) (tgt := 105) (by decide +kernel) (by decide) ?_
        obtain ⟨o44, e43, h⟩ := gOb_inv h
        refine Y.callN (yC.Vi (b := v31) (As := [.int x1, .int (nI 0)]) (st := []) (r := ("Partlister$Numbers", T_N, 1)) hV.1 cb_N_write lk_I_35 in_N_write rfl se_N_write (by decide +kernel) rfl rfl (Nat.le_of_ble_eq_true rfl) (by decide) e43) (k_N_write hV G v31 x1 (nI 0)) h (fun G45 _ h => ?_)
        refine Y.blk (pc' := 109) (L' := [some (.ref x0), some (.int x1)]) (st' := [.ref x0]) (sg := [(.aload_n 0, 0)]) (by decide +kernel) rfl ?_
        refine Y.getA fl_I_23 (by decide +kernel) h (fun v46 h => ?_)
        refine Y.blk (pc' := 114) (L' := [some (.ref x0), some (.int x1)]) (st' := [.int (-1), .int x1, .ref v46]) (sg := [(.iload_n 1, 0), (.iconst (-1), -1)]) (by decide +kernel) rfl ?_
        obtain ⟨o48, e47, h⟩ := gOb_inv h
        refine Y.callN (yC.Vi (b := v46) (As := [.int x1, .int (-1)]) (st := []) (r := ("Partlister$Numbers", T_N, 1)) hV.1 cb_N_write lk_I_35 in_N_write rfl se_N_write (by decide +kernel) rfl rfl (Nat.le_of_ble_eq_true rfl) (by decide) e47) (k_N_write hV G45 v46 x1 (-1)) h (fun G49 _ h => ?_)
        refine Y.blk (pc' := 118) (L' := [some (.ref x0), some (.int x1)]) (st' := [.ref x0]) (sg := [(.aload_n 0, 0)]) (by decide +kernel) rfl ?_
        refine Y.getA fl_I_26 (by decide +kernel) h (fun v50 h => ?_)
        refine Y.blk (pc' := 123) (L' := [some (.ref x0), some (.int x1)]) (st' := [.int x1, .int x1, .ref v50]) (sg := [(.iload_n 1, 0), (.iload_n 1, 0)]) (by decide +kernel) rfl ?_
        obtain ⟨o52, e51, h⟩ := gOb_inv h
        refine Y.callN (yC.Vi (b := v50) (As := [.int x1, .int x1]) (st := []) (r := ("Partlister$Numbers", T_N, 1)) hV.1 cb_N_write lk_I_35 in_N_write rfl se_N_write (by decide +kernel) rfl rfl (Nat.le_of_ble_eq_true rfl) (by decide) e51) (k_N_write hV G49 v50 x1 x1) h (fun G53 _ h => ?_)
        refine Y.blk (pc' := 129) (L' := [some (.ref x0), some (.int (x1 + (nI 1)))]) (st' := []) (sg := [(.iinc 1 1, nI 1)]) (by decide +kernel) rfl ?_
        refine Y.goto (off := -45) (tgt := 84) (by decide +kernel) (by decide) ?_
        exact ih G53 x0 (x1 + (nI 1)) h
theorem k_I_init {l : Launch} {D : va_G} {B : Nat} {O : State → Heap → Prop} (hV : zG l D B O) (G : gH) (a0 : Nat) : gMet (zVm l D B O) m_I_init 2 [.ref a0] G (f_I_init G a0) := by
  refine gMet.of (by decide +kernel) (Nat.le_of_ble_eq_true rfl) [some (.ref a0), none] (fun ls h => zEn_ok (n := 2) h) ?_
  intro o Gf h
  unfold f_I_init at h
  refine Y.blk (pc' := 1) (L' := [some (.ref a0), none]) (st' := [.ref a0]) (sg := [(.aload_n 0, 0)]) (by decide +kernel) rfl ?_
  refine Y.objInit lk_I_3 in_OJ_init cw_OJ_init (by decide) rfl (Nat.le_of_ble_eq_true rfl) (by decide +kernel) ?_
  refine Y.blk (pc' := 5) (L' := [some (.ref a0), none]) (st' := [.ref a0]) (sg := [(.aload_n 0, 0)]) (by decide +kernel) rfl ?_
  refine Y.new nc_I_9 bk_N (by decide +kernel) h (fun a1 G2 h => ?_)
  refine Y.blk (pc' := 11) (L' := [some (.ref a0), none]) (st' := [.int (nI 62), .ref a1, .ref a1, .ref a0]) (sg := [(.dup, 0), (.bipush 62, nI 62)]) (by decide +kernel) rfl ?_
  refine Y.callN (yC.I (b := a1) (As := [.int (nI 62)]) (st := [.ref a1, .ref a0]) hV.1 cb_N_init lk_I_11 in_N_init rfl rfl (by decide +kernel) rfl rfl (Nat.le_of_ble_eq_true rfl) (by decide)) (k_N_init hV G2 a1 (nI 62)) h (fun G4 _ h => ?_)
  refine Y.putF fl_I_14 rfl rfl rfl (by decide +kernel) h (fun G5 _ _ h => ?_)
  refine Y.blk (pc' := 18) (L' := [some (.ref a0), none]) (st' := [.ref a0]) (sg := [(.aload_n 0, 0)]) (by decide +kernel) rfl ?_
  refine Y.new nc_I_9 bk_N (by decide +kernel) h (fun a6 G7 h => ?_)
  refine Y.blk (pc' := 24) (L' := [some (.ref a0), none]) (st' := [.int (nI 6), .ref a6, .ref a6, .ref a0]) (sg := [(.dup, 0), (.bipush 6, nI 6)]) (by decide +kernel) rfl ?_
  refine Y.callN (yC.I (b := a6) (As := [.int (nI 6)]) (st := [.ref a6, .ref a0]) hV.1 cb_N_init lk_I_11 in_N_init rfl rfl (by decide +kernel) rfl rfl (Nat.le_of_ble_eq_true rfl) (by decide)) (k_N_init hV G7 a6 (nI 6)) h (fun G9 _ h => ?_)
  refine Y.putF fl_I_20 rfl rfl rfl (by decide +kernel) h (fun G10 _ _ h => ?_)
  refine Y.blk (pc' := 31) (L' := [some (.ref a0), none]) (st' := [.ref a0]) (sg := [(.aload_n 0, 0)]) (by decide +kernel) rfl ?_
  refine Y.new nc_I_9 bk_N (by decide +kernel) h (fun a11 G12 h => ?_)
  refine Y.blk (pc' := 37) (L' := [some (.ref a0), none]) (st' := [.int (nI 6), .ref a11, .ref a11, .ref a0]) (sg := [(.dup, 0), (.bipush 6, nI 6)]) (by decide +kernel) rfl ?_
  refine Y.callN (yC.I (b := a11) (As := [.int (nI 6)]) (st := [.ref a11, .ref a0]) hV.1 cb_N_init lk_I_11 in_N_init rfl rfl (by decide +kernel) rfl rfl (Nat.le_of_ble_eq_true rfl) (by decide)) (k_N_init hV G12 a11 (nI 6)) h (fun G14 _ h => ?_)
  refine Y.putF fl_I_23 rfl rfl rfl (by decide +kernel) h (fun G15 _ _ h => ?_)
  refine Y.blk (pc' := 44) (L' := [some (.ref a0), none]) (st' := [.ref a0]) (sg := [(.aload_n 0, 0)]) (by decide +kernel) rfl ?_
  refine Y.new nc_I_9 bk_N (by decide +kernel) h (fun a16 G17 h => ?_)
  refine Y.blk (pc' := 50) (L' := [some (.ref a0), none]) (st' := [.int (nI 6), .ref a16, .ref a16, .ref a0]) (sg := [(.dup, 0), (.bipush 6, nI 6)]) (by decide +kernel) rfl ?_
  refine Y.callN (yC.I (b := a16) (As := [.int (nI 6)]) (st := [.ref a16, .ref a0]) hV.1 cb_N_init lk_I_11 in_N_init rfl rfl (by decide +kernel) rfl rfl (Nat.le_of_ble_eq_true rfl) (by decide)) (k_N_init hV G17 a16 (nI 6)) h (fun G19 _ h => ?_)
  refine Y.putF fl_I_26 rfl rfl rfl (by decide +kernel) h (fun G20 _ _ h => ?_)
  refine Y.blk (pc' := 57) (L' := [some (.ref a0), none]) (st' := [.ref a0]) (sg := [(.aload_n 0, 0)]) (by decide +kernel) rfl ?_
  refine Y.new nc_I_9 bk_N (by decide +kernel) h (fun a21 G22 h => ?_)
  refine Y.blk (pc' := 63) (L' := [some (.ref a0), none]) (st' := [.int (nI 6), .ref a21, .ref a21, .ref a0]) (sg := [(.dup, 0), (.bipush 6, nI 6)]) (by decide +kernel) rfl ?_
  refine Y.callN (yC.I (b := a21) (As := [.int (nI 6)]) (st := [.ref a21, .ref a0]) hV.1 cb_N_init lk_I_11 in_N_init rfl rfl (by decide +kernel) rfl rfl (Nat.le_of_ble_eq_true rfl) (by decide)) (k_N_init hV G22 a21 (nI 6)) h (fun G24 _ h => ?_)
  refine Y.putF fl_I_29 rfl rfl rfl (by decide +kernel) h (fun G25 _ _ h => ?_)
  refine Y.blk (pc' := 70) (L' := [some (.ref a0), none]) (st' := [.ref a0]) (sg := [(.aload_n 0, 0)]) (by decide +kernel) rfl ?_
  refine Y.new nc_I_9 bk_N (by decide +kernel) h (fun a26 G27 h => ?_)
  refine Y.blk (pc' := 76) (L' := [some (.ref a0), none]) (st' := [.int (nI 31), .ref a26, .ref a26, .ref a0]) (sg := [(.dup, 0), (.bipush 31, nI 31)]) (by decide +kernel) rfl ?_
  refine Y.callN (yC.I (b := a26) (As := [.int (nI 31)]) (st := [.ref a26, .ref a0]) hV.1 cb_N_init lk_I_11 in_N_init rfl rfl (by decide +kernel) rfl rfl (Nat.le_of_ble_eq_true rfl) (by decide)) (k_N_init hV G27 a26 (nI 31)) h (fun G29 _ h => ?_)
  refine Y.putF fl_I_32 rfl rfl rfl (by decide +kernel) h (fun G30 _ _ h => ?_)
  refine Y.blk (pc' := 84) (L' := [some (.ref a0), some (.int (nI 0))]) (st' := []) (sg := [(.iconst 0, nI 0), (.istore_n 1, 0)]) (by decide +kernel) rfl ?_
  refine k_I_init_L84 hV _ ?_  zFu G30 a0 (nI 0) h
  · intro G56 h
    exact Y.vret rfl (by decide +kernel) h

def f_X_init (G : gH) (a0 : Nat) : gR :=
  gNewO G 1 7 [.null, .null, .null, .null, .null, .null, .int 0] fun a1 G2 => bV (f_I_init G2 a1) fun G4 => gPut G4 a0 3 0 (.ref a1) fun G5 => gNewO G5 0 5 [.null, .null, .null, .null, .int 0] fun a6 G7 => bV (f_U_init G7 a6) fun G9 => gPut G9 a0 3 1 (.ref a6) fun G10 => rV G10
theorem k_X_init {l : Launch} {D : va_G} {B : Nat} {O : State → Heap → Prop} (hV : zG l D B O) (G : gH) (a0 : Nat) : gMet (zVm l D B O) m_X_init 3 [.ref a0] G (f_X_init G a0) := by
  refine gMet.of (by decide +kernel) (Nat.le_of_ble_eq_true rfl) [some (.ref a0)] (fun ls h => zEn_ok (n := 1) h) ?_
  intro o Gf h
  unfold f_X_init at h
  refine Y.blk (pc' := 1) (L' := [some (.ref a0)]) (st' := [.ref a0]) (sg := [(.aload_n 0, 0)]) (by decide +kernel) rfl ?_
  refine Y.objInit lk_X_1 in_OJ_init cw_OJ_init (by decide) rfl (Nat.le_of_ble_eq_true rfl) (by decide +kernel) ?_
  refine Y.blk (pc' := 5) (L' := [some (.ref a0)]) (st' := [.ref a0]) (sg := [(.aload_n 0, 0)]) (by decide +kernel) rfl ?_
  refine Y.new nc_X_7 bk_I (by decide +kernel) h (fun a1 G2 h => ?_)
  refine Y.blk (pc' := 9) (L' := [some (.ref a0)]) (st' := [.ref a1, .ref a1, .ref a0]) (sg := [(.dup, 0)]) (by decide +kernel) rfl ?_
  refine Y.callN (yC.I (b := a1) (As := []) (st := [.ref a1, .ref a0]) hV.1 cb_I_init lk_X_9 in_I_init rfl rfl (by decide +kernel) rfl rfl (Nat.le_of_ble_eq_true rfl) (by decide)) (k_I_init hV G2 a1) h (fun G4 _ h => ?_)
  refine Y.putF fl_X_10 rfl rfl rfl (by decide +kernel) h (fun G5 _ _ h => ?_)
  refine Y.blk (pc' := 16) (L' := [some (.ref a0)]) (st' := [.ref a0]) (sg := [(.aload_n 0, 0)]) (by decide +kernel) rfl ?_
  refine Y.new nc_X_16 bk_U (by decide +kernel) h (fun a6 G7 h => ?_)
  refine Y.blk (pc' := 20) (L' := [some (.ref a0)]) (st' := [.ref a6, .ref a6, .ref a0]) (sg := [(.dup, 0)]) (by decide +kernel) rfl ?_
  refine Y.callN (yC.IN (b := a6) (As := []) (st := [.ref a6, .ref a0]) hV.1 cb_U_init lk_X_18 in_U_init rfl rfl (by decide +kernel) rfl rfl (Nat.le_of_ble_eq_true rfl) (by decide)) (k_U_init hV G7 a6) h (fun G9 _ h => ?_)
  refine Y.putF fl_X_19 rfl rfl rfl (by decide +kernel) h (fun G10 _ _ h => ?_)
  exact Y.vret rfl (by decide +kernel) h

def f_N_read (G : gH) (a0 : Nat) (a1 : Int32) : gR :=
  if a1 < 0 then rI (-1) G
  else gFA G a0 2 0 fun v1 => gLen G v1 100 fun v2 => if v2 ≤ a1 then rI (-1) G
    else gFA G a0 2 0 fun v3 => gLd G v3 100 a1 fun v4 => rI v4 G
theorem k_N_read {l : Launch} {D : va_G} {B : Nat} {O : State → Heap → Prop} (hV : zG l D B O) (G : gH) (a0 : Nat) (a1 : Int32) : gMet (zVm l D B O) m_N_read 1 [.ref a0, .int a1] G (f_N_read G a0 a1) := by
  refine gMet.of (by decide +kernel) (Nat.le_of_ble_eq_true rfl) [some (.ref a0), some (.int a1)] (fun ls h => zEn_ok (n := 2) h) ?_
  intro o Gf h
  unfold f_N_read at h
  refine Y.blk (pc' := 1) (L' := [some (.ref a0), some (.int a1)]) (st' := [.int a1]) (sg := [(.iload_n 1, 0)]) (by decide +kernel) rfl ?_
  refine Y.if_lt (off := 21) (tgt := 22) (by decide +kernel) (by decide) h (fun c6 h => ?_) (fun c6 h => ?_)
  · refine Y.blk (pc' := 23) (L' := [some (.ref a0), some (.int a1)]) (st' := [.int (-1)]) (sg := [(.iconst (-1), -1)]) (by decide +kernel) rfl ?_
    exact Y.iret rfl (by decide +kernel) h
  · refine Y.blk (pc' := 6) (L' := [some (.ref a0), some (.int a1)]) (st' := [.ref a0, .int a1]) (sg := [(.iload_n 1, 0), (.aload_n 0, 0)]) (by decide +kernel) rfl ?_
    refine Y.getA fl_N_9 (by decide +kernel) h (fun v1 h => ?_)
    refine Y.alen (t0 := 0) (by decide +kernel) rfl h (fun v2 h => ?_)
    refine Y.ic_ge (off := 12) (tgt := 22) (by decide +kernel) (by decide) h (fun c5 h => ?_) (fun c5 h => ?_)
    · refine Y.blk (pc' := 23) (L' := [some (.ref a0), some (.int a1)]) (st' := [.int (-1)]) (sg := [(.iconst (-1), -1)]) (by decide +kernel) rfl ?_
      exact Y.iret rfl (by decide +kernel) h
    · refine Y.blk (pc' := 14) (L' := [some (.ref a0), some (.int a1)]) (st' := [.ref a0]) (sg := [(.aload_n 0, 0)]) (by decide +kernel) rfl ?_
      refine Y.getA fl_N_9 (by decide +kernel) h (fun v3 h => ?_)
      refine Y.blk (pc' := 18) (L' := [some (.ref a0), some (.int a1)]) (st' := [.int a1, .ref v3]) (sg := [(.iload_n 1, 0)]) (by decide +kernel) rfl ?_
      refine Y.iald (t0 := 0) (by decide +kernel) rfl h (fun v4 h => ?_)
      refine Y.goto (off := 4) (tgt := 23) (by decide +kernel) (by decide) ?_
      exact Y.iret rfl (by decide +kernel) h

def f_U_isStale (G : gH) (a0 : Nat) (a1 : Int32) : gR :=
  gFA G a0 0 0 fun v1 => gOb G v1 2 fun o3 => bI (f_N_read G v1 a1) fun v5 G4 => if v5 = (nI 2) then rZ (nI 1) G4
  else rZ (nI 0) G4
theorem k_U_isStale {l : Launch} {D : va_G} {B : Nat} {O : State → Heap → Prop} (hV : zG l D B O) (G : gH) (a0 : Nat) (a1 : Int32) : gMet (zVm l D B O) m_U_isStale 2 [.ref a0, .int a1] G (f_U_isStale G a0 a1) := by
  refine gMet.of (by decide +kernel) (Nat.le_of_ble_eq_true rfl) [some (.ref a0), some (.int a1)] (fun ls h => zEn_ok (n := 2) h) ?_
  intro o Gf h
  unfold f_U_isStale at h
  refine Y.blk (pc' := 1) (L' := [some (.ref a0), some (.int a1)]) (st' := [.ref a0]) (sg := [(.aload_n 0, 0)]) (by decide +kernel) rfl ?_
  refine Y.getA fl_U_14 (by decide +kernel) h (fun v1 h => ?_)
  refine Y.blk (pc' := 5) (L' := [some (.ref a0), some (.int a1)]) (st' := [.int a1, .ref v1]) (sg := [(.iload_n 1, 0)]) (by decide +kernel) rfl ?_
  obtain ⟨o3, e2, h⟩ := gOb_inv h
  refine Y.callI (yC.Vi (b := v1) (As := [.int a1]) (st := []) (r := ("Partlister$Numbers", T_N, 1)) hV.1 cb_N_read lk_U_33 in_N_read rfl se_N_read (by decide +kernel) rfl rfl (Nat.le_of_ble_eq_true rfl) (by decide) e2) (k_N_read hV G v1 a1) h (fun v5 G4 _ h => ?_)
  refine Y.blk (pc' := 9) (L' := [some (.ref a0), some (.int a1)]) (st' := [.int (nI 2), .int v5]) (sg := [(.iconst 2, nI 2)]) (by decide +kernel) rfl ?_
  refine Y.ic_ne (off := 7) (tgt := 16) (by decide +kernel) (by decide) h (fun c6 h => ?_) (fun c6 h => ?_)
  · refine Y.blk (pc' := 13) (L' := [some (.ref a0), some (.int a1)]) (st' := [.int (nI 1)]) (sg := [(.iconst 1, nI 1)]) (by decide +kernel) rfl ?_
    refine Y.goto (off := 4) (tgt := 17) (by decide +kernel) (by decide) ?_
    exact Y.zret rfl (by decide +kernel) h
  · refine Y.blk (pc' := 17) (L' := [some (.ref a0), some (.int a1)]) (st' := [.int (nI 0)]) (sg := [(.iconst 0, nI 0)]) (by decide +kernel) rfl ?_
    exact Y.zret rfl (by decide +kernel) h

def f_U_isThere (G : gH) (a0 : Nat) (a1 : Int32) : gR :=
  gOb G a0 0 fun o2 => bI (f_U_isStale G a0 a1) fun v4 G3 => if v4 = 0 then (gFA G3 a0 0 0 fun v5 => gOb G3 v5 2 fun o7 => bI (f_N_read G3 v5 a1) fun v9 G8 => if v9 = (nI 1) then rZ (nI 1) G8
    else rZ (nI 0) G8)
  else rZ (nI 1) G3
theorem k_U_isThere {l : Launch} {D : va_G} {B : Nat} {O : State → Heap → Prop} (hV : zG l D B O) (G : gH) (a0 : Nat) (a1 : Int32) : gMet (zVm l D B O) m_U_isThere 3 [.ref a0, .int a1] G (f_U_isThere G a0 a1) := by
  refine gMet.of (by decide +kernel) (Nat.le_of_ble_eq_true rfl) [some (.ref a0), some (.int a1)] (fun ls h => zEn_ok (n := 2) h) ?_
  intro o Gf h
  unfold f_U_isThere at h
  refine Y.blk (pc' := 2) (L' := [some (.ref a0), some (.int a1)]) (st' := [.int a1, .ref a0]) (sg := [(.aload_n 0, 0), (.iload_n 1, 0)]) (by decide +kernel) rfl ?_
  obtain ⟨o2, e1, h⟩ := gOb_inv h
  refine Y.callI (yC.Vi (b := a0) (As := [.int a1]) (st := []) (r := ("Partlister$Cursors", T_U, 5)) hV.1 cb_U_isStale lk_U_29 in_U_isStale rfl se_U_isStale (by decide +kernel) rfl rfl (Nat.le_of_ble_eq_true rfl) (by decide) e1) (k_U_isStale hV G a0 a1) h (fun v4 G3 _ h => ?_)
  refine Y.if_ne (off := 15) (tgt := 20) (by decide +kernel) (by decide) h (fun c11 h => ?_) (fun c11 h => ?_)
  · refine Y.blk (pc' := 9) (L' := [some (.ref a0), some (.int a1)]) (st' := [.ref a0]) (sg := [(.aload_n 0, 0)]) (by decide +kernel) rfl ?_
    refine Y.getA fl_U_14 (by decide +kernel) h (fun v5 h => ?_)
    refine Y.blk (pc' := 13) (L' := [some (.ref a0), some (.int a1)]) (st' := [.int a1, .ref v5]) (sg := [(.iload_n 1, 0)]) (by decide +kernel) rfl ?_
    obtain ⟨o7, e6, h⟩ := gOb_inv h
    refine Y.callI (yC.Vi (b := v5) (As := [.int a1]) (st := []) (r := ("Partlister$Numbers", T_N, 1)) hV.1 cb_N_read lk_U_33 in_N_read rfl se_N_read (by decide +kernel) rfl rfl (Nat.le_of_ble_eq_true rfl) (by decide) e6) (k_N_read hV G3 v5 a1) h (fun v9 G8 _ h => ?_)
    refine Y.blk (pc' := 17) (L' := [some (.ref a0), some (.int a1)]) (st' := [.int (nI 1), .int v9]) (sg := [(.iconst 1, nI 1)]) (by decide +kernel) rfl ?_
    refine Y.ic_ne (off := 7) (tgt := 24) (by decide +kernel) (by decide) h (fun c10 h => ?_) (fun c10 h => ?_)
    · refine Y.blk (pc' := 21) (L' := [some (.ref a0), some (.int a1)]) (st' := [.int (nI 1)]) (sg := [(.iconst 1, nI 1)]) (by decide +kernel) rfl ?_
      refine Y.goto (off := 4) (tgt := 25) (by decide +kernel) (by decide) ?_
      exact Y.zret rfl (by decide +kernel) h
    · refine Y.blk (pc' := 25) (L' := [some (.ref a0), some (.int a1)]) (st' := [.int (nI 0)]) (sg := [(.iconst 0, nI 0)]) (by decide +kernel) rfl ?_
      exact Y.zret rfl (by decide +kernel) h
  · refine Y.blk (pc' := 21) (L' := [some (.ref a0), some (.int a1)]) (st' := [.int (nI 1)]) (sg := [(.iconst 1, nI 1)]) (by decide +kernel) rfl ?_
    refine Y.goto (off := 4) (tgt := 25) (by decide +kernel) (by decide) ?_
    exact Y.zret rfl (by decide +kernel) h

def f_U_listOf (G : gH) (a0 : Nat) (a1 : Int32) : gR :=
  gFA G a0 0 1 fun v1 => gOb G v1 2 fun o3 => bI (f_N_read G v1 a1) fun v5 G4 => rI v5 G4
theorem k_U_listOf {l : Launch} {D : va_G} {B : Nat} {O : State → Heap → Prop} (hV : zG l D B O) (G : gH) (a0 : Nat) (a1 : Int32) : gMet (zVm l D B O) m_U_listOf 2 [.ref a0, .int a1] G (f_U_listOf G a0 a1) := by
  refine gMet.of (by decide +kernel) (Nat.le_of_ble_eq_true rfl) [some (.ref a0), some (.int a1)] (fun ls h => zEn_ok (n := 2) h) ?_
  intro o Gf h
  unfold f_U_listOf at h
  refine Y.blk (pc' := 1) (L' := [some (.ref a0), some (.int a1)]) (st' := [.ref a0]) (sg := [(.aload_n 0, 0)]) (by decide +kernel) rfl ?_
  refine Y.getA fl_U_20 (by decide +kernel) h (fun v1 h => ?_)
  refine Y.blk (pc' := 5) (L' := [some (.ref a0), some (.int a1)]) (st' := [.int a1, .ref v1]) (sg := [(.iload_n 1, 0)]) (by decide +kernel) rfl ?_
  obtain ⟨o3, e2, h⟩ := gOb_inv h
  refine Y.callI (yC.Vi (b := v1) (As := [.int a1]) (st := []) (r := ("Partlister$Numbers", T_N, 1)) hV.1 cb_N_read lk_U_33 in_N_read rfl se_N_read (by decide +kernel) rfl rfl (Nat.le_of_ble_eq_true rfl) (by decide) e2) (k_N_read hV G v1 a1) h (fun v5 G4 _ h => ?_)
  exact Y.iret rfl (by decide +kernel) h

def f_I_rowOf (G : gH) (a0 : Nat) (a1 : Int32) : gR :=
  gFA G a0 1 3 fun v1 => gOb G v1 2 fun o3 => bI (f_N_read G v1 a1) fun v5 G4 => rI v5 G4
theorem k_I_rowOf {l : Launch} {D : va_G} {B : Nat} {O : State → Heap → Prop} (hV : zG l D B O) (G : gH) (a0 : Nat) (a1 : Int32) : gMet (zVm l D B O) m_I_rowOf 2 [.ref a0, .int a1] G (f_I_rowOf G a0 a1) := by
  refine gMet.of (by decide +kernel) (Nat.le_of_ble_eq_true rfl) [some (.ref a0), some (.int a1)] (fun ls h => zEn_ok (n := 2) h) ?_
  intro o Gf h
  unfold f_I_rowOf at h
  refine Y.blk (pc' := 1) (L' := [some (.ref a0), some (.int a1)]) (st' := [.ref a0]) (sg := [(.aload_n 0, 0)]) (by decide +kernel) rfl ?_
  refine Y.getA fl_I_26 (by decide +kernel) h (fun v1 h => ?_)
  refine Y.blk (pc' := 5) (L' := [some (.ref a0), some (.int a1)]) (st' := [.int a1, .ref v1]) (sg := [(.iload_n 1, 0)]) (by decide +kernel) rfl ?_
  obtain ⟨o3, e2, h⟩ := gOb_inv h
  refine Y.callI (yC.Vi (b := v1) (As := [.int a1]) (st := []) (r := ("Partlister$Numbers", T_N, 1)) hV.1 cb_N_read lk_I_39 in_N_read rfl se_N_read (by decide +kernel) rfl rfl (Nat.le_of_ble_eq_true rfl) (by decide) e2) (k_N_read hV G v1 a1) h (fun v5 G4 _ h => ?_)
  exact Y.iret rfl (by decide +kernel) h

def f_X_isOnRowOf (G : gH) (a0 : Nat) (a1 : Int32) (a2 : Int32) : gR :=
  gFA G a0 3 1 fun v1 => gOb G v1 0 fun o3 => bI (f_U_isThere G v1 a1) fun v5 G4 => if v5 = 0 then rZ (nI 0) G4
  else gFA G4 a0 3 0 fun v6 => gFA G4 a0 3 1 fun v7 => gOb G4 v7 0 fun o9 => bI (f_U_listOf G4 v7 a1) fun v11 G10 => gOb G10 v6 1 fun o13 => bI (f_I_rowOf G10 v6 v11) fun v15 G14 => gFA G14 a0 3 0 fun v16 => gOb G14 v16 1 fun o18 => bI (f_I_rowOf G14 v16 a2) fun v20 G19 => if v15 = v20 then rZ (nI 1) G19
    else rZ (nI 0) G19
theorem k_X_isOnRowOf {l : Launch} {D : va_G} {B : Nat} {O : State → Heap → Prop} (hV : zG l D B O) (G : gH) (a0 : Nat) (a1 : Int32) (a2 : Int32) : gMet (zVm l D B O) m_X_isOnRowOf 4 [.ref a0, .int a1, .int a2] G (f_X_isOnRowOf G a0 a1 a2) := by
  refine gMet.of (by decide +kernel) (Nat.le_of_ble_eq_true rfl) [some (.ref a0), some (.int a1), some (.int a2)] (fun ls h => zEn_ok (n := 3) h) ?_
  intro o Gf h
  unfold f_X_isOnRowOf at h
  refine Y.blk (pc' := 1) (L' := [some (.ref a0), some (.int a1), some (.int a2)]) (st' := [.ref a0]) (sg := [(.aload_n 0, 0)]) (by decide +kernel) rfl ?_
  refine Y.getA fl_X_19 (by decide +kernel) h (fun v1 h => ?_)
  refine Y.blk (pc' := 5) (L' := [some (.ref a0), some (.int a1), some (.int a2)]) (st' := [.int a1, .ref v1]) (sg := [(.iload_n 1, 0)]) (by decide +kernel) rfl ?_
  obtain ⟨o3, e2, h⟩ := gOb_inv h
  refine Y.callI (yC.Vi (b := v1) (As := [.int a1]) (st := []) (r := ("Partlister$Cursors", T_U, 5)) hV.1 cb_U_isThere lk_X_148 in_U_isThere rfl se_U_isThere (by decide +kernel) rfl rfl (Nat.le_of_ble_eq_true rfl) (by decide) e2) (k_U_isThere hV G v1 a1) h (fun v5 G4 _ h => ?_)
  refine Y.if_eq (off := 33) (tgt := 41) (by decide +kernel) (by decide) h (fun c22 h => ?_) (fun c22 h => ?_)
  · refine Y.blk (pc' := 42) (L' := [some (.ref a0), some (.int a1), some (.int a2)]) (st' := [.int (nI 0)]) (sg := [(.iconst 0, nI 0)]) (by decide +kernel) rfl ?_
    exact Y.zret rfl (by decide +kernel) h
  · refine Y.blk (pc' := 12) (L' := [some (.ref a0), some (.int a1), some (.int a2)]) (st' := [.ref a0]) (sg := [(.aload_n 0, 0)]) (by decide +kernel) rfl ?_
    refine Y.getA fl_X_10 (by decide +kernel) h (fun v6 h => ?_)
    refine Y.blk (pc' := 16) (L' := [some (.ref a0), some (.int a1), some (.int a2)]) (st' := [.ref a0, .ref v6]) (sg := [(.aload_n 0, 0)]) (by decide +kernel) rfl ?_
    refine Y.getA fl_X_19 (by decide +kernel) h (fun v7 h => ?_)
    refine Y.blk (pc' := 20) (L' := [some (.ref a0), some (.int a1), some (.int a2)]) (st' := [.int a1, .ref v7, .ref v6]) (sg := [(.iload_n 1, 0)]) (by decide +kernel) rfl ?_
    obtain ⟨o9, e8, h⟩ := gOb_inv h
    refine Y.callI (yC.Vi (b := v7) (As := [.int a1]) (st := [.ref v6]) (r := ("Partlister$Cursors", T_U, 5)) hV.1 cb_U_listOf lk_X_152 in_U_listOf rfl se_U_listOf (by decide +kernel) rfl rfl (Nat.le_of_ble_eq_true rfl) (by decide) e8) (k_U_listOf hV G4 v7 a1) h (fun v11 G10 _ h => ?_)
    obtain ⟨o13, e12, h⟩ := gOb_inv h
    refine Y.callI (yC.Vi (b := v6) (As := [.int v11]) (st := []) (r := ("Partlister$Lists", T_I, 7)) hV.1 cb_I_rowOf lk_X_299 in_I_rowOf rfl se_I_rowOf (by decide +kernel) rfl rfl (Nat.le_of_ble_eq_true rfl) (by decide) e12) (k_I_rowOf hV G10 v6 v11) h (fun v15 G14 _ h => ?_)
    refine Y.blk (pc' := 27) (L' := [some (.ref a0), some (.int a1), some (.int a2)]) (st' := [.ref a0, .int v15]) (sg := [(.aload_n 0, 0)]) (by decide +kernel) rfl ?_
    refine Y.getA fl_X_10 (by decide +kernel) h (fun v16 h => ?_)
    refine Y.blk (pc' := 31) (L' := [some (.ref a0), some (.int a1), some (.int a2)]) (st' := [.int a2, .ref v16, .int v15]) (sg := [(.iload_n 2, 0)]) (by decide +kernel) rfl ?_
    obtain ⟨o18, e17, h⟩ := gOb_inv h
    refine Y.callI (yC.Vi (b := v16) (As := [.int a2]) (st := [.int v15]) (r := ("Partlister$Lists", T_I, 7)) hV.1 cb_I_rowOf lk_X_299 in_I_rowOf rfl se_I_rowOf (by decide +kernel) rfl rfl (Nat.le_of_ble_eq_true rfl) (by decide) e17) (k_I_rowOf hV G14 v16 a2) h (fun v20 G19 _ h => ?_)
    refine Y.ic_ne (off := 7) (tgt := 41) (by decide +kernel) (by decide) h (fun c21 h => ?_) (fun c21 h => ?_)
    · refine Y.blk (pc' := 38) (L' := [some (.ref a0), some (.int a1), some (.int a2)]) (st' := [.int (nI 1)]) (sg := [(.iconst 1, nI 1)]) (by decide +kernel) rfl ?_
      refine Y.goto (off := 4) (tgt := 42) (by decide +kernel) (by decide) ?_
      exact Y.zret rfl (by decide +kernel) h
    · refine Y.blk (pc' := 42) (L' := [some (.ref a0), some (.int a1), some (.int a2)]) (st' := [.int (nI 0)]) (sg := [(.iconst 0, nI 0)]) (by decide +kernel) rfl ?_
      exact Y.zret rfl (by decide +kernel) h

def f_U_finish (G : gH) (a0 : Nat) (a1 : Int32) : gR :=
  gFA G a0 0 0 fun v1 => gOb G v1 2 fun o3 => bV (f_N_write G v1 a1 (nI 0)) fun G4 => gFI G4 a0 0 4 fun v5 => gPut G4 a0 0 4 (.int (v5 + (nI 1))) fun G6 => rV G6
theorem k_U_finish {l : Launch} {D : va_G} {B : Nat} {O : State → Heap → Prop} (hV : zG l D B O) (G : gH) (a0 : Nat) (a1 : Int32) : gMet (zVm l D B O) m_U_finish 2 [.ref a0, .int a1] G (f_U_finish G a0 a1) := by
  refine gMet.of (by decide +kernel) (Nat.le_of_ble_eq_true rfl) [some (.ref a0), some (.int a1)] (fun ls h => zEn_ok (n := 2) h) ?_
  intro o Gf h
  unfold f_U_finish at h
  refine Y.blk (pc' := 1) (L' := [some (.ref a0), some (.int a1)]) (st' := [.ref a0]) (sg := [(.aload_n 0, 0)]) (by decide +kernel) rfl ?_
  refine Y.getA fl_U_14 (by decide +kernel) h (fun v1 h => ?_)
  refine Y.blk (pc' := 6) (L' := [some (.ref a0), some (.int a1)]) (st' := [.int (nI 0), .int a1, .ref v1]) (sg := [(.iload_n 1, 0), (.iconst 0, nI 0)]) (by decide +kernel) rfl ?_
  obtain ⟨o3, e2, h⟩ := gOb_inv h
  refine Y.callN (yC.Vi (b := v1) (As := [.int a1, .int (nI 0)]) (st := []) (r := ("Partlister$Numbers", T_N, 1)) hV.1 cb_N_write lk_U_40 in_N_write rfl se_N_write (by decide +kernel) rfl rfl (Nat.le_of_ble_eq_true rfl) (by decide) e2) (k_N_write hV G v1 a1 (nI 0)) h (fun G4 _ h => ?_)
  refine Y.blk (pc' := 11) (L' := [some (.ref a0), some (.int a1)]) (st' := [.ref a0, .ref a0]) (sg := [(.aload_n 0, 0), (.dup, 0)]) (by decide +kernel) rfl ?_
  refine Y.getI fl_U_54 (by decide +kernel) h (fun v5 h => ?_)
  refine Y.blk (pc' := 16) (L' := [some (.ref a0), some (.int a1)]) (st' := [.int (v5 + (nI 1)), .ref a0]) (sg := [(.iconst 1, nI 1), (.iadd, 0)]) (by decide +kernel) rfl ?_
  refine Y.putf fl_U_54 rfl rfl (by decide +kernel) h (fun G6 _ _ h => ?_)
  exact Y.vret rfl (by decide +kernel) h

def f_U_unsettle (G : gH) (a0 : Nat) (a1 : Int32) : gR :=
  gOb G a0 0 fun o2 => bI (f_U_listOf G a0 a1) fun v4 G3 => if (nI 2) ≤ v4 then gOb G3 a0 0 fun o6 => bV (f_U_finish G3 a0 a1) fun G7 => rV G7
  else gFA G3 a0 0 0 fun v8 => gOb G3 v8 2 fun o10 => bV (f_N_write G3 v8 a1 (nI 2)) fun G11 => rV G11
theorem k_U_unsettle {l : Launch} {D : va_G} {B : Nat} {O : State → Heap → Prop} (hV : zG l D B O) (G : gH) (a0 : Nat) (a1 : Int32) : gMet (zVm l D B O) m_U_unsettle 3 [.ref a0, .int a1] G (f_U_unsettle G a0 a1) := by
  refine gMet.of (by decide +kernel) (Nat.le_of_ble_eq_true rfl) [some (.ref a0), some (.int a1)] (fun ls h => zEn_ok (n := 2) h) ?_
  intro o Gf h
  unfold f_U_unsettle at h
  refine Y.blk (pc' := 2) (L' := [some (.ref a0), some (.int a1)]) (st' := [.int a1, .ref a0]) (sg := [(.aload_n 0, 0), (.iload_n 1, 0)]) (by decide +kernel) rfl ?_
  obtain ⟨o2, e1, h⟩ := gOb_inv h
  refine Y.callI (yC.Vi (b := a0) (As := [.int a1]) (st := []) (r := ("Partlister$Cursors", T_U, 5)) hV.1 cb_U_listOf lk_U_48 in_U_listOf rfl se_U_listOf (by decide +kernel) rfl rfl (Nat.le_of_ble_eq_true rfl) (by decide) e1) (k_U_listOf hV G a0 a1) h (fun v4 G3 _ h => ?_)
  refine Y.blk (pc' := 6) (L' := [some (.ref a0), some (.int a1)]) (st' := [.int (nI 2), .int v4]) (sg := [(.iconst 2, nI 2)]) (by decide +kernel) rfl ?_
  refine Y.ic_ge (off := 15) (tgt := 21) (by decide +kernel) (by decide) h (fun c12 h => ?_) (fun c12 h => ?_)
  · refine Y.blk (pc' := 23) (L' := [some (.ref a0), some (.int a1)]) (st' := [.int a1, .ref a0]) (sg := [(.aload_n 0, 0), (.iload_n 1, 0)]) (by decide +kernel) rfl ?_
    obtain ⟨o6, e5, h⟩ := gOb_inv h
    refine Y.callN (yC.Vi (b := a0) (As := [.int a1]) (st := []) (r := ("Partlister$Cursors", T_U, 5)) hV.1 cb_U_finish lk_U_51 in_U_finish rfl se_U_finish (by decide +kernel) rfl rfl (Nat.le_of_ble_eq_true rfl) (by decide) e5) (k_U_finish hV G3 a0 a1) h (fun G7 _ h => ?_)
    exact Y.vret rfl (by decide +kernel) h
  · refine Y.blk (pc' := 10) (L' := [some (.ref a0), some (.int a1)]) (st' := [.ref a0]) (sg := [(.aload_n 0, 0)]) (by decide +kernel) rfl ?_
    refine Y.getA fl_U_14 (by decide +kernel) h (fun v8 h => ?_)
    refine Y.blk (pc' := 15) (L' := [some (.ref a0), some (.int a1)]) (st' := [.int (nI 2), .int a1, .ref v8]) (sg := [(.iload_n 1, 0), (.iconst 2, nI 2)]) (by decide +kernel) rfl ?_
    obtain ⟨o10, e9, h⟩ := gOb_inv h
    refine Y.callN (yC.Vi (b := v8) (As := [.int a1, .int (nI 2)]) (st := []) (r := ("Partlister$Numbers", T_N, 1)) hV.1 cb_N_write lk_U_40 in_N_write rfl se_N_write (by decide +kernel) rfl rfl (Nat.le_of_ble_eq_true rfl) (by decide) e9) (k_N_write hV G3 v8 a1 (nI 2)) h (fun G11 _ h => ?_)
    refine Y.goto (off := 8) (tgt := 26) (by decide +kernel) (by decide) ?_
    exact Y.vret rfl (by decide +kernel) h

def f_I_finish (G : gH) (a0 : Nat) (a1 : Int32) : gR :=
  gFA G a0 1 1 fun v1 => gOb G v1 2 fun o3 => bV (f_N_write G v1 a1 (-1)) fun G4 => gFI G4 a0 1 6 fun v5 => gPut G4 a0 1 6 (.int (v5 + (nI 1))) fun G6 => rV G6
theorem k_I_finish {l : Launch} {D : va_G} {B : Nat} {O : State → Heap → Prop} (hV : zG l D B O) (G : gH) (a0 : Nat) (a1 : Int32) : gMet (zVm l D B O) m_I_finish 2 [.ref a0, .int a1] G (f_I_finish G a0 a1) := by
  refine gMet.of (by decide +kernel) (Nat.le_of_ble_eq_true rfl) [some (.ref a0), some (.int a1)] (fun ls h => zEn_ok (n := 2) h) ?_
  intro o Gf h
  unfold f_I_finish at h
  refine Y.blk (pc' := 1) (L' := [some (.ref a0), some (.int a1)]) (st' := [.ref a0]) (sg := [(.aload_n 0, 0)]) (by decide +kernel) rfl ?_
  refine Y.getA fl_I_20 (by decide +kernel) h (fun v1 h => ?_)
  refine Y.blk (pc' := 6) (L' := [some (.ref a0), some (.int a1)]) (st' := [.int (-1), .int a1, .ref v1]) (sg := [(.iload_n 1, 0), (.iconst (-1), -1)]) (by decide +kernel) rfl ?_
  obtain ⟨o3, e2, h⟩ := gOb_inv h
  refine Y.callN (yC.Vi (b := v1) (As := [.int a1, .int (-1)]) (st := []) (r := ("Partlister$Numbers", T_N, 1)) hV.1 cb_N_write lk_I_35 in_N_write rfl se_N_write (by decide +kernel) rfl rfl (Nat.le_of_ble_eq_true rfl) (by decide) e2) (k_N_write hV G v1 a1 (-1)) h (fun G4 _ h => ?_)
  refine Y.blk (pc' := 11) (L' := [some (.ref a0), some (.int a1)]) (st' := [.ref a0, .ref a0]) (sg := [(.aload_n 0, 0), (.dup, 0)]) (by decide +kernel) rfl ?_
  refine Y.getI fl_I_97 (by decide +kernel) h (fun v5 h => ?_)
  refine Y.blk (pc' := 16) (L' := [some (.ref a0), some (.int a1)]) (st' := [.int (v5 + (nI 1)), .ref a0]) (sg := [(.iconst 1, nI 1), (.iadd, 0)]) (by decide +kernel) rfl ?_
  refine Y.putf fl_I_97 rfl rfl (by decide +kernel) h (fun G6 _ _ h => ?_)
  exact Y.vret rfl (by decide +kernel) h

def f_I_isThere (G : gH) (a0 : Nat) (a1 : Int32) : gR :=
  gFA G a0 1 1 fun v1 => gOb G v1 2 fun o3 => bI (f_N_read G v1 a1) fun v5 G4 => if v5 = (-1) then rZ (nI 0) G4
  else rZ (nI 1) G4
theorem k_I_isThere {l : Launch} {D : va_G} {B : Nat} {O : State → Heap → Prop} (hV : zG l D B O) (G : gH) (a0 : Nat) (a1 : Int32) : gMet (zVm l D B O) m_I_isThere 2 [.ref a0, .int a1] G (f_I_isThere G a0 a1) := by
  refine gMet.of (by decide +kernel) (Nat.le_of_ble_eq_true rfl) [some (.ref a0), some (.int a1)] (fun ls h => zEn_ok (n := 2) h) ?_
  intro o Gf h
  unfold f_I_isThere at h
  refine Y.blk (pc' := 1) (L' := [some (.ref a0), some (.int a1)]) (st' := [.ref a0]) (sg := [(.aload_n 0, 0)]) (by decide +kernel) rfl ?_
  refine Y.getA fl_I_20 (by decide +kernel) h (fun v1 h => ?_)
  refine Y.blk (pc' := 5) (L' := [some (.ref a0), some (.int a1)]) (st' := [.int a1, .ref v1]) (sg := [(.iload_n 1, 0)]) (by decide +kernel) rfl ?_
  obtain ⟨o3, e2, h⟩ := gOb_inv h
  refine Y.callI (yC.Vi (b := v1) (As := [.int a1]) (st := []) (r := ("Partlister$Numbers", T_N, 1)) hV.1 cb_N_read lk_I_39 in_N_read rfl se_N_read (by decide +kernel) rfl rfl (Nat.le_of_ble_eq_true rfl) (by decide) e2) (k_N_read hV G v1 a1) h (fun v5 G4 _ h => ?_)
  refine Y.blk (pc' := 9) (L' := [some (.ref a0), some (.int a1)]) (st' := [.int (-1), .int v5]) (sg := [(.iconst (-1), -1)]) (by decide +kernel) rfl ?_
  refine Y.ic_eq (off := 7) (tgt := 16) (by decide +kernel) (by decide) h (fun c6 h => ?_) (fun c6 h => ?_)
  · refine Y.blk (pc' := 17) (L' := [some (.ref a0), some (.int a1)]) (st' := [.int (nI 0)]) (sg := [(.iconst 0, nI 0)]) (by decide +kernel) rfl ?_
    exact Y.zret rfl (by decide +kernel) h
  · refine Y.blk (pc' := 13) (L' := [some (.ref a0), some (.int a1)]) (st' := [.int (nI 1)]) (sg := [(.iconst 1, nI 1)]) (by decide +kernel) rfl ?_
    refine Y.goto (off := 4) (tgt := 17) (by decide +kernel) (by decide) ?_
    exact Y.zret rfl (by decide +kernel) h

def f_I_isWithin_L5 (K32 : gH → Int32 → Int32 → gR) : Nat → gH → Nat → Int32 → Int32 → Int32 → gR
  | 0, _, _, _, _, _ => none
  | n + 1, G, x0, x2, x3, x4 =>
    if (nI 6) ≤ x4 then K32 G x2 x3
    else if x3 = x2 then K32 G x2 x3
      else gFA G x0 1 2 fun v1 => gOb G v1 2 fun o3 => bI (f_N_read G v1 x3) fun v5 G4 => f_I_isWithin_L5 K32 n G4 x0 x2 v5 (x4 + (nI 1))
def f_I_isWithin (G : gH) (a0 : Nat) (a1 : Int32) (a2 : Int32) : gR :=
  f_I_isWithin_L5 (fun G10 x8 x9 => if x9 = x8 then rZ (nI 1) G10
    else rZ (nI 0) G10) zFu G a0 a2 a1 (nI 0)
theorem k_I_isWithin_L5 {l : Launch} {D : va_G} {B : Nat} {O : State → Heap → Prop} (hV : zG l D B O) {o : gO} {Gf : gH} (K32 : gH → Int32 → Int32 → gR) (hK32 : ∀ (G : gH) (x2 : Int32) (x3 : Int32), K32 G x2 x3 = some (o, Gf) → Y (zVm l D B O) m_I_isWithin 2 o Gf 32 [none, none, some (.int x2), some (.int x3), none] [] G) : ∀ (n : Nat) (G : gH) (x0 : Nat) (x2 : Int32) (x3 : Int32) (x4 : Int32), f_I_isWithin_L5 K32 n G x0 x2 x3 x4 = some (o, Gf) → Y (zVm l D B O) m_I_isWithin 2 o Gf 5 [some (.ref x0), none, some (.int x2), some (.int x3), some (.int x4)] [] G := by
  intro n
  induction n with
  | zero => intro G x0 x2 x3 x4 h; cases h
  | succ n ih =>
    intro G x0 x2 x3 x4 h
    unfold f_I_isWithin_L5 at h
    refine Y.blk (pc' := 9) (L' := [some (.ref x0), none, some (.int x2), some (.int x3), some (.int x4)]) (st' := [.int (nI 6), .int x4]) (sg := [(.iload 4, 0), (.bipush 6, nI 6)]) (by decide +kernel) rfl ?_
    refine Y.ic_ge (off := 23) (tgt := 32) (by decide +kernel) (by decide) h (fun c7 h => ?_) (fun c7 h => ?_)
    · refine Y.less (L' := [none, none, some (.int x2), some (.int x3), none]) (zLe_none (zLe_some (zLe_some (zLe_some (zLe_none (zLe_nil)))))) ?_
      exact hK32 G x2 x3 h
    · refine Y.blk (pc' := 14) (L' := [some (.ref x0), none, some (.int x2), some (.int x3), some (.int x4)]) (st' := [.int x2, .int x3]) (sg := [(.iload_n 3, 0), (.iload_n 2, 0)]) (by decide +kernel) rfl ?_
      refine Y.ic_eq (off := 18) (tgt := 32) (by decide +kernel) (by decide) h (fun c6 h => ?_) (fun c6 h => ?_)
      · refine Y.less (L' := [none, none, some (.int x2), some (.int x3), none]) (zLe_none (zLe_some (zLe_some (zLe_some (zLe_none (zLe_nil)))))) ?_
        exact hK32 G x2 x3 h
      · refine Y.blk (pc' := 18) (L' := [some (.ref x0), none, some (.int x2), some (.int x3), some (.int x4)]) (st' := [.ref x0]) (sg := [(.aload_n 0, 0)]) (by decide +kernel) rfl ?_
        refine Y.getA fl_I_23 (by decide +kernel) h (fun v1 h => ?_)
        refine Y.blk (pc' := 22) (L' := [some (.ref x0), none, some (.int x2), some (.int x3), some (.int x4)]) (st' := [.int x3, .ref v1]) (sg := [(.iload_n 3, 0)]) (by decide +kernel) rfl ?_
        obtain ⟨o3, e2, h⟩ := gOb_inv h
        refine Y.callI (yC.Vi (b := v1) (As := [.int x3]) (st := []) (r := ("Partlister$Numbers", T_N, 1)) hV.1 cb_N_read lk_I_39 in_N_read rfl se_N_read (by decide +kernel) rfl rfl (Nat.le_of_ble_eq_true rfl) (by decide) e2) (k_N_read hV G v1 x3) h (fun v5 G4 _ h => ?_)
        refine Y.blk (pc' := 29) (L' := [some (.ref x0), none, some (.int x2), some (.int v5), some (.int (x4 + (nI 1)))]) (st' := []) (sg := [(.istore_n 3, 0), (.iinc 4 1, nI 1)]) (by decide +kernel) rfl ?_
        refine Y.goto (off := -24) (tgt := 5) (by decide +kernel) (by decide) ?_
        exact ih G4 x0 x2 v5 (x4 + (nI 1)) h
theorem k_I_isWithin {l : Launch} {D : va_G} {B : Nat} {O : State → Heap → Prop} (hV : zG l D B O) (G : gH) (a0 : Nat) (a1 : Int32) (a2 : Int32) : gMet (zVm l D B O) m_I_isWithin 2 [.ref a0, .int a1, .int a2] G (f_I_isWithin G a0 a1 a2) := by
  refine gMet.of (by decide +kernel) (Nat.le_of_ble_eq_true rfl) [some (.ref a0), some (.int a1), some (.int a2), none, none] (fun ls h => zEn_ok (n := 5) h) ?_
  intro o Gf h
  unfold f_I_isWithin at h
  refine Y.blk (pc' := 5) (L' := [some (.ref a0), some (.int a1), some (.int a2), some (.int a1), some (.int (nI 0))]) (st' := []) (sg := [(.iload_n 1, 0), (.istore_n 3, 0), (.iconst 0, nI 0), (.istore 4, 0)]) (by decide +kernel) rfl ?_
  refine Y.less (L' := [some (.ref a0), none, some (.int a2), some (.int a1), some (.int (nI 0))]) (zLe_some (zLe_none (zLe_some (zLe_some (zLe_some (zLe_nil)))))) ?_
  refine k_I_isWithin_L5 hV _ ?_  zFu G a0 a2 a1 (nI 0) h
  · intro G10 x8 x9 h
    refine Y.blk (pc' := 34) (L' := [none, none, some (.int x8), some (.int x9), none]) (st' := [.int x8, .int x9]) (sg := [(.iload_n 3, 0), (.iload_n 2, 0)]) (by decide +kernel) rfl ?_
    refine Y.ic_ne (off := 7) (tgt := 41) (by decide +kernel) (by decide) h (fun c11 h => ?_) (fun c11 h => ?_)
    · refine Y.blk (pc' := 38) (L' := [none, none, some (.int x8), some (.int x9), none]) (st' := [.int (nI 1)]) (sg := [(.iconst 1, nI 1)]) (by decide +kernel) rfl ?_
      refine Y.goto (off := 4) (tgt := 42) (by decide +kernel) (by decide) ?_
      exact Y.zret rfl (by decide +kernel) h
    · refine Y.blk (pc' := 42) (L' := [none, none, some (.int x8), some (.int x9), none]) (st' := [.int (nI 0)]) (sg := [(.iconst 0, nI 0)]) (by decide +kernel) rfl ?_
      exact Y.zret rfl (by decide +kernel) h

def f_I_endOthers_L4 (K54 : gH → Int32 → gR) : Nat → gH → Nat → Int32 → Int32 → Int32 → gR
  | 0, _, _, _, _, _ => none
  | n + 1, G, x0, x1, x2, x3 =>
    if (nI 6) ≤ x3 then K54 G x2
    else gOb G x0 1 fun o2 => bI (f_I_isThere G x0 x3) fun v4 G3 => if v4 = 0 then f_I_endOthers_L4 K54 n G3 x0 x1 x2 (x3 + (nI 1))
      else gOb G3 x0 1 fun o6 => bI (f_I_rowOf G3 x0 x3) fun v8 G7 => gOb G7 x0 1 fun o10 => bI (f_I_rowOf G7 x0 x1) fun v12 G11 => if v8 = v12 then (gOb G11 x0 1 fun o14 => bI (f_I_isWithin G11 x0 x1 x3) fun v16 G15 => if v16 = 0 then gOb G15 x0 1 fun o18 => bV (f_I_finish G15 x0 x3) fun G19 => f_I_endOthers_L4 K54 n G19 x0 x1 (x2 + (nI 1)) (x3 + (nI 1))
          else f_I_endOthers_L4 K54 n G15 x0 x1 x2 (x3 + (nI 1)))
        else f_I_endOthers_L4 K54 n G11 x0 x1 x2 (x3 + (nI 1))
def f_I_endOthers (G : gH) (a0 : Nat) (a1 : Int32) : gR :=
  f_I_endOthers_L4 (fun G25 x24 => rI x24 G25) zFu G a0 a1 (nI 0) (nI 2)
theorem k_I_endOthers_L4 {l : Launch} {D : va_G} {B : Nat} {O : State → Heap → Prop} (hV : zG l D B O) {o : gO} {Gf : gH} (K54 : gH → Int32 → gR) (hK54 : ∀ (G : gH) (x2 : Int32), K54 G x2 = some (o, Gf) → Y (zVm l D B O) m_I_endOthers 3 o Gf 54 [none, none, some (.int x2), none] [] G) : ∀ (n : Nat) (G : gH) (x0 : Nat) (x1 : Int32) (x2 : Int32) (x3 : Int32), f_I_endOthers_L4 K54 n G x0 x1 x2 x3 = some (o, Gf) → Y (zVm l D B O) m_I_endOthers 3 o Gf 4 [some (.ref x0), some (.int x1), some (.int x2), some (.int x3)] [] G := by
  intro n
  induction n with
  | zero => intro G x0 x1 x2 x3 h; cases h
  | succ n ih =>
    intro G x0 x1 x2 x3 h
    unfold f_I_endOthers_L4 at h
    refine Y.blk (pc' := 7) (L' := [some (.ref x0), some (.int x1), some (.int x2), some (.int x3)]) (st' := [.int (nI 6), .int x3]) (sg := [(.iload_n 3, 0), (.bipush 6, nI 6)]) (by decide +kernel) rfl ?_
    refine Y.ic_ge (off := 47) (tgt := 54) (by decide +kernel) (by decide) h (fun c23 h => ?_) (fun c23 h => ?_)
    · refine Y.less (L' := [none, none, some (.int x2), none]) (zLe_none (zLe_none (zLe_some (zLe_none (zLe_nil))))) ?_
      exact hK54 G x2 h
    · refine Y.blk (pc' := 12) (L' := [some (.ref x0), some (.int x1), some (.int x2), some (.int x3)]) (st' := [.int x3, .ref x0]) (sg := [(.aload_n 0, 0), (.iload_n 3, 0)]) (by decide +kernel) rfl ?_
      obtain ⟨o2, e1, h⟩ := gOb_inv h
      refine Y.callI (yC.Vi (b := x0) (As := [.int x3]) (st := []) (r := ("Partlister$Lists", T_I, 7)) hV.1 cb_I_isThere lk_I_86 in_I_isThere rfl se_I_isThere (by decide +kernel) rfl rfl (Nat.le_of_ble_eq_true rfl) (by decide) e1) (k_I_isThere hV G x0 x3) h (fun v4 G3 _ h => ?_)
      refine Y.if_eq (off := 33) (tgt := 48) (by decide +kernel) (by decide) h (fun c22 h => ?_) (fun c22 h => ?_)
      · refine Y.blk (pc' := 51) (L' := [some (.ref x0), some (.int x1), some (.int x2), some (.int (x3 + (nI 1)))]) (st' := []) (sg := [(.iinc 3 1, nI 1)]) (by decide +kernel) rfl ?_
        refine Y.goto (off := -47) (tgt := 4) (by decide +kernel) (by decide) ?_
        exact ih G3 x0 x1 x2 (x3 + (nI 1)) h
      · refine Y.blk (pc' := 20) (L' := [some (.ref x0), some (.int x1), some (.int x2), some (.int x3)]) (st' := [.int x3, .ref x0]) (sg := [(.aload_n 0, 0), (.iload_n 3, 0)]) (by decide +kernel) rfl ?_
        obtain ⟨o6, e5, h⟩ := gOb_inv h
        refine Y.callI (yC.Vi (b := x0) (As := [.int x3]) (st := []) (r := ("Partlister$Lists", T_I, 7)) hV.1 cb_I_rowOf lk_I_56 in_I_rowOf rfl se_I_rowOf (by decide +kernel) rfl rfl (Nat.le_of_ble_eq_true rfl) (by decide) e5) (k_I_rowOf hV G3 x0 x3) h (fun v8 G7 _ h => ?_)
        refine Y.blk (pc' := 25) (L' := [some (.ref x0), some (.int x1), some (.int x2), some (.int x3)]) (st' := [.int x1, .ref x0, .int v8]) (sg := [(.aload_n 0, 0), (.iload_n 1, 0)]) (by decide +kernel) rfl ?_
        obtain ⟨o10, e9, h⟩ := gOb_inv h
        refine Y.callI (yC.Vi (b := x0) (As := [.int x1]) (st := [.int v8]) (r := ("Partlister$Lists", T_I, 7)) hV.1 cb_I_rowOf lk_I_56 in_I_rowOf rfl se_I_rowOf (by decide +kernel) rfl rfl (Nat.le_of_ble_eq_true rfl) (by decide) e9) (k_I_rowOf hV G7 x0 x1) h (fun v12 G11 _ h => ?_)
        refine Y.ic_ne (off := 20) (tgt := 48) (by decide +kernel) (by decide) h (fun c21 h => ?_) (fun c21 h => ?_)
        · refine Y.blk (pc' := 34) (L' := [some (.ref x0), some (.int x1), some (.int x2), some (.int x3)]) (st' := [.int x3, .int x1, .ref x0]) (sg := [(.aload_n 0, 0), (.iload_n 1, 0), (.iload_n 3, 0)]) (by decide +kernel) rfl ?_
          obtain ⟨o14, e13, h⟩ := gOb_inv h
          refine Y.callI (yC.Vi (b := x0) (As := [.int x1, .int x3]) (st := []) (r := ("Partlister$Lists", T_I, 7)) hV.1 cb_I_isWithin lk_I_90 in_I_isWithin rfl se_I_isWithin (by decide +kernel) rfl rfl (Nat.le_of_ble_eq_true rfl) (by decide) e13) (k_I_isWithin hV G11 x0 x1 x3) h (fun v16 G15 _ h => ?_)
          refine Y.if_ne (off := 11) (tgt := 48) (by decide +kernel) (by decide) h (fun c20 h => ?_) (fun c20 h => ?_)
          · refine Y.blk (pc' := 42) (L' := [some (.ref x0), some (.int x1), some (.int x2), some (.int x3)]) (st' := [.int x3, .ref x0]) (sg := [(.aload_n 0, 0), (.iload_n 3, 0)]) (by decide +kernel) rfl ?_
            obtain ⟨o18, e17, h⟩ := gOb_inv h
            refine Y.callN (yC.Vi (b := x0) (As := [.int x3]) (st := []) (r := ("Partlister$Lists", T_I, 7)) hV.1 cb_I_finish lk_I_94 in_I_finish rfl se_I_finish (by decide +kernel) rfl rfl (Nat.le_of_ble_eq_true rfl) (by decide) e17) (k_I_finish hV G15 x0 x3) h (fun G19 _ h => ?_)
            refine Y.blk (pc' := 51) (L' := [some (.ref x0), some (.int x1), some (.int (x2 + (nI 1))), some (.int (x3 + (nI 1)))]) (st' := []) (sg := [(.iinc 2 1, nI 1), (.iinc 3 1, nI 1)]) (by decide +kernel) rfl ?_
            refine Y.goto (off := -47) (tgt := 4) (by decide +kernel) (by decide) ?_
            exact ih G19 x0 x1 (x2 + (nI 1)) (x3 + (nI 1)) h
          · refine Y.blk (pc' := 51) (L' := [some (.ref x0), some (.int x1), some (.int x2), some (.int (x3 + (nI 1)))]) (st' := []) (sg := [(.iinc 3 1, nI 1)]) (by decide +kernel) rfl ?_
            refine Y.goto (off := -47) (tgt := 4) (by decide +kernel) (by decide) ?_
            exact ih G15 x0 x1 x2 (x3 + (nI 1)) h
        · refine Y.blk (pc' := 51) (L' := [some (.ref x0), some (.int x1), some (.int x2), some (.int (x3 + (nI 1)))]) (st' := []) (sg := [(.iinc 3 1, nI 1)]) (by decide +kernel) rfl ?_
          refine Y.goto (off := -47) (tgt := 4) (by decide +kernel) (by decide) ?_
          exact ih G11 x0 x1 x2 (x3 + (nI 1)) h
theorem k_I_endOthers {l : Launch} {D : va_G} {B : Nat} {O : State → Heap → Prop} (hV : zG l D B O) (G : gH) (a0 : Nat) (a1 : Int32) : gMet (zVm l D B O) m_I_endOthers 3 [.ref a0, .int a1] G (f_I_endOthers G a0 a1) := by
  refine gMet.of (by decide +kernel) (Nat.le_of_ble_eq_true rfl) [some (.ref a0), some (.int a1), none, none] (fun ls h => zEn_ok (n := 4) h) ?_
  intro o Gf h
  unfold f_I_endOthers at h
  refine Y.blk (pc' := 4) (L' := [some (.ref a0), some (.int a1), some (.int (nI 0)), some (.int (nI 2))]) (st' := []) (sg := [(.iconst 0, nI 0), (.istore_n 2, 0), (.iconst 2, nI 2), (.istore_n 3, 0)]) (by decide +kernel) rfl ?_
  refine k_I_endOthers_L4 hV _ ?_  zFu G a0 a1 (nI 0) (nI 2) h
  · intro G25 x24 h
    refine Y.blk (pc' := 55) (L' := [none, none, some (.int x24), none]) (st' := [.int x24]) (sg := [(.iload_n 2, 0)]) (by decide +kernel) rfl ?_
    exact Y.iret rfl (by decide +kernel) h

def f_X_endByLength_L11 (K44 : gH → gR) : Nat → gH → Nat → Int32 → Int32 → Int32 → gR
  | 0, _, _, _, _, _ => none
  | n + 1, G, x0, x1, x2, x3 =>
    if (nI 3) ≤ x3 then K44 G
    else if x3 = x2 then f_X_endByLength_L11 K44 n G x0 x1 x2 (x3 + (nI 1))
      else gOb G x0 3 fun o7 => bI (f_X_isOnRowOf G x0 x3 x1) fun v9 G8 => if v9 = 0 then f_X_endByLength_L11 K44 n G8 x0 x1 x2 (x3 + (nI 1))
        else gFA G8 x0 3 1 fun v10 => gOb G8 v10 0 fun o12 => bV (f_U_unsettle G8 v10 x3) fun G13 => f_X_endByLength_L11 K44 n G13 x0 x1 x2 (x3 + (nI 1))
def f_X_endByLength (G : gH) (a0 : Nat) (a1 : Int32) (a2 : Int32) : gR :=
  gFA G a0 3 0 fun v1 => gOb G v1 1 fun o3 => bI (f_I_endOthers G v1 a1) fun v5 G4 => f_X_endByLength_L11 (fun G17 => rV G17) zFu G4 a0 a1 a2 (nI 0)
theorem k_X_endByLength_L11 {l : Launch} {D : va_G} {B : Nat} {O : State → Heap → Prop} (hV : zG l D B O) {o : gO} {Gf : gH} (K44 : gH → gR) (hK44 : ∀ (G : gH), K44 G  = some (o, Gf) → Y (zVm l D B O) m_X_endByLength 5 o Gf 44 [none, none, none, none] [] G) : ∀ (n : Nat) (G : gH) (x0 : Nat) (x1 : Int32) (x2 : Int32) (x3 : Int32), f_X_endByLength_L11 K44 n G x0 x1 x2 x3 = some (o, Gf) → Y (zVm l D B O) m_X_endByLength 5 o Gf 11 [some (.ref x0), some (.int x1), some (.int x2), some (.int x3)] [] G := by
  intro n
  induction n with
  | zero => intro G x0 x1 x2 x3 h; cases h
  | succ n ih =>
    intro G x0 x1 x2 x3 h
    unfold f_X_endByLength_L11 at h
    refine Y.blk (pc' := 13) (L' := [some (.ref x0), some (.int x1), some (.int x2), some (.int x3)]) (st' := [.int (nI 3), .int x3]) (sg := [(.iload_n 3, 0), (.iconst 3, nI 3)]) (by decide +kernel) rfl ?_
    refine Y.ic_ge (off := 31) (tgt := 44) (by decide +kernel) (by decide) h (fun c16 h => ?_) (fun c16 h => ?_)
    · refine Y.less (L' := [none, none, none, none]) (zLe_none (zLe_none (zLe_none (zLe_none (zLe_nil))))) ?_
      exact hK44 G  h
    · refine Y.blk (pc' := 18) (L' := [some (.ref x0), some (.int x1), some (.int x2), some (.int x3)]) (st' := [.int x2, .int x3]) (sg := [(.iload_n 3, 0), (.iload_n 2, 0)]) (by decide +kernel) rfl ?_
      refine Y.ic_eq (off := 20) (tgt := 38) (by decide +kernel) (by decide) h (fun c15 h => ?_) (fun c15 h => ?_)
      · refine Y.blk (pc' := 41) (L' := [some (.ref x0), some (.int x1), some (.int x2), some (.int (x3 + (nI 1)))]) (st' := []) (sg := [(.iinc 3 1, nI 1)]) (by decide +kernel) rfl ?_
        refine Y.goto (off := -30) (tgt := 11) (by decide +kernel) (by decide) ?_
        exact ih G x0 x1 x2 (x3 + (nI 1)) h
      · refine Y.blk (pc' := 24) (L' := [some (.ref x0), some (.int x1), some (.int x2), some (.int x3)]) (st' := [.int x1, .int x3, .ref x0]) (sg := [(.aload_n 0, 0), (.iload_n 3, 0), (.iload_n 1, 0)]) (by decide +kernel) rfl ?_
        obtain ⟨o7, e6, h⟩ := gOb_inv h
        refine Y.callI (yC.Vi (b := x0) (As := [.int x3, .int x1]) (st := []) (r := ("Partlister", T_X, 5)) hV.1 cb_X_isOnRowOf lk_X_293 in_X_isOnRowOf rfl se_X_isOnRowOf (by decide +kernel) rfl rfl (Nat.le_of_ble_eq_true rfl) (by decide) e6) (k_X_isOnRowOf hV G x0 x3 x1) h (fun v9 G8 _ h => ?_)
        refine Y.if_eq (off := 11) (tgt := 38) (by decide +kernel) (by decide) h (fun c14 h => ?_) (fun c14 h => ?_)
        · refine Y.blk (pc' := 41) (L' := [some (.ref x0), some (.int x1), some (.int x2), some (.int (x3 + (nI 1)))]) (st' := []) (sg := [(.iinc 3 1, nI 1)]) (by decide +kernel) rfl ?_
          refine Y.goto (off := -30) (tgt := 11) (by decide +kernel) (by decide) ?_
          exact ih G8 x0 x1 x2 (x3 + (nI 1)) h
        · refine Y.blk (pc' := 31) (L' := [some (.ref x0), some (.int x1), some (.int x2), some (.int x3)]) (st' := [.ref x0]) (sg := [(.aload_n 0, 0)]) (by decide +kernel) rfl ?_
          refine Y.getA fl_X_19 (by decide +kernel) h (fun v10 h => ?_)
          refine Y.blk (pc' := 35) (L' := [some (.ref x0), some (.int x1), some (.int x2), some (.int x3)]) (st' := [.int x3, .ref v10]) (sg := [(.iload_n 3, 0)]) (by decide +kernel) rfl ?_
          obtain ⟨o12, e11, h⟩ := gOb_inv h
          refine Y.callN (yC.Vi (b := v10) (As := [.int x3]) (st := []) (r := ("Partlister$Cursors", T_U, 5)) hV.1 cb_U_unsettle lk_X_296 in_U_unsettle rfl se_U_unsettle (by decide +kernel) rfl rfl (Nat.le_of_ble_eq_true rfl) (by decide) e11) (k_U_unsettle hV G8 v10 x3) h (fun G13 _ h => ?_)
          refine Y.blk (pc' := 41) (L' := [some (.ref x0), some (.int x1), some (.int x2), some (.int (x3 + (nI 1)))]) (st' := []) (sg := [(.iinc 3 1, nI 1)]) (by decide +kernel) rfl ?_
          refine Y.goto (off := -30) (tgt := 11) (by decide +kernel) (by decide) ?_
          exact ih G13 x0 x1 x2 (x3 + (nI 1)) h
theorem k_X_endByLength {l : Launch} {D : va_G} {B : Nat} {O : State → Heap → Prop} (hV : zG l D B O) (G : gH) (a0 : Nat) (a1 : Int32) (a2 : Int32) : gMet (zVm l D B O) m_X_endByLength 5 [.ref a0, .int a1, .int a2] G (f_X_endByLength G a0 a1 a2) := by
  refine gMet.of (by decide +kernel) (Nat.le_of_ble_eq_true rfl) [some (.ref a0), some (.int a1), some (.int a2), none] (fun ls h => zEn_ok (n := 4) h) ?_
  intro o Gf h
  unfold f_X_endByLength at h
  refine Y.blk (pc' := 1) (L' := [some (.ref a0), some (.int a1), some (.int a2), none]) (st' := [.ref a0]) (sg := [(.aload_n 0, 0)]) (by decide +kernel) rfl ?_
  refine Y.getA fl_X_10 (by decide +kernel) h (fun v1 h => ?_)
  refine Y.blk (pc' := 5) (L' := [some (.ref a0), some (.int a1), some (.int a2), none]) (st' := [.int a1, .ref v1]) (sg := [(.iload_n 1, 0)]) (by decide +kernel) rfl ?_
  obtain ⟨o3, e2, h⟩ := gOb_inv h
  refine Y.callI (yC.Vi (b := v1) (As := [.int a1]) (st := []) (r := ("Partlister$Lists", T_I, 7)) hV.1 cb_I_endOthers lk_X_290 in_I_endOthers rfl se_I_endOthers (by decide +kernel) rfl rfl (Nat.le_of_ble_eq_true rfl) (by decide) e2) (k_I_endOthers hV G v1 a1) h (fun v5 G4 _ h => ?_)
  refine Y.blk (pc' := 11) (L' := [some (.ref a0), some (.int a1), some (.int a2), some (.int (nI 0))]) (st' := []) (sg := [(.pop, 0), (.iconst 0, nI 0), (.istore_n 3, 0)]) (by decide +kernel) rfl ?_
  refine k_X_endByLength_L11 hV _ ?_  zFu G4 a0 a1 a2 (nI 0) h
  · intro G17 h
    exact Y.vret rfl (by decide +kernel) h

def f_I_lengthOf (G : gH) (a0 : Nat) (a1 : Int32) : gR :=
  gFA G a0 1 1 fun v1 => gOb G v1 2 fun o3 => bI (f_N_read G v1 a1) fun v5 G4 => rI v5 G4
theorem k_I_lengthOf {l : Launch} {D : va_G} {B : Nat} {O : State → Heap → Prop} (hV : zG l D B O) (G : gH) (a0 : Nat) (a1 : Int32) : gMet (zVm l D B O) m_I_lengthOf 2 [.ref a0, .int a1] G (f_I_lengthOf G a0 a1) := by
  refine gMet.of (by decide +kernel) (Nat.le_of_ble_eq_true rfl) [some (.ref a0), some (.int a1)] (fun ls h => zEn_ok (n := 2) h) ?_
  intro o Gf h
  unfold f_I_lengthOf at h
  refine Y.blk (pc' := 1) (L' := [some (.ref a0), some (.int a1)]) (st' := [.ref a0]) (sg := [(.aload_n 0, 0)]) (by decide +kernel) rfl ?_
  refine Y.getA fl_I_20 (by decide +kernel) h (fun v1 h => ?_)
  refine Y.blk (pc' := 5) (L' := [some (.ref a0), some (.int a1)]) (st' := [.int a1, .ref v1]) (sg := [(.iload_n 1, 0)]) (by decide +kernel) rfl ?_
  obtain ⟨o3, e2, h⟩ := gOb_inv h
  refine Y.callI (yC.Vi (b := v1) (As := [.int a1]) (st := []) (r := ("Partlister$Numbers", T_N, 1)) hV.1 cb_N_read lk_I_39 in_N_read rfl se_N_read (by decide +kernel) rfl rfl (Nat.le_of_ble_eq_true rfl) (by decide) e2) (k_N_read hV G v1 a1) h (fun v5 G4 _ h => ?_)
  exact Y.iret rfl (by decide +kernel) h

def f_I_lengthen_L5 (K50 : gH → gR) : Nat → gH → Nat → Int32 → Int32 → Int32 → gR
  | 0, _, _, _, _, _ => none
  | n + 1, G, x0, x2, x3, x4 =>
    if (nI 6) ≤ x4 then K50 G
    else if x3 = (-1) then K50 G
      else gFA G x0 1 1 fun v1 => gFA G x0 1 1 fun v2 => gOb G v2 2 fun o4 => bI (f_N_read G v2 x3) fun v6 G5 => gOb G5 v1 2 fun o8 => bV (f_N_write G5 v1 x3 (v6 + x2)) fun G9 => gFA G9 x0 1 2 fun v10 => gOb G9 v10 2 fun o12 => bI (f_N_read G9 v10 x3) fun v14 G13 => f_I_lengthen_L5 K50 n G13 x0 x2 v14 (x4 + (nI 1))
def f_I_lengthen (G : gH) (a0 : Nat) (a1 : Int32) (a2 : Int32) : gR :=
  f_I_lengthen_L5 (fun G17 => rV G17) zFu G a0 a2 a1 (nI 0)
theorem k_I_lengthen_L5 {l : Launch} {D : va_G} {B : Nat} {O : State → Heap → Prop} (hV : zG l D B O) {o : gO} {Gf : gH} (K50 : gH → gR) (hK50 : ∀ (G : gH), K50 G  = some (o, Gf) → Y (zVm l D B O) m_I_lengthen 2 o Gf 50 [none, none, none, none, none] [] G) : ∀ (n : Nat) (G : gH) (x0 : Nat) (x2 : Int32) (x3 : Int32) (x4 : Int32), f_I_lengthen_L5 K50 n G x0 x2 x3 x4 = some (o, Gf) → Y (zVm l D B O) m_I_lengthen 2 o Gf 5 [some (.ref x0), none, some (.int x2), some (.int x3), some (.int x4)] [] G := by
  intro n
  induction n with
  | zero => intro G x0 x2 x3 x4 h; cases h
  | succ n ih =>
    intro G x0 x2 x3 x4 h
    unfold f_I_lengthen_L5 at h
    refine Y.blk (pc' := 9) (L' := [some (.ref x0), none, some (.int x2), some (.int x3), some (.int x4)]) (st' := [.int (nI 6), .int x4]) (sg := [(.iload 4, 0), (.bipush 6, nI 6)]) (by decide +kernel) rfl ?_
    refine Y.ic_ge (off := 41) (tgt := 50) (by decide +kernel) (by decide) h (fun c16 h => ?_) (fun c16 h => ?_)
    · refine Y.less (L' := [none, none, none, none, none]) (zLe_none (zLe_some (zLe_none (zLe_none (zLe_none (zLe_nil)))))) ?_
      exact hK50 G  h
    · refine Y.blk (pc' := 14) (L' := [some (.ref x0), none, some (.int x2), some (.int x3), some (.int x4)]) (st' := [.int (-1), .int x3]) (sg := [(.iload_n 3, 0), (.iconst (-1), -1)]) (by decide +kernel) rfl ?_
      refine Y.ic_eq (off := 36) (tgt := 50) (by decide +kernel) (by decide) h (fun c15 h => ?_) (fun c15 h => ?_)
      · refine Y.less (L' := [none, none, none, none, none]) (zLe_none (zLe_some (zLe_none (zLe_none (zLe_none (zLe_nil)))))) ?_
        exact hK50 G  h
      · refine Y.blk (pc' := 18) (L' := [some (.ref x0), none, some (.int x2), some (.int x3), some (.int x4)]) (st' := [.ref x0]) (sg := [(.aload_n 0, 0)]) (by decide +kernel) rfl ?_
        refine Y.getA fl_I_20 (by decide +kernel) h (fun v1 h => ?_)
        refine Y.blk (pc' := 23) (L' := [some (.ref x0), none, some (.int x2), some (.int x3), some (.int x4)]) (st' := [.ref x0, .int x3, .ref v1]) (sg := [(.iload_n 3, 0), (.aload_n 0, 0)]) (by decide +kernel) rfl ?_
        refine Y.getA fl_I_20 (by decide +kernel) h (fun v2 h => ?_)
        refine Y.blk (pc' := 27) (L' := [some (.ref x0), none, some (.int x2), some (.int x3), some (.int x4)]) (st' := [.int x3, .ref v2, .int x3, .ref v1]) (sg := [(.iload_n 3, 0)]) (by decide +kernel) rfl ?_
        obtain ⟨o4, e3, h⟩ := gOb_inv h
        refine Y.callI (yC.Vi (b := v2) (As := [.int x3]) (st := [.int x3, .ref v1]) (r := ("Partlister$Numbers", T_N, 1)) hV.1 cb_N_read lk_I_39 in_N_read rfl se_N_read (by decide +kernel) rfl rfl (Nat.le_of_ble_eq_true rfl) (by decide) e3) (k_N_read hV G v2 x3) h (fun v6 G5 _ h => ?_)
        refine Y.blk (pc' := 32) (L' := [some (.ref x0), none, some (.int x2), some (.int x3), some (.int x4)]) (st' := [.int (v6 + x2), .int x3, .ref v1]) (sg := [(.iload_n 2, 0), (.iadd, 0)]) (by decide +kernel) rfl ?_
        obtain ⟨o8, e7, h⟩ := gOb_inv h
        refine Y.callN (yC.Vi (b := v1) (As := [.int x3, .int (v6 + x2)]) (st := []) (r := ("Partlister$Numbers", T_N, 1)) hV.1 cb_N_write lk_I_35 in_N_write rfl se_N_write (by decide +kernel) rfl rfl (Nat.le_of_ble_eq_true rfl) (by decide) e7) (k_N_write hV G5 v1 x3 (v6 + x2)) h (fun G9 _ h => ?_)
        refine Y.blk (pc' := 36) (L' := [some (.ref x0), none, some (.int x2), some (.int x3), some (.int x4)]) (st' := [.ref x0]) (sg := [(.aload_n 0, 0)]) (by decide +kernel) rfl ?_
        refine Y.getA fl_I_23 (by decide +kernel) h (fun v10 h => ?_)
        refine Y.blk (pc' := 40) (L' := [some (.ref x0), none, some (.int x2), some (.int x3), some (.int x4)]) (st' := [.int x3, .ref v10]) (sg := [(.iload_n 3, 0)]) (by decide +kernel) rfl ?_
        obtain ⟨o12, e11, h⟩ := gOb_inv h
        refine Y.callI (yC.Vi (b := v10) (As := [.int x3]) (st := []) (r := ("Partlister$Numbers", T_N, 1)) hV.1 cb_N_read lk_I_39 in_N_read rfl se_N_read (by decide +kernel) rfl rfl (Nat.le_of_ble_eq_true rfl) (by decide) e11) (k_N_read hV G9 v10 x3) h (fun v14 G13 _ h => ?_)
        refine Y.blk (pc' := 47) (L' := [some (.ref x0), none, some (.int x2), some (.int v14), some (.int (x4 + (nI 1)))]) (st' := []) (sg := [(.istore_n 3, 0), (.iinc 4 1, nI 1)]) (by decide +kernel) rfl ?_
        refine Y.goto (off := -42) (tgt := 5) (by decide +kernel) (by decide) ?_
        exact ih G13 x0 x2 v14 (x4 + (nI 1)) h
theorem k_I_lengthen {l : Launch} {D : va_G} {B : Nat} {O : State → Heap → Prop} (hV : zG l D B O) (G : gH) (a0 : Nat) (a1 : Int32) (a2 : Int32) : gMet (zVm l D B O) m_I_lengthen 2 [.ref a0, .int a1, .int a2] G (f_I_lengthen G a0 a1 a2) := by
  refine gMet.of (by decide +kernel) (Nat.le_of_ble_eq_true rfl) [some (.ref a0), some (.int a1), some (.int a2), none, none] (fun ls h => zEn_ok (n := 5) h) ?_
  intro o Gf h
  unfold f_I_lengthen at h
  refine Y.blk (pc' := 5) (L' := [some (.ref a0), some (.int a1), some (.int a2), some (.int a1), some (.int (nI 0))]) (st' := []) (sg := [(.iload_n 1, 0), (.istore_n 3, 0), (.iconst 0, nI 0), (.istore 4, 0)]) (by decide +kernel) rfl ?_
  refine Y.less (L' := [some (.ref a0), none, some (.int a2), some (.int a1), some (.int (nI 0))]) (zLe_some (zLe_none (zLe_some (zLe_some (zLe_some (zLe_nil)))))) ?_
  refine k_I_lengthen_L5 hV _ ?_  zFu G a0 a2 a1 (nI 0) h
  · intro G17 h
    exact Y.vret rfl (by decide +kernel) h
