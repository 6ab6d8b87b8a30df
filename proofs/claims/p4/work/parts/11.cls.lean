section
def f_N_init (G : gH) (a0 : Nat) (a1 : Int32) : gR :=
  if 0 ≤ a1 then gNewA G 100 a1 fun a1 G2 => gPut G2 a0 2 0 (.ref a1) fun G3 => rV G3
  else gNewA G 100 (nI 0) fun a4 G5 => gPut G5 a0 2 0 (.ref a4) fun G6 => rV G6
theorem k_N_init {l : Launch} {D : va_G} {B : Nat} {O : State → Heap → Prop} (hV : zG l D B O) (G : gH) (a0 : Nat) (a1 : Int32) : gMet (zVm l D B O) m_N_init 1 [.ref a0, .int a1] G (f_N_init G a0 a1) := by
  refine gMet.of (by decide +kernel) (Nat.le_of_ble_eq_true rfl) [some (.ref a0), some (.int a1)] (fun ls h => zEn_ok (n := 2) h) ?_
  intro o Gf h
  unfold f_N_init at h
  refine Y.blk (pc' := 1) (L' := [some (.ref a0), some (.int a1)]) (st' := [.ref a0]) (sg := [(.aload_n 0, 0)]) (by decide +kernel) rfl ?_
  refine Y.objInit lk_N_3 in_OJ_init cw_OJ_init (by decide) rfl (Nat.le_of_ble_eq_true rfl) (by decide +kernel) ?_
  refine Y.blk (pc' := 6) (L' := [some (.ref a0), some (.int a1)]) (st' := [.int a1, .ref a0]) (sg := [(.aload_n 0, 0), (.iload_n 1, 0)]) (by decide +kernel) rfl ?_
  refine Y.if_ge (off := 7) (tgt := 13) (by decide +kernel) (by decide) h (fun c7 h => ?_) (fun c7 h => ?_)
  · refine Y.blk (pc' := 14) (L' := [some (.ref a0), some (.int a1)]) (st' := [.int a1, .ref a0]) (sg := [(.iload_n 1, 0)]) (by decide +kernel) rfl ?_
    refine Y.newa (at_ := .int) (t0 := 0) ac_i rfl (by decide) rfl (by decide) (by decide +kernel) h (fun a1 G2 h => ?_)
    refine Y.putF fl_N_9 rfl (by decide) rfl rfl (by decide +kernel) h (fun G3 _ _ h => ?_)
    exact Y.vret rfl (by decide +kernel) h
  · refine Y.blk (pc' := 10) (L' := [some (.ref a0), some (.int a1)]) (st' := [.int (nI 0), .ref a0]) (sg := [(.iconst 0, nI 0)]) (by decide +kernel) rfl ?_
    refine Y.goto (off := 4) (tgt := 14) (by decide +kernel) (by decide) ?_
    refine Y.newa (at_ := .int) (t0 := 0) ac_i rfl (by decide) rfl (by decide) (by decide +kernel) h (fun a4 G5 h => ?_)
    refine Y.putF fl_N_9 rfl (by decide) rfl rfl (by decide +kernel) h (fun G6 _ _ h => ?_)
    exact Y.vret rfl (by decide +kernel) h

def f_U_init (G : gH) (a0 : Nat) : gR :=
  gNewO G 2 1 [.null] fun a1 G2 => bV (f_N_init G2 a1 (nI 3)) fun G4 => gPut G4 a0 0 0 (.ref a1) fun G5 => gNewO G5 2 1 [.null] fun a6 G7 => bV (f_N_init G7 a6 (nI 3)) fun G9 => gPut G9 a0 0 1 (.ref a6) fun G10 => gNewO G10 2 1 [.null] fun a11 G12 => bV (f_N_init G12 a11 (nI 3)) fun G14 => gPut G14 a0 0 2 (.ref a11) fun G15 => gNewO G15 2 1 [.null] fun a16 G17 => bV (f_N_init G17 a16 (nI 3)) fun G19 => gPut G19 a0 0 3 (.ref a16) fun G20 => rV G20
theorem k_U_init {l : Launch} {D : va_G} {B : Nat} {O : State → Heap → Prop} (hV : zG l D B O) (G : gH) (a0 : Nat) : gMet (zVm l D B O) m_U_init 2 [.ref a0] G (f_U_init G a0) := by
  refine gMet.of (by decide +kernel) (Nat.le_of_ble_eq_true rfl) [some (.ref a0)] (fun ls h => zEn_ok (n := 1) h) ?_
  intro o Gf h
  unfold f_U_init at h
  refine Y.blk (pc' := 1) (L' := [some (.ref a0)]) (st' := [.ref a0]) (sg := [(.aload_n 0, 0)]) (by decide +kernel) rfl ?_
  refine Y.objInit lk_U_3 in_OJ_init cw_OJ_init (by decide) rfl (Nat.le_of_ble_eq_true rfl) (by decide +kernel) ?_
  refine Y.blk (pc' := 5) (L' := [some (.ref a0)]) (st' := [.ref a0]) (sg := [(.aload_n 0, 0)]) (by decide +kernel) rfl ?_
  refine Y.new nc_U_9 (by decide) bk_N (by decide +kernel) h (fun a1 G2 h => ?_)
  refine Y.blk (pc' := 10) (L' := [some (.ref a0)]) (st' := [.int (nI 3), .ref a1, .ref a1, .ref a0]) (sg := [(.dup, 0), (.iconst 3, nI 3)]) (by decide +kernel) rfl ?_
  refine Y.callN (yC.I (b := a1) (As := [.int (nI 3)]) (st := [.ref a1, .ref a0]) hV.1 cb_N_init lk_U_11 in_N_init rfl rfl (by decide +kernel) rfl rfl (Nat.le_of_ble_eq_true rfl) (by decide)) (k_N_init hV G2 a1 (nI 3)) h (fun G4 _ h => ?_)
  refine Y.putF fl_U_14 rfl (by decide) rfl rfl (by decide +kernel) h (fun G5 _ _ h => ?_)
  refine Y.blk (pc' := 17) (L' := [some (.ref a0)]) (st' := [.ref a0]) (sg := [(.aload_n 0, 0)]) (by decide +kernel) rfl ?_
  refine Y.new nc_U_9 (by decide) bk_N (by decide +kernel) h (fun a6 G7 h => ?_)
  refine Y.blk (pc' := 22) (L' := [some (.ref a0)]) (st' := [.int (nI 3), .ref a6, .ref a6, .ref a0]) (sg := [(.dup, 0), (.iconst 3, nI 3)]) (by decide +kernel) rfl ?_
  refine Y.callN (yC.I (b := a6) (As := [.int (nI 3)]) (st := [.ref a6, .ref a0]) hV.1 cb_N_init lk_U_11 in_N_init rfl rfl (by decide +kernel) rfl rfl (Nat.le_of_ble_eq_true rfl) (by decide)) (k_N_init hV G7 a6 (nI 3)) h (fun G9 _ h => ?_)
  refine Y.putF fl_U_20 rfl (by decide) rfl rfl (by decide +kernel) h (fun G10 _ _ h => ?_)
  refine Y.blk (pc' := 29) (L' := [some (.ref a0)]) (st' := [.ref a0]) (sg := [(.aload_n 0, 0)]) (by decide +kernel) rfl ?_
  refine Y.new nc_U_9 (by decide) bk_N (by decide +kernel) h (fun a11 G12 h => ?_)
  refine Y.blk (pc' := 34) (L' := [some (.ref a0)]) (st' := [.int (nI 3), .ref a11, .ref a11, .ref a0]) (sg := [(.dup, 0), (.iconst 3, nI 3)]) (by decide +kernel) rfl ?_
  refine Y.callN (yC.I (b := a11) (As := [.int (nI 3)]) (st := [.ref a11, .ref a0]) hV.1 cb_N_init lk_U_11 in_N_init rfl rfl (by decide +kernel) rfl rfl (Nat.le_of_ble_eq_true rfl) (by decide)) (k_N_init hV G12 a11 (nI 3)) h (fun G14 _ h => ?_)
  refine Y.putF fl_U_23 rfl (by decide) rfl rfl (by decide +kernel) h (fun G15 _ _ h => ?_)
  refine Y.blk (pc' := 41) (L' := [some (.ref a0)]) (st' := [.ref a0]) (sg := [(.aload_n 0, 0)]) (by decide +kernel) rfl ?_
  refine Y.new nc_U_9 (by decide) bk_N (by decide +kernel) h (fun a16 G17 h => ?_)
  refine Y.blk (pc' := 46) (L' := [some (.ref a0)]) (st' := [.int (nI 3), .ref a16, .ref a16, .ref a0]) (sg := [(.dup, 0), (.iconst 3, nI 3)]) (by decide +kernel) rfl ?_
  refine Y.callN (yC.I (b := a16) (As := [.int (nI 3)]) (st := [.ref a16, .ref a0]) hV.1 cb_N_init lk_U_11 in_N_init rfl rfl (by decide +kernel) rfl rfl (Nat.le_of_ble_eq_true rfl) (by decide)) (k_N_init hV G17 a16 (nI 3)) h (fun G19 _ h => ?_)
  refine Y.putF fl_U_26 rfl (by decide) rfl rfl (by decide +kernel) h (fun G20 _ _ h => ?_)
  exact Y.vret rfl (by decide +kernel) h

def f_N_write (G : gH) (a0 : Nat) (a1 : Int32) (a2 : Int32) : gR :=
  if a1 < 0 then rV G
  else gFA G a0 2 0 fun v1 => gLen G v1 100 fun v2 => if v2 ≤ a1 then rV G
    else gFA G a0 2 0 fun v3 => gSt G v3 100 a1 a2 fun G4 => rV G4
theorem k_N_write {l : Launch} {D : va_G} {B : Nat} {O : State → Heap → Prop} (hV : zG l D B O) (G : gH) (a0 : Nat) (a1 : Int32) (a2 : Int32) : gMet (zVm l D B O) m_N_write 1 [.ref a0, .int a1, .int a2] G (f_N_write G a0 a1 a2) := by
  refine gMet.of (by decide +kernel) (Nat.le_of_ble_eq_true rfl) [some (.ref a0), some (.int a1), some (.int a2)] (fun ls h => zEn_ok (n := 3) h) ?_
  intro o Gf h
  unfold f_N_write at h
  refine Y.blk (pc' := 1) (L' := [some (.ref a0), some (.int a1), some (.int a2)]) (st' := [.int a1]) (sg := [(.iload_n 1, 0)]) (by decide +kernel) rfl ?_
  refine Y.if_lt (off := 19) (tgt := 20) (by decide +kernel) (by decide) h (fun c6 h => ?_) (fun c6 h => ?_)
  · exact Y.vret rfl (by decide +kernel) h
  · refine Y.blk (pc' := 6) (L' := [some (.ref a0), some (.int a1), some (.int a2)]) (st' := [.ref a0, .int a1]) (sg := [(.iload_n 1, 0), (.aload_n 0, 0)]) (by decide +kernel) rfl ?_
    refine Y.getA fl_N_9 (by decide +kernel) h (fun v1 h => ?_)
    refine Y.alen (t0 := 0) (by decide +kernel) rfl h (fun v2 h => ?_)
    refine Y.ic_ge (off := 10) (tgt := 20) (by decide +kernel) (by decide) h (fun c5 h => ?_) (fun c5 h => ?_)
    · exact Y.vret rfl (by decide +kernel) h
    · refine Y.blk (pc' := 14) (L' := [some (.ref a0), some (.int a1), some (.int a2)]) (st' := [.ref a0]) (sg := [(.aload_n 0, 0)]) (by decide +kernel) rfl ?_
      refine Y.getA fl_N_9 (by decide +kernel) h (fun v3 h => ?_)
      refine Y.blk (pc' := 19) (L' := [some (.ref a0), some (.int a1), some (.int a2)]) (st' := [.int a2, .int a1, .ref v3]) (sg := [(.iload_n 1, 0), (.iload_n 2, 0)]) (by decide +kernel) rfl ?_
      refine Y.iast (t0 := 0) (by decide +kernel) rfl (by decide) h (fun G4 _ _ h => ?_)
      exact Y.vret rfl (by decide +kernel) h

def f_I_init_L84 (K132 : gH → gR) : Nat → gH → Nat → Int32 → gR
  | 0, _, _, _ => none
  | n + 1, G, x0, x1 =>
    if (nI 6) ≤ x1 then K132 G
    else gFA G x0 1 1 fun v31 => if (nI 2) ≤ x1 then gOb G v31 2 fun o33 => bV (f_N_write G v31 x1 (-1)) fun G35 => gFA G35 x0 1 2 fun v36 => gOb G35 v36 2 fun o38 => bV (f_N_write G35 v36 x1 (-1)) fun G40 => gFA G40 x0 1 3 fun v41 => gOb G40 v41 2 fun o43 => bV (f_N_write G40 v41 x1 x1) fun G45 => f_I_init_L84 K132 n G45 x0 (x1 + (nI 1))
      else gOb G v31 2 fun o47 => bV (f_N_write G v31 x1 (nI 0)) fun G49 => gFA G49 x0 1 2 fun v50 => gOb G49 v50 2 fun o52 => bV (f_N_write G49 v50 x1 (-1)) fun G54 => gFA G54 x0 1 3 fun v55 => gOb G54 v55 2 fun o57 => bV (f_N_write G54 v55 x1 x1) fun G59 => f_I_init_L84 K132 n G59 x0 (x1 + (nI 1))
def f_I_init (G : gH) (a0 : Nat) : gR :=
  gNewO G 2 1 [.null] fun a1 G2 => bV (f_N_init G2 a1 (nI 62)) fun G4 => gPut G4 a0 1 0 (.ref a1) fun G5 => gNewO G5 2 1 [.null] fun a6 G7 => bV (f_N_init G7 a6 (nI 6)) fun G9 => gPut G9 a0 1 1 (.ref a6) fun G10 => gNewO G10 2 1 [.null] fun a11 G12 => bV (f_N_init G12 a11 (nI 6)) fun G14 => gPut G14 a0 1 2 (.ref a11) fun G15 => gNewO G15 2 1 [.null] fun a16 G17 => bV (f_N_init G17 a16 (nI 6)) fun G19 => gPut G19 a0 1 3 (.ref a16) fun G20 => gNewO G20 2 1 [.null] fun a21 G22 => bV (f_N_init G22 a21 (nI 6)) fun G24 => gPut G24 a0 1 4 (.ref a21) fun G25 => gNewO G25 2 1 [.null] fun a26 G27 => bV (f_N_init G27 a26 (nI 31)) fun G29 => gPut G29 a0 1 5 (.ref a26) fun G30 => f_I_init_L84 (fun G62 => rV G62) zFu G30 a0 (nI 0)
theorem k_I_init_L84 {l : Launch} {D : va_G} {B : Nat} {O : State → Heap → Prop} (hV : zG l D B O) {o : gO} {Gf : gH} (K132 : gH → gR) (hK132 : ∀ (G : gH), K132 G  = some (o, Gf) → Y (zVm l D B O) m_I_init 2 o Gf 132 [none, none] [] G) : ∀ (n : Nat) (G : gH) (x0 : Nat) (x1 : Int32), f_I_init_L84 K132 n G x0 x1 = some (o, Gf) → Y (zVm l D B O) m_I_init 2 o Gf 84 [some (.ref x0), some (.int x1)] [] G := by
  intro n
  induction n with
  | zero => intro G x0 x1 h; cases h
  | succ n ih =>
    intro G x0 x1 h
    unfold f_I_init_L84 at h
    refine Y.blk (pc' := 87) (L' := [some (.ref x0), some (.int x1)]) (st' := [.int (nI 6), .int x1]) (sg := [(.iload_n 1, 0), (.bipush 6, nI 6)]) (by decide +kernel) rfl ?_
    refine Y.ic_ge (off := 45) (tgt := 132) (by decide +kernel) (by decide) h (fun c61 h => ?_) (fun c61 h => ?_)
    · refine Y.less (L' := [none, none]) (zLe_none (zLe_none (zLe_nil))) ?_
      exact hK132 G  h
    · refine Y.blk (pc' := 91) (L' := [some (.ref x0), some (.int x1)]) (st' := [.ref x0]) (sg := [(.aload_n 0, 0)]) (by decide +kernel) rfl ?_
      refine Y.getA fl_I_20 (by decide +kernel) h (fun v31 h => ?_)
      refine Y.blk (pc' := 97) (L' := [some (.ref x0), some (.int x1)]) (st' := [.int (nI 2), .int x1, .int x1, .ref v31]) (sg := [(.iload_n 1, 0), (.iload_n 1, 0), (.iconst 2, nI 2)]) (by decide +kernel) rfl ?_
      refine Y.ic_ge (off := 7) (tgt := 104) (by decide +kernel) (by decide) h (fun c60 h => ?_) (fun c60 h => ?_)
      · refine Y.blk (pc' := 105) (L' := [some (.ref x0), some (.int x1)]) (st' := [.int (-1), .int x1, .ref v31]) (sg := [(.iconst (-1), -1)]) (by decide +kernel) rfl ?_
        obtain ⟨_, o33, e32, m34, h⟩ := gOb_inv h
        refine Y.callN (yC.Vi (b := v31) (As := [.int x1, .int (-1)]) (st := []) (r := ("Partlister$Numbers", T_N, 1)) hV.1 cb_N_write lk_I_35 in_N_write rfl se_N_write (by decide +kernel) rfl rfl (Nat.le_of_ble_eq_true rfl) (by decide) e32 m34) (k_N_write hV G v31 x1 (-1)) h (fun G35 _ h => ?_)
        refine Y.blk (pc' := 109) (L' := [some (.ref x0), some (.int x1)]) (st' := [.ref x0]) (sg := [(.aload_n 0, 0)]) (by decide +kernel) rfl ?_
        refine Y.getA fl_I_23 (by decide +kernel) h (fun v36 h => ?_)
        refine Y.blk (pc' := 114) (L' := [some (.ref x0), some (.int x1)]) (st' := [.int (-1), .int x1, .ref v36]) (sg := [(.iload_n 1, 0), (.iconst (-1), -1)]) (by decide +kernel) rfl ?_
        obtain ⟨_, o38, e37, m39, h⟩ := gOb_inv h
        refine Y.callN (yC.Vi (b := v36) (As := [.int x1, .int (-1)]) (st := []) (r := ("Partlister$Numbers", T_N, 1)) hV.1 cb_N_write lk_I_35 in_N_write rfl se_N_write (by decide +kernel) rfl rfl (Nat.le_of_ble_eq_true rfl) (by decide) e37 m39) (k_N_write hV G35 v36 x1 (-1)) h (fun G40 _ h => ?_)
        refine Y.blk (pc' := 118) (L' := [some (.ref x0), some (.int x1)]) (st' := [.ref x0]) (sg := [(.aload_n 0, 0)]) (by decide +kernel) rfl ?_
        refine Y.getA fl_I_26 (by decide +kernel) h (fun v41 h => ?_)
        refine Y.blk (pc' := 123) (L' := [some (.ref x0), some (.int x1)]) (st' := [.int x1, .int x1, .ref v41]) (sg := [(.iload_n 1, 0), (.iload_n 1, 0)]) (by decide +kernel) rfl ?_
        obtain ⟨_, o43, e42, m44, h⟩ := gOb_inv h
        refine Y.callN (yC.Vi (b := v41) (As := [.int x1, .int x1]) (st := []) (r := ("Partlister$Numbers", T_N, 1)) hV.1 cb_N_write lk_I_35 in_N_write rfl se_N_write (by decide +kernel) rfl rfl (Nat.le_of_ble_eq_true rfl) (by decide) e42 m44) (k_N_write hV G40 v41 x1 x1) h (fun G45 _ h => ?_)
        refine Y.blk (pc' := 129) (L' := [some (.ref x0), some (.int (x1 + (nI 1)))]) (st' := []) (sg := [(.iinc 1 1, nI 1)]) (by decide +kernel) rfl ?_
        refine Y.goto (off := -45) (tgt := 84) (by decide +kernel) (by decide) ?_
        exact ih G45 x0 (x1 + (nI 1)) h
      · refine Y.blk (pc' := 101) (L' := [some (.ref x0), some (.int x1)]) (st' := [.int (nI 0), .int x1, .ref v31]) (sg := [(.iconst 0, nI 0)]) (by decide +kernel) rfl ?_
        refine Y.goto (off := 4) (tgt := 105) (by decide +kernel) (by decide) ?_
        obtain ⟨_, o47, e46, m48, h⟩ := gOb_inv h
        refine Y.callN (yC.Vi (b := v31) (As := [.int x1, .int (nI 0)]) (st := []) (r := ("Partlister$Numbers", T_N, 1)) hV.1 cb_N_write lk_I_35 in_N_write rfl se_N_write (by decide +kernel) rfl rfl (Nat.le_of_ble_eq_true rfl) (by decide) e46 m48) (k_N_write hV G v31 x1 (nI 0)) h (fun G49 _ h => ?_)
        refine Y.blk (pc' := 109) (L' := [some (.ref x0), some (.int x1)]) (st' := [.ref x0]) (sg := [(.aload_n 0, 0)]) (by decide +kernel) rfl ?_
        refine Y.getA fl_I_23 (by decide +kernel) h (fun v50 h => ?_)
        refine Y.blk (pc' := 114) (L' := [some (.ref x0), some (.int x1)]) (st' := [.int (-1), .int x1, .ref v50]) (sg := [(.iload_n 1, 0), (.iconst (-1), -1)]) (by decide +kernel) rfl ?_
        obtain ⟨_, o52, e51, m53, h⟩ := gOb_inv h
        refine Y.callN (yC.Vi (b := v50) (As := [.int x1, .int (-1)]) (st := []) (r := ("Partlister$Numbers", T_N, 1)) hV.1 cb_N_write lk_I_35 in_N_write rfl se_N_write (by decide +kernel) rfl rfl (Nat.le_of_ble_eq_true rfl) (by decide) e51 m53) (k_N_write hV G49 v50 x1 (-1)) h (fun G54 _ h => ?_)
        refine Y.blk (pc' := 118) (L' := [some (.ref x0), some (.int x1)]) (st' := [.ref x0]) (sg := [(.aload_n 0, 0)]) (by decide +kernel) rfl ?_
        refine Y.getA fl_I_26 (by decide +kernel) h (fun v55 h => ?_)
        refine Y.blk (pc' := 123) (L' := [some (.ref x0), some (.int x1)]) (st' := [.int x1, .int x1, .ref v55]) (sg := [(.iload_n 1, 0), (.iload_n 1, 0)]) (by decide +kernel) rfl ?_
        obtain ⟨_, o57, e56, m58, h⟩ := gOb_inv h
        refine Y.callN (yC.Vi (b := v55) (As := [.int x1, .int x1]) (st := []) (r := ("Partlister$Numbers", T_N, 1)) hV.1 cb_N_write lk_I_35 in_N_write rfl se_N_write (by decide +kernel) rfl rfl (Nat.le_of_ble_eq_true rfl) (by decide) e56 m58) (k_N_write hV G54 v55 x1 x1) h (fun G59 _ h => ?_)
        refine Y.blk (pc' := 129) (L' := [some (.ref x0), some (.int (x1 + (nI 1)))]) (st' := []) (sg := [(.iinc 1 1, nI 1)]) (by decide +kernel) rfl ?_
        refine Y.goto (off := -45) (tgt := 84) (by decide +kernel) (by decide) ?_
        exact ih G59 x0 (x1 + (nI 1)) h
theorem k_I_init {l : Launch} {D : va_G} {B : Nat} {O : State → Heap → Prop} (hV : zG l D B O) (G : gH) (a0 : Nat) : gMet (zVm l D B O) m_I_init 2 [.ref a0] G (f_I_init G a0) := by
  refine gMet.of (by decide +kernel) (Nat.le_of_ble_eq_true rfl) [some (.ref a0), none] (fun ls h => zEn_ok (n := 2) h) ?_
  intro o Gf h
  unfold f_I_init at h
  refine Y.blk (pc' := 1) (L' := [some (.ref a0), none]) (st' := [.ref a0]) (sg := [(.aload_n 0, 0)]) (by decide +kernel) rfl ?_
  refine Y.objInit lk_I_3 in_OJ_init cw_OJ_init (by decide) rfl (Nat.le_of_ble_eq_true rfl) (by decide +kernel) ?_
  refine Y.blk (pc' := 5) (L' := [some (.ref a0), none]) (st' := [.ref a0]) (sg := [(.aload_n 0, 0)]) (by decide +kernel) rfl ?_
  refine Y.new nc_I_9 (by decide) bk_N (by decide +kernel) h (fun a1 G2 h => ?_)
  refine Y.blk (pc' := 11) (L' := [some (.ref a0), none]) (st' := [.int (nI 62), .ref a1, .ref a1, .ref a0]) (sg := [(.dup, 0), (.bipush 62, nI 62)]) (by decide +kernel) rfl ?_
  refine Y.callN (yC.I (b := a1) (As := [.int (nI 62)]) (st := [.ref a1, .ref a0]) hV.1 cb_N_init lk_I_11 in_N_init rfl rfl (by decide +kernel) rfl rfl (Nat.le_of_ble_eq_true rfl) (by decide)) (k_N_init hV G2 a1 (nI 62)) h (fun G4 _ h => ?_)
  refine Y.putF fl_I_14 rfl (by decide) rfl rfl (by decide +kernel) h (fun G5 _ _ h => ?_)
  refine Y.blk (pc' := 18) (L' := [some (.ref a0), none]) (st' := [.ref a0]) (sg := [(.aload_n 0, 0)]) (by decide +kernel) rfl ?_
  refine Y.new nc_I_9 (by decide) bk_N (by decide +kernel) h (fun a6 G7 h => ?_)
  refine Y.blk (pc' := 24) (L' := [some (.ref a0), none]) (st' := [.int (nI 6), .ref a6, .ref a6, .ref a0]) (sg := [(.dup, 0), (.bipush 6, nI 6)]) (by decide +kernel) rfl ?_
  refine Y.callN (yC.I (b := a6) (As := [.int (nI 6)]) (st := [.ref a6, .ref a0]) hV.1 cb_N_init lk_I_11 in_N_init rfl rfl (by decide +kernel) rfl rfl (Nat.le_of_ble_eq_true rfl) (by decide)) (k_N_init hV G7 a6 (nI 6)) h (fun G9 _ h => ?_)
  refine Y.putF fl_I_20 rfl (by decide) rfl rfl (by decide +kernel) h (fun G10 _ _ h => ?_)
  refine Y.blk (pc' := 31) (L' := [some (.ref a0), none]) (st' := [.ref a0]) (sg := [(.aload_n 0, 0)]) (by decide +kernel) rfl ?_
  refine Y.new nc_I_9 (by decide) bk_N (by decide +kernel) h (fun a11 G12 h => ?_)
  refine Y.blk (pc' := 37) (L' := [some (.ref a0), none]) (st' := [.int (nI 6), .ref a11, .ref a11, .ref a0]) (sg := [(.dup, 0), (.bipush 6, nI 6)]) (by decide +kernel) rfl ?_
  refine Y.callN (yC.I (b := a11) (As := [.int (nI 6)]) (st := [.ref a11, .ref a0]) hV.1 cb_N_init lk_I_11 in_N_init rfl rfl (by decide +kernel) rfl rfl (Nat.le_of_ble_eq_true rfl) (by decide)) (k_N_init hV G12 a11 (nI 6)) h (fun G14 _ h => ?_)
  refine Y.putF fl_I_23 rfl (by decide) rfl rfl (by decide +kernel) h (fun G15 _ _ h => ?_)
  refine Y.blk (pc' := 44) (L' := [some (.ref a0), none]) (st' := [.ref a0]) (sg := [(.aload_n 0, 0)]) (by decide +kernel) rfl ?_
  refine Y.new nc_I_9 (by decide) bk_N (by decide +kernel) h (fun a16 G17 h => ?_)
  refine Y.blk (pc' := 50) (L' := [some (.ref a0), none]) (st' := [.int (nI 6), .ref a16, .ref a16, .ref a0]) (sg := [(.dup, 0), (.bipush 6, nI 6)]) (by decide +kernel) rfl ?_
  refine Y.callN (yC.I (b := a16) (As := [.int (nI 6)]) (st := [.ref a16, .ref a0]) hV.1 cb_N_init lk_I_11 in_N_init rfl rfl (by decide +kernel) rfl rfl (Nat.le_of_ble_eq_true rfl) (by decide)) (k_N_init hV G17 a16 (nI 6)) h (fun G19 _ h => ?_)
  refine Y.putF fl_I_26 rfl (by decide) rfl rfl (by decide +kernel) h (fun G20 _ _ h => ?_)
  refine Y.blk (pc' := 57) (L' := [some (.ref a0), none]) (st' := [.ref a0]) (sg := [(.aload_n 0, 0)]) (by decide +kernel) rfl ?_
  refine Y.new nc_I_9 (by decide) bk_N (by decide +kernel) h (fun a21 G22 h => ?_)
  refine Y.blk (pc' := 63) (L' := [some (.ref a0), none]) (st' := [.int (nI 6), .ref a21, .ref a21, .ref a0]) (sg := [(.dup, 0), (.bipush 6, nI 6)]) (by decide +kernel) rfl ?_
  refine Y.callN (yC.I (b := a21) (As := [.int (nI 6)]) (st := [.ref a21, .ref a0]) hV.1 cb_N_init lk_I_11 in_N_init rfl rfl (by decide +kernel) rfl rfl (Nat.le_of_ble_eq_true rfl) (by decide)) (k_N_init hV G22 a21 (nI 6)) h (fun G24 _ h => ?_)
  refine Y.putF fl_I_29 rfl (by decide) rfl rfl (by decide +kernel) h (fun G25 _ _ h => ?_)
  refine Y.blk (pc' := 70) (L' := [some (.ref a0), none]) (st' := [.ref a0]) (sg := [(.aload_n 0, 0)]) (by decide +kernel) rfl ?_
  refine Y.new nc_I_9 (by decide) bk_N (by decide +kernel) h (fun a26 G27 h => ?_)
  refine Y.blk (pc' := 76) (L' := [some (.ref a0), none]) (st' := [.int (nI 31), .ref a26, .ref a26, .ref a0]) (sg := [(.dup, 0), (.bipush 31, nI 31)]) (by decide +kernel) rfl ?_
  refine Y.callN (yC.I (b := a26) (As := [.int (nI 31)]) (st := [.ref a26, .ref a0]) hV.1 cb_N_init lk_I_11 in_N_init rfl rfl (by decide +kernel) rfl rfl (Nat.le_of_ble_eq_true rfl) (by decide)) (k_N_init hV G27 a26 (nI 31)) h (fun G29 _ h => ?_)
  refine Y.putF fl_I_32 rfl (by decide) rfl rfl (by decide +kernel) h (fun G30 _ _ h => ?_)
  refine Y.blk (pc' := 84) (L' := [some (.ref a0), some (.int (nI 0))]) (st' := []) (sg := [(.iconst 0, nI 0), (.istore_n 1, 0)]) (by decide +kernel) rfl ?_
  refine k_I_init_L84 hV _ ?_  zFu G30 a0 (nI 0) h
  · intro G62 h
    exact Y.vret rfl (by decide +kernel) h

def f_X_init (G : gH) (a0 : Nat) : gR :=
  gNewO G 1 7 [.null, .null, .null, .null, .null, .null, .int 0] fun a1 G2 => bV (f_I_init G2 a1) fun G4 => gPut G4 a0 3 0 (.ref a1) fun G5 => gNewO G5 0 5 [.null, .null, .null, .null, .int 0] fun a6 G7 => bV (f_U_init G7 a6) fun G9 => gPut G9 a0 3 1 (.ref a6) fun G10 => rV G10
theorem k_X_init {l : Launch} {D : va_G} {B : Nat} {O : State → Heap → Prop} (hV : zG l D B O) (G : gH) (a0 : Nat) : gMet (zVm l D B O) m_X_init 3 [.ref a0] G (f_X_init G a0) := by
  refine gMet.of (by decide +kernel) (Nat.le_of_ble_eq_true rfl) [some (.ref a0)] (fun ls h => zEn_ok (n := 1) h) ?_
  intro o Gf h
  unfold f_X_init at h
  refine Y.blk (pc' := 1) (L' := [some (.ref a0)]) (st' := [.ref a0]) (sg := [(.aload_n 0, 0)]) (by decide +kernel) rfl ?_
  refine Y.objInit lk_X_1 in_OJ_init cw_OJ_init (by decide) rfl (Nat.le_of_ble_eq_true rfl) (by decide +kernel) ?_
  refine Y.blk (pc' := 5) (L' := [some (.ref a0)]) (st' := [.ref a0]) (sg := [(.aload_n 0, 0)]) (by decide +kernel) rfl ?_
  refine Y.new nc_X_7 (by decide) bk_I (by decide +kernel) h (fun a1 G2 h => ?_)
  refine Y.blk (pc' := 9) (L' := [some (.ref a0)]) (st' := [.ref a1, .ref a1, .ref a0]) (sg := [(.dup, 0)]) (by decide +kernel) rfl ?_
  refine Y.callN (yC.I (b := a1) (As := []) (st := [.ref a1, .ref a0]) hV.1 cb_I_init lk_X_9 in_I_init rfl rfl (by decide +kernel) rfl rfl (Nat.le_of_ble_eq_true rfl) (by decide)) (k_I_init hV G2 a1) h (fun G4 _ h => ?_)
  refine Y.putF fl_X_10 rfl (by decide) rfl rfl (by decide +kernel) h (fun G5 _ _ h => ?_)
  refine Y.blk (pc' := 16) (L' := [some (.ref a0)]) (st' := [.ref a0]) (sg := [(.aload_n 0, 0)]) (by decide +kernel) rfl ?_
  refine Y.new nc_X_16 (by decide) bk_U (by decide +kernel) h (fun a6 G7 h => ?_)
  refine Y.blk (pc' := 20) (L' := [some (.ref a0)]) (st' := [.ref a6, .ref a6, .ref a0]) (sg := [(.dup, 0)]) (by decide +kernel) rfl ?_
  refine Y.callN (yC.IN (b := a6) (As := []) (st := [.ref a6, .ref a0]) hV.1 cb_U_init lk_X_18 in_U_init rfl rfl (by decide +kernel) rfl rfl (Nat.le_of_ble_eq_true rfl) (by decide)) (k_U_init hV G7 a6) h (fun G9 _ h => ?_)
  refine Y.putF fl_X_19 rfl (by decide) rfl rfl (by decide +kernel) h (fun G10 _ _ h => ?_)
  exact Y.vret rfl (by decide +kernel) h

def f_N_read (G : gH) (a0 : Nat) (a1 : Int32) : gR :=
  if a1 < 0 then rI (-1) G
  else gFA G a0 2 0 fun v1 => gLen G v1 100 fun v2 => if v2 ≤ a1 then rI (-1) G
    else gFA G a0 2 0 fun v3 => gLd G v3 100 a1 fun v4 => rI v4 G
theorem k_N_read {l : Launch} {D : va_G} {B : Nat} {O : State → Heap → Prop} (hV : zG l D B O) (G : gH) (a0 : Nat) (a1 : Int32) : gMet (zVm l D B O) m_N_read 1 [.ref a0, .int a1] G (f_N_read G a0 a1) := by
  refine gMet.of (by decide +kernel) (Nat.le_of_ble_eq_true rfl) [some (.ref a0), some (.int a1)] (fun ls h => zEn_ok (n := 2) h) ?_
  intro o Gf h
  unfold f_N_read at h
  refine Y.blk (pc' := 1) (L' := [some (.ref a0), some (.int a1)]) (st' := [.int a1]) (sg := [(.iload_n 1, 0)]) (by decide +kernel) rfl ?_
  refine Y.if_lt (off := 21) (tgt := 22) (by decide +kernel) (by decide) h (fun c6 h => ?_) (fun c6 h => ?_)
  · refine Y.blk (pc' := 23) (L' := [some (.ref a0), some (.int a1)]) (st' := [.int (-1)]) (sg := [(.iconst (-1), -1)]) (by decide +kernel) rfl ?_
    exact Y.iret rfl (by decide +kernel) h
  · refine Y.blk (pc' := 6) (L' := [some (.ref a0), some (.int a1)]) (st' := [.ref a0, .int a1]) (sg := [(.iload_n 1, 0), (.aload_n 0, 0)]) (by decide +kernel) rfl ?_
    refine Y.getA fl_N_9 (by decide +kernel) h (fun v1 h => ?_)
    refine Y.alen (t0 := 0) (by decide +kernel) rfl h (fun v2 h => ?_)
    refine Y.ic_ge (off := 12) (tgt := 22) (by decide +kernel) (by decide) h (fun c5 h => ?_) (fun c5 h => ?_)
    · refine Y.blk (pc' := 23) (L' := [some (.ref a0), some (.int a1)]) (st' := [.int (-1)]) (sg := [(.iconst (-1), -1)]) (by decide +kernel) rfl ?_
      exact Y.iret rfl (by decide +kernel) h
    · refine Y.blk (pc' := 14) (L' := [some (.ref a0), some (.int a1)]) (st' := [.ref a0]) (sg := [(.aload_n 0, 0)]) (by decide +kernel) rfl ?_
      refine Y.getA fl_N_9 (by decide +kernel) h (fun v3 h => ?_)
      refine Y.blk (pc' := 18) (L' := [some (.ref a0), some (.int a1)]) (st' := [.int a1, .ref v3]) (sg := [(.iload_n 1, 0)]) (by decide +kernel) rfl ?_
      refine Y.iald (t0 := 0) (by decide +kernel) rfl h (fun v4 h => ?_)
      refine Y.goto (off := 4) (tgt := 23) (by decide +kernel) (by decide) ?_
      exact Y.iret rfl (by decide +kernel) h

def f_U_isStale (G : gH) (a0 : Nat) (a1 : Int32) : gR :=
  gFA G a0 0 0 fun v1 => gOb G v1 2 fun o3 => bI (f_N_read G v1 a1) fun v6 G5 => if v6 = (nI 2) then rZ (nI 1) G5
  else rZ (nI 0) G5
theorem k_U_isStale {l : Launch} {D : va_G} {B : Nat} {O : State → Heap → Prop} (hV : zG l D B O) (G : gH) (a0 : Nat) (a1 : Int32) : gMet (zVm l D B O) m_U_isStale 2 [.ref a0, .int a1] G (f_U_isStale G a0 a1) := by
  refine gMet.of (by decide +kernel) (Nat.le_of_ble_eq_true rfl) [some (.ref a0), some (.int a1)] (fun ls h => zEn_ok (n := 2) h) ?_
  intro o Gf h
  unfold f_U_isStale at h
  refine Y.blk (pc' := 1) (L' := [some (.ref a0), some (.int a1)]) (st' := [.ref a0]) (sg := [(.aload_n 0, 0)]) (by decide +kernel) rfl ?_
  refine Y.getA fl_U_14 (by decide +kernel) h (fun v1 h => ?_)
  refine Y.blk (pc' := 5) (L' := [some (.ref a0), some (.int a1)]) (st' := [.int a1, .ref v1]) (sg := [(.iload_n 1, 0)]) (by decide +kernel) rfl ?_
  obtain ⟨_, o3, e2, m4, h⟩ := gOb_inv h
  refine Y.callI (yC.Vi (b := v1) (As := [.int a1]) (st := []) (r := ("Partlister$Numbers", T_N, 1)) hV.1 cb_N_read lk_U_33 in_N_read rfl se_N_read (by decide +kernel) rfl rfl (Nat.le_of_ble_eq_true rfl) (by decide) e2 m4) (k_N_read hV G v1 a1) h (fun v6 G5 _ h => ?_)
  refine Y.blk (pc' := 9) (L' := [some (.ref a0), some (.int a1)]) (st' := [.int (nI 2), .int v6]) (sg := [(.iconst 2, nI 2)]) (by decide +kernel) rfl ?_
  refine Y.ic_ne (off := 7) (tgt := 16) (by decide +kernel) (by decide) h (fun c7 h => ?_) (fun c7 h => ?_)
  · refine Y.blk (pc' := 13) (L' := [some (.ref a0), some (.int a1)]) (st' := [.int (nI 1)]) (sg := [(.iconst 1, nI 1)]) (by decide +kernel) rfl ?_
    refine Y.goto (off := 4) (tgt := 17) (by decide +kernel) (by decide) ?_
    exact Y.zret rfl (by decide +kernel) h
  · refine Y.blk (pc' := 17) (L' := [some (.ref a0), some (.int a1)]) (st' := [.int (nI 0)]) (sg := [(.iconst 0, nI 0)]) (by decide +kernel) rfl ?_
    exact Y.zret rfl (by decide +kernel) h

def f_U_isThere (G : gH) (a0 : Nat) (a1 : Int32) : gR :=
  gOb G a0 0 fun o2 => bI (f_U_isStale G a0 a1) fun v5 G4 => if v5 = 0 then (gFA G4 a0 0 0 fun v6 => gOb G4 v6 2 fun o8 => bI (f_N_read G4 v6 a1) fun v11 G10 => if v11 = (nI 1) then rZ (nI 1) G10
    else rZ (nI 0) G10)
  else rZ (nI 1) G4
theorem k_U_isThere {l : Launch} {D : va_G} {B : Nat} {O : State → Heap → Prop} (hV : zG l D B O) (G : gH) (a0 : Nat) (a1 : Int32) : gMet (zVm l D B O) m_U_isThere 3 [.ref a0, .int a1] G (f_U_isThere G a0 a1) := by
  refine gMet.of (by decide +kernel) (Nat.le_of_ble_eq_true rfl) [some (.ref a0), some (.int a1)] (fun ls h => zEn_ok (n := 2) h) ?_
  intro o Gf h
  unfold f_U_isThere at h
  refine Y.blk (pc' := 2) (L' := [some (.ref a0), some (.int a1)]) (st' := [.int a1, .ref a0]) (sg := [(.aload_n 0, 0), (.iload_n 1, 0)]) (by decide +kernel) rfl ?_
  obtain ⟨_, o2, e1, m3, h⟩ := gOb_inv h
  refine Y.callI (yC.Vi (b := a0) (As := [.int a1]) (st := []) (r := ("Partlister$Cursors", T_U, 5)) hV.1 cb_U_isStale lk_U_29 in_U_isStale rfl se_U_isStale (by decide +kernel) rfl rfl (Nat.le_of_ble_eq_true rfl) (by decide) e1 m3) (k_U_isStale hV G a0 a1) h (fun v5 G4 _ h => ?_)
  refine Y.if_ne (off := 15) (tgt := 20) (by decide +kernel) (by decide) h (fun c13 h => ?_) (fun c13 h => ?_)
  · refine Y.blk (pc' := 9) (L' := [some (.ref a0), some (.int a1)]) (st' := [.ref a0]) (sg := [(.aload_n 0, 0)]) (by decide +kernel) rfl ?_
    refine Y.getA fl_U_14 (by decide +kernel) h (fun v6 h => ?_)
    refine Y.blk (pc' := 13) (L' := [some (.ref a0), some (.int a1)]) (st' := [.int a1, .ref v6]) (sg := [(.iload_n 1, 0)]) (by decide +kernel) rfl ?_
    obtain ⟨_, o8, e7, m9, h⟩ := gOb_inv h
    refine Y.callI (yC.Vi (b := v6) (As := [.int a1]) (st := []) (r := ("Partlister$Numbers", T_N, 1)) hV.1 cb_N_read lk_U_33 in_N_read rfl se_N_read (by decide +kernel) rfl rfl (Nat.le_of_ble_eq_true rfl) (by decide) e7 m9) (k_N_read hV G4 v6 a1) h (fun v11 G10 _ h => ?_)
    refine Y.blk (pc' := 17) (L' := [some (.ref a0), some (.int a1)]) (st' := [.int (nI 1), .int v11]) (sg := [(.iconst 1, nI 1)]) (by decide +kernel) rfl ?_
    refine Y.ic_ne (off := 7) (tgt := 24) (by decide +kernel) (by decide) h (fun c12 h => ?_) (fun c12 h => ?_)
    · refine Y.blk (pc' := 21) (L' := [some (.ref a0), some (.int a1)]) (st' := [.int (nI 1)]) (sg := [(.iconst 1, nI 1)]) (by decide +kernel) rfl ?_
      refine Y.goto (off := 4) (tgt := 25) (by decide +kernel) (by decide) ?_
      exact Y.zret rfl (by decide +kernel) h
    · refine Y.blk (pc' := 25) (L' := [some (.ref a0), some (.int a1)]) (st' := [.int (nI 0)]) (sg := [(.iconst 0, nI 0)]) (by decide +kernel) rfl ?_
      exact Y.zret rfl (by decide +kernel) h
  · refine Y.blk (pc' := 21) (L' := [some (.ref a0), some (.int a1)]) (st' := [.int (nI 1)]) (sg := [(.iconst 1, nI 1)]) (by decide +kernel) rfl ?_
    refine Y.goto (off := 4) (tgt := 25) (by decide +kernel) (by decide) ?_
    exact Y.zret rfl (by decide +kernel) h

def f_U_listOf (G : gH) (a0 : Nat) (a1 : Int32) : gR :=
  gFA G a0 0 1 fun v1 => gOb G v1 2 fun o3 => bI (f_N_read G v1 a1) fun v6 G5 => rI v6 G5
theorem k_U_listOf {l : Launch} {D : va_G} {B : Nat} {O : State → Heap → Prop} (hV : zG l D B O) (G : gH) (a0 : Nat) (a1 : Int32) : gMet (zVm l D B O) m_U_listOf 2 [.ref a0, .int a1] G (f_U_listOf G a0 a1) := by
  refine gMet.of (by decide +kernel) (Nat.le_of_ble_eq_true rfl) [some (.ref a0), some (.int a1)] (fun ls h => zEn_ok (n := 2) h) ?_
  intro o Gf h
  unfold f_U_listOf at h
  refine Y.blk (pc' := 1) (L' := [some (.ref a0), some (.int a1)]) (st' := [.ref a0]) (sg := [(.aload_n 0, 0)]) (by decide +kernel) rfl ?_
  refine Y.getA fl_U_20 (by decide +kernel) h (fun v1 h => ?_)
  refine Y.blk (pc' := 5) (L' := [some (.ref a0), some (.int a1)]) (st' := [.int a1, .ref v1]) (sg := [(.iload_n 1, 0)]) (by decide +kernel) rfl ?_
  obtain ⟨_, o3, e2, m4, h⟩ := gOb_inv h
  refine Y.callI (yC.Vi (b := v1) (As := [.int a1]) (st := []) (r := ("Partlister$Numbers", T_N, 1)) hV.1 cb_N_read lk_U_33 in_N_read rfl se_N_read (by decide +kernel) rfl rfl (Nat.le_of_ble_eq_true rfl) (by decide) e2 m4) (k_N_read hV G v1 a1) h (fun v6 G5 _ h => ?_)
  exact Y.iret rfl (by decide +kernel) h

def f_I_rowOf (G : gH) (a0 : Nat) (a1 : Int32) : gR :=
  gFA G a0 1 3 fun v1 => gOb G v1 2 fun o3 => bI (f_N_read G v1 a1) fun v6 G5 => rI v6 G5
theorem k_I_rowOf {l : Launch} {D : va_G} {B : Nat} {O : State → Heap → Prop} (hV : zG l D B O) (G : gH) (a0 : Nat) (a1 : Int32) : gMet (zVm l D B O) m_I_rowOf 2 [.ref a0, .int a1] G (f_I_rowOf G a0 a1) := by
  refine gMet.of (by decide +kernel) (Nat.le_of_ble_eq_true rfl) [some (.ref a0), some (.int a1)] (fun ls h => zEn_ok (n := 2) h) ?_
  intro o Gf h
  unfold f_I_rowOf at h
  refine Y.blk (pc' := 1) (L' := [some (.ref a0), some (.int a1)]) (st' := [.ref a0]) (sg := [(.aload_n 0, 0)]) (by decide +kernel) rfl ?_
  refine Y.getA fl_I_26 (by decide +kernel) h (fun v1 h => ?_)
  refine Y.blk (pc' := 5) (L' := [some (.ref a0), some (.int a1)]) (st' := [.int a1, .ref v1]) (sg := [(.iload_n 1, 0)]) (by decide +kernel) rfl ?_
  obtain ⟨_, o3, e2, m4, h⟩ := gOb_inv h
  refine Y.callI (yC.Vi (b := v1) (As := [.int a1]) (st := []) (r := ("Partlister$Numbers", T_N, 1)) hV.1 cb_N_read lk_I_39 in_N_read rfl se_N_read (by decide +kernel) rfl rfl (Nat.le_of_ble_eq_true rfl) (by decide) e2 m4) (k_N_read hV G v1 a1) h (fun v6 G5 _ h => ?_)
  exact Y.iret rfl (by decide +kernel) h

def f_X_isOnRowOf (G : gH) (a0 : Nat) (a1 : Int32) (a2 : Int32) : gR :=
  gFA G a0 3 1 fun v1 => gOb G v1 0 fun o3 => bI (f_U_isThere G v1 a1) fun v6 G5 => if v6 = 0 then rZ (nI 0) G5
  else gFA G5 a0 3 0 fun v7 => gFA G5 a0 3 1 fun v8 => gOb G5 v8 0 fun o10 => bI (f_U_listOf G5 v8 a1) fun v13 G12 => gOb G12 v7 1 fun o15 => bI (f_I_rowOf G12 v7 v13) fun v18 G17 => gFA G17 a0 3 0 fun v19 => gOb G17 v19 1 fun o21 => bI (f_I_rowOf G17 v19 a2) fun v24 G23 => if v18 = v24 then rZ (nI 1) G23
    else rZ (nI 0) G23
theorem k_X_isOnRowOf {l : Launch} {D : va_G} {B : Nat} {O : State → Heap → Prop} (hV : zG l D B O) (G : gH) (a0 : Nat) (a1 : Int32) (a2 : Int32) : gMet (zVm l D B O) m_X_isOnRowOf 4 [.ref a0, .int a1, .int a2] G (f_X_isOnRowOf G a0 a1 a2) := by
  refine gMet.of (by decide +kernel) (Nat.le_of_ble_eq_true rfl) [some (.ref a0), some (.int a1), some (.int a2)] (fun ls h => zEn_ok (n := 3) h) ?_
  intro o Gf h
  unfold f_X_isOnRowOf at h
  refine Y.blk (pc' := 1) (L' := [some (.ref a0), some (.int a1), some (.int a2)]) (st' := [.ref a0]) (sg := [(.aload_n 0, 0)]) (by decide +kernel) rfl ?_
  refine Y.getA fl_X_19 (by decide +kernel) h (fun v1 h => ?_)
  refine Y.blk (pc' := 5) (L' := [some (.ref a0), some (.int a1), some (.int a2)]) (st' := [.int a1, .ref v1]) (sg := [(.iload_n 1, 0)]) (by decide +kernel) rfl ?_
  obtain ⟨_, o3, e2, m4, h⟩ := gOb_inv h
  refine Y.callI (yC.Vi (b := v1) (As := [.int a1]) (st := []) (r := ("Partlister$Cursors", T_U, 5)) hV.1 cb_U_isThere lk_X_148 in_U_isThere rfl se_U_isThere (by decide +kernel) rfl rfl (Nat.le_of_ble_eq_true rfl) (by decide) e2 m4) (k_U_isThere hV G v1 a1) h (fun v6 G5 _ h => ?_)
  refine Y.if_eq (off := 33) (tgt := 41) (by decide +kernel) (by decide) h (fun c26 h => ?_) (fun c26 h => ?_)
  · refine Y.blk (pc' := 42) (L' := [some (.ref a0), some (.int a1), some (.int a2)]) (st' := [.int (nI 0)]) (sg := [(.iconst 0, nI 0)]) (by decide +kernel) rfl ?_
    exact Y.zret rfl (by decide +kernel) h
  · refine Y.blk (pc' := 12) (L' := [some (.ref a0), some (.int a1), some (.int a2)]) (st' := [.ref a0]) (sg := [(.aload_n 0, 0)]) (by decide +kernel) rfl ?_
    refine Y.getA fl_X_10 (by decide +kernel) h (fun v7 h => ?_)
    refine Y.blk (pc' := 16) (L' := [some (.ref a0), some (.int a1), some (.int a2)]) (st' := [.ref a0, .ref v7]) (sg := [(.aload_n 0, 0)]) (by decide +kernel) rfl ?_
    refine Y.getA fl_X_19 (by decide +kernel) h (fun v8 h => ?_)
    refine Y.blk (pc' := 20) (L' := [some (.ref a0), some (.int a1), some (.int a2)]) (st' := [.int a1, .ref v8, .ref v7]) (sg := [(.iload_n 1, 0)]) (by decide +kernel) rfl ?_
    obtain ⟨_, o10, e9, m11, h⟩ := gOb_inv h
    refine Y.callI (yC.Vi (b := v8) (As := [.int a1]) (st := [.ref v7]) (r := ("Partlister$Cursors", T_U, 5)) hV.1 cb_U_listOf lk_X_152 in_U_listOf rfl se_U_listOf (by decide +kernel) rfl rfl (Nat.le_of_ble_eq_true rfl) (by decide) e9 m11) (k_U_listOf hV G5 v8 a1) h (fun v13 G12 _ h => ?_)
    obtain ⟨_, o15, e14, m16, h⟩ := gOb_inv h
    refine Y.callI (yC.Vi (b := v7) (As := [.int v13]) (st := []) (r := ("Partlister$Lists", T_I, 7)) hV.1 cb_I_rowOf lk_X_299 in_I_rowOf rfl se_I_rowOf (by decide +kernel) rfl rfl (Nat.le_of_ble_eq_true rfl) (by decide) e14 m16) (k_I_rowOf hV G12 v7 v13) h (fun v18 G17 _ h => ?_)
    refine Y.blk (pc' := 27) (L' := [some (.ref a0), some (.int a1), some (.int a2)]) (st' := [.ref a0, .int v18]) (sg := [(.aload_n 0, 0)]) (by decide +kernel) rfl ?_
    refine Y.getA fl_X_10 (by decide +kernel) h (fun v19 h => ?_)
    refine Y.blk (pc' := 31) (L' := [some (.ref a0), some (.int a1), some (.int a2)]) (st' := [.int a2, .ref v19, .int v18]) (sg := [(.iload_n 2, 0)]) (by decide +kernel) rfl ?_
    obtain ⟨_, o21, e20, m22, h⟩ := gOb_inv h
    refine Y.callI (yC.Vi (b := v19) (As := [.int a2]) (st := [.int v18]) (r := ("Partlister$Lists", T_I, 7)) hV.1 cb_I_rowOf lk_X_299 in_I_rowOf rfl se_I_rowOf (by decide +kernel) rfl rfl (Nat.le_of_ble_eq_true rfl) (by decide) e20 m22) (k_I_rowOf hV G17 v19 a2) h (fun v24 G23 _ h => ?_)
    refine Y.ic_ne (off := 7) (tgt := 41) (by decide +kernel) (by decide) h (fun c25 h => ?_) (fun c25 h => ?_)
    · refine Y.blk (pc' := 38) (L' := [some (.ref a0), some (.int a1), some (.int a2)]) (st' := [.int (nI 1)]) (sg := [(.iconst 1, nI 1)]) (by decide +kernel) rfl ?_
      refine Y.goto (off := 4) (tgt := 42) (by decide +kernel) (by decide) ?_
      exact Y.zret rfl (by decide +kernel) h
    · refine Y.blk (pc' := 42) (L' := [some (.ref a0), some (.int a1), some (.int a2)]) (st' := [.int (nI 0)]) (sg := [(.iconst 0, nI 0)]) (by decide +kernel) rfl ?_
      exact Y.zret rfl (by decide +kernel) h

def f_U_finish (G : gH) (a0 : Nat) (a1 : Int32) : gR :=
  gFA G a0 0 0 fun v1 => gOb G v1 2 fun o3 => bV (f_N_write G v1 a1 (nI 0)) fun G5 => gFI G5 a0 0 4 fun v6 => gPut G5 a0 0 4 (.int (v6 + (nI 1))) fun G7 => rV G7
theorem k_U_finish {l : Launch} {D : va_G} {B : Nat} {O : State → Heap → Prop} (hV : zG l D B O) (G : gH) (a0 : Nat) (a1 : Int32) : gMet (zVm l D B O) m_U_finish 2 [.ref a0, .int a1] G (f_U_finish G a0 a1) := by
  refine gMet.of (by decide +kernel) (Nat.le_of_ble_eq_true rfl) [some (.ref a0), some (.int a1)] (fun ls h => zEn_ok (n := 2) h) ?_
  intro o Gf h
  unfold f_U_finish at h
  refine Y.blk (pc' := 1) (L' := [some (.ref a0), some (.int a1)]) (st' := [.ref a0]) (sg := [(.aload_n 0, 0)]) (by decide +kernel) rfl ?_
  refine Y.getA fl_U_14 (by decide +kernel) h (fun v1 h => ?_)
  refine Y.blk (pc' := 6) (L' := [some (.ref a0), some (.int a1)]) (st' := [.int (nI 0), .int a1, .ref v1]) (sg := [(.iload_n 1, 0), (.iconst 0, nI 0)]) (by decide +kernel) rfl ?_
  obtain ⟨_, o3, e2, m4, h⟩ := gOb_inv h
  refine Y.callN (yC.Vi (b := v1) (As := [.int a1, .int (nI 0)]) (st := []) (r := ("Partlister$Numbers", T_N, 1)) hV.1 cb_N_write lk_U_40 in_N_write rfl se_N_write (by decide +kernel) rfl rfl (Nat.le_of_ble_eq_true rfl) (by decide) e2 m4) (k_N_write hV G v1 a1 (nI 0)) h (fun G5 _ h => ?_)
  refine Y.blk (pc' := 11) (L' := [some (.ref a0), some (.int a1)]) (st' := [.ref a0, .ref a0]) (sg := [(.aload_n 0, 0), (.dup, 0)]) (by decide +kernel) rfl ?_
  refine Y.getI fl_U_54 (by decide +kernel) h (fun v6 h => ?_)
  refine Y.blk (pc' := 16) (L' := [some (.ref a0), some (.int a1)]) (st' := [.int (v6 + (nI 1)), .ref a0]) (sg := [(.iconst 1, nI 1), (.iadd, 0)]) (by decide +kernel) rfl ?_
  refine Y.putf fl_U_54 (by decide) rfl rfl (by decide +kernel) h (fun G7 _ _ h => ?_)
  exact Y.vret rfl (by decide +kernel) h

def f_U_unsettle (G : gH) (a0 : Nat) (a1 : Int32) : gR :=
  gOb G a0 0 fun o2 => bI (f_U_listOf G a0 a1) fun v5 G4 => if (nI 2) ≤ v5 then gOb G4 a0 0 fun o7 => bV (f_U_finish G4 a0 a1) fun G9 => rV G9
  else gFA G4 a0 0 0 fun v10 => gOb G4 v10 2 fun o12 => bV (f_N_write G4 v10 a1 (nI 2)) fun G14 => rV G14
theorem k_U_unsettle {l : Launch} {D : va_G} {B : Nat} {O : State → Heap → Prop} (hV : zG l D B O) (G : gH) (a0 : Nat) (a1 : Int32) : gMet (zVm l D B O) m_U_unsettle 3 [.ref a0, .int a1] G (f_U_unsettle G a0 a1) := by
  refine gMet.of (by decide +kernel) (Nat.le_of_ble_eq_true rfl) [some (.ref a0), some (.int a1)] (fun ls h => zEn_ok (n := 2) h) ?_
  intro o Gf h
  unfold f_U_unsettle at h
  refine Y.blk (pc' := 2) (L' := [some (.ref a0), some (.int a1)]) (st' := [.int a1, .ref a0]) (sg := [(.aload_n 0, 0), (.iload_n 1, 0)]) (by decide +kernel) rfl ?_
  obtain ⟨_, o2, e1, m3, h⟩ := gOb_inv h
  refine Y.callI (yC.Vi (b := a0) (As := [.int a1]) (st := []) (r := ("Partlister$Cursors", T_U, 5)) hV.1 cb_U_listOf lk_U_48 in_U_listOf rfl se_U_listOf (by decide +kernel) rfl rfl (Nat.le_of_ble_eq_true rfl) (by decide) e1 m3) (k_U_listOf hV G a0 a1) h (fun v5 G4 _ h => ?_)
  refine Y.blk (pc' := 6) (L' := [some (.ref a0), some (.int a1)]) (st' := [.int (nI 2), .int v5]) (sg := [(.iconst 2, nI 2)]) (by decide +kernel) rfl ?_
  refine Y.ic_ge (off := 15) (tgt := 21) (by decide +kernel) (by decide) h (fun c15 h => ?_) (fun c15 h => ?_)
  · refine Y.blk (pc' := 23) (L' := [some (.ref a0), some (.int a1)]) (st' := [.int a1, .ref a0]) (sg := [(.aload_n 0, 0), (.iload_n 1, 0)]) (by decide +kernel) rfl ?_
    obtain ⟨_, o7, e6, m8, h⟩ := gOb_inv h
    refine Y.callN (yC.Vi (b := a0) (As := [.int a1]) (st := []) (r := ("Partlister$Cursors", T_U, 5)) hV.1 cb_U_finish lk_U_51 in_U_finish rfl se_U_finish (by decide +kernel) rfl rfl (Nat.le_of_ble_eq_true rfl) (by decide) e6 m8) (k_U_finish hV G4 a0 a1) h (fun G9 _ h => ?_)
    exact Y.vret rfl (by decide +kernel) h
  · refine Y.blk (pc' := 10) (L' := [some (.ref a0), some (.int a1)]) (st' := [.ref a0]) (sg := [(.aload_n 0, 0)]) (by decide +kernel) rfl ?_
    refine Y.getA fl_U_14 (by decide +kernel) h (fun v10 h => ?_)
    refine Y.blk (pc' := 15) (L' := [some (.ref a0), some (.int a1)]) (st' := [.int (nI 2), .int a1, .ref v10]) (sg := [(.iload_n 1, 0), (.iconst 2, nI 2)]) (by decide +kernel) rfl ?_
    obtain ⟨_, o12, e11, m13, h⟩ := gOb_inv h
    refine Y.callN (yC.Vi (b := v10) (As := [.int a1, .int (nI 2)]) (st := []) (r := ("Partlister$Numbers", T_N, 1)) hV.1 cb_N_write lk_U_40 in_N_write rfl se_N_write (by decide +kernel) rfl rfl (Nat.le_of_ble_eq_true rfl) (by decide) e11 m13) (k_N_write hV G4 v10 a1 (nI 2)) h (fun G14 _ h => ?_)
    refine Y.goto (off := 8) (tgt := 26) (by decide +kernel) (by decide) ?_
    exact Y.vret rfl (by decide +kernel) h

def f_I_finish (G : gH) (a0 : Nat) (a1 : Int32) : gR :=
  gFA G a0 1 1 fun v1 => gOb G v1 2 fun o3 => bV (f_N_write G v1 a1 (-1)) fun G5 => gFI G5 a0 1 6 fun v6 => gPut G5 a0 1 6 (.int (v6 + (nI 1))) fun G7 => rV G7
theorem k_I_finish {l : Launch} {D : va_G} {B : Nat} {O : State → Heap → Prop} (hV : zG l D B O) (G : gH) (a0 : Nat) (a1 : Int32) : gMet (zVm l D B O) m_I_finish 2 [.ref a0, .int a1] G (f_I_finish G a0 a1) := by
  refine gMet.of (by decide +kernel) (Nat.le_of_ble_eq_true rfl) [some (.ref a0), some (.int a1)] (fun ls h => zEn_ok (n := 2) h) ?_
  intro o Gf h
  unfold f_I_finish at h
  refine Y.blk (pc' := 1) (L' := [some (.ref a0), some (.int a1)]) (st' := [.ref a0]) (sg := [(.aload_n 0, 0)]) (by decide +kernel) rfl ?_
  refine Y.getA fl_I_20 (by decide +kernel) h (fun v1 h => ?_)
  refine Y.blk (pc' := 6) (L' := [some (.ref a0), some (.int a1)]) (st' := [.int (-1), .int a1, .ref v1]) (sg := [(.iload_n 1, 0), (.iconst (-1), -1)]) (by decide +kernel) rfl ?_
  obtain ⟨_, o3, e2, m4, h⟩ := gOb_inv h
  refine Y.callN (yC.Vi (b := v1) (As := [.int a1, .int (-1)]) (st := []) (r := ("Partlister$Numbers", T_N, 1)) hV.1 cb_N_write lk_I_35 in_N_write rfl se_N_write (by decide +kernel) rfl rfl (Nat.le_of_ble_eq_true rfl) (by decide) e2 m4) (k_N_write hV G v1 a1 (-1)) h (fun G5 _ h => ?_)
  refine Y.blk (pc' := 11) (L' := [some (.ref a0), some (.int a1)]) (st' := [.ref a0, .ref a0]) (sg := [(.aload_n 0, 0), (.dup, 0)]) (by decide +kernel) rfl ?_
  refine Y.getI fl_I_97 (by decide +kernel) h (fun v6 h => ?_)
  refine Y.blk (pc' := 16) (L' := [some (.ref a0), some (.int a1)]) (st' := [.int (v6 + (nI 1)), .ref a0]) (sg := [(.iconst 1, nI 1), (.iadd, 0)]) (by decide +kernel) rfl ?_
  refine Y.putf fl_I_97 (by decide) rfl rfl (by decide +kernel) h (fun G7 _ _ h => ?_)
  exact Y.vret rfl (by decide +kernel) h

def f_I_isThere (G : gH) (a0 : Nat) (a1 : Int32) : gR :=
  gFA G a0 1 1 fun v1 => gOb G v1 2 fun o3 => bI (f_N_read G v1 a1) fun v6 G5 => if v6 = (-1) then rZ (nI 0) G5
  else rZ (nI 1) G5
theorem k_I_isThere {l : Launch} {D : va_G} {B : Nat} {O : State → Heap → Prop} (hV : zG l D B O) (G : gH) (a0 : Nat) (a1 : Int32) : gMet (zVm l D B O) m_I_isThere 2 [.ref a0, .int a1] G (f_I_isThere G a0 a1) := by
  refine gMet.of (by decide +kernel) (Nat.le_of_ble_eq_true rfl) [some (.ref a0), some (.int a1)] (fun ls h => zEn_ok (n := 2) h) ?_
  intro o Gf h
  unfold f_I_isThere at h
  refine Y.blk (pc' := 1) (L' := [some (.ref a0), some (.int a1)]) (st' := [.ref a0]) (sg := [(.aload_n 0, 0)]) (by decide +kernel) rfl ?_
  refine Y.getA fl_I_20 (by decide +kernel) h (fun v1 h => ?_)
  refine Y.blk (pc' := 5) (L' := [some (.ref a0), some (.int a1)]) (st' := [.int a1, .ref v1]) (sg := [(.iload_n 1, 0)]) (by decide +kernel) rfl ?_
  obtain ⟨_, o3, e2, m4, h⟩ := gOb_inv h
  refine Y.callI (yC.Vi (b := v1) (As := [.int a1]) (st := []) (r := ("Partlister$Numbers", T_N, 1)) hV.1 cb_N_read lk_I_39 in_N_read rfl se_N_read (by decide +kernel) rfl rfl (Nat.le_of_ble_eq_true rfl) (by decide) e2 m4) (k_N_read hV G v1 a1) h (fun v6 G5 _ h => ?_)
  refine Y.blk (pc' := 9) (L' := [some (.ref a0), some (.int a1)]) (st' := [.int (-1), .int v6]) (sg := [(.iconst (-1), -1)]) (by decide +kernel) rfl ?_
  refine Y.ic_eq (off := 7) (tgt := 16) (by decide +kernel) (by decide) h (fun c7 h => ?_) (fun c7 h => ?_)
  · refine Y.blk (pc' := 17) (L' := [some (.ref a0), some (.int a1)]) (st' := [.int (nI 0)]) (sg := [(.iconst 0, nI 0)]) (by decide +kernel) rfl ?_
    exact Y.zret rfl (by decide +kernel) h
  · refine Y.blk (pc' := 13) (L' := [some (.ref a0), some (.int a1)]) (st' := [.int (nI 1)]) (sg := [(.iconst 1, nI 1)]) (by decide +kernel) rfl ?_
    refine Y.goto (off := 4) (tgt := 17) (by decide +kernel) (by decide) ?_
    exact Y.zret rfl (by decide +kernel) h

def f_I_isWithin_L5 (K32 : gH → Int32 → Int32 → gR) : Nat → gH → Nat → Int32 → Int32 → Int32 → gR
  | 0, _, _, _, _, _ => none
  | n + 1, G, x0, x2, x3, x4 =>
    if (nI 6) ≤ x4 then K32 G x2 x3
    else if x3 = x2 then K32 G x2 x3
      else gFA G x0 1 2 fun v1 => gOb G v1 2 fun o3 => bI (f_N_read G v1 x3) fun v6 G5 => f_I_isWithin_L5 K32 n G5 x0 x2 v6 (x4 + (nI 1))
def f_I_isWithin (G : gH) (a0 : Nat) (a1 : Int32) (a2 : Int32) : gR :=
  f_I_isWithin_L5 (fun G11 x9 x10 => if x10 = x9 then rZ (nI 1) G11
    else rZ (nI 0) G11) zFu G a0 a2 a1 (nI 0)
theorem k_I_isWithin_L5 {l : Launch} {D : va_G} {B : Nat} {O : State → Heap → Prop} (hV : zG l D B O) {o : gO} {Gf : gH} (K32 : gH → Int32 → Int32 → gR) (hK32 : ∀ (G : gH) (x2 : Int32) (x3 : Int32), K32 G x2 x3 = some (o, Gf) → Y (zVm l D B O) m_I_isWithin 2 o Gf 32 [none, none, some (.int x2), some (.int x3), none] [] G) : ∀ (n : Nat) (G : gH) (x0 : Nat) (x2 : Int32) (x3 : Int32) (x4 : Int32), f_I_isWithin_L5 K32 n G x0 x2 x3 x4 = some (o, Gf) → Y (zVm l D B O) m_I_isWithin 2 o Gf 5 [some (.ref x0), none, some (.int x2), some (.int x3), some (.int x4)] [] G := by
  intro n
  induction n with
  | zero => intro G x0 x2 x3 x4 h; cases h
  | succ n ih =>
    intro G x0 x2 x3 x4 h
    unfold f_I_isWithin_L5 at h
    refine Y.blk (pc' := 9) (L' := [some (.ref x0), none, some (.int x2), some (.int x3), some (.int x4)]) (st' := [.int (nI 6), .int x4]) (sg := [(.iload 4, 0), (.bipush 6, nI 6)]) (by decide +kernel) rfl ?_
    refine Y.ic_ge (off := 23) (tgt := 32) (by decide +kernel) (by decide) h (fun c8 h => ?_) (fun c8 h => ?_)
    · refine Y.less (L' := [none, none, some (.int x2), some (.int x3), none]) (zLe_none (zLe_some (zLe_some (zLe_some (zLe_none (zLe_nil)))))) ?_
      exact hK32 G x2 x3 h
    · refine Y.blk (pc' := 14) (L' := [some (.ref x0), none, some (.int x2), some (.int x3), some (.int x4)]) (st' := [.int x2, .int x3]) (sg := [(.iload_n 3, 0), (.iload_n 2, 0)]) (by decide +kernel) rfl ?_
      refine Y.ic_eq (off := 18) (tgt := 32) (by decide +kernel) (by decide) h (fun c7 h => ?_) (fun c7 h => ?_)
      · refine Y.less (L' := [none, none, some (.int x2), some (.int x3), none]) (zLe_none (zLe_some (zLe_some (zLe_some (zLe_none (zLe_nil)))))) ?_
        exact hK32 G x2 x3 h
      · refine Y.blk (pc' := 18) (L' := [some (.ref x0), none, some (.int x2), some (.int x3), some (.int x4)]) (st' := [.ref x0]) (sg := [(.aload_n 0, 0)]) (by decide +kernel) rfl ?_
        refine Y.getA fl_I_23 (by decide +kernel) h (fun v1 h => ?_)
        refine Y.blk (pc' := 22) (L' := [some (.ref x0), none, some (.int x2), some (.int x3), some (.int x4)]) (st' := [.int x3, .ref v1]) (sg := [(.iload_n 3, 0)]) (by decide +kernel) rfl ?_
        obtain ⟨_, o3, e2, m4, h⟩ := gOb_inv h
        refine Y.callI (yC.Vi (b := v1) (As := [.int x3]) (st := []) (r := ("Partlister$Numbers", T_N, 1)) hV.1 cb_N_read lk_I_39 in_N_read rfl se_N_read (by decide +kernel) rfl rfl (Nat.le_of_ble_eq_true rfl) (by decide) e2 m4) (k_N_read hV G v1 x3) h (fun v6 G5 _ h => ?_)
        refine Y.blk (pc' := 29) (L' := [some (.ref x0), none, some (.int x2), some (.int v6), some (.int (x4 + (nI 1)))]) (st' := []) (sg := [(.istore_n 3, 0), (.iinc 4 1, nI 1)]) (by decide +kernel) rfl ?_
        refine Y.goto (off := -24) (tgt := 5) (by decide +kernel) (by decide) ?_
        exact ih G5 x0 x2 v6 (x4 + (nI 1)) h
theorem k_I_isWithin {l : Launch} {D : va_G} {B : Nat} {O : State → Heap → Prop} (hV : zG l D B O) (G : gH) (a0 : Nat) (a1 : Int32) (a2 : Int32) : gMet (zVm l D B O) m_I_isWithin 2 [.ref a0, .int a1, .int a2] G (f_I_isWithin G a0 a1 a2) := by
  refine gMet.of (by decide +kernel) (Nat.le_of_ble_eq_true rfl) [some (.ref a0), some (.int a1), some (.int a2), none, none] (fun ls h => zEn_ok (n := 5) h) ?_
  intro o Gf h
  unfold f_I_isWithin at h
  refine Y.blk (pc' := 5) (L' := [some (.ref a0), some (.int a1), some (.int a2), some (.int a1), some (.int (nI 0))]) (st' := []) (sg := [(.iload_n 1, 0), (.istore_n 3, 0), (.iconst 0, nI 0), (.istore 4, 0)]) (by decide +kernel) rfl ?_
  refine Y.less (L' := [some (.ref a0), none, some (.int a2), some (.int a1), some (.int (nI 0))]) (zLe_some (zLe_none (zLe_some (zLe_some (zLe_some (zLe_nil)))))) ?_
  refine k_I_isWithin_L5 hV _ ?_  zFu G a0 a2 a1 (nI 0) h
  · intro G11 x9 x10 h
    refine Y.blk (pc' := 34) (L' := [none, none, some (.int x9), some (.int x10), none]) (st' := [.int x9, .int x10]) (sg := [(.iload_n 3, 0), (.iload_n 2, 0)]) (by decide +kernel) rfl ?_
    refine Y.ic_ne (off := 7) (tgt := 41) (by decide +kernel) (by decide) h (fun c12 h => ?_) (fun c12 h => ?_)
    · refine Y.blk (pc' := 38) (L' := [none, none, some (.int x9), some (.int x10), none]) (st' := [.int (nI 1)]) (sg := [(.iconst 1, nI 1)]) (by decide +kernel) rfl ?_
      refine Y.goto (off := 4) (tgt := 42) (by decide +kernel) (by decide) ?_
      exact Y.zret rfl (by decide +kernel) h
    · refine Y.blk (pc' := 42) (L' := [none, none, some (.int x9), some (.int x10), none]) (st' := [.int (nI 0)]) (sg := [(.iconst 0, nI 0)]) (by decide +kernel) rfl ?_
      exact Y.zret rfl (by decide +kernel) h

def f_I_endOthers_L4 (K54 : gH → Int32 → gR) : Nat → gH → Nat → Int32 → Int32 → Int32 → gR
  | 0, _, _, _, _, _ => none
  | n + 1, G, x0, x1, x2, x3 =>
    if (nI 6) ≤ x3 then K54 G x2
    else gOb G x0 1 fun o2 => bI (f_I_isThere G x0 x3) fun v5 G4 => if v5 = 0 then f_I_endOthers_L4 K54 n G4 x0 x1 x2 (x3 + (nI 1))
      else gOb G4 x0 1 fun o7 => bI (f_I_rowOf G4 x0 x3) fun v10 G9 => gOb G9 x0 1 fun o12 => bI (f_I_rowOf G9 x0 x1) fun v15 G14 => if v10 = v15 then (gOb G14 x0 1 fun o17 => bI (f_I_isWithin G14 x0 x1 x3) fun v20 G19 => if v20 = 0 then gOb G19 x0 1 fun o22 => bV (f_I_finish G19 x0 x3) fun G24 => f_I_endOthers_L4 K54 n G24 x0 x1 (x2 + (nI 1)) (x3 + (nI 1))
          else f_I_endOthers_L4 K54 n G19 x0 x1 x2 (x3 + (nI 1)))
        else f_I_endOthers_L4 K54 n G14 x0 x1 x2 (x3 + (nI 1))
def f_I_endOthers (G : gH) (a0 : Nat) (a1 : Int32) : gR :=
  f_I_endOthers_L4 (fun G30 x29 => rI x29 G30) zFu G a0 a1 (nI 0) (nI 2)
theorem k_I_endOthers_L4 {l : Launch} {D : va_G} {B : Nat} {O : State → Heap → Prop} (hV : zG l D B O) {o : gO} {Gf : gH} (K54 : gH → Int32 → gR) (hK54 : ∀ (G : gH) (x2 : Int32), K54 G x2 = some (o, Gf) → Y (zVm l D B O) m_I_endOthers 3 o Gf 54 [none, none, some (.int x2), none] [] G) : ∀ (n : Nat) (G : gH) (x0 : Nat) (x1 : Int32) (x2 : Int32) (x3 : Int32), f_I_endOthers_L4 K54 n G x0 x1 x2 x3 = some (o, Gf) → Y (zVm l D B O) m_I_endOthers 3 o Gf 4 [some (.ref x0), some (.int x1), some (.int x2), some (.int x3)] [] G := by
  intro n
  induction n with
  | zero => intro G x0 x1 x2 x3 h; cases h
  | succ n ih =>
    intro G x0 x1 x2 x3 h
    unfold f_I_endOthers_L4 at h
    refine Y.blk (pc' := 7) (L' := [some (.ref x0), some (.int x1), some (.int x2), some (.int x3)]) (st' := [.int (nI 6), .int x3]) (sg := [(.iload_n 3, 0), (.bipush 6, nI 6)]) (by decide +kernel) rfl ?_
    refine Y.ic_ge (off := 47) (tgt := 54) (by decide +kernel) (by decide) h (fun c28 h => ?_) (fun c28 h => ?_)
    · refine Y.less (L' := [none, none, some (.int x2), none]) (zLe_none (zLe_none (zLe_some (zLe_none (zLe_nil))))) ?_
      exact hK54 G x2 h
    · refine Y.blk (pc' := 12) (L' := [some (.ref x0), some (.int x1), some (.int x2), some (.int x3)]) (st' := [.int x3, .ref x0]) (sg := [(.aload_n 0, 0), (.iload_n 3, 0)]) (by decide +kernel) rfl ?_
      obtain ⟨_, o2, e1, m3, h⟩ := gOb_inv h
      refine Y.callI (yC.Vi (b := x0) (As := [.int x3]) (st := []) (r := ("Partlister$Lists", T_I, 7)) hV.1 cb_I_isThere lk_I_86 in_I_isThere rfl se_I_isThere (by decide +kernel) rfl rfl (Nat.le_of_ble_eq_true rfl) (by decide) e1 m3) (k_I_isThere hV G x0 x3) h (fun v5 G4 _ h => ?_)
      refine Y.if_eq (off := 33) (tgt := 48) (by decide +kernel) (by decide) h (fun c27 h => ?_) (fun c27 h => ?_)
      · refine Y.blk (pc' := 51) (L' := [some (.ref x0), some (.int x1), some (.int x2), some (.int (x3 + (nI 1)))]) (st' := []) (sg := [(.iinc 3 1, nI 1)]) (by decide +kernel) rfl ?_
        refine Y.goto (off := -47) (tgt := 4) (by decide +kernel) (by decide) ?_
        exact ih G4 x0 x1 x2 (x3 + (nI 1)) h
      · refine Y.blk (pc' := 20) (L' := [some (.ref x0), some (.int x1), some (.int x2), some (.int x3)]) (st' := [.int x3, .ref x0]) (sg := [(.aload_n 0, 0), (.iload_n 3, 0)]) (by decide +kernel) rfl ?_
        obtain ⟨_, o7, e6, m8, h⟩ := gOb_inv h
        refine Y.callI (yC.Vi (b := x0) (As := [.int x3]) (st := []) (r := ("Partlister$Lists", T_I, 7)) hV.1 cb_I_rowOf lk_I_56 in_I_rowOf rfl se_I_rowOf (by decide +kernel) rfl rfl (Nat.le_of_ble_eq_true rfl) (by decide) e6 m8) (k_I_rowOf hV G4 x0 x3) h (fun v10 G9 _ h => ?_)
        refine Y.blk (pc' := 25) (L' := [some (.ref x0), some (.int x1), some (.int x2), some (.int x3)]) (st' := [.int x1, .ref x0, .int v10]) (sg := [(.aload_n 0, 0), (.iload_n 1, 0)]) (by decide +kernel) rfl ?_
        obtain ⟨_, o12, e11, m13, h⟩ := gOb_inv h
        refine Y.callI (yC.Vi (b := x0) (As := [.int x1]) (st := [.int v10]) (r := ("Partlister$Lists", T_I, 7)) hV.1 cb_I_rowOf lk_I_56 in_I_rowOf rfl se_I_rowOf (by decide +kernel) rfl rfl (Nat.le_of_ble_eq_true rfl) (by decide) e11 m13) (k_I_rowOf hV G9 x0 x1) h (fun v15 G14 _ h => ?_)
        refine Y.ic_ne (off := 20) (tgt := 48) (by decide +kernel) (by decide) h (fun c26 h => ?_) (fun c26 h => ?_)
        · refine Y.blk (pc' := 34) (L' := [some (.ref x0), some (.int x1), some (.int x2), some (.int x3)]) (st' := [.int x3, .int x1, .ref x0]) (sg := [(.aload_n 0, 0), (.iload_n 1, 0), (.iload_n 3, 0)]) (by decide +kernel) rfl ?_
          obtain ⟨_, o17, e16, m18, h⟩ := gOb_inv h
          refine Y.callI (yC.Vi (b := x0) (As := [.int x1, .int x3]) (st := []) (r := ("Partlister$Lists", T_I, 7)) hV.1 cb_I_isWithin lk_I_90 in_I_isWithin rfl se_I_isWithin (by decide +kernel) rfl rfl (Nat.le_of_ble_eq_true rfl) (by decide) e16 m18) (k_I_isWithin hV G14 x0 x1 x3) h (fun v20 G19 _ h => ?_)
          refine Y.if_ne (off := 11) (tgt := 48) (by decide +kernel) (by decide) h (fun c25 h => ?_) (fun c25 h => ?_)
          · refine Y.blk (pc' := 42) (L' := [some (.ref x0), some (.int x1), some (.int x2), some (.int x3)]) (st' := [.int x3, .ref x0]) (sg := [(.aload_n 0, 0), (.iload_n 3, 0)]) (by decide +kernel) rfl ?_
            obtain ⟨_, o22, e21, m23, h⟩ := gOb_inv h
            refine Y.callN (yC.Vi (b := x0) (As := [.int x3]) (st := []) (r := ("Partlister$Lists", T_I, 7)) hV.1 cb_I_finish lk_I_94 in_I_finish rfl se_I_finish (by decide +kernel) rfl rfl (Nat.le_of_ble_eq_true rfl) (by decide) e21 m23) (k_I_finish hV G19 x0 x3) h (fun G24 _ h => ?_)
            refine Y.blk (pc' := 51) (L' := [some (.ref x0), some (.int x1), some (.int (x2 + (nI 1))), some (.int (x3 + (nI 1)))]) (st' := []) (sg := [(.iinc 2 1, nI 1), (.iinc 3 1, nI 1)]) (by decide +kernel) rfl ?_
            refine Y.goto (off := -47) (tgt := 4) (by decide +kernel) (by decide) ?_
            exact ih G24 x0 x1 (x2 + (nI 1)) (x3 + (nI 1)) h
          · refine Y.blk (pc' := 51) (L' := [some (.ref x0), some (.int x1), some (.int x2), some (.int (x3 + (nI 1)))]) (st' := []) (sg := [(.iinc 3 1, nI 1)]) (by decide +kernel) rfl ?_
            refine Y.goto (off := -47) (tgt := 4) (by decide +kernel) (by decide) ?_
            exact ih G19 x0 x1 x2 (x3 + (nI 1)) h
        · refine Y.blk (pc' := 51) (L' := [some (.ref x0), some (.int x1), some (.int x2), some (.int (x3 + (nI 1)))]) (st' := []) (sg := [(.iinc 3 1, nI 1)]) (by decide +kernel) rfl ?_
          refine Y.goto (off := -47) (tgt := 4) (by decide +kernel) (by decide) ?_
          exact ih G14 x0 x1 x2 (x3 + (nI 1)) h
theorem k_I_endOthers {l : Launch} {D : va_G} {B : Nat} {O : State → Heap → Prop} (hV : zG l D B O) (G : gH) (a0 : Nat) (a1 : Int32) : gMet (zVm l D B O) m_I_endOthers 3 [.ref a0, .int a1] G (f_I_endOthers G a0 a1) := by
  refine gMet.of (by decide +kernel) (Nat.le_of_ble_eq_true rfl) [some (.ref a0), some (.int a1), none, none] (fun ls h => zEn_ok (n := 4) h) ?_
  intro o Gf h
  unfold f_I_endOthers at h
  refine Y.blk (pc' := 4) (L' := [some (.ref a0), some (.int a1), some (.int (nI 0)), some (.int (nI 2))]) (st' := []) (sg := [(.iconst 0, nI 0), (.istore_n 2, 0), (.iconst 2, nI 2), (.istore_n 3, 0)]) (by decide +kernel) rfl ?_
  refine k_I_endOthers_L4 hV _ ?_  zFu G a0 a1 (nI 0) (nI 2) h
  · intro G30 x29 h
    refine Y.blk (pc' := 55) (L' := [none, none, some (.int x29), none]) (st' := [.int x29]) (sg := [(.iload_n 2, 0)]) (by decide +kernel) rfl ?_
    exact Y.iret rfl (by decide +kernel) h

def f_X_endByLength_L11 (K44 : gH → gR) : Nat → gH → Nat → Int32 → Int32 → Int32 → gR
  | 0, _, _, _, _, _ => none
  | n + 1, G, x0, x1, x2, x3 =>
    if (nI 3) ≤ x3 then K44 G
    else if x3 = x2 then f_X_endByLength_L11 K44 n G x0 x1 x2 (x3 + (nI 1))
      else gOb G x0 3 fun o8 => bI (f_X_isOnRowOf G x0 x3 x1) fun v11 G10 => if v11 = 0 then f_X_endByLength_L11 K44 n G10 x0 x1 x2 (x3 + (nI 1))
        else gFA G10 x0 3 1 fun v12 => gOb G10 v12 0 fun o14 => bV (f_U_unsettle G10 v12 x3) fun G16 => f_X_endByLength_L11 K44 n G16 x0 x1 x2 (x3 + (nI 1))
def f_X_endByLength (G : gH) (a0 : Nat) (a1 : Int32) (a2 : Int32) : gR :=
  gFA G a0 3 0 fun v1 => gOb G v1 1 fun o3 => bI (f_I_endOthers G v1 a1) fun v6 G5 => f_X_endByLength_L11 (fun G20 => rV G20) zFu G5 a0 a1 a2 (nI 0)
theorem k_X_endByLength_L11 {l : Launch} {D : va_G} {B : Nat} {O : State → Heap → Prop} (hV : zG l D B O) {o : gO} {Gf : gH} (K44 : gH → gR) (hK44 : ∀ (G : gH), K44 G  = some (o, Gf) → Y (zVm l D B O) m_X_endByLength 5 o Gf 44 [none, none, none, none] [] G) : ∀ (n : Nat) (G : gH) (x0 : Nat) (x1 : Int32) (x2 : Int32) (x3 : Int32), f_X_endByLength_L11 K44 n G x0 x1 x2 x3 = some (o, Gf) → Y (zVm l D B O) m_X_endByLength 5 o Gf 11 [some (.ref x0), some (.int x1), some (.int x2), some (.int x3)] [] G := by
  intro n
  induction n with
  | zero => intro G x0 x1 x2 x3 h; cases h
  | succ n ih =>
    intro G x0 x1 x2 x3 h
    unfold f_X_endByLength_L11 at h
    refine Y.blk (pc' := 13) (L' := [some (.ref x0), some (.int x1), some (.int x2), some (.int x3)]) (st' := [.int (nI 3), .int x3]) (sg := [(.iload_n 3, 0), (.iconst 3, nI 3)]) (by decide +kernel) rfl ?_
    refine Y.ic_ge (off := 31) (tgt := 44) (by decide +kernel) (by decide) h (fun c19 h => ?_) (fun c19 h => ?_)
    · refine Y.less (L' := [none, none, none, none]) (zLe_none (zLe_none (zLe_none (zLe_none (zLe_nil))))) ?_
      exact hK44 G  h
    · refine Y.blk (pc' := 18) (L' := [some (.ref x0), some (.int x1), some (.int x2), some (.int x3)]) (st' := [.int x2, .int x3]) (sg := [(.iload_n 3, 0), (.iload_n 2, 0)]) (by decide +kernel) rfl ?_
      refine Y.ic_eq (off := 20) (tgt := 38) (by decide +kernel) (by decide) h (fun c18 h => ?_) (fun c18 h => ?_)
      · refine Y.blk (pc' := 41) (L' := [some (.ref x0), some (.int x1), some (.int x2), some (.int (x3 + (nI 1)))]) (st' := []) (sg := [(.iinc 3 1, nI 1)]) (by decide +kernel) rfl ?_
        refine Y.goto (off := -30) (tgt := 11) (by decide +kernel) (by decide) ?_
        exact ih G x0 x1 x2 (x3 + (nI 1)) h
      · refine Y.blk (pc' := 24) (L' := [some (.ref x0), some (.int x1), some (.int x2), some (.int x3)]) (st' := [.int x1, .int x3, .ref x0]) (sg := [(.aload_n 0, 0), (.iload_n 3, 0), (.iload_n 1, 0)]) (by decide +kernel) rfl ?_
        obtain ⟨_, o8, e7, m9, h⟩ := gOb_inv h
        refine Y.callI (yC.Vi (b := x0) (As := [.int x3, .int x1]) (st := []) (r := ("Partlister", T_X, 5)) hV.1 cb_X_isOnRowOf lk_X_293 in_X_isOnRowOf rfl se_X_isOnRowOf (by decide +kernel) rfl rfl (Nat.le_of_ble_eq_true rfl) (by decide) e7 m9) (k_X_isOnRowOf hV G x0 x3 x1) h (fun v11 G10 _ h => ?_)
        refine Y.if_eq (off := 11) (tgt := 38) (by decide +kernel) (by decide) h (fun c17 h => ?_) (fun c17 h => ?_)
        · refine Y.blk (pc' := 41) (L' := [some (.ref x0), some (.int x1), some (.int x2), some (.int (x3 + (nI 1)))]) (st' := []) (sg := [(.iinc 3 1, nI 1)]) (by decide +kernel) rfl ?_
          refine Y.goto (off := -30) (tgt := 11) (by decide +kernel) (by decide) ?_
          exact ih G10 x0 x1 x2 (x3 + (nI 1)) h
        · refine Y.blk (pc' := 31) (L' := [some (.ref x0), some (.int x1), some (.int x2), some (.int x3)]) (st' := [.ref x0]) (sg := [(.aload_n 0, 0)]) (by decide +kernel) rfl ?_
          refine Y.getA fl_X_19 (by decide +kernel) h (fun v12 h => ?_)
          refine Y.blk (pc' := 35) (L' := [some (.ref x0), some (.int x1), some (.int x2), some (.int x3)]) (st' := [.int x3, .ref v12]) (sg := [(.iload_n 3, 0)]) (by decide +kernel) rfl ?_
          obtain ⟨_, o14, e13, m15, h⟩ := gOb_inv h
          refine Y.callN (yC.Vi (b := v12) (As := [.int x3]) (st := []) (r := ("Partlister$Cursors", T_U, 5)) hV.1 cb_U_unsettle lk_X_296 in_U_unsettle rfl se_U_unsettle (by decide +kernel) rfl rfl (Nat.le_of_ble_eq_true rfl) (by decide) e13 m15) (k_U_unsettle hV G10 v12 x3) h (fun G16 _ h => ?_)
          refine Y.blk (pc' := 41) (L' := [some (.ref x0), some (.int x1), some (.int x2), some (.int (x3 + (nI 1)))]) (st' := []) (sg := [(.iinc 3 1, nI 1)]) (by decide +kernel) rfl ?_
          refine Y.goto (off := -30) (tgt := 11) (by decide +kernel) (by decide) ?_
          exact ih G16 x0 x1 x2 (x3 + (nI 1)) h
theorem k_X_endByLength {l : Launch} {D : va_G} {B : Nat} {O : State → Heap → Prop} (hV : zG l D B O) (G : gH) (a0 : Nat) (a1 : Int32) (a2 : Int32) : gMet (zVm l D B O) m_X_endByLength 5 [.ref a0, .int a1, .int a2] G (f_X_endByLength G a0 a1 a2) := by
  refine gMet.of (by decide +kernel) (Nat.le_of_ble_eq_true rfl) [some (.ref a0), some (.int a1), some (.int a2), none] (fun ls h => zEn_ok (n := 4) h) ?_
  intro o Gf h
  unfold f_X_endByLength at h
  refine Y.blk (pc' := 1) (L' := [some (.ref a0), some (.int a1), some (.int a2), none]) (st' := [.ref a0]) (sg := [(.aload_n 0, 0)]) (by decide +kernel) rfl ?_
  refine Y.getA fl_X_10 (by decide +kernel) h (fun v1 h => ?_)
  refine Y.blk (pc' := 5) (L' := [some (.ref a0), some (.int a1), some (.int a2), none]) (st' := [.int a1, .ref v1]) (sg := [(.iload_n 1, 0)]) (by decide +kernel) rfl ?_
  obtain ⟨_, o3, e2, m4, h⟩ := gOb_inv h
  refine Y.callI (yC.Vi (b := v1) (As := [.int a1]) (st := []) (r := ("Partlister$Lists", T_I, 7)) hV.1 cb_I_endOthers lk_X_290 in_I_endOthers rfl se_I_endOthers (by decide +kernel) rfl rfl (Nat.le_of_ble_eq_true rfl) (by decide) e2 m4) (k_I_endOthers hV G v1 a1) h (fun v6 G5 _ h => ?_)
  refine Y.blk (pc' := 11) (L' := [some (.ref a0), some (.int a1), some (.int a2), some (.int (nI 0))]) (st' := []) (sg := [(.pop, 0), (.iconst 0, nI 0), (.istore_n 3, 0)]) (by decide +kernel) rfl ?_
  refine k_X_endByLength_L11 hV _ ?_  zFu G5 a0 a1 a2 (nI 0) h
  · intro G20 h
    exact Y.vret rfl (by decide +kernel) h

def f_I_lengthOf (G : gH) (a0 : Nat) (a1 : Int32) : gR :=
  gFA G a0 1 1 fun v1 => gOb G v1 2 fun o3 => bI (f_N_read G v1 a1) fun v6 G5 => rI v6 G5
theorem k_I_lengthOf {l : Launch} {D : va_G} {B : Nat} {O : State → Heap → Prop} (hV : zG l D B O) (G : gH) (a0 : Nat) (a1 : Int32) : gMet (zVm l D B O) m_I_lengthOf 2 [.ref a0, .int a1] G (f_I_lengthOf G a0 a1) := by
  refine gMet.of (by decide +kernel) (Nat.le_of_ble_eq_true rfl) [some (.ref a0), some (.int a1)] (fun ls h => zEn_ok (n := 2) h) ?_
  intro o Gf h
  unfold f_I_lengthOf at h
  refine Y.blk (pc' := 1) (L' := [some (.ref a0), some (.int a1)]) (st' := [.ref a0]) (sg := [(.aload_n 0, 0)]) (by decide +kernel) rfl ?_
  refine Y.getA fl_I_20 (by decide +kernel) h (fun v1 h => ?_)
  refine Y.blk (pc' := 5) (L' := [some (.ref a0), some (.int a1)]) (st' := [.int a1, .ref v1]) (sg := [(.iload_n 1, 0)]) (by decide +kernel) rfl ?_
  obtain ⟨_, o3, e2, m4, h⟩ := gOb_inv h
  refine Y.callI (yC.Vi (b := v1) (As := [.int a1]) (st := []) (r := ("Partlister$Numbers", T_N, 1)) hV.1 cb_N_read lk_I_39 in_N_read rfl se_N_read (by decide +kernel) rfl rfl (Nat.le_of_ble_eq_true rfl) (by decide) e2 m4) (k_N_read hV G v1 a1) h (fun v6 G5 _ h => ?_)
  exact Y.iret rfl (by decide +kernel) h

def f_I_lengthen_L5 (K50 : gH → gR) : Nat → gH → Nat → Int32 → Int32 → Int32 → gR
  | 0, _, _, _, _, _ => none
  | n + 1, G, x0, x2, x3, x4 =>
    if (nI 6) ≤ x4 then K50 G
    else if x3 = (-1) then K50 G
      else gFA G x0 1 1 fun v1 => gFA G x0 1 1 fun v2 => gOb G v2 2 fun o4 => bI (f_N_read G v2 x3) fun v7 G6 => gOb G6 v1 2 fun o9 => bV (f_N_write G6 v1 x3 (v7 + x2)) fun G11 => gFA G11 x0 1 2 fun v12 => gOb G11 v12 2 fun o14 => bI (f_N_read G11 v12 x3) fun v17 G16 => f_I_lengthen_L5 K50 n G16 x0 x2 v17 (x4 + (nI 1))
def f_I_lengthen (G : gH) (a0 : Nat) (a1 : Int32) (a2 : Int32) : gR :=
  f_I_lengthen_L5 (fun G20 => rV G20) zFu G a0 a2 a1 (nI 0)
theorem k_I_lengthen_L5 {l : Launch} {D : va_G} {B : Nat} {O : State → Heap → Prop} (hV : zG l D B O) {o : gO} {Gf : gH} (K50 : gH → gR) (hK50 : ∀ (G : gH), K50 G  = some (o, Gf) → Y (zVm l D B O) m_I_lengthen 2 o Gf 50 [none, none, none, none, none] [] G) : ∀ (n : Nat) (G : gH) (x0 : Nat) (x2 : Int32) (x3 : Int32) (x4 : Int32), f_I_lengthen_L5 K50 n G x0 x2 x3 x4 = some (o, Gf) → Y (zVm l D B O) m_I_lengthen 2 o Gf 5 [some (.ref x0), none, some (.int x2), some (.int x3), some (.int x4)] [] G := by
  intro n
  induction n with
  | zero => intro G x0 x2 x3 x4 h; cases h
  | succ n ih =>
    intro G x0 x2 x3 x4 h
    unfold f_I_lengthen_L5 at h
    refine Y.blk (pc' := 9) (L' := [some (.ref x0), none, some (.int x2), some (.int x3), some (.int x4)]) (st' := [.int (nI 6), .int x4]) (sg := [(.iload 4, 0), (.bipush 6, nI 6)]) (by decide +kernel) rfl ?_
    refine Y.ic_ge (off := 41) (tgt := 50) (by decide +kernel) (by decide) h (fun c19 h => ?_) (fun c19 h => ?_)
    · refine Y.less (L' := [none, none, none, none, none]) (zLe_none (zLe_some (zLe_none (zLe_none (zLe_none (zLe_nil)))))) ?_
      exact hK50 G  h
    · refine Y.blk (pc' := 14) (L' := [some (.ref x0), none, some (.int x2), some (.int x3), some (.int x4)]) (st' := [.int (-1), .int x3]) (sg := [(.iload_n 3, 0), (.iconst (-1), -1)]) (by decide +kernel) rfl ?_
      refine Y.ic_eq (off := 36) (tgt := 50) (by decide +kernel) (by decide) h (fun c18 h => ?_) (fun c18 h => ?_)
      · refine Y.less (L' := [none, none, none, none, none]) (zLe_none (zLe_some (zLe_none (zLe_none (zLe_none (zLe_nil)))))) ?_
        exact hK50 G  h
      · refine Y.blk (pc' := 18) (L' := [some (.ref x0), none, some (.int x2), some (.int x3), some (.int x4)]) (st' := [.ref x0]) (sg := [(.aload_n 0, 0)]) (by decide +kernel) rfl ?_
        refine Y.getA fl_I_20 (by decide +kernel) h (fun v1 h => ?_)
        refine Y.blk (pc' := 23) (L' := [some (.ref x0), none, some (.int x2), some (.int x3), some (.int x4)]) (st' := [.ref x0, .int x3, .ref v1]) (sg := [(.iload_n 3, 0), (.aload_n 0, 0)]) (by decide +kernel) rfl ?_
        refine Y.getA fl_I_20 (by decide +kernel) h (fun v2 h => ?_)
        refine Y.blk (pc' := 27) (L' := [some (.ref x0), none, some (.int x2), some (.int x3), some (.int x4)]) (st' := [.int x3, .ref v2, .int x3, .ref v1]) (sg := [(.iload_n 3, 0)]) (by decide +kernel) rfl ?_
        obtain ⟨_, o4, e3, m5, h⟩ := gOb_inv h
        refine Y.callI (yC.Vi (b := v2) (As := [.int x3]) (st := [.int x3, .ref v1]) (r := ("Partlister$Numbers", T_N, 1)) hV.1 cb_N_read lk_I_39 in_N_read rfl se_N_read (by decide +kernel) rfl rfl (Nat.le_of_ble_eq_true rfl) (by decide) e3 m5) (k_N_read hV G v2 x3) h (fun v7 G6 _ h => ?_)
        refine Y.blk (pc' := 32) (L' := [some (.ref x0), none, some (.int x2), some (.int x3), some (.int x4)]) (st' := [.int (v7 + x2), .int x3, .ref v1]) (sg := [(.iload_n 2, 0), (.iadd, 0)]) (by decide +kernel) rfl ?_
        obtain ⟨_, o9, e8, m10, h⟩ := gOb_inv h
        refine Y.callN (yC.Vi (b := v1) (As := [.int x3, .int (v7 + x2)]) (st := []) (r := ("Partlister$Numbers", T_N, 1)) hV.1 cb_N_write lk_I_35 in_N_write rfl se_N_write (by decide +kernel) rfl rfl (Nat.le_of_ble_eq_true rfl) (by decide) e8 m10) (k_N_write hV G6 v1 x3 (v7 + x2)) h (fun G11 _ h => ?_)
        refine Y.blk (pc' := 36) (L' := [some (.ref x0), none, some (.int x2), some (.int x3), some (.int x4)]) (st' := [.ref x0]) (sg := [(.aload_n 0, 0)]) (by decide +kernel) rfl ?_
        refine Y.getA fl_I_23 (by decide +kernel) h (fun v12 h => ?_)
        refine Y.blk (pc' := 40) (L' := [some (.ref x0), none, some (.int x2), some (.int x3), some (.int x4)]) (st' := [.int x3, .ref v12]) (sg := [(.iload_n 3, 0)]) (by decide +kernel) rfl ?_
        obtain ⟨_, o14, e13, m15, h⟩ := gOb_inv h
        refine Y.callI (yC.Vi (b := v12) (As := [.int x3]) (st := []) (r := ("Partlister$Numbers", T_N, 1)) hV.1 cb_N_read lk_I_39 in_N_read rfl se_N_read (by decide +kernel) rfl rfl (Nat.le_of_ble_eq_true rfl) (by decide) e13 m15) (k_N_read hV G11 v12 x3) h (fun v17 G16 _ h => ?_)
        refine Y.blk (pc' := 47) (L' := [some (.ref x0), none, some (.int x2), some (.int v17), some (.int (x4 + (nI 1)))]) (st' := []) (sg := [(.istore_n 3, 0), (.iinc 4 1, nI 1)]) (by decide +kernel) rfl ?_
        refine Y.goto (off := -42) (tgt := 5) (by decide +kernel) (by decide) ?_
        exact ih G16 x0 x2 v17 (x4 + (nI 1)) h
theorem k_I_lengthen {l : Launch} {D : va_G} {B : Nat} {O : State → Heap → Prop} (hV : zG l D B O) (G : gH) (a0 : Nat) (a1 : Int32) (a2 : Int32) : gMet (zVm l D B O) m_I_lengthen 2 [.ref a0, .int a1, .int a2] G (f_I_lengthen G a0 a1 a2) := by
  refine gMet.of (by decide +kernel) (Nat.le_of_ble_eq_true rfl) [some (.ref a0), some (.int a1), some (.int a2), none, none] (fun ls h => zEn_ok (n := 5) h) ?_
  intro o Gf h
  unfold f_I_lengthen at h
  refine Y.blk (pc' := 5) (L' := [some (.ref a0), some (.int a1), some (.int a2), some (.int a1), some (.int (nI 0))]) (st' := []) (sg := [(.iload_n 1, 0), (.istore_n 3, 0), (.iconst 0, nI 0), (.istore 4, 0)]) (by decide +kernel) rfl ?_
  refine Y.less (L' := [some (.ref a0), none, some (.int a2), some (.int a1), some (.int (nI 0))]) (zLe_some (zLe_none (zLe_some (zLe_some (zLe_some (zLe_nil)))))) ?_
  refine k_I_lengthen_L5 hV _ ?_  zFu G a0 a2 a1 (nI 0) h
  · intro G20 h
    exact Y.vret rfl (by decide +kernel) h
end
section
def f_I_cellOf (G : gH) (a0 : Nat) (a1 : Int32) (a2 : Int32) : gR :=
  gFA G a0 1 3 fun v1 => gOb G v1 2 fun o3 => bI (f_N_read G v1 a1) fun v6 G5 => gFA G5 a0 1 4 fun v7 => gOb G5 v7 2 fun o9 => bI (f_N_read G5 v7 a1) fun v12 G11 => rI (((v6 * (nI 31)) + v12) + a2) G11
theorem k_I_cellOf {l : Launch} {D : va_G} {B : Nat} {O : State → Heap → Prop} (hV : zG l D B O) (G : gH) (a0 : Nat) (a1 : Int32) (a2 : Int32) : gMet (zVm l D B O) m_I_cellOf 2 [.ref a0, .int a1, .int a2] G (f_I_cellOf G a0 a1 a2) := by
  refine gMet.of (by decide +kernel) (Nat.le_of_ble_eq_true rfl) [some (.ref a0), some (.int a1), some (.int a2)] (fun ls h => zEn_ok (n := 3) h) ?_
  intro o Gf h
  unfold f_I_cellOf at h
  refine Y.blk (pc' := 1) (L' := [some (.ref a0), some (.int a1), some (.int a2)]) (st' := [.ref a0]) (sg := [(.aload_n 0, 0)]) (by decide +kernel) rfl ?_
  refine Y.getA fl_I_26 (by decide +kernel) h (fun v1 h => ?_)
  refine Y.blk (pc' := 5) (L' := [some (.ref a0), some (.int a1), some (.int a2)]) (st' := [.int a1, .ref v1]) (sg := [(.iload_n 1, 0)]) (by decide +kernel) rfl ?_
  obtain ⟨_, o3, e2, m4, h⟩ := gOb_inv h
  refine Y.callI (yC.Vi (b := v1) (As := [.int a1]) (st := []) (r := ("Partlister$Numbers", T_N, 1)) hV.1 cb_N_read lk_I_39 in_N_read rfl se_N_read (by decide +kernel) rfl rfl (Nat.le_of_ble_eq_true rfl) (by decide) e2 m4) (k_N_read hV G v1 a1) h (fun v6 G5 _ h => ?_)
  refine Y.blk (pc' := 12) (L' := [some (.ref a0), some (.int a1), some (.int a2)]) (st' := [.ref a0, .int (v6 * (nI 31))]) (sg := [(.bipush 31, nI 31), (.imul, 0), (.aload_n 0, 0)]) (by decide +kernel) rfl ?_
  refine Y.getA fl_I_29 (by decide +kernel) h (fun v7 h => ?_)
  refine Y.blk (pc' := 16) (L' := [some (.ref a0), some (.int a1), some (.int a2)]) (st' := [.int a1, .ref v7, .int (v6 * (nI 31))]) (sg := [(.iload_n 1, 0)]) (by decide +kernel) rfl ?_
  obtain ⟨_, o9, e8, m10, h⟩ := gOb_inv h
  refine Y.callI (yC.Vi (b := v7) (As := [.int a1]) (st := [.int (v6 * (nI 31))]) (r := ("Partlister$Numbers", T_N, 1)) hV.1 cb_N_read lk_I_39 in_N_read rfl se_N_read (by decide +kernel) rfl rfl (Nat.le_of_ble_eq_true rfl) (by decide) e8 m10) (k_N_read hV G5 v7 a1) h (fun v12 G11 _ h => ?_)
  refine Y.blk (pc' := 22) (L' := [some (.ref a0), some (.int a1), some (.int a2)]) (st' := [.int (((v6 * (nI 31)) + v12) + a2)]) (sg := [(.iadd, 0), (.iload_n 2, 0), (.iadd, 0)]) (by decide +kernel) rfl ?_
  exact Y.iret rfl (by decide +kernel) h

def f_I_thingAt (G : gH) (a0 : Nat) (a1 : Int32) (a2 : Int32) : gR :=
  gFA G a0 1 0 fun v1 => gOb G a0 1 fun o3 => bI (f_I_cellOf G a0 a1 a2) fun v6 G5 => gOb G5 v1 2 fun o8 => bI (f_N_read G5 v1 v6) fun v11 G10 => rI v11 G10
theorem k_I_thingAt {l : Launch} {D : va_G} {B : Nat} {O : State → Heap → Prop} (hV : zG l D B O) (G : gH) (a0 : Nat) (a1 : Int32) (a2 : Int32) : gMet (zVm l D B O) m_I_thingAt 3 [.ref a0, .int a1, .int a2] G (f_I_thingAt G a0 a1 a2) := by
  refine gMet.of (by decide +kernel) (Nat.le_of_ble_eq_true rfl) [some (.ref a0), some (.int a1), some (.int a2)] (fun ls h => zEn_ok (n := 3) h) ?_
  intro o Gf h
  unfold f_I_thingAt at h
  refine Y.blk (pc' := 1) (L' := [some (.ref a0), some (.int a1), some (.int a2)]) (st' := [.ref a0]) (sg := [(.aload_n 0, 0)]) (by decide +kernel) rfl ?_
  refine Y.getA fl_I_14 (by decide +kernel) h (fun v1 h => ?_)
  refine Y.blk (pc' := 7) (L' := [some (.ref a0), some (.int a1), some (.int a2)]) (st' := [.int a2, .int a1, .ref a0, .ref v1]) (sg := [(.aload_n 0, 0), (.iload_n 1, 0), (.iload_n 2, 0)]) (by decide +kernel) rfl ?_
  obtain ⟨_, o3, e2, m4, h⟩ := gOb_inv h
  refine Y.callI (yC.Vi (b := a0) (As := [.int a1, .int a2]) (st := [.ref v1]) (r := ("Partlister$Lists", T_I, 7)) hV.1 cb_I_cellOf lk_I_43 in_I_cellOf rfl se_I_cellOf (by decide +kernel) rfl rfl (Nat.le_of_ble_eq_true rfl) (by decide) e2 m4) (k_I_cellOf hV G a0 a1 a2) h (fun v6 G5 _ h => ?_)
  obtain ⟨_, o8, e7, m9, h⟩ := gOb_inv h
  refine Y.callI (yC.Vi (b := v1) (As := [.int v6]) (st := []) (r := ("Partlister$Numbers", T_N, 1)) hV.1 cb_N_read lk_I_39 in_N_read rfl se_N_read (by decide +kernel) rfl rfl (Nat.le_of_ble_eq_true rfl) (by decide) e7 m9) (k_N_read hV G5 v1 v6) h (fun v11 G10 _ h => ?_)
  exact Y.iret rfl (by decide +kernel) h

def f_I_write (G : gH) (a0 : Nat) (a1 : Int32) (a2 : Int32) (a3 : Int32) : gR :=
  gFA G a0 1 0 fun v1 => gOb G a0 1 fun o3 => bI (f_I_cellOf G a0 a1 a2) fun v6 G5 => gOb G5 v1 2 fun o8 => bV (f_N_write G5 v1 v6 a3) fun G10 => rV G10
theorem k_I_write {l : Launch} {D : va_G} {B : Nat} {O : State → Heap → Prop} (hV : zG l D B O) (G : gH) (a0 : Nat) (a1 : Int32) (a2 : Int32) (a3 : Int32) : gMet (zVm l D B O) m_I_write 3 [.ref a0, .int a1, .int a2, .int a3] G (f_I_write G a0 a1 a2 a3) := by
  refine gMet.of (by decide +kernel) (Nat.le_of_ble_eq_true rfl) [some (.ref a0), some (.int a1), some (.int a2), some (.int a3)] (fun ls h => zEn_ok (n := 4) h) ?_
  intro o Gf h
  unfold f_I_write at h
  refine Y.blk (pc' := 1) (L' := [some (.ref a0), some (.int a1), some (.int a2), some (.int a3)]) (st' := [.ref a0]) (sg := [(.aload_n 0, 0)]) (by decide +kernel) rfl ?_
  refine Y.getA fl_I_14 (by decide +kernel) h (fun v1 h => ?_)
  refine Y.blk (pc' := 7) (L' := [some (.ref a0), some (.int a1), some (.int a2), some (.int a3)]) (st' := [.int a2, .int a1, .ref a0, .ref v1]) (sg := [(.aload_n 0, 0), (.iload_n 1, 0), (.iload_n 2, 0)]) (by decide +kernel) rfl ?_
  obtain ⟨_, o3, e2, m4, h⟩ := gOb_inv h
  refine Y.callI (yC.Vi (b := a0) (As := [.int a1, .int a2]) (st := [.ref v1]) (r := ("Partlister$Lists", T_I, 7)) hV.1 cb_I_cellOf lk_I_43 in_I_cellOf rfl se_I_cellOf (by decide +kernel) rfl rfl (Nat.le_of_ble_eq_true rfl) (by decide) e2 m4) (k_I_cellOf hV G a0 a1 a2) h (fun v6 G5 _ h => ?_)
  refine Y.blk (pc' := 11) (L' := [some (.ref a0), some (.int a1), some (.int a2), some (.int a3)]) (st' := [.int a3, .int v6, .ref v1]) (sg := [(.iload_n 3, 0)]) (by decide +kernel) rfl ?_
  obtain ⟨_, o8, e7, m9, h⟩ := gOb_inv h
  refine Y.callN (yC.Vi (b := v1) (As := [.int v6, .int a3]) (st := []) (r := ("Partlister$Numbers", T_N, 1)) hV.1 cb_N_write lk_I_35 in_N_write rfl se_N_write (by decide +kernel) rfl rfl (Nat.le_of_ble_eq_true rfl) (by decide) e7 m9) (k_N_write hV G5 v1 v6 a3) h (fun G10 _ h => ?_)
  exact Y.vret rfl (by decide +kernel) h

def f_I_openGap_L29 (K60 : gH → Nat → Int32 → Int32 → gR) : Nat → gH → Nat → Int32 → Int32 → Int32 → Int32 → Int32 → gR
  | 0, _, _, _, _, _, _, _ => none
  | n + 1, G, x0, x1, x3, x4, x5, x6 =>
    if x6 < x5 then K60 G x0 x1 x3
    else gOb G x0 1 fun o18 => bI (f_I_thingAt G x0 x4 x6) fun v21 G20 => gOb G20 x0 1 fun o23 => bV (f_I_write G20 x0 x4 (x6 + x3) v21) fun G25 => f_I_openGap_L29 K60 n G25 x0 x1 x3 x4 x5 (x6 + (-1))
def f_I_openGap (G : gH) (a0 : Nat) (a1 : Int32) (a2 : Int32) (a3 : Int32) : gR :=
  gOb G a0 1 fun o2 => bI (f_I_rowOf G a0 a1) fun v5 G4 => gFA G4 a0 1 4 fun v6 => gOb G4 v6 2 fun o8 => bI (f_N_read G4 v6 a1) fun v11 G10 => gOb G10 a0 1 fun o13 => bI (f_I_lengthOf G10 a0 v5) fun v16 G15 => f_I_openGap_L29 (fun G30 x27 x28 x29 => gOb G30 x27 1 fun o32 => bV (f_I_lengthen G30 x27 x28 x29) fun G34 => rV G34) zFu G15 a0 a1 a3 v5 (v11 + a2) (v16 - (nI 1))
theorem k_I_openGap_L29 {l : Launch} {D : va_G} {B : Nat} {O : State → Heap → Prop} (hV : zG l D B O) {o : gO} {Gf : gH} (K60 : gH → Nat → Int32 → Int32 → gR) (hK60 : ∀ (G : gH) (x0 : Nat) (x1 : Int32) (x3 : Int32), K60 G x0 x1 x3 = some (o, Gf) → Y (zVm l D B O) m_I_openGap 4 o Gf 60 [some (.ref x0), some (.int x1), none, some (.int x3), none, none, none] [] G) : ∀ (n : Nat) (G : gH) (x0 : Nat) (x1 : Int32) (x3 : Int32) (x4 : Int32) (x5 : Int32) (x6 : Int32), f_I_openGap_L29 K60 n G x0 x1 x3 x4 x5 x6 = some (o, Gf) → Y (zVm l D B O) m_I_openGap 4 o Gf 29 [some (.ref x0), some (.int x1), none, some (.int x3), some (.int x4), some (.int x5), some (.int x6)] [] G := by
  intro n
  induction n with
  | zero => intro G x0 x1 x3 x4 x5 x6 h; cases h
  | succ n ih =>
    intro G x0 x1 x3 x4 x5 x6 h
    unfold f_I_openGap_L29 at h
    refine Y.blk (pc' := 33) (L' := [some (.ref x0), some (.int x1), none, some (.int x3), some (.int x4), some (.int x5), some (.int x6)]) (st' := [.int x5, .int x6]) (sg := [(.iload 6, 0), (.iload 5, 0)]) (by decide +kernel) rfl ?_
    refine Y.ic_lt (off := 27) (tgt := 60) (by decide +kernel) (by decide) h (fun c26 h => ?_) (fun c26 h => ?_)
    · refine Y.less (L' := [some (.ref x0), some (.int x1), none, some (.int x3), none, none, none]) (zLe_some (zLe_some (zLe_some (zLe_some (zLe_none (zLe_none (zLe_none (zLe_nil)))))))) ?_
      exact hK60 G x0 x1 x3 h
    · refine Y.blk (pc' := 48) (L' := [some (.ref x0), some (.int x1), none, some (.int x3), some (.int x4), some (.int x5), some (.int x6)]) (st' := [.int x6, .int x4, .ref x0, .int (x6 + x3), .int x4, .ref x0]) (sg := [(.aload_n 0, 0), (.iload 4, 0), (.iload 6, 0), (.iload_n 3, 0), (.iadd, 0), (.aload_n 0, 0), (.iload 4, 0), (.iload 6, 0)]) (by decide +kernel) rfl ?_
      obtain ⟨_, o18, e17, m19, h⟩ := gOb_inv h
      refine Y.callI (yC.Vi (b := x0) (As := [.int x4, .int x6]) (st := [.int (x6 + x3), .int x4, .ref x0]) (r := ("Partlister$Lists", T_I, 7)) hV.1 cb_I_thingAt lk_I_50 in_I_thingAt rfl se_I_thingAt (by decide +kernel) rfl rfl (Nat.le_of_ble_eq_true rfl) (by decide) e17 m19) (k_I_thingAt hV G x0 x4 x6) h (fun v21 G20 _ h => ?_)
      obtain ⟨_, o23, e22, m24, h⟩ := gOb_inv h
      refine Y.callN (yC.Vi (b := x0) (As := [.int x4, .int (x6 + x3), .int v21]) (st := []) (r := ("Partlister$Lists", T_I, 7)) hV.1 cb_I_write lk_I_53 in_I_write rfl se_I_write (by decide +kernel) rfl rfl (Nat.le_of_ble_eq_true rfl) (by decide) e22 m24) (k_I_write hV G20 x0 x4 (x6 + x3) v21) h (fun G25 _ h => ?_)
      refine Y.blk (pc' := 57) (L' := [some (.ref x0), some (.int x1), none, some (.int x3), some (.int x4), some (.int x5), some (.int (x6 + (-1)))]) (st' := []) (sg := [(.iinc 6 (-1), -1)]) (by decide +kernel) rfl ?_
      refine Y.goto (off := -28) (tgt := 29) (by decide +kernel) (by decide) ?_
      exact ih G25 x0 x1 x3 x4 x5 (x6 + (-1)) h
theorem k_I_openGap {l : Launch} {D : va_G} {B : Nat} {O : State → Heap → Prop} (hV : zG l D B O) (G : gH) (a0 : Nat) (a1 : Int32) (a2 : Int32) (a3 : Int32) : gMet (zVm l D B O) m_I_openGap 4 [.ref a0, .int a1, .int a2, .int a3] G (f_I_openGap G a0 a1 a2 a3) := by
  refine gMet.of (by decide +kernel) (Nat.le_of_ble_eq_true rfl) [some (.ref a0), some (.int a1), some (.int a2), some (.int a3), none, none, none] (fun ls h => zEn_ok (n := 7) h) ?_
  intro o Gf h
  unfold f_I_openGap at h
  refine Y.blk (pc' := 2) (L' := [some (.ref a0), some (.int a1), some (.int a2), some (.int a3), none, none, none]) (st' := [.int a1, .ref a0]) (sg := [(.aload_n 0, 0), (.iload_n 1, 0)]) (by decide +kernel) rfl ?_
  obtain ⟨_, o2, e1, m3, h⟩ := gOb_inv h
  refine Y.callI (yC.Vi (b := a0) (As := [.int a1]) (st := []) (r := ("Partlister$Lists", T_I, 7)) hV.1 cb_I_rowOf lk_I_56 in_I_rowOf rfl se_I_rowOf (by decide +kernel) rfl rfl (Nat.le_of_ble_eq_true rfl) (by decide) e1 m3) (k_I_rowOf hV G a0 a1) h (fun v5 G4 _ h => ?_)
  refine Y.blk (pc' := 8) (L' := [some (.ref a0), some (.int a1), some (.int a2), some (.int a3), some (.int v5), none, none]) (st' := [.ref a0]) (sg := [(.istore 4, 0), (.aload_n 0, 0)]) (by decide +kernel) rfl ?_
  refine Y.getA fl_I_29 (by decide +kernel) h (fun v6 h => ?_)
  refine Y.blk (pc' := 12) (L' := [some (.ref a0), some (.int a1), some (.int a2), some (.int a3), some (.int v5), none, none]) (st' := [.int a1, .ref v6]) (sg := [(.iload_n 1, 0)]) (by decide +kernel) rfl ?_
  obtain ⟨_, o8, e7, m9, h⟩ := gOb_inv h
  refine Y.callI (yC.Vi (b := v6) (As := [.int a1]) (st := []) (r := ("Partlister$Numbers", T_N, 1)) hV.1 cb_N_read lk_I_39 in_N_read rfl se_N_read (by decide +kernel) rfl rfl (Nat.le_of_ble_eq_true rfl) (by decide) e7 m9) (k_N_read hV G4 v6 a1) h (fun v11 G10 _ h => ?_)
  refine Y.blk (pc' := 22) (L' := [some (.ref a0), some (.int a1), some (.int a2), some (.int a3), some (.int v5), some (.int (v11 + a2)), none]) (st' := [.int v5, .ref a0]) (sg := [(.iload_n 2, 0), (.iadd, 0), (.istore 5, 0), (.aload_n 0, 0), (.iload 4, 0)]) (by decide +kernel) rfl ?_
  obtain ⟨_, o13, e12, m14, h⟩ := gOb_inv h
  refine Y.callI (yC.Vi (b := a0) (As := [.int v5]) (st := []) (r := ("Partlister$Lists", T_I, 7)) hV.1 cb_I_lengthOf lk_I_59 in_I_lengthOf rfl se_I_lengthOf (by decide +kernel) rfl rfl (Nat.le_of_ble_eq_true rfl) (by decide) e12 m14) (k_I_lengthOf hV G10 a0 v5) h (fun v16 G15 _ h => ?_)
  refine Y.blk (pc' := 29) (L' := [some (.ref a0), some (.int a1), some (.int a2), some (.int a3), some (.int v5), some (.int (v11 + a2)), some (.int (v16 - (nI 1)))]) (st' := []) (sg := [(.iconst 1, nI 1), (.isub, 0), (.istore 6, 0)]) (by decide +kernel) rfl ?_
  refine Y.less (L' := [some (.ref a0), some (.int a1), none, some (.int a3), some (.int v5), some (.int (v11 + a2)), some (.int (v16 - (nI 1)))]) (zLe_some (zLe_some (zLe_none (zLe_some (zLe_some (zLe_some (zLe_some (zLe_nil)))))))) ?_
  refine k_I_openGap_L29 hV _ ?_  zFu G15 a0 a1 a3 v5 (v11 + a2) (v16 - (nI 1)) h
  · intro G30 x27 x28 x29 h
    refine Y.blk (pc' := 63) (L' := [some (.ref x27), some (.int x28), none, some (.int x29), none, none, none]) (st' := [.int x29, .int x28, .ref x27]) (sg := [(.aload_n 0, 0), (.iload_n 1, 0), (.iload_n 3, 0)]) (by decide +kernel) rfl ?_
    obtain ⟨_, o32, e31, m33, h⟩ := gOb_inv h
    refine Y.callN (yC.Vi (b := x27) (As := [.int x28, .int x29]) (st := []) (r := ("Partlister$Lists", T_I, 7)) hV.1 cb_I_lengthen lk_I_62 in_I_lengthen rfl se_I_lengthen (by decide +kernel) rfl rfl (Nat.le_of_ble_eq_true rfl) (by decide) e31 m33) (k_I_lengthen hV G30 x27 x28 x29) h (fun G34 _ h => ?_)
    exact Y.vret rfl (by decide +kernel) h

def f_X_bringIn (G : gH) (a0 : Nat) (a1 : Int32) (a2 : Int32) (a3 : Int32) (a4 : Int32) : gR :=
  gFA G a0 3 0 fun v1 => gOb G v1 1 fun o3 => bV (f_I_openGap G v1 a1 a2 (nI 1)) fun G5 => gFA G5 a0 3 0 fun v6 => gOb G5 v6 1 fun o8 => bV (f_I_write G5 v6 a1 a2 a3) fun G10 => gOb G10 a0 3 fun o12 => bV (f_X_endByLength G10 a0 a1 a4) fun G14 => rV G14
theorem k_X_bringIn {l : Launch} {D : va_G} {B : Nat} {O : State → Heap → Prop} (hV : zG l D B O) (G : gH) (a0 : Nat) (a1 : Int32) (a2 : Int32) (a3 : Int32) (a4 : Int32) : gMet (zVm l D B O) m_X_bringIn 6 [.ref a0, .int a1, .int a2, .int a3, .int a4] G (f_X_bringIn G a0 a1 a2 a3 a4) := by
  refine gMet.of (by decide +kernel) (Nat.le_of_ble_eq_true rfl) [some (.ref a0), some (.int a1), some (.int a2), some (.int a3), some (.int a4)] (fun ls h => zEn_ok (n := 5) h) ?_
  intro o Gf h
  unfold f_X_bringIn at h
  refine Y.blk (pc' := 1) (L' := [some (.ref a0), some (.int a1), some (.int a2), some (.int a3), some (.int a4)]) (st' := [.ref a0]) (sg := [(.aload_n 0, 0)]) (by decide +kernel) rfl ?_
  refine Y.getA fl_X_10 (by decide +kernel) h (fun v1 h => ?_)
  refine Y.blk (pc' := 7) (L' := [some (.ref a0), some (.int a1), some (.int a2), some (.int a3), some (.int a4)]) (st' := [.int (nI 1), .int a2, .int a1, .ref v1]) (sg := [(.iload_n 1, 0), (.iload_n 2, 0), (.iconst 1, nI 1)]) (by decide +kernel) rfl ?_
  obtain ⟨_, o3, e2, m4, h⟩ := gOb_inv h
  refine Y.callN (yC.Vi (b := v1) (As := [.int a1, .int a2, .int (nI 1)]) (st := []) (r := ("Partlister$Lists", T_I, 7)) hV.1 cb_I_openGap lk_X_278 in_I_openGap rfl se_I_openGap (by decide +kernel) rfl rfl (Nat.le_of_ble_eq_true rfl) (by decide) e2 m4) (k_I_openGap hV G v1 a1 a2 (nI 1)) h (fun G5 _ h => ?_)
  refine Y.blk (pc' := 11) (L' := [some (.ref a0), some (.int a1), some (.int a2), some (.int a3), some (.int a4)]) (st' := [.ref a0]) (sg := [(.aload_n 0, 0)]) (by decide +kernel) rfl ?_
  refine Y.getA fl_X_10 (by decide +kernel) h (fun v6 h => ?_)
  refine Y.blk (pc' := 17) (L' := [some (.ref a0), some (.int a1), some (.int a2), some (.int a3), some (.int a4)]) (st' := [.int a3, .int a2, .int a1, .ref v6]) (sg := [(.iload_n 1, 0), (.iload_n 2, 0), (.iload_n 3, 0)]) (by decide +kernel) rfl ?_
  obtain ⟨_, o8, e7, m9, h⟩ := gOb_inv h
  refine Y.callN (yC.Vi (b := v6) (As := [.int a1, .int a2, .int a3]) (st := []) (r := ("Partlister$Lists", T_I, 7)) hV.1 cb_I_write lk_X_65 in_I_write rfl se_I_write (by decide +kernel) rfl rfl (Nat.le_of_ble_eq_true rfl) (by decide) e7 m9) (k_I_write hV G5 v6 a1 a2 a3) h (fun G10 _ h => ?_)
  refine Y.blk (pc' := 24) (L' := [some (.ref a0), some (.int a1), some (.int a2), some (.int a3), some (.int a4)]) (st' := [.int a4, .int a1, .ref a0]) (sg := [(.aload_n 0, 0), (.iload_n 1, 0), (.iload 4, 0)]) (by decide +kernel) rfl ?_
  obtain ⟨_, o12, e11, m13, h⟩ := gOb_inv h
  refine Y.callN (yC.Vi (b := a0) (As := [.int a1, .int a4]) (st := []) (r := ("Partlister", T_X, 5)) hV.1 cb_X_endByLength lk_X_281 in_X_endByLength rfl se_X_endByLength (by decide +kernel) rfl rfl (Nat.le_of_ble_eq_true rfl) (by decide) e11 m13) (k_X_endByLength hV G10 a0 a1 a4) h (fun G14 _ h => ?_)
  exact Y.vret rfl (by decide +kernel) h

def f_X_thingOf (G : gH) (a0 : Int32) (a1 : Int32) : gR :=
  rI ((a0 <<< ((nI 5) &&& 31)) ||| a1) G
theorem k_X_thingOf {l : Launch} {D : va_G} {B : Nat} {O : State → Heap → Prop} (hV : zG l D B O) (G : gH) (a0 : Int32) (a1 : Int32) : gMet (zVm l D B O) m_X_thingOf 1 [.int a0, .int a1] G (f_X_thingOf G a0 a1) := by
  refine gMet.of (by decide +kernel) (Nat.le_of_ble_eq_true rfl) [some (.int a0), some (.int a1)] (fun ls h => zEn_ok (n := 2) h) ?_
  intro o Gf h
  unfold f_X_thingOf at h
  refine Y.blk (pc' := 5) (L' := [some (.int a0), some (.int a1)]) (st' := [.int ((a0 <<< ((nI 5) &&& 31)) ||| a1)]) (sg := [(.iload_n 0, 0), (.iconst 5, nI 5), (.ishl, 0), (.iload_n 1, 0), (.ior, 0)]) (by decide +kernel) rfl ?_
  exact Y.iret rfl (by decide +kernel) h

def f_X_make (G : gH) (a0 : Nat) (a1 : Int32) : gR :=
  gFI G a0 3 2 fun v1 => bI (f_X_thingOf G v1 a1) fun v4 G3 => gFI G3 a0 3 2 fun v5 => gPut G3 a0 3 2 (.int (v5 + (nI 1))) fun G6 => rI v4 G6
theorem k_X_make {l : Launch} {D : va_G} {B : Nat} {O : State → Heap → Prop} (hV : zG l D B O) (G : gH) (a0 : Nat) (a1 : Int32) : gMet (zVm l D B O) m_X_make 2 [.ref a0, .int a1] G (f_X_make G a0 a1) := by
  refine gMet.of (by decide +kernel) (Nat.le_of_ble_eq_true rfl) [some (.ref a0), some (.int a1), none] (fun ls h => zEn_ok (n := 3) h) ?_
  intro o Gf h
  unfold f_X_make at h
  refine Y.blk (pc' := 1) (L' := [some (.ref a0), some (.int a1), none]) (st' := [.ref a0]) (sg := [(.aload_n 0, 0)]) (by decide +kernel) rfl ?_
  refine Y.getI fl_X_275 (by decide +kernel) h (fun v1 h => ?_)
  refine Y.blk (pc' := 5) (L' := [some (.ref a0), some (.int a1), none]) (st' := [.int a1, .int v1]) (sg := [(.iload_n 1, 0)]) (by decide +kernel) rfl ?_
  refine Y.callI (yC.S (As := [.int v1, .int a1]) (st := []) hV.1 cb_X_thingOf lk_X_100 st_X_thingOf (by decide +kernel) rfl rfl (Nat.le_of_ble_eq_true rfl) (by decide)) (k_X_thingOf hV G v1 a1) h (fun v4 G3 _ h => ?_)
  refine Y.blk (pc' := 11) (L' := [some (.ref a0), some (.int a1), some (.int v4)]) (st' := [.ref a0, .ref a0]) (sg := [(.istore_n 2, 0), (.aload_n 0, 0), (.dup, 0)]) (by decide +kernel) rfl ?_
  refine Y.getI fl_X_275 (by decide +kernel) h (fun v5 h => ?_)
  refine Y.blk (pc' := 16) (L' := [some (.ref a0), some (.int a1), some (.int v4)]) (st' := [.int (v5 + (nI 1)), .ref a0]) (sg := [(.iconst 1, nI 1), (.iadd, 0)]) (by decide +kernel) rfl ?_
  refine Y.putf fl_X_275 (by decide) rfl rfl (by decide +kernel) h (fun G6 _ _ h => ?_)
  refine Y.blk (pc' := 20) (L' := [some (.ref a0), some (.int a1), some (.int v4)]) (st' := [.int v4]) (sg := [(.iload_n 2, 0)]) (by decide +kernel) rfl ?_
  exact Y.iret rfl (by decide +kernel) h

def f_X_needKey (G : gH) (a0 : Nat) (a1 : Int32) : gR :=
  if a1 < 0 then gThrow "java/lang/IllegalArgumentException" G
  else if a1 < (nI 31) then rV G
    else gThrow "java/lang/IllegalArgumentException" G
theorem k_X_needKey {l : Launch} {D : va_G} {B : Nat} {O : State → Heap → Prop} (hV : zG l D B O) (G : gH) (a0 : Nat) (a1 : Int32) : gMet (zVm l D B O) m_X_needKey 6 [.ref a0, .int a1] G (f_X_needKey G a0 a1) := by
  refine gMet.of (by decide +kernel) (Nat.le_of_ble_eq_true rfl) [some (.ref a0), some (.int a1)] (fun ls h => zEn_ok (n := 2) h) ?_
  intro o Gf h
  unfold f_X_needKey at h
  refine Y.blk (pc' := 1) (L' := [some (.ref a0), some (.int a1)]) (st' := [.int a1]) (sg := [(.iload_n 1, 0)]) (by decide +kernel) rfl ?_
  refine Y.if_lt (off := 9) (tgt := 10) (by decide +kernel) (by decide) h (fun c2 h => ?_) (fun c2 h => ?_)
  · exact Y.throwSW (is := 341) (text := "key is not 0 to 30") (names := zNm) hV.1 (hV.2 _ _ _ (by decide +kernel)) (by decide +kernel) (by decide +kernel) ck_X_81 ini_IAE tw_X_85 tg_X_85 (by decide) (by decide) rfl (Nat.le_of_ble_eq_true rfl) (by decide +kernel) (by decide +kernel) (by decide +kernel) (by decide +kernel) (by decide +kernel) h
  · refine Y.blk (pc' := 7) (L' := [some (.ref a0), some (.int a1)]) (st' := [.int (nI 31), .int a1]) (sg := [(.iload_n 1, 0), (.bipush 31, nI 31)]) (by decide +kernel) rfl ?_
    refine Y.ic_lt (off := 14) (tgt := 21) (by decide +kernel) (by decide) h (fun c1 h => ?_) (fun c1 h => ?_)
    · exact Y.vret rfl (by decide +kernel) h
    · exact Y.throwSW (is := 341) (text := "key is not 0 to 30") (names := zNm) hV.1 (hV.2 _ _ _ (by decide +kernel)) (by decide +kernel) (by decide +kernel) ck_X_81 ini_IAE tw_X_85 tg_X_85 (by decide) (by decide) rfl (Nat.le_of_ble_eq_true rfl) (by decide +kernel) (by decide +kernel) (by decide +kernel) (by decide +kernel) (by decide +kernel) h

def f_X_needList (G : gH) (a0 : Nat) (a1 : Int32) : gR :=
  gFA G a0 3 0 fun v1 => gOb G v1 1 fun o3 => bI (f_I_isThere G v1 a1) fun v6 G5 => if v6 = 0 then gThrow "java/lang/IndexOutOfBoundsException" G5
  else rV G5
theorem k_X_needList {l : Launch} {D : va_G} {B : Nat} {O : State → Heap → Prop} (hV : zG l D B O) (G : gH) (a0 : Nat) (a1 : Int32) : gMet (zVm l D B O) m_X_needList 6 [.ref a0, .int a1] G (f_X_needList G a0 a1) := by
  refine gMet.of (by decide +kernel) (Nat.le_of_ble_eq_true rfl) [some (.ref a0), some (.int a1)] (fun ls h => zEn_ok (n := 2) h) ?_
  intro o Gf h
  unfold f_X_needList at h
  refine Y.blk (pc' := 1) (L' := [some (.ref a0), some (.int a1)]) (st' := [.ref a0]) (sg := [(.aload_n 0, 0)]) (by decide +kernel) rfl ?_
  refine Y.getA fl_X_10 (by decide +kernel) h (fun v1 h => ?_)
  refine Y.blk (pc' := 5) (L' := [some (.ref a0), some (.int a1)]) (st' := [.int a1, .ref v1]) (sg := [(.iload_n 1, 0)]) (by decide +kernel) rfl ?_
  obtain ⟨_, o3, e2, m4, h⟩ := gOb_inv h
  refine Y.callI (yC.Vi (b := v1) (As := [.int a1]) (st := []) (r := ("Partlister$Lists", T_I, 7)) hV.1 cb_I_isThere lk_X_155 in_I_isThere rfl se_I_isThere (by decide +kernel) rfl rfl (Nat.le_of_ble_eq_true rfl) (by decide) e2 m4) (k_I_isThere hV G v1 a1) h (fun v6 G5 _ h => ?_)
  refine Y.if_ne (off := 14) (tgt := 22) (by decide +kernel) (by decide) h (fun c7 h => ?_) (fun c7 h => ?_)
  · exact Y.throwSW (is := 329) (text := "there is no such LIST") (names := zNm) hV.1 (hV.2 _ _ _ (by decide +kernel)) (by decide +kernel) (by decide +kernel) ck_X_125 ini_IOE tw_X_129 tg_X_129 (by decide) (by decide) rfl (Nat.le_of_ble_eq_true rfl) (by decide +kernel) (by decide +kernel) (by decide +kernel) (by decide +kernel) (by decide +kernel) h
  · exact Y.vret rfl (by decide +kernel) h

def f_X_needRoom (G : gH) (a0 : Nat) (a1 : Int32) (a2 : Int32) : gR :=
  gFA G a0 3 0 fun v1 => gFA G a0 3 0 fun v2 => gOb G v2 1 fun o4 => bI (f_I_rowOf G v2 a1) fun v7 G6 => gOb G6 v1 1 fun o9 => bI (f_I_lengthOf G6 v1 v7) fun v12 G11 => if (v12 + a2) ≤ (nI 31) then rV G11
  else gThrow "java/lang/IllegalStateException" G11
theorem k_X_needRoom {l : Launch} {D : va_G} {B : Nat} {O : State → Heap → Prop} (hV : zG l D B O) (G : gH) (a0 : Nat) (a1 : Int32) (a2 : Int32) : gMet (zVm l D B O) m_X_needRoom 6 [.ref a0, .int a1, .int a2] G (f_X_needRoom G a0 a1 a2) := by
  refine gMet.of (by decide +kernel) (Nat.le_of_ble_eq_true rfl) [some (.ref a0), some (.int a1), some (.int a2)] (fun ls h => zEn_ok (n := 3) h) ?_
  intro o Gf h
  unfold f_X_needRoom at h
  refine Y.blk (pc' := 1) (L' := [some (.ref a0), some (.int a1), some (.int a2)]) (st' := [.ref a0]) (sg := [(.aload_n 0, 0)]) (by decide +kernel) rfl ?_
  refine Y.getA fl_X_10 (by decide +kernel) h (fun v1 h => ?_)
  refine Y.blk (pc' := 5) (L' := [some (.ref a0), some (.int a1), some (.int a2)]) (st' := [.ref a0, .ref v1]) (sg := [(.aload_n 0, 0)]) (by decide +kernel) rfl ?_
  refine Y.getA fl_X_10 (by decide +kernel) h (fun v2 h => ?_)
  refine Y.blk (pc' := 9) (L' := [some (.ref a0), some (.int a1), some (.int a2)]) (st' := [.int a1, .ref v2, .ref v1]) (sg := [(.iload_n 1, 0)]) (by decide +kernel) rfl ?_
  obtain ⟨_, o4, e3, m5, h⟩ := gOb_inv h
  refine Y.callI (yC.Vi (b := v2) (As := [.int a1]) (st := [.ref v1]) (r := ("Partlister$Lists", T_I, 7)) hV.1 cb_I_rowOf lk_X_299 in_I_rowOf rfl se_I_rowOf (by decide +kernel) rfl rfl (Nat.le_of_ble_eq_true rfl) (by decide) e3 m5) (k_I_rowOf hV G v2 a1) h (fun v7 G6 _ h => ?_)
  obtain ⟨_, o9, e8, m10, h⟩ := gOb_inv h
  refine Y.callI (yC.Vi (b := v1) (As := [.int v7]) (st := []) (r := ("Partlister$Lists", T_I, 7)) hV.1 cb_I_lengthOf lk_X_34 in_I_lengthOf rfl se_I_lengthOf (by decide +kernel) rfl rfl (Nat.le_of_ble_eq_true rfl) (by decide) e8 m10) (k_I_lengthOf hV G6 v1 v7) h (fun v12 G11 _ h => ?_)
  refine Y.blk (pc' := 19) (L' := [some (.ref a0), some (.int a1), some (.int a2)]) (st' := [.int (nI 31), .int (v12 + a2)]) (sg := [(.iload_n 2, 0), (.iadd, 0), (.bipush 31, nI 31)]) (by decide +kernel) rfl ?_
  refine Y.ic_le (off := 14) (tgt := 33) (by decide +kernel) (by decide) h (fun c13 h => ?_) (fun c13 h => ?_)
  · exact Y.vret rfl (by decide +kernel) h
  · exact Y.throwSW (is := 343) (text := "a ROW has at most 31") (names := zNm) hV.1 (hV.2 _ _ _ (by decide +kernel)) (by decide +kernel) (by decide +kernel) ck_X_134 ini_ISE tw_X_138 tg_X_138 (by decide) (by decide) rfl (Nat.le_of_ble_eq_true rfl) (by decide +kernel) (by decide +kernel) (by decide +kernel) (by decide +kernel) (by decide +kernel) h

def f_X_add (G : gH) (a0 : Nat) (a1 : Int32) (a2 : Int32) : gR :=
  gOb G a0 3 fun o2 => bV (f_X_needList G a0 a1) fun G4 => gOb G4 a0 3 fun o6 => bV (f_X_needKey G4 a0 a2) fun G8 => gOb G8 a0 3 fun o10 => bV (f_X_needRoom G8 a0 a1 (nI 1)) fun G12 => gFA G12 a0 3 0 fun v13 => gOb G12 v13 1 fun o15 => bI (f_I_lengthOf G12 v13 a1) fun v18 G17 => gOb G17 a0 3 fun o20 => bI (f_X_make G17 a0 a2) fun v23 G22 => gOb G22 a0 3 fun o25 => bV (f_X_bringIn G22 a0 a1 v18 v23 (-1)) fun G27 => gFA G27 a0 3 0 fun v28 => gOb G27 v28 1 fun o30 => bI (f_I_lengthOf G27 v28 a1) fun v33 G32 => rI v33 G32
theorem k_X_add {l : Launch} {D : va_G} {B : Nat} {O : State → Heap → Prop} (hV : zG l D B O) (G : gH) (a0 : Nat) (a1 : Int32) (a2 : Int32) : gMet (zVm l D B O) m_X_add 7 [.ref a0, .int a1, .int a2] G (f_X_add G a0 a1 a2) := by
  refine gMet.of (by decide +kernel) (Nat.le_of_ble_eq_true rfl) [some (.ref a0), some (.int a1), some (.int a2)] (fun ls h => zEn_ok (n := 3) h) ?_
  intro o Gf h
  unfold f_X_add at h
  refine Y.blk (pc' := 2) (L' := [some (.ref a0), some (.int a1), some (.int a2)]) (st' := [.int a1, .ref a0]) (sg := [(.aload_n 0, 0), (.iload_n 1, 0)]) (by decide +kernel) rfl ?_
  obtain ⟨_, o2, e1, m3, h⟩ := gOb_inv h
  refine Y.callN (yC.Vi (b := a0) (As := [.int a1]) (st := []) (r := ("Partlister", T_X, 5)) hV.1 cb_X_needList lk_X_23 in_X_needList rfl se_X_needList (by decide +kernel) rfl rfl (Nat.le_of_ble_eq_true rfl) (by decide) e1 m3) (k_X_needList hV G a0 a1) h (fun G4 _ h => ?_)
  refine Y.blk (pc' := 7) (L' := [some (.ref a0), some (.int a1), some (.int a2)]) (st' := [.int a2, .ref a0]) (sg := [(.aload_n 0, 0), (.iload_n 2, 0)]) (by decide +kernel) rfl ?_
  obtain ⟨_, o6, e5, m7, h⟩ := gOb_inv h
  refine Y.callN (yC.Vi (b := a0) (As := [.int a2]) (st := []) (r := ("Partlister", T_X, 5)) hV.1 cb_X_needKey lk_X_27 in_X_needKey rfl se_X_needKey (by decide +kernel) rfl rfl (Nat.le_of_ble_eq_true rfl) (by decide) e5 m7) (k_X_needKey hV G4 a0 a2) h (fun G8 _ h => ?_)
  refine Y.blk (pc' := 13) (L' := [some (.ref a0), some (.int a1), some (.int a2)]) (st' := [.int (nI 1), .int a1, .ref a0]) (sg := [(.aload_n 0, 0), (.iload_n 1, 0), (.iconst 1, nI 1)]) (by decide +kernel) rfl ?_
  obtain ⟨_, o10, e9, m11, h⟩ := gOb_inv h
  refine Y.callN (yC.Vi (b := a0) (As := [.int a1, .int (nI 1)]) (st := []) (r := ("Partlister", T_X, 5)) hV.1 cb_X_needRoom lk_X_30 in_X_needRoom rfl se_X_needRoom (by decide +kernel) rfl rfl (Nat.le_of_ble_eq_true rfl) (by decide) e9 m11) (k_X_needRoom hV G8 a0 a1 (nI 1)) h (fun G12 _ h => ?_)
  refine Y.blk (pc' := 19) (L' := [some (.ref a0), some (.int a1), some (.int a2)]) (st' := [.ref a0, .int a1, .ref a0]) (sg := [(.aload_n 0, 0), (.iload_n 1, 0), (.aload_n 0, 0)]) (by decide +kernel) rfl ?_
  refine Y.getA fl_X_10 (by decide +kernel) h (fun v13 h => ?_)
  refine Y.blk (pc' := 23) (L' := [some (.ref a0), some (.int a1), some (.int a2)]) (st' := [.int a1, .ref v13, .int a1, .ref a0]) (sg := [(.iload_n 1, 0)]) (by decide +kernel) rfl ?_
  obtain ⟨_, o15, e14, m16, h⟩ := gOb_inv h
  refine Y.callI (yC.Vi (b := v13) (As := [.int a1]) (st := [.int a1, .ref a0]) (r := ("Partlister$Lists", T_I, 7)) hV.1 cb_I_lengthOf lk_X_34 in_I_lengthOf rfl se_I_lengthOf (by decide +kernel) rfl rfl (Nat.le_of_ble_eq_true rfl) (by decide) e14 m16) (k_I_lengthOf hV G12 v13 a1) h (fun v18 G17 _ h => ?_)
  refine Y.blk (pc' := 28) (L' := [some (.ref a0), some (.int a1), some (.int a2)]) (st' := [.int a2, .ref a0, .int v18, .int a1, .ref a0]) (sg := [(.aload_n 0, 0), (.iload_n 2, 0)]) (by decide +kernel) rfl ?_
  obtain ⟨_, o20, e19, m21, h⟩ := gOb_inv h
  refine Y.callI (yC.Vi (b := a0) (As := [.int a2]) (st := [.int v18, .int a1, .ref a0]) (r := ("Partlister", T_X, 5)) hV.1 cb_X_make lk_X_38 in_X_make rfl se_X_make (by decide +kernel) rfl rfl (Nat.le_of_ble_eq_true rfl) (by decide) e19 m21) (k_X_make hV G17 a0 a2) h (fun v23 G22 _ h => ?_)
  refine Y.blk (pc' := 32) (L' := [some (.ref a0), some (.int a1), some (.int a2)]) (st' := [.int (-1), .int v23, .int v18, .int a1, .ref a0]) (sg := [(.iconst (-1), -1)]) (by decide +kernel) rfl ?_
  obtain ⟨_, o25, e24, m26, h⟩ := gOb_inv h
  refine Y.callN (yC.Vi (b := a0) (As := [.int a1, .int v18, .int v23, .int (-1)]) (st := []) (r := ("Partlister", T_X, 5)) hV.1 cb_X_bringIn lk_X_41 in_X_bringIn rfl se_X_bringIn (by decide +kernel) rfl rfl (Nat.le_of_ble_eq_true rfl) (by decide) e24 m26) (k_X_bringIn hV G22 a0 a1 v18 v23 (-1)) h (fun G27 _ h => ?_)
  refine Y.blk (pc' := 36) (L' := [some (.ref a0), some (.int a1), some (.int a2)]) (st' := [.ref a0]) (sg := [(.aload_n 0, 0)]) (by decide +kernel) rfl ?_
  refine Y.getA fl_X_10 (by decide +kernel) h (fun v28 h => ?_)
  refine Y.blk (pc' := 40) (L' := [some (.ref a0), some (.int a1), some (.int a2)]) (st' := [.int a1, .ref v28]) (sg := [(.iload_n 1, 0)]) (by decide +kernel) rfl ?_
  obtain ⟨_, o30, e29, m31, h⟩ := gOb_inv h
  refine Y.callI (yC.Vi (b := v28) (As := [.int a1]) (st := []) (r := ("Partlister$Lists", T_I, 7)) hV.1 cb_I_lengthOf lk_X_34 in_I_lengthOf rfl se_I_lengthOf (by decide +kernel) rfl rfl (Nat.le_of_ble_eq_true rfl) (by decide) e29 m31) (k_I_lengthOf hV G27 v28 a1) h (fun v33 G32 _ h => ?_)
  exact Y.iret rfl (by decide +kernel) h

def f_X_bringAll_L24 (K59 : gH → Nat → Int32 → Int32 → gR) : Nat → gH → Nat → Int32 → Int32 → Int32 → Int32 → Int32 → gR
  | 0, _, _, _, _, _, _, _ => none
  | n + 1, G, x0, x1, x2, x3, x4, x5 =>
    if x4 ≤ x5 then K59 G x0 x1 x4
    else gFA G x0 3 0 fun v12 => gFA G x0 3 0 fun v13 => gOb G v13 1 fun o15 => bI (f_I_thingAt G v13 x3 x5) fun v18 G17 => gOb G17 v12 1 fun o20 => bV (f_I_write G17 v12 x1 (x2 + x5) v18) fun G22 => f_X_bringAll_L24 K59 n G22 x0 x1 x2 x3 x4 (x5 + (nI 1))
def f_X_bringAll (G : gH) (a0 : Nat) (a1 : Int32) (a2 : Int32) (a3 : Int32) : gR :=
  gFA G a0 3 0 fun v1 => gOb G v1 1 fun o3 => bI (f_I_lengthOf G v1 a3) fun v6 G5 => gFA G5 a0 3 0 fun v7 => gOb G5 v7 1 fun o9 => bV (f_I_openGap G5 v7 a1 a2 v6) fun G11 => f_X_bringAll_L24 (fun G27 x24 x25 x26 => if x26 ≤ 0 then rI x26 G27
    else gOb G27 x24 3 fun o29 => bV (f_X_endByLength G27 x24 x25 (-1)) fun G31 => rI x26 G31) zFu G11 a0 a1 a2 a3 v6 (nI 0)
theorem k_X_bringAll_L24 {l : Launch} {D : va_G} {B : Nat} {O : State → Heap → Prop} (hV : zG l D B O) {o : gO} {Gf : gH} (K59 : gH → Nat → Int32 → Int32 → gR) (hK59 : ∀ (G : gH) (x0 : Nat) (x1 : Int32) (x4 : Int32), K59 G x0 x1 x4 = some (o, Gf) → Y (zVm l D B O) m_X_bringAll 6 o Gf 59 [some (.ref x0), some (.int x1), none, none, some (.int x4), none] [] G) : ∀ (n : Nat) (G : gH) (x0 : Nat) (x1 : Int32) (x2 : Int32) (x3 : Int32) (x4 : Int32) (x5 : Int32), f_X_bringAll_L24 K59 n G x0 x1 x2 x3 x4 x5 = some (o, Gf) → Y (zVm l D B O) m_X_bringAll 6 o Gf 24 [some (.ref x0), some (.int x1), some (.int x2), some (.int x3), some (.int x4), some (.int x5)] [] G := by
  intro n
  induction n with
  | zero => intro G x0 x1 x2 x3 x4 x5 h; cases h
  | succ n ih =>
    intro G x0 x1 x2 x3 x4 x5 h
    unfold f_X_bringAll_L24 at h
    refine Y.blk (pc' := 28) (L' := [some (.ref x0), some (.int x1), some (.int x2), some (.int x3), some (.int x4), some (.int x5)]) (st' := [.int x4, .int x5]) (sg := [(.iload 5, 0), (.iload 4, 0)]) (by decide +kernel) rfl ?_
    refine Y.ic_ge (off := 31) (tgt := 59) (by decide +kernel) (by decide) h (fun c23 h => ?_) (fun c23 h => ?_)
    · refine Y.less (L' := [some (.ref x0), some (.int x1), none, none, some (.int x4), none]) (zLe_some (zLe_some (zLe_none (zLe_none (zLe_some (zLe_none (zLe_nil))))))) ?_
      exact hK59 G x0 x1 x4 h
    · refine Y.blk (pc' := 32) (L' := [some (.ref x0), some (.int x1), some (.int x2), some (.int x3), some (.int x4), some (.int x5)]) (st' := [.ref x0]) (sg := [(.aload_n 0, 0)]) (by decide +kernel) rfl ?_
      refine Y.getA fl_X_10 (by decide +kernel) h (fun v12 h => ?_)
      refine Y.blk (pc' := 41) (L' := [some (.ref x0), some (.int x1), some (.int x2), some (.int x3), some (.int x4), some (.int x5)]) (st' := [.ref x0, .int (x2 + x5), .int x1, .ref v12]) (sg := [(.iload_n 1, 0), (.iload_n 2, 0), (.iload 5, 0), (.iadd, 0), (.aload_n 0, 0)]) (by decide +kernel) rfl ?_
      refine Y.getA fl_X_10 (by decide +kernel) h (fun v13 h => ?_)
      refine Y.blk (pc' := 47) (L' := [some (.ref x0), some (.int x1), some (.int x2), some (.int x3), some (.int x4), some (.int x5)]) (st' := [.int x5, .int x3, .ref v13, .int (x2 + x5), .int x1, .ref v12]) (sg := [(.iload_n 3, 0), (.iload 5, 0)]) (by decide +kernel) rfl ?_
      obtain ⟨_, o15, e14, m16, h⟩ := gOb_inv h
      refine Y.callI (yC.Vi (b := v13) (As := [.int x3, .int x5]) (st := [.int (x2 + x5), .int x1, .ref v12]) (r := ("Partlister$Lists", T_I, 7)) hV.1 cb_I_thingAt lk_X_94 in_I_thingAt rfl se_I_thingAt (by decide +kernel) rfl rfl (Nat.le_of_ble_eq_true rfl) (by decide) e14 m16) (k_I_thingAt hV G v13 x3 x5) h (fun v18 G17 _ h => ?_)
      obtain ⟨_, o20, e19, m21, h⟩ := gOb_inv h
      refine Y.callN (yC.Vi (b := v12) (As := [.int x1, .int (x2 + x5), .int v18]) (st := []) (r := ("Partlister$Lists", T_I, 7)) hV.1 cb_I_write lk_X_65 in_I_write rfl se_I_write (by decide +kernel) rfl rfl (Nat.le_of_ble_eq_true rfl) (by decide) e19 m21) (k_I_write hV G17 v12 x1 (x2 + x5) v18) h (fun G22 _ h => ?_)
      refine Y.blk (pc' := 56) (L' := [some (.ref x0), some (.int x1), some (.int x2), some (.int x3), some (.int x4), some (.int (x5 + (nI 1)))]) (st' := []) (sg := [(.iinc 5 1, nI 1)]) (by decide +kernel) rfl ?_
      refine Y.goto (off := -32) (tgt := 24) (by decide +kernel) (by decide) ?_
      exact ih G22 x0 x1 x2 x3 x4 (x5 + (nI 1)) h
theorem k_X_bringAll {l : Launch} {D : va_G} {B : Nat} {O : State → Heap → Prop} (hV : zG l D B O) (G : gH) (a0 : Nat) (a1 : Int32) (a2 : Int32) (a3 : Int32) : gMet (zVm l D B O) m_X_bringAll 6 [.ref a0, .int a1, .int a2, .int a3] G (f_X_bringAll G a0 a1 a2 a3) := by
  refine gMet.of (by decide +kernel) (Nat.le_of_ble_eq_true rfl) [some (.ref a0), some (.int a1), some (.int a2), some (.int a3), none, none] (fun ls h => zEn_ok (n := 6) h) ?_
  intro o Gf h
  unfold f_X_bringAll at h
  refine Y.blk (pc' := 1) (L' := [some (.ref a0), some (.int a1), some (.int a2), some (.int a3), none, none]) (st' := [.ref a0]) (sg := [(.aload_n 0, 0)]) (by decide +kernel) rfl ?_
  refine Y.getA fl_X_10 (by decide +kernel) h (fun v1 h => ?_)
  refine Y.blk (pc' := 5) (L' := [some (.ref a0), some (.int a1), some (.int a2), some (.int a3), none, none]) (st' := [.int a3, .ref v1]) (sg := [(.iload_n 3, 0)]) (by decide +kernel) rfl ?_
  obtain ⟨_, o3, e2, m4, h⟩ := gOb_inv h
  refine Y.callI (yC.Vi (b := v1) (As := [.int a3]) (st := []) (r := ("Partlister$Lists", T_I, 7)) hV.1 cb_I_lengthOf lk_X_34 in_I_lengthOf rfl se_I_lengthOf (by decide +kernel) rfl rfl (Nat.le_of_ble_eq_true rfl) (by decide) e2 m4) (k_I_lengthOf hV G v1 a3) h (fun v6 G5 _ h => ?_)
  refine Y.blk (pc' := 11) (L' := [some (.ref a0), some (.int a1), some (.int a2), some (.int a3), some (.int v6), none]) (st' := [.ref a0]) (sg := [(.istore 4, 0), (.aload_n 0, 0)]) (by decide +kernel) rfl ?_
  refine Y.getA fl_X_10 (by decide +kernel) h (fun v7 h => ?_)
  refine Y.blk (pc' := 18) (L' := [some (.ref a0), some (.int a1), some (.int a2), some (.int a3), some (.int v6), none]) (st' := [.int v6, .int a2, .int a1, .ref v7]) (sg := [(.iload_n 1, 0), (.iload_n 2, 0), (.iload 4, 0)]) (by decide +kernel) rfl ?_
  obtain ⟨_, o9, e8, m10, h⟩ := gOb_inv h
  refine Y.callN (yC.Vi (b := v7) (As := [.int a1, .int a2, .int v6]) (st := []) (r := ("Partlister$Lists", T_I, 7)) hV.1 cb_I_openGap lk_X_278 in_I_openGap rfl se_I_openGap (by decide +kernel) rfl rfl (Nat.le_of_ble_eq_true rfl) (by decide) e8 m10) (k_I_openGap hV G5 v7 a1 a2 v6) h (fun G11 _ h => ?_)
  refine Y.blk (pc' := 24) (L' := [some (.ref a0), some (.int a1), some (.int a2), some (.int a3), some (.int v6), some (.int (nI 0))]) (st' := []) (sg := [(.iconst 0, nI 0), (.istore 5, 0)]) (by decide +kernel) rfl ?_
  refine k_X_bringAll_L24 hV _ ?_  zFu G11 a0 a1 a2 a3 v6 (nI 0) h
  · intro G27 x24 x25 x26 h
    refine Y.blk (pc' := 61) (L' := [some (.ref x24), some (.int x25), none, none, some (.int x26), none]) (st' := [.int x26]) (sg := [(.iload 4, 0)]) (by decide +kernel) rfl ?_
    refine Y.if_le (off := 9) (tgt := 70) (by decide +kernel) (by decide) h (fun c32 h => ?_) (fun c32 h => ?_)
    · refine Y.blk (pc' := 72) (L' := [some (.ref x24), some (.int x25), none, none, some (.int x26), none]) (st' := [.int x26]) (sg := [(.iload 4, 0)]) (by decide +kernel) rfl ?_
      exact Y.iret rfl (by decide +kernel) h
    · refine Y.blk (pc' := 67) (L' := [some (.ref x24), some (.int x25), none, none, some (.int x26), none]) (st' := [.int (-1), .int x25, .ref x24]) (sg := [(.aload_n 0, 0), (.iload_n 1, 0), (.iconst (-1), -1)]) (by decide +kernel) rfl ?_
      obtain ⟨_, o29, e28, m30, h⟩ := gOb_inv h
      refine Y.callN (yC.Vi (b := x24) (As := [.int x25, .int (-1)]) (st := []) (r := ("Partlister", T_X, 5)) hV.1 cb_X_endByLength lk_X_281 in_X_endByLength rfl se_X_endByLength (by decide +kernel) rfl rfl (Nat.le_of_ble_eq_true rfl) (by decide) e28 m30) (k_X_endByLength hV G27 x24 x25 (-1)) h (fun G31 _ h => ?_)
      refine Y.blk (pc' := 72) (L' := [some (.ref x24), some (.int x25), none, none, some (.int x26), none]) (st' := [.int x26]) (sg := [(.iload 4, 0)]) (by decide +kernel) rfl ?_
      exact Y.iret rfl (by decide +kernel) h

def f_X_needGap (G : gH) (a0 : Nat) (a1 : Int32) (a2 : Int32) : gR :=
  if a2 < 0 then gThrow "java/lang/IndexOutOfBoundsException" G
  else gFA G a0 3 0 fun v1 => gOb G v1 1 fun o3 => bI (f_I_lengthOf G v1 a1) fun v6 G5 => if a2 ≤ v6 then rV G5
    else gThrow "java/lang/IndexOutOfBoundsException" G5
theorem k_X_needGap {l : Launch} {D : va_G} {B : Nat} {O : State → Heap → Prop} (hV : zG l D B O) (G : gH) (a0 : Nat) (a1 : Int32) (a2 : Int32) : gMet (zVm l D B O) m_X_needGap 6 [.ref a0, .int a1, .int a2] G (f_X_needGap G a0 a1 a2) := by
  refine gMet.of (by decide +kernel) (Nat.le_of_ble_eq_true rfl) [some (.ref a0), some (.int a1), some (.int a2)] (fun ls h => zEn_ok (n := 3) h) ?_
  intro o Gf h
  unfold f_X_needGap at h
  refine Y.blk (pc' := 1) (L' := [some (.ref a0), some (.int a1), some (.int a2)]) (st' := [.int a2]) (sg := [(.iload_n 2, 0)]) (by decide +kernel) rfl ?_
  refine Y.if_lt (off := 15) (tgt := 16) (by decide +kernel) (by decide) h (fun c8 h => ?_) (fun c8 h => ?_)
  · exact Y.throwSW (is := 339) (text := "not 0 to LENGTH") (names := zNm) hV.1 (hV.2 _ _ _ (by decide +kernel)) (by decide +kernel) (by decide +kernel) ck_X_125 ini_IOE tw_X_129 tg_X_129 (by decide) (by decide) rfl (Nat.le_of_ble_eq_true rfl) (by decide +kernel) (by decide +kernel) (by decide +kernel) (by decide +kernel) (by decide +kernel) h
  · refine Y.blk (pc' := 6) (L' := [some (.ref a0), some (.int a1), some (.int a2)]) (st' := [.ref a0, .int a2]) (sg := [(.iload_n 2, 0), (.aload_n 0, 0)]) (by decide +kernel) rfl ?_
    refine Y.getA fl_X_10 (by decide +kernel) h (fun v1 h => ?_)
    refine Y.blk (pc' := 10) (L' := [some (.ref a0), some (.int a1), some (.int a2)]) (st' := [.int a1, .ref v1, .int a2]) (sg := [(.iload_n 1, 0)]) (by decide +kernel) rfl ?_
    obtain ⟨_, o3, e2, m4, h⟩ := gOb_inv h
    refine Y.callI (yC.Vi (b := v1) (As := [.int a1]) (st := [.int a2]) (r := ("Partlister$Lists", T_I, 7)) hV.1 cb_I_lengthOf lk_X_34 in_I_lengthOf rfl se_I_lengthOf (by decide +kernel) rfl rfl (Nat.le_of_ble_eq_true rfl) (by decide) e2 m4) (k_I_lengthOf hV G v1 a1) h (fun v6 G5 _ h => ?_)
    refine Y.ic_le (off := 14) (tgt := 27) (by decide +kernel) (by decide) h (fun c7 h => ?_) (fun c7 h => ?_)
    · exact Y.vret rfl (by decide +kernel) h
    · exact Y.throwSW (is := 339) (text := "not 0 to LENGTH") (names := zNm) hV.1 (hV.2 _ _ _ (by decide +kernel)) (by decide +kernel) (by decide +kernel) ck_X_125 ini_IOE tw_X_129 tg_X_129 (by decide) (by decide) rfl (Nat.le_of_ble_eq_true rfl) (by decide +kernel) (by decide +kernel) (by decide +kernel) (by decide +kernel) (by decide +kernel) h

def f_X_needOtherRow (G : gH) (a0 : Nat) (a1 : Int32) (a2 : Int32) : gR :=
  gFA G a0 3 0 fun v1 => gOb G v1 1 fun o3 => bI (f_I_rowOf G v1 a1) fun v6 G5 => gFA G5 a0 3 0 fun v7 => gOb G5 v7 1 fun o9 => bI (f_I_rowOf G5 v7 a2) fun v12 G11 => if v6 = v12 then gThrow "java/lang/IllegalStateException" G11
  else rV G11
theorem k_X_needOtherRow {l : Launch} {D : va_G} {B : Nat} {O : State → Heap → Prop} (hV : zG l D B O) (G : gH) (a0 : Nat) (a1 : Int32) (a2 : Int32) : gMet (zVm l D B O) m_X_needOtherRow 6 [.ref a0, .int a1, .int a2] G (f_X_needOtherRow G a0 a1 a2) := by
  refine gMet.of (by decide +kernel) (Nat.le_of_ble_eq_true rfl) [some (.ref a0), some (.int a1), some (.int a2)] (fun ls h => zEn_ok (n := 3) h) ?_
  intro o Gf h
  unfold f_X_needOtherRow at h
  refine Y.blk (pc' := 1) (L' := [some (.ref a0), some (.int a1), some (.int a2)]) (st' := [.ref a0]) (sg := [(.aload_n 0, 0)]) (by decide +kernel) rfl ?_
  refine Y.getA fl_X_10 (by decide +kernel) h (fun v1 h => ?_)
  refine Y.blk (pc' := 5) (L' := [some (.ref a0), some (.int a1), some (.int a2)]) (st' := [.int a1, .ref v1]) (sg := [(.iload_n 1, 0)]) (by decide +kernel) rfl ?_
  obtain ⟨_, o3, e2, m4, h⟩ := gOb_inv h
  refine Y.callI (yC.Vi (b := v1) (As := [.int a1]) (st := []) (r := ("Partlister$Lists", T_I, 7)) hV.1 cb_I_rowOf lk_X_299 in_I_rowOf rfl se_I_rowOf (by decide +kernel) rfl rfl (Nat.le_of_ble_eq_true rfl) (by decide) e2 m4) (k_I_rowOf hV G v1 a1) h (fun v6 G5 _ h => ?_)
  refine Y.blk (pc' := 9) (L' := [some (.ref a0), some (.int a1), some (.int a2)]) (st' := [.ref a0, .int v6]) (sg := [(.aload_n 0, 0)]) (by decide +kernel) rfl ?_
  refine Y.getA fl_X_10 (by decide +kernel) h (fun v7 h => ?_)
  refine Y.blk (pc' := 13) (L' := [some (.ref a0), some (.int a1), some (.int a2)]) (st' := [.int a2, .ref v7, .int v6]) (sg := [(.iload_n 2, 0)]) (by decide +kernel) rfl ?_
  obtain ⟨_, o9, e8, m10, h⟩ := gOb_inv h
  refine Y.callI (yC.Vi (b := v7) (As := [.int a2]) (st := [.int v6]) (r := ("Partlister$Lists", T_I, 7)) hV.1 cb_I_rowOf lk_X_299 in_I_rowOf rfl se_I_rowOf (by decide +kernel) rfl rfl (Nat.le_of_ble_eq_true rfl) (by decide) e8 m10) (k_I_rowOf hV G5 v7 a2) h (fun v12 G11 _ h => ?_)
  refine Y.ic_ne (off := 14) (tgt := 30) (by decide +kernel) (by decide) h (fun c13 h => ?_) (fun c13 h => ?_)
  · exact Y.throwSW (is := 345) (text := "both are of the same ROW") (names := zNm) hV.1 (hV.2 _ _ _ (by decide +kernel)) (by decide +kernel) (by decide +kernel) ck_X_134 ini_ISE tw_X_138 tg_X_138 (by decide) (by decide) rfl (Nat.le_of_ble_eq_true rfl) (by decide +kernel) (by decide +kernel) (by decide +kernel) (by decide +kernel) (by decide +kernel) h
  · exact Y.vret rfl (by decide +kernel) h

def f_X_addAll (G : gH) (a0 : Nat) (a1 : Int32) (a2 : Int32) (a3 : Int32) : gR :=
  gOb G a0 3 fun o2 => bV (f_X_needList G a0 a1) fun G4 => gOb G4 a0 3 fun o6 => bV (f_X_needList G4 a0 a3) fun G8 => gOb G8 a0 3 fun o10 => bV (f_X_needGap G8 a0 a1 a2) fun G12 => gOb G12 a0 3 fun o14 => bV (f_X_needOtherRow G12 a0 a1 a3) fun G16 => gFA G16 a0 3 0 fun v17 => gOb G16 v17 1 fun o19 => bI (f_I_lengthOf G16 v17 a3) fun v22 G21 => gOb G21 a0 3 fun o24 => bV (f_X_needRoom G21 a0 a1 v22) fun G26 => gOb G26 a0 3 fun o28 => bI (f_X_bringAll G26 a0 a1 a2 a3) fun v31 G30 => rI v31 G30
theorem k_X_addAll {l : Launch} {D : va_G} {B : Nat} {O : State → Heap → Prop} (hV : zG l D B O) (G : gH) (a0 : Nat) (a1 : Int32) (a2 : Int32) (a3 : Int32) : gMet (zVm l D B O) m_X_addAll 7 [.ref a0, .int a1, .int a2, .int a3] G (f_X_addAll G a0 a1 a2 a3) := by
  refine gMet.of (by decide +kernel) (Nat.le_of_ble_eq_true rfl) [some (.ref a0), some (.int a1), some (.int a2), some (.int a3)] (fun ls h => zEn_ok (n := 4) h) ?_
  intro o Gf h
  unfold f_X_addAll at h
  refine Y.blk (pc' := 2) (L' := [some (.ref a0), some (.int a1), some (.int a2), some (.int a3)]) (st' := [.int a1, .ref a0]) (sg := [(.aload_n 0, 0), (.iload_n 1, 0)]) (by decide +kernel) rfl ?_
  obtain ⟨_, o2, e1, m3, h⟩ := gOb_inv h
  refine Y.callN (yC.Vi (b := a0) (As := [.int a1]) (st := []) (r := ("Partlister", T_X, 5)) hV.1 cb_X_needList lk_X_23 in_X_needList rfl se_X_needList (by decide +kernel) rfl rfl (Nat.le_of_ble_eq_true rfl) (by decide) e1 m3) (k_X_needList hV G a0 a1) h (fun G4 _ h => ?_)
  refine Y.blk (pc' := 7) (L' := [some (.ref a0), some (.int a1), some (.int a2), some (.int a3)]) (st' := [.int a3, .ref a0]) (sg := [(.aload_n 0, 0), (.iload_n 3, 0)]) (by decide +kernel) rfl ?_
  obtain ⟨_, o6, e5, m7, h⟩ := gOb_inv h
  refine Y.callN (yC.Vi (b := a0) (As := [.int a3]) (st := []) (r := ("Partlister", T_X, 5)) hV.1 cb_X_needList lk_X_23 in_X_needList rfl se_X_needList (by decide +kernel) rfl rfl (Nat.le_of_ble_eq_true rfl) (by decide) e5 m7) (k_X_needList hV G4 a0 a3) h (fun G8 _ h => ?_)
  refine Y.blk (pc' := 13) (L' := [some (.ref a0), some (.int a1), some (.int a2), some (.int a3)]) (st' := [.int a2, .int a1, .ref a0]) (sg := [(.aload_n 0, 0), (.iload_n 1, 0), (.iload_n 2, 0)]) (by decide +kernel) rfl ?_
  obtain ⟨_, o10, e9, m11, h⟩ := gOb_inv h
  refine Y.callN (yC.Vi (b := a0) (As := [.int a1, .int a2]) (st := []) (r := ("Partlister", T_X, 5)) hV.1 cb_X_needGap lk_X_45 in_X_needGap rfl se_X_needGap (by decide +kernel) rfl rfl (Nat.le_of_ble_eq_true rfl) (by decide) e9 m11) (k_X_needGap hV G8 a0 a1 a2) h (fun G12 _ h => ?_)
  refine Y.blk (pc' := 19) (L' := [some (.ref a0), some (.int a1), some (.int a2), some (.int a3)]) (st' := [.int a3, .int a1, .ref a0]) (sg := [(.aload_n 0, 0), (.iload_n 1, 0), (.iload_n 3, 0)]) (by decide +kernel) rfl ?_
  obtain ⟨_, o14, e13, m15, h⟩ := gOb_inv h
  refine Y.callN (yC.Vi (b := a0) (As := [.int a1, .int a3]) (st := []) (r := ("Partlister", T_X, 5)) hV.1 cb_X_needOtherRow lk_X_51 in_X_needOtherRow rfl se_X_needOtherRow (by decide +kernel) rfl rfl (Nat.le_of_ble_eq_true rfl) (by decide) e13 m15) (k_X_needOtherRow hV G12 a0 a1 a3) h (fun G16 _ h => ?_)
  refine Y.blk (pc' := 25) (L' := [some (.ref a0), some (.int a1), some (.int a2), some (.int a3)]) (st' := [.ref a0, .int a1, .ref a0]) (sg := [(.aload_n 0, 0), (.iload_n 1, 0), (.aload_n 0, 0)]) (by decide +kernel) rfl ?_
  refine Y.getA fl_X_10 (by decide +kernel) h (fun v17 h => ?_)
  refine Y.blk (pc' := 29) (L' := [some (.ref a0), some (.int a1), some (.int a2), some (.int a3)]) (st' := [.int a3, .ref v17, .int a1, .ref a0]) (sg := [(.iload_n 3, 0)]) (by decide +kernel) rfl ?_
  obtain ⟨_, o19, e18, m20, h⟩ := gOb_inv h
  refine Y.callI (yC.Vi (b := v17) (As := [.int a3]) (st := [.int a1, .ref a0]) (r := ("Partlister$Lists", T_I, 7)) hV.1 cb_I_lengthOf lk_X_34 in_I_lengthOf rfl se_I_lengthOf (by decide +kernel) rfl rfl (Nat.le_of_ble_eq_true rfl) (by decide) e18 m20) (k_I_lengthOf hV G16 v17 a3) h (fun v22 G21 _ h => ?_)
  obtain ⟨_, o24, e23, m25, h⟩ := gOb_inv h
  refine Y.callN (yC.Vi (b := a0) (As := [.int a1, .int v22]) (st := []) (r := ("Partlister", T_X, 5)) hV.1 cb_X_needRoom lk_X_30 in_X_needRoom rfl se_X_needRoom (by decide +kernel) rfl rfl (Nat.le_of_ble_eq_true rfl) (by decide) e23 m25) (k_X_needRoom hV G21 a0 a1 v22) h (fun G26 _ h => ?_)
  refine Y.blk (pc' := 39) (L' := [some (.ref a0), some (.int a1), some (.int a2), some (.int a3)]) (st' := [.int a3, .int a2, .int a1, .ref a0]) (sg := [(.aload_n 0, 0), (.iload_n 1, 0), (.iload_n 2, 0), (.iload_n 3, 0)]) (by decide +kernel) rfl ?_
  obtain ⟨_, o28, e27, m29, h⟩ := gOb_inv h
  refine Y.callI (yC.Vi (b := a0) (As := [.int a1, .int a2, .int a3]) (st := []) (r := ("Partlister", T_X, 5)) hV.1 cb_X_bringAll lk_X_54 in_X_bringAll rfl se_X_bringAll (by decide +kernel) rfl rfl (Nat.le_of_ble_eq_true rfl) (by decide) e27 m29) (k_X_bringAll hV G26 a0 a1 a2 a3) h (fun v31 G30 _ h => ?_)
  exact Y.iret rfl (by decide +kernel) h

def f_X_tagOf (G : gH) (a0 : Int32) : gR :=
  rI (a0 >>> ((nI 5) &&& 31)) G
theorem k_X_tagOf {l : Launch} {D : va_G} {B : Nat} {O : State → Heap → Prop} (hV : zG l D B O) (G : gH) (a0 : Int32) : gMet (zVm l D B O) m_X_tagOf 1 [.int a0] G (f_X_tagOf G a0) := by
  refine gMet.of (by decide +kernel) (Nat.le_of_ble_eq_true rfl) [some (.int a0)] (fun ls h => zEn_ok (n := 1) h) ?_
  intro o Gf h
  unfold f_X_tagOf at h
  refine Y.blk (pc' := 3) (L' := [some (.int a0)]) (st' := [.int (a0 >>> ((nI 5) &&& 31))]) (sg := [(.iload_n 0, 0), (.iconst 5, nI 5), (.ishr, 0)]) (by decide +kernel) rfl ?_
  exact Y.iret rfl (by decide +kernel) h

def f_X_addAt (G : gH) (a0 : Nat) (a1 : Int32) (a2 : Int32) (a3 : Int32) : gR :=
  gOb G a0 3 fun o2 => bV (f_X_needList G a0 a1) fun G4 => gOb G4 a0 3 fun o6 => bV (f_X_needGap G4 a0 a1 a2) fun G8 => gOb G8 a0 3 fun o10 => bV (f_X_needKey G8 a0 a3) fun G12 => gOb G12 a0 3 fun o14 => bV (f_X_needRoom G12 a0 a1 (nI 1)) fun G16 => gOb G16 a0 3 fun o18 => bI (f_X_make G16 a0 a3) fun v21 G20 => gOb G20 a0 3 fun o23 => bV (f_X_bringIn G20 a0 a1 a2 v21 (-1)) fun G25 => bI (f_X_tagOf G25 v21) fun v28 G27 => rI v28 G27
theorem k_X_addAt {l : Launch} {D : va_G} {B : Nat} {O : State → Heap → Prop} (hV : zG l D B O) (G : gH) (a0 : Nat) (a1 : Int32) (a2 : Int32) (a3 : Int32) : gMet (zVm l D B O) m_X_addAt 7 [.ref a0, .int a1, .int a2, .int a3] G (f_X_addAt G a0 a1 a2 a3) := by
  refine gMet.of (by decide +kernel) (Nat.le_of_ble_eq_true rfl) [some (.ref a0), some (.int a1), some (.int a2), some (.int a3), none] (fun ls h => zEn_ok (n := 5) h) ?_
  intro o Gf h
  unfold f_X_addAt at h
  refine Y.blk (pc' := 2) (L' := [some (.ref a0), some (.int a1), some (.int a2), some (.int a3), none]) (st' := [.int a1, .ref a0]) (sg := [(.aload_n 0, 0), (.iload_n 1, 0)]) (by decide +kernel) rfl ?_
  obtain ⟨_, o2, e1, m3, h⟩ := gOb_inv h
  refine Y.callN (yC.Vi (b := a0) (As := [.int a1]) (st := []) (r := ("Partlister", T_X, 5)) hV.1 cb_X_needList lk_X_23 in_X_needList rfl se_X_needList (by decide +kernel) rfl rfl (Nat.le_of_ble_eq_true rfl) (by decide) e1 m3) (k_X_needList hV G a0 a1) h (fun G4 _ h => ?_)
  refine Y.blk (pc' := 8) (L' := [some (.ref a0), some (.int a1), some (.int a2), some (.int a3), none]) (st' := [.int a2, .int a1, .ref a0]) (sg := [(.aload_n 0, 0), (.iload_n 1, 0), (.iload_n 2, 0)]) (by decide +kernel) rfl ?_
  obtain ⟨_, o6, e5, m7, h⟩ := gOb_inv h
  refine Y.callN (yC.Vi (b := a0) (As := [.int a1, .int a2]) (st := []) (r := ("Partlister", T_X, 5)) hV.1 cb_X_needGap lk_X_45 in_X_needGap rfl se_X_needGap (by decide +kernel) rfl rfl (Nat.le_of_ble_eq_true rfl) (by decide) e5 m7) (k_X_needGap hV G4 a0 a1 a2) h (fun G8 _ h => ?_)
  refine Y.blk (pc' := 13) (L' := [some (.ref a0), some (.int a1), some (.int a2), some (.int a3), none]) (st' := [.int a3, .ref a0]) (sg := [(.aload_n 0, 0), (.iload_n 3, 0)]) (by decide +kernel) rfl ?_
  obtain ⟨_, o10, e9, m11, h⟩ := gOb_inv h
  refine Y.callN (yC.Vi (b := a0) (As := [.int a3]) (st := []) (r := ("Partlister", T_X, 5)) hV.1 cb_X_needKey lk_X_27 in_X_needKey rfl se_X_needKey (by decide +kernel) rfl rfl (Nat.le_of_ble_eq_true rfl) (by decide) e9 m11) (k_X_needKey hV G8 a0 a3) h (fun G12 _ h => ?_)
  refine Y.blk (pc' := 19) (L' := [some (.ref a0), some (.int a1), some (.int a2), some (.int a3), none]) (st' := [.int (nI 1), .int a1, .ref a0]) (sg := [(.aload_n 0, 0), (.iload_n 1, 0), (.iconst 1, nI 1)]) (by decide +kernel) rfl ?_
  obtain ⟨_, o14, e13, m15, h⟩ := gOb_inv h
  refine Y.callN (yC.Vi (b := a0) (As := [.int a1, .int (nI 1)]) (st := []) (r := ("Partlister", T_X, 5)) hV.1 cb_X_needRoom lk_X_30 in_X_needRoom rfl se_X_needRoom (by decide +kernel) rfl rfl (Nat.le_of_ble_eq_true rfl) (by decide) e13 m15) (k_X_needRoom hV G12 a0 a1 (nI 1)) h (fun G16 _ h => ?_)
  refine Y.blk (pc' := 24) (L' := [some (.ref a0), some (.int a1), some (.int a2), some (.int a3), none]) (st' := [.int a3, .ref a0]) (sg := [(.aload_n 0, 0), (.iload_n 3, 0)]) (by decide +kernel) rfl ?_
  obtain ⟨_, o18, e17, m19, h⟩ := gOb_inv h
  refine Y.callI (yC.Vi (b := a0) (As := [.int a3]) (st := []) (r := ("Partlister", T_X, 5)) hV.1 cb_X_make lk_X_38 in_X_make rfl se_X_make (by decide +kernel) rfl rfl (Nat.le_of_ble_eq_true rfl) (by decide) e17 m19) (k_X_make hV G16 a0 a3) h (fun v21 G20 _ h => ?_)
  refine Y.blk (pc' := 35) (L' := [some (.ref a0), some (.int a1), some (.int a2), some (.int a3), some (.int v21)]) (st' := [.int (-1), .int v21, .int a2, .int a1, .ref a0]) (sg := [(.istore 4, 0), (.aload_n 0, 0), (.iload_n 1, 0), (.iload_n 2, 0), (.iload 4, 0), (.iconst (-1), -1)]) (by decide +kernel) rfl ?_
  obtain ⟨_, o23, e22, m24, h⟩ := gOb_inv h
  refine Y.callN (yC.Vi (b := a0) (As := [.int a1, .int a2, .int v21, .int (-1)]) (st := []) (r := ("Partlister", T_X, 5)) hV.1 cb_X_bringIn lk_X_41 in_X_bringIn rfl se_X_bringIn (by decide +kernel) rfl rfl (Nat.le_of_ble_eq_true rfl) (by decide) e22 m24) (k_X_bringIn hV G20 a0 a1 a2 v21 (-1)) h (fun G25 _ h => ?_)
  refine Y.blk (pc' := 40) (L' := [some (.ref a0), some (.int a1), some (.int a2), some (.int a3), some (.int v21)]) (st' := [.int v21]) (sg := [(.iload 4, 0)]) (by decide +kernel) rfl ?_
  refine Y.callI (yC.S (As := [.int v21]) (st := []) hV.1 cb_X_tagOf lk_X_48 st_X_tagOf (by decide +kernel) rfl rfl (Nat.le_of_ble_eq_true rfl) (by decide)) (k_X_tagOf hV G25 v21) h (fun v28 G27 _ h => ?_)
  exact Y.iret rfl (by decide +kernel) h

def f_X_append (G : gH) (a0 : Nat) (a1 : Int32) (a2 : Int32) : gR :=
  gOb G a0 3 fun o2 => bV (f_X_needList G a0 a1) fun G4 => gOb G4 a0 3 fun o6 => bV (f_X_needList G4 a0 a2) fun G8 => gOb G8 a0 3 fun o10 => bV (f_X_needOtherRow G8 a0 a1 a2) fun G12 => gFA G12 a0 3 0 fun v13 => gOb G12 v13 1 fun o15 => bI (f_I_lengthOf G12 v13 a2) fun v18 G17 => gOb G17 a0 3 fun o20 => bV (f_X_needRoom G17 a0 a1 v18) fun G22 => gFA G22 a0 3 0 fun v23 => gOb G22 v23 1 fun o25 => bI (f_I_lengthOf G22 v23 a1) fun v28 G27 => gOb G27 a0 3 fun o30 => bI (f_X_bringAll G27 a0 a1 v28 a2) fun v33 G32 => gFA G32 a0 3 0 fun v34 => gOb G32 v34 1 fun o36 => bI (f_I_lengthOf G32 v34 a1) fun v39 G38 => rI v39 G38
theorem k_X_append {l : Launch} {D : va_G} {B : Nat} {O : State → Heap → Prop} (hV : zG l D B O) (G : gH) (a0 : Nat) (a1 : Int32) (a2 : Int32) : gMet (zVm l D B O) m_X_append 7 [.ref a0, .int a1, .int a2] G (f_X_append G a0 a1 a2) := by
  refine gMet.of (by decide +kernel) (Nat.le_of_ble_eq_true rfl) [some (.ref a0), some (.int a1), some (.int a2)] (fun ls h => zEn_ok (n := 3) h) ?_
  intro o Gf h
  unfold f_X_append at h
  refine Y.blk (pc' := 2) (L' := [some (.ref a0), some (.int a1), some (.int a2)]) (st' := [.int a1, .ref a0]) (sg := [(.aload_n 0, 0), (.iload_n 1, 0)]) (by decide +kernel) rfl ?_
  obtain ⟨_, o2, e1, m3, h⟩ := gOb_inv h
  refine Y.callN (yC.Vi (b := a0) (As := [.int a1]) (st := []) (r := ("Partlister", T_X, 5)) hV.1 cb_X_needList lk_X_23 in_X_needList rfl se_X_needList (by decide +kernel) rfl rfl (Nat.le_of_ble_eq_true rfl) (by decide) e1 m3) (k_X_needList hV G a0 a1) h (fun G4 _ h => ?_)
  refine Y.blk (pc' := 7) (L' := [some (.ref a0), some (.int a1), some (.int a2)]) (st' := [.int a2, .ref a0]) (sg := [(.aload_n 0, 0), (.iload_n 2, 0)]) (by decide +kernel) rfl ?_
  obtain ⟨_, o6, e5, m7, h⟩ := gOb_inv h
  refine Y.callN (yC.Vi (b := a0) (As := [.int a2]) (st := []) (r := ("Partlister", T_X, 5)) hV.1 cb_X_needList lk_X_23 in_X_needList rfl se_X_needList (by decide +kernel) rfl rfl (Nat.le_of_ble_eq_true rfl) (by decide) e5 m7) (k_X_needList hV G4 a0 a2) h (fun G8 _ h => ?_)
  refine Y.blk (pc' := 13) (L' := [some (.ref a0), some (.int a1), some (.int a2)]) (st' := [.int a2, .int a1, .ref a0]) (sg := [(.aload_n 0, 0), (.iload_n 1, 0), (.iload_n 2, 0)]) (by decide +kernel) rfl ?_
  obtain ⟨_, o10, e9, m11, h⟩ := gOb_inv h
  refine Y.callN (yC.Vi (b := a0) (As := [.int a1, .int a2]) (st := []) (r := ("Partlister", T_X, 5)) hV.1 cb_X_needOtherRow lk_X_51 in_X_needOtherRow rfl se_X_needOtherRow (by decide +kernel) rfl rfl (Nat.le_of_ble_eq_true rfl) (by decide) e9 m11) (k_X_needOtherRow hV G8 a0 a1 a2) h (fun G12 _ h => ?_)
  refine Y.blk (pc' := 19) (L' := [some (.ref a0), some (.int a1), some (.int a2)]) (st' := [.ref a0, .int a1, .ref a0]) (sg := [(.aload_n 0, 0), (.iload_n 1, 0), (.aload_n 0, 0)]) (by decide +kernel) rfl ?_
  refine Y.getA fl_X_10 (by decide +kernel) h (fun v13 h => ?_)
  refine Y.blk (pc' := 23) (L' := [some (.ref a0), some (.int a1), some (.int a2)]) (st' := [.int a2, .ref v13, .int a1, .ref a0]) (sg := [(.iload_n 2, 0)]) (by decide +kernel) rfl ?_
  obtain ⟨_, o15, e14, m16, h⟩ := gOb_inv h
  refine Y.callI (yC.Vi (b := v13) (As := [.int a2]) (st := [.int a1, .ref a0]) (r := ("Partlister$Lists", T_I, 7)) hV.1 cb_I_lengthOf lk_X_34 in_I_lengthOf rfl se_I_lengthOf (by decide +kernel) rfl rfl (Nat.le_of_ble_eq_true rfl) (by decide) e14 m16) (k_I_lengthOf hV G12 v13 a2) h (fun v18 G17 _ h => ?_)
  obtain ⟨_, o20, e19, m21, h⟩ := gOb_inv h
  refine Y.callN (yC.Vi (b := a0) (As := [.int a1, .int v18]) (st := []) (r := ("Partlister", T_X, 5)) hV.1 cb_X_needRoom lk_X_30 in_X_needRoom rfl se_X_needRoom (by decide +kernel) rfl rfl (Nat.le_of_ble_eq_true rfl) (by decide) e19 m21) (k_X_needRoom hV G17 a0 a1 v18) h (fun G22 _ h => ?_)
  refine Y.blk (pc' := 32) (L' := [some (.ref a0), some (.int a1), some (.int a2)]) (st' := [.ref a0, .int a1, .ref a0]) (sg := [(.aload_n 0, 0), (.iload_n 1, 0), (.aload_n 0, 0)]) (by decide +kernel) rfl ?_
  refine Y.getA fl_X_10 (by decide +kernel) h (fun v23 h => ?_)
  refine Y.blk (pc' := 36) (L' := [some (.ref a0), some (.int a1), some (.int a2)]) (st' := [.int a1, .ref v23, .int a1, .ref a0]) (sg := [(.iload_n 1, 0)]) (by decide +kernel) rfl ?_
  obtain ⟨_, o25, e24, m26, h⟩ := gOb_inv h
  refine Y.callI (yC.Vi (b := v23) (As := [.int a1]) (st := [.int a1, .ref a0]) (r := ("Partlister$Lists", T_I, 7)) hV.1 cb_I_lengthOf lk_X_34 in_I_lengthOf rfl se_I_lengthOf (by decide +kernel) rfl rfl (Nat.le_of_ble_eq_true rfl) (by decide) e24 m26) (k_I_lengthOf hV G22 v23 a1) h (fun v28 G27 _ h => ?_)
  refine Y.blk (pc' := 40) (L' := [some (.ref a0), some (.int a1), some (.int a2)]) (st' := [.int a2, .int v28, .int a1, .ref a0]) (sg := [(.iload_n 2, 0)]) (by decide +kernel) rfl ?_
  obtain ⟨_, o30, e29, m31, h⟩ := gOb_inv h
  refine Y.callI (yC.Vi (b := a0) (As := [.int a1, .int v28, .int a2]) (st := []) (r := ("Partlister", T_X, 5)) hV.1 cb_X_bringAll lk_X_54 in_X_bringAll rfl se_X_bringAll (by decide +kernel) rfl rfl (Nat.le_of_ble_eq_true rfl) (by decide) e29 m31) (k_X_bringAll hV G27 a0 a1 v28 a2) h (fun v33 G32 _ h => ?_)
  refine Y.blk (pc' := 45) (L' := [some (.ref a0), some (.int a1), some (.int a2)]) (st' := [.ref a0]) (sg := [(.pop, 0), (.aload_n 0, 0)]) (by decide +kernel) rfl ?_
  refine Y.getA fl_X_10 (by decide +kernel) h (fun v34 h => ?_)
  refine Y.blk (pc' := 49) (L' := [some (.ref a0), some (.int a1), some (.int a2)]) (st' := [.int a1, .ref v34]) (sg := [(.iload_n 1, 0)]) (by decide +kernel) rfl ?_
  obtain ⟨_, o36, e35, m37, h⟩ := gOb_inv h
  refine Y.callI (yC.Vi (b := v34) (As := [.int a1]) (st := []) (r := ("Partlister$Lists", T_I, 7)) hV.1 cb_I_lengthOf lk_X_34 in_I_lengthOf rfl se_I_lengthOf (by decide +kernel) rfl rfl (Nat.le_of_ble_eq_true rfl) (by decide) e35 m37) (k_I_lengthOf hV G32 v34 a1) h (fun v39 G38 _ h => ?_)
  exact Y.iret rfl (by decide +kernel) h

def f_X_keyOf (G : gH) (a0 : Int32) : gR :=
  rI (a0 &&& (nI 31)) G
theorem k_X_keyOf {l : Launch} {D : va_G} {B : Nat} {O : State → Heap → Prop} (hV : zG l D B O) (G : gH) (a0 : Int32) : gMet (zVm l D B O) m_X_keyOf 1 [.int a0] G (f_X_keyOf G a0) := by
  refine gMet.of (by decide +kernel) (Nat.le_of_ble_eq_true rfl) [some (.int a0)] (fun ls h => zEn_ok (n := 1) h) ?_
  intro o Gf h
  unfold f_X_keyOf at h
  refine Y.blk (pc' := 4) (L' := [some (.int a0)]) (st' := [.int (a0 &&& (nI 31))]) (sg := [(.iload_n 0, 0), (.bipush 31, nI 31), (.iand, 0)]) (by decide +kernel) rfl ?_
  exact Y.iret rfl (by decide +kernel) h

def f_I_keyAt (G : gH) (a0 : Nat) (a1 : Int32) (a2 : Int32) : gR :=
  gFA G a0 1 0 fun v1 => gOb G a0 1 fun o3 => bI (f_I_cellOf G a0 a1 a2) fun v6 G5 => gOb G5 v1 2 fun o8 => bI (f_N_read G5 v1 v6) fun v11 G10 => bI (f_X_keyOf G10 v11) fun v14 G13 => rI v14 G13
theorem k_I_keyAt {l : Launch} {D : va_G} {B : Nat} {O : State → Heap → Prop} (hV : zG l D B O) (G : gH) (a0 : Nat) (a1 : Int32) (a2 : Int32) : gMet (zVm l D B O) m_I_keyAt 3 [.ref a0, .int a1, .int a2] G (f_I_keyAt G a0 a1 a2) := by
  refine gMet.of (by decide +kernel) (Nat.le_of_ble_eq_true rfl) [some (.ref a0), some (.int a1), some (.int a2)] (fun ls h => zEn_ok (n := 3) h) ?_
  intro o Gf h
  unfold f_I_keyAt at h
  refine Y.blk (pc' := 1) (L' := [some (.ref a0), some (.int a1), some (.int a2)]) (st' := [.ref a0]) (sg := [(.aload_n 0, 0)]) (by decide +kernel) rfl ?_
  refine Y.getA fl_I_14 (by decide +kernel) h (fun v1 h => ?_)
  refine Y.blk (pc' := 7) (L' := [some (.ref a0), some (.int a1), some (.int a2)]) (st' := [.int a2, .int a1, .ref a0, .ref v1]) (sg := [(.aload_n 0, 0), (.iload_n 1, 0), (.iload_n 2, 0)]) (by decide +kernel) rfl ?_
  obtain ⟨_, o3, e2, m4, h⟩ := gOb_inv h
  refine Y.callI (yC.Vi (b := a0) (As := [.int a1, .int a2]) (st := [.ref v1]) (r := ("Partlister$Lists", T_I, 7)) hV.1 cb_I_cellOf lk_I_43 in_I_cellOf rfl se_I_cellOf (by decide +kernel) rfl rfl (Nat.le_of_ble_eq_true rfl) (by decide) e2 m4) (k_I_cellOf hV G a0 a1 a2) h (fun v6 G5 _ h => ?_)
  obtain ⟨_, o8, e7, m9, h⟩ := gOb_inv h
  refine Y.callI (yC.Vi (b := v1) (As := [.int v6]) (st := []) (r := ("Partlister$Numbers", T_N, 1)) hV.1 cb_N_read lk_I_39 in_N_read rfl se_N_read (by decide +kernel) rfl rfl (Nat.le_of_ble_eq_true rfl) (by decide) e7 m9) (k_N_read hV G5 v1 v6) h (fun v11 G10 _ h => ?_)
  refine Y.callI (yC.SN (As := [.int v11]) (st := []) hV.1 cb_X_keyOf lk_I_47 st_X_keyOf (by decide +kernel) rfl rfl (Nat.le_of_ble_eq_true rfl) (by decide)) (k_X_keyOf hV G10 v11) h (fun v14 G13 _ h => ?_)
  exact Y.iret rfl (by decide +kernel) h

def f_I_keysOf_L11 (K35 : gH → Int32 → gR) : Nat → gH → Nat → Int32 → Int32 → Int32 → Int32 → gR
  | 0, _, _, _, _, _, _ => none
  | n + 1, G, x0, x1, x2, x3, x4 =>
    if x2 ≤ x4 then K35 G x3
    else gOb G x0 1 fun o7 => bI (f_I_keyAt G x0 x1 x4) fun v10 G9 => f_I_keysOf_L11 K35 n G9 x0 x1 x2 (x3 ||| ((nI 1) <<< (v10 &&& 31))) (x4 + (nI 1))
def f_I_keysOf (G : gH) (a0 : Nat) (a1 : Int32) : gR :=
  gOb G a0 1 fun o2 => bI (f_I_lengthOf G a0 a1) fun v5 G4 => f_I_keysOf_L11 (fun G13 x12 => rI x12 G13) zFu G4 a0 a1 v5 (nI 0) (nI 0)
theorem k_I_keysOf_L11 {l : Launch} {D : va_G} {B : Nat} {O : State → Heap → Prop} (hV : zG l D B O) {o : gO} {Gf : gH} (K35 : gH → Int32 → gR) (hK35 : ∀ (G : gH) (x3 : Int32), K35 G x3 = some (o, Gf) → Y (zVm l D B O) m_I_keysOf 4 o Gf 35 [none, none, none, some (.int x3), none] [] G) : ∀ (n : Nat) (G : gH) (x0 : Nat) (x1 : Int32) (x2 : Int32) (x3 : Int32) (x4 : Int32), f_I_keysOf_L11 K35 n G x0 x1 x2 x3 x4 = some (o, Gf) → Y (zVm l D B O) m_I_keysOf 4 o Gf 11 [some (.ref x0), some (.int x1), some (.int x2), some (.int x3), some (.int x4)] [] G := by
  intro n
  induction n with
  | zero => intro G x0 x1 x2 x3 x4 h; cases h
  | succ n ih =>
    intro G x0 x1 x2 x3 x4 h
    unfold f_I_keysOf_L11 at h
    refine Y.blk (pc' := 14) (L' := [some (.ref x0), some (.int x1), some (.int x2), some (.int x3), some (.int x4)]) (st' := [.int x2, .int x4]) (sg := [(.iload 4, 0), (.iload_n 2, 0)]) (by decide +kernel) rfl ?_
    refine Y.ic_ge (off := 21) (tgt := 35) (by decide +kernel) (by decide) h (fun c11 h => ?_) (fun c11 h => ?_)
    · refine Y.less (L' := [none, none, none, some (.int x3), none]) (zLe_none (zLe_none (zLe_none (zLe_some (zLe_none (zLe_nil)))))) ?_
      exact hK35 G x3 h
    · refine Y.blk (pc' := 23) (L' := [some (.ref x0), some (.int x1), some (.int x2), some (.int x3), some (.int x4)]) (st' := [.int x4, .int x1, .ref x0, .int (nI 1), .int x3]) (sg := [(.iload_n 3, 0), (.iconst 1, nI 1), (.aload_n 0, 0), (.iload_n 1, 0), (.iload 4, 0)]) (by decide +kernel) rfl ?_
      obtain ⟨_, o7, e6, m8, h⟩ := gOb_inv h
      refine Y.callI (yC.Vi (b := x0) (As := [.int x1, .int x4]) (st := [.int (nI 1), .int x3]) (r := ("Partlister$Lists", T_I, 7)) hV.1 cb_I_keyAt lk_I_101 in_I_keyAt rfl se_I_keyAt (by decide +kernel) rfl rfl (Nat.le_of_ble_eq_true rfl) (by decide) e6 m8) (k_I_keyAt hV G x0 x1 x4) h (fun v10 G9 _ h => ?_)
      refine Y.blk (pc' := 32) (L' := [some (.ref x0), some (.int x1), some (.int x2), some (.int (x3 ||| ((nI 1) <<< (v10 &&& 31)))), some (.int (x4 + (nI 1)))]) (st' := []) (sg := [(.ishl, 0), (.ior, 0), (.istore_n 3, 0), (.iinc 4 1, nI 1)]) (by decide +kernel) rfl ?_
      refine Y.goto (off := -21) (tgt := 11) (by decide +kernel) (by decide) ?_
      exact ih G9 x0 x1 x2 (x3 ||| ((nI 1) <<< (v10 &&& 31))) (x4 + (nI 1)) h
theorem k_I_keysOf {l : Launch} {D : va_G} {B : Nat} {O : State → Heap → Prop} (hV : zG l D B O) (G : gH) (a0 : Nat) (a1 : Int32) : gMet (zVm l D B O) m_I_keysOf 4 [.ref a0, .int a1] G (f_I_keysOf G a0 a1) := by
  refine gMet.of (by decide +kernel) (Nat.le_of_ble_eq_true rfl) [some (.ref a0), some (.int a1), none, none, none] (fun ls h => zEn_ok (n := 5) h) ?_
  intro o Gf h
  unfold f_I_keysOf at h
  refine Y.blk (pc' := 2) (L' := [some (.ref a0), some (.int a1), none, none, none]) (st' := [.int a1, .ref a0]) (sg := [(.aload_n 0, 0), (.iload_n 1, 0)]) (by decide +kernel) rfl ?_
  obtain ⟨_, o2, e1, m3, h⟩ := gOb_inv h
  refine Y.callI (yC.Vi (b := a0) (As := [.int a1]) (st := []) (r := ("Partlister$Lists", T_I, 7)) hV.1 cb_I_lengthOf lk_I_59 in_I_lengthOf rfl se_I_lengthOf (by decide +kernel) rfl rfl (Nat.le_of_ble_eq_true rfl) (by decide) e1 m3) (k_I_lengthOf hV G a0 a1) h (fun v5 G4 _ h => ?_)
  refine Y.blk (pc' := 11) (L' := [some (.ref a0), some (.int a1), some (.int v5), some (.int (nI 0)), some (.int (nI 0))]) (st' := []) (sg := [(.istore_n 2, 0), (.iconst 0, nI 0), (.istore_n 3, 0), (.iconst 0, nI 0), (.istore 4, 0)]) (by decide +kernel) rfl ?_
  refine k_I_keysOf_L11 hV _ ?_  zFu G4 a0 a1 v5 (nI 0) (nI 0) h
  · intro G13 x12 h
    refine Y.blk (pc' := 36) (L' := [none, none, none, some (.int x12), none]) (st' := [.int x12]) (sg := [(.iload_n 3, 0)]) (by decide +kernel) rfl ?_
    exact Y.iret rfl (by decide +kernel) h

def f_I_shareNoKey (G : gH) (a0 : Nat) (a1 : Int32) (a2 : Int32) : gR :=
  gOb G a0 1 fun o2 => bI (f_I_keysOf G a0 a1) fun v5 G4 => gOb G4 a0 1 fun o7 => bI (f_I_keysOf G4 a0 a2) fun v10 G9 => if (v5 &&& v10) = 0 then rZ (nI 1) G9
  else rZ (nI 0) G9
theorem k_I_shareNoKey {l : Launch} {D : va_G} {B : Nat} {O : State → Heap → Prop} (hV : zG l D B O) (G : gH) (a0 : Nat) (a1 : Int32) (a2 : Int32) : gMet (zVm l D B O) m_I_shareNoKey 5 [.ref a0, .int a1, .int a2] G (f_I_shareNoKey G a0 a1 a2) := by
  refine gMet.of (by decide +kernel) (Nat.le_of_ble_eq_true rfl) [some (.ref a0), some (.int a1), some (.int a2)] (fun ls h => zEn_ok (n := 3) h) ?_
  intro o Gf h
  unfold f_I_shareNoKey at h
  refine Y.blk (pc' := 2) (L' := [some (.ref a0), some (.int a1), some (.int a2)]) (st' := [.int a1, .ref a0]) (sg := [(.aload_n 0, 0), (.iload_n 1, 0)]) (by decide +kernel) rfl ?_
  obtain ⟨_, o2, e1, m3, h⟩ := gOb_inv h
  refine Y.callI (yC.Vi (b := a0) (As := [.int a1]) (st := []) (r := ("Partlister$Lists", T_I, 7)) hV.1 cb_I_keysOf lk_I_104 in_I_keysOf rfl se_I_keysOf (by decide +kernel) rfl rfl (Nat.le_of_ble_eq_true rfl) (by decide) e1 m3) (k_I_keysOf hV G a0 a1) h (fun v5 G4 _ h => ?_)
  refine Y.blk (pc' := 7) (L' := [some (.ref a0), some (.int a1), some (.int a2)]) (st' := [.int a2, .ref a0, .int v5]) (sg := [(.aload_n 0, 0), (.iload_n 2, 0)]) (by decide +kernel) rfl ?_
  obtain ⟨_, o7, e6, m8, h⟩ := gOb_inv h
  refine Y.callI (yC.Vi (b := a0) (As := [.int a2]) (st := [.int v5]) (r := ("Partlister$Lists", T_I, 7)) hV.1 cb_I_keysOf lk_I_104 in_I_keysOf rfl se_I_keysOf (by decide +kernel) rfl rfl (Nat.le_of_ble_eq_true rfl) (by decide) e6 m8) (k_I_keysOf hV G4 a0 a2) h (fun v10 G9 _ h => ?_)
  refine Y.blk (pc' := 11) (L' := [some (.ref a0), some (.int a1), some (.int a2)]) (st' := [.int (v5 &&& v10)]) (sg := [(.iand, 0)]) (by decide +kernel) rfl ?_
  refine Y.if_ne (off := 7) (tgt := 18) (by decide +kernel) (by decide) h (fun c11 h => ?_) (fun c11 h => ?_)
  · refine Y.blk (pc' := 15) (L' := [some (.ref a0), some (.int a1), some (.int a2)]) (st' := [.int (nI 1)]) (sg := [(.iconst 1, nI 1)]) (by decide +kernel) rfl ?_
    refine Y.goto (off := 4) (tgt := 19) (by decide +kernel) (by decide) ?_
    exact Y.zret rfl (by decide +kernel) h
  · refine Y.blk (pc' := 19) (L' := [some (.ref a0), some (.int a1), some (.int a2)]) (st' := [.int (nI 0)]) (sg := [(.iconst 0, nI 0)]) (by decide +kernel) rfl ?_
    exact Y.zret rfl (by decide +kernel) h
end
section
def f_X_areApart (G : gH) (a0 : Nat) (a1 : Int32) (a2 : Int32) : gR :=
  gOb G a0 3 fun o2 => bV (f_X_needList G a0 a1) fun G4 => gOb G4 a0 3 fun o6 => bV (f_X_needList G4 a0 a2) fun G8 => gFA G8 a0 3 0 fun v9 => gOb G8 v9 1 fun o11 => bI (f_I_shareNoKey G8 v9 a1 a2) fun v14 G13 => rZ v14 G13
theorem k_X_areApart {l : Launch} {D : va_G} {B : Nat} {O : State → Heap → Prop} (hV : zG l D B O) (G : gH) (a0 : Nat) (a1 : Int32) (a2 : Int32) : gMet (zVm l D B O) m_X_areApart 7 [.ref a0, .int a1, .int a2] G (f_X_areApart G a0 a1 a2) := by
  refine gMet.of (by decide +kernel) (Nat.le_of_ble_eq_true rfl) [some (.ref a0), some (.int a1), some (.int a2)] (fun ls h => zEn_ok (n := 3) h) ?_
  intro o Gf h
  unfold f_X_areApart at h
  refine Y.blk (pc' := 2) (L' := [some (.ref a0), some (.int a1), some (.int a2)]) (st' := [.int a1, .ref a0]) (sg := [(.aload_n 0, 0), (.iload_n 1, 0)]) (by decide +kernel) rfl ?_
  obtain ⟨_, o2, e1, m3, h⟩ := gOb_inv h
  refine Y.callN (yC.Vi (b := a0) (As := [.int a1]) (st := []) (r := ("Partlister", T_X, 5)) hV.1 cb_X_needList lk_X_23 in_X_needList rfl se_X_needList (by decide +kernel) rfl rfl (Nat.le_of_ble_eq_true rfl) (by decide) e1 m3) (k_X_needList hV G a0 a1) h (fun G4 _ h => ?_)
  refine Y.blk (pc' := 7) (L' := [some (.ref a0), some (.int a1), some (.int a2)]) (st' := [.int a2, .ref a0]) (sg := [(.aload_n 0, 0), (.iload_n 2, 0)]) (by decide +kernel) rfl ?_
  obtain ⟨_, o6, e5, m7, h⟩ := gOb_inv h
  refine Y.callN (yC.Vi (b := a0) (As := [.int a2]) (st := []) (r := ("Partlister", T_X, 5)) hV.1 cb_X_needList lk_X_23 in_X_needList rfl se_X_needList (by decide +kernel) rfl rfl (Nat.le_of_ble_eq_true rfl) (by decide) e5 m7) (k_X_needList hV G4 a0 a2) h (fun G8 _ h => ?_)
  refine Y.blk (pc' := 11) (L' := [some (.ref a0), some (.int a1), some (.int a2)]) (st' := [.ref a0]) (sg := [(.aload_n 0, 0)]) (by decide +kernel) rfl ?_
  refine Y.getA fl_X_10 (by decide +kernel) h (fun v9 h => ?_)
  refine Y.blk (pc' := 16) (L' := [some (.ref a0), some (.int a1), some (.int a2)]) (st' := [.int a2, .int a1, .ref v9]) (sg := [(.iload_n 1, 0), (.iload_n 2, 0)]) (by decide +kernel) rfl ?_
  obtain ⟨_, o11, e10, m12, h⟩ := gOb_inv h
  refine Y.callI (yC.Vi (b := v9) (As := [.int a1, .int a2]) (st := []) (r := ("Partlister$Lists", T_I, 7)) hV.1 cb_I_shareNoKey lk_X_196 in_I_shareNoKey rfl se_I_shareNoKey (by decide +kernel) rfl rfl (Nat.le_of_ble_eq_true rfl) (by decide) e10 m12) (k_I_shareNoKey hV G8 v9 a1 a2) h (fun v14 G13 _ h => ?_)
  exact Y.zret rfl (by decide +kernel) h

def f_X_endAround_L11 (K39 : gH → Int32 → gR) : Nat → gH → Nat → Int32 → Int32 → Int32 → gR
  | 0, _, _, _, _, _ => none
  | n + 1, G, x0, x1, x2, x3 =>
    if (nI 3) ≤ x3 then K39 G x2
    else gOb G x0 3 fun o8 => bI (f_X_isOnRowOf G x0 x3 x1) fun v11 G10 => if v11 = 0 then f_X_endAround_L11 K39 n G10 x0 x1 x2 (x3 + (nI 1))
      else gFA G10 x0 3 1 fun v12 => gOb G10 v12 0 fun o14 => bV (f_U_finish G10 v12 x3) fun G16 => f_X_endAround_L11 K39 n G16 x0 x1 x2 (x3 + (nI 1))
def f_X_endAround (G : gH) (a0 : Nat) (a1 : Int32) : gR :=
  gFA G a0 3 0 fun v1 => gOb G v1 1 fun o3 => bI (f_I_endOthers G v1 a1) fun v6 G5 => f_X_endAround_L11 (fun G20 x19 => rI x19 G20) zFu G5 a0 a1 v6 (nI 0)
theorem k_X_endAround_L11 {l : Launch} {D : va_G} {B : Nat} {O : State → Heap → Prop} (hV : zG l D B O) {o : gO} {Gf : gH} (K39 : gH → Int32 → gR) (hK39 : ∀ (G : gH) (x2 : Int32), K39 G x2 = some (o, Gf) → Y (zVm l D B O) m_X_endAround 5 o Gf 39 [none, none, some (.int x2), none] [] G) : ∀ (n : Nat) (G : gH) (x0 : Nat) (x1 : Int32) (x2 : Int32) (x3 : Int32), f_X_endAround_L11 K39 n G x0 x1 x2 x3 = some (o, Gf) → Y (zVm l D B O) m_X_endAround 5 o Gf 11 [some (.ref x0), some (.int x1), some (.int x2), some (.int x3)] [] G := by
  intro n
  induction n with
  | zero => intro G x0 x1 x2 x3 h; cases h
  | succ n ih =>
    intro G x0 x1 x2 x3 h
    unfold f_X_endAround_L11 at h
    refine Y.blk (pc' := 13) (L' := [some (.ref x0), some (.int x1), some (.int x2), some (.int x3)]) (st' := [.int (nI 3), .int x3]) (sg := [(.iload_n 3, 0), (.iconst 3, nI 3)]) (by decide +kernel) rfl ?_
    refine Y.ic_ge (off := 26) (tgt := 39) (by decide +kernel) (by decide) h (fun c18 h => ?_) (fun c18 h => ?_)
    · refine Y.less (L' := [none, none, some (.int x2), none]) (zLe_none (zLe_none (zLe_some (zLe_none (zLe_nil))))) ?_
      exact hK39 G x2 h
    · refine Y.blk (pc' := 19) (L' := [some (.ref x0), some (.int x1), some (.int x2), some (.int x3)]) (st' := [.int x1, .int x3, .ref x0]) (sg := [(.aload_n 0, 0), (.iload_n 3, 0), (.iload_n 1, 0)]) (by decide +kernel) rfl ?_
      obtain ⟨_, o8, e7, m9, h⟩ := gOb_inv h
      refine Y.callI (yC.Vi (b := x0) (As := [.int x3, .int x1]) (st := []) (r := ("Partlister", T_X, 5)) hV.1 cb_X_isOnRowOf lk_X_293 in_X_isOnRowOf rfl se_X_isOnRowOf (by decide +kernel) rfl rfl (Nat.le_of_ble_eq_true rfl) (by decide) e7 m9) (k_X_isOnRowOf hV G x0 x3 x1) h (fun v11 G10 _ h => ?_)
      refine Y.if_eq (off := 11) (tgt := 33) (by decide +kernel) (by decide) h (fun c17 h => ?_) (fun c17 h => ?_)
      · refine Y.blk (pc' := 36) (L' := [some (.ref x0), some (.int x1), some (.int x2), some (.int (x3 + (nI 1)))]) (st' := []) (sg := [(.iinc 3 1, nI 1)]) (by decide +kernel) rfl ?_
        refine Y.goto (off := -25) (tgt := 11) (by decide +kernel) (by decide) ?_
        exact ih G10 x0 x1 x2 (x3 + (nI 1)) h
      · refine Y.blk (pc' := 26) (L' := [some (.ref x0), some (.int x1), some (.int x2), some (.int x3)]) (st' := [.ref x0]) (sg := [(.aload_n 0, 0)]) (by decide +kernel) rfl ?_
        refine Y.getA fl_X_19 (by decide +kernel) h (fun v12 h => ?_)
        refine Y.blk (pc' := 30) (L' := [some (.ref x0), some (.int x1), some (.int x2), some (.int x3)]) (st' := [.int x3, .ref v12]) (sg := [(.iload_n 3, 0)]) (by decide +kernel) rfl ?_
        obtain ⟨_, o14, e13, m15, h⟩ := gOb_inv h
        refine Y.callN (yC.Vi (b := v12) (As := [.int x3]) (st := []) (r := ("Partlister$Cursors", T_U, 5)) hV.1 cb_U_finish lk_X_156 in_U_finish rfl se_U_finish (by decide +kernel) rfl rfl (Nat.le_of_ble_eq_true rfl) (by decide) e13 m15) (k_U_finish hV G10 v12 x3) h (fun G16 _ h => ?_)
        refine Y.blk (pc' := 36) (L' := [some (.ref x0), some (.int x1), some (.int x2), some (.int (x3 + (nI 1)))]) (st' := []) (sg := [(.iinc 3 1, nI 1)]) (by decide +kernel) rfl ?_
        refine Y.goto (off := -25) (tgt := 11) (by decide +kernel) (by decide) ?_
        exact ih G16 x0 x1 x2 (x3 + (nI 1)) h
theorem k_X_endAround {l : Launch} {D : va_G} {B : Nat} {O : State → Heap → Prop} (hV : zG l D B O) (G : gH) (a0 : Nat) (a1 : Int32) : gMet (zVm l D B O) m_X_endAround 5 [.ref a0, .int a1] G (f_X_endAround G a0 a1) := by
  refine gMet.of (by decide +kernel) (Nat.le_of_ble_eq_true rfl) [some (.ref a0), some (.int a1), none, none] (fun ls h => zEn_ok (n := 4) h) ?_
  intro o Gf h
  unfold f_X_endAround at h
  refine Y.blk (pc' := 1) (L' := [some (.ref a0), some (.int a1), none, none]) (st' := [.ref a0]) (sg := [(.aload_n 0, 0)]) (by decide +kernel) rfl ?_
  refine Y.getA fl_X_10 (by decide +kernel) h (fun v1 h => ?_)
  refine Y.blk (pc' := 5) (L' := [some (.ref a0), some (.int a1), none, none]) (st' := [.int a1, .ref v1]) (sg := [(.iload_n 1, 0)]) (by decide +kernel) rfl ?_
  obtain ⟨_, o3, e2, m4, h⟩ := gOb_inv h
  refine Y.callI (yC.Vi (b := v1) (As := [.int a1]) (st := []) (r := ("Partlister$Lists", T_I, 7)) hV.1 cb_I_endOthers lk_X_290 in_I_endOthers rfl se_I_endOthers (by decide +kernel) rfl rfl (Nat.le_of_ble_eq_true rfl) (by decide) e2 m4) (k_I_endOthers hV G v1 a1) h (fun v6 G5 _ h => ?_)
  refine Y.blk (pc' := 11) (L' := [some (.ref a0), some (.int a1), some (.int v6), some (.int (nI 0))]) (st' := []) (sg := [(.istore_n 2, 0), (.iconst 0, nI 0), (.istore_n 3, 0)]) (by decide +kernel) rfl ?_
  refine k_X_endAround_L11 hV _ ?_  zFu G5 a0 a1 v6 (nI 0) h
  · intro G20 x19 h
    refine Y.blk (pc' := 40) (L' := [none, none, some (.int x19), none]) (st' := [.int x19]) (sg := [(.iload_n 2, 0)]) (by decide +kernel) rfl ?_
    exact Y.iret rfl (by decide +kernel) h

def f_X_needRow (G : gH) (a0 : Nat) (a1 : Int32) : gR :=
  if a1 < 0 then gThrow "java/lang/IndexOutOfBoundsException" G
  else if a1 < (nI 2) then rV G
    else gThrow "java/lang/IndexOutOfBoundsException" G
theorem k_X_needRow {l : Launch} {D : va_G} {B : Nat} {O : State → Heap → Prop} (hV : zG l D B O) (G : gH) (a0 : Nat) (a1 : Int32) : gMet (zVm l D B O) m_X_needRow 6 [.ref a0, .int a1] G (f_X_needRow G a0 a1) := by
  refine gMet.of (by decide +kernel) (Nat.le_of_ble_eq_true rfl) [some (.ref a0), some (.int a1)] (fun ls h => zEn_ok (n := 2) h) ?_
  intro o Gf h
  unfold f_X_needRow at h
  refine Y.blk (pc' := 1) (L' := [some (.ref a0), some (.int a1)]) (st' := [.int a1]) (sg := [(.iload_n 1, 0)]) (by decide +kernel) rfl ?_
  refine Y.if_lt (off := 8) (tgt := 9) (by decide +kernel) (by decide) h (fun c2 h => ?_) (fun c2 h => ?_)
  · exact Y.throwSW (is := 331) (text := "row is not 0 or 1") (names := zNm) hV.1 (hV.2 _ _ _ (by decide +kernel)) (by decide +kernel) (by decide +kernel) ck_X_125 ini_IOE tw_X_129 tg_X_129 (by decide) (by decide) rfl (Nat.le_of_ble_eq_true rfl) (by decide +kernel) (by decide +kernel) (by decide +kernel) (by decide +kernel) (by decide +kernel) h
  · refine Y.blk (pc' := 6) (L' := [some (.ref a0), some (.int a1)]) (st' := [.int (nI 2), .int a1]) (sg := [(.iload_n 1, 0), (.iconst 2, nI 2)]) (by decide +kernel) rfl ?_
    refine Y.ic_lt (off := 14) (tgt := 20) (by decide +kernel) (by decide) h (fun c1 h => ?_) (fun c1 h => ?_)
    · exact Y.vret rfl (by decide +kernel) h
    · exact Y.throwSW (is := 331) (text := "row is not 0 or 1") (names := zNm) hV.1 (hV.2 _ _ _ (by decide +kernel)) (by decide +kernel) (by decide +kernel) ck_X_125 ini_IOE tw_X_129 tg_X_129 (by decide) (by decide) rfl (Nat.le_of_ble_eq_true rfl) (by decide +kernel) (by decide +kernel) (by decide +kernel) (by decide +kernel) (by decide +kernel) h

def f_I_copyToRow_L9 (K35 : gH → Nat → Int32 → Int32 → gR) : Nat → gH → Nat → Int32 → Int32 → Int32 → Int32 → gR
  | 0, _, _, _, _, _, _ => none
  | n + 1, G, x0, x1, x2, x3, x4 =>
    if x3 ≤ x4 then K35 G x0 x1 x3
    else gOb G x0 1 fun o7 => bI (f_I_thingAt G x0 x2 x4) fun v10 G9 => gOb G9 x0 1 fun o12 => bV (f_I_write G9 x0 x1 x4 v10) fun G14 => f_I_copyToRow_L9 K35 n G14 x0 x1 x2 x3 (x4 + (nI 1))
def f_I_copyToRow (G : gH) (a0 : Nat) (a1 : Int32) (a2 : Int32) : gR :=
  gOb G a0 1 fun o2 => bI (f_I_lengthOf G a0 a2) fun v5 G4 => f_I_copyToRow_L9 (fun G19 x16 x17 x18 => gFA G19 x16 1 1 fun v20 => gOb G19 v20 2 fun o22 => bV (f_N_write G19 v20 x17 x18) fun G24 => rV G24) zFu G4 a0 a1 a2 v5 (nI 0)
theorem k_I_copyToRow_L9 {l : Launch} {D : va_G} {B : Nat} {O : State → Heap → Prop} (hV : zG l D B O) {o : gO} {Gf : gH} (K35 : gH → Nat → Int32 → Int32 → gR) (hK35 : ∀ (G : gH) (x0 : Nat) (x1 : Int32) (x3 : Int32), K35 G x0 x1 x3 = some (o, Gf) → Y (zVm l D B O) m_I_copyToRow 4 o Gf 35 [some (.ref x0), some (.int x1), none, some (.int x3), none] [] G) : ∀ (n : Nat) (G : gH) (x0 : Nat) (x1 : Int32) (x2 : Int32) (x3 : Int32) (x4 : Int32), f_I_copyToRow_L9 K35 n G x0 x1 x2 x3 x4 = some (o, Gf) → Y (zVm l D B O) m_I_copyToRow 4 o Gf 9 [some (.ref x0), some (.int x1), some (.int x2), some (.int x3), some (.int x4)] [] G := by
  intro n
  induction n with
  | zero => intro G x0 x1 x2 x3 x4 h; cases h
  | succ n ih =>
    intro G x0 x1 x2 x3 x4 h
    unfold f_I_copyToRow_L9 at h
    refine Y.blk (pc' := 12) (L' := [some (.ref x0), some (.int x1), some (.int x2), some (.int x3), some (.int x4)]) (st' := [.int x3, .int x4]) (sg := [(.iload 4, 0), (.iload_n 3, 0)]) (by decide +kernel) rfl ?_
    refine Y.ic_ge (off := 23) (tgt := 35) (by decide +kernel) (by decide) h (fun c15 h => ?_) (fun c15 h => ?_)
    · refine Y.less (L' := [some (.ref x0), some (.int x1), none, some (.int x3), none]) (zLe_some (zLe_some (zLe_none (zLe_some (zLe_none (zLe_nil)))))) ?_
      exact hK35 G x0 x1 x3 h
    · refine Y.blk (pc' := 23) (L' := [some (.ref x0), some (.int x1), some (.int x2), some (.int x3), some (.int x4)]) (st' := [.int x4, .int x2, .ref x0, .int x4, .int x1, .ref x0]) (sg := [(.aload_n 0, 0), (.iload_n 1, 0), (.iload 4, 0), (.aload_n 0, 0), (.iload_n 2, 0), (.iload 4, 0)]) (by decide +kernel) rfl ?_
      obtain ⟨_, o7, e6, m8, h⟩ := gOb_inv h
      refine Y.callI (yC.Vi (b := x0) (As := [.int x2, .int x4]) (st := [.int x4, .int x1, .ref x0]) (r := ("Partlister$Lists", T_I, 7)) hV.1 cb_I_thingAt lk_I_50 in_I_thingAt rfl se_I_thingAt (by decide +kernel) rfl rfl (Nat.le_of_ble_eq_true rfl) (by decide) e6 m8) (k_I_thingAt hV G x0 x2 x4) h (fun v10 G9 _ h => ?_)
      obtain ⟨_, o12, e11, m13, h⟩ := gOb_inv h
      refine Y.callN (yC.Vi (b := x0) (As := [.int x1, .int x4, .int v10]) (st := []) (r := ("Partlister$Lists", T_I, 7)) hV.1 cb_I_write lk_I_53 in_I_write rfl se_I_write (by decide +kernel) rfl rfl (Nat.le_of_ble_eq_true rfl) (by decide) e11 m13) (k_I_write hV G9 x0 x1 x4 v10) h (fun G14 _ h => ?_)
      refine Y.blk (pc' := 32) (L' := [some (.ref x0), some (.int x1), some (.int x2), some (.int x3), some (.int (x4 + (nI 1)))]) (st' := []) (sg := [(.iinc 4 1, nI 1)]) (by decide +kernel) rfl ?_
      refine Y.goto (off := -23) (tgt := 9) (by decide +kernel) (by decide) ?_
      exact ih G14 x0 x1 x2 x3 (x4 + (nI 1)) h
theorem k_I_copyToRow {l : Launch} {D : va_G} {B : Nat} {O : State → Heap → Prop} (hV : zG l D B O) (G : gH) (a0 : Nat) (a1 : Int32) (a2 : Int32) : gMet (zVm l D B O) m_I_copyToRow 4 [.ref a0, .int a1, .int a2] G (f_I_copyToRow G a0 a1 a2) := by
  refine gMet.of (by decide +kernel) (Nat.le_of_ble_eq_true rfl) [some (.ref a0), some (.int a1), some (.int a2), none, none] (fun ls h => zEn_ok (n := 5) h) ?_
  intro o Gf h
  unfold f_I_copyToRow at h
  refine Y.blk (pc' := 2) (L' := [some (.ref a0), some (.int a1), some (.int a2), none, none]) (st' := [.int a2, .ref a0]) (sg := [(.aload_n 0, 0), (.iload_n 2, 0)]) (by decide +kernel) rfl ?_
  obtain ⟨_, o2, e1, m3, h⟩ := gOb_inv h
  refine Y.callI (yC.Vi (b := a0) (As := [.int a2]) (st := []) (r := ("Partlister$Lists", T_I, 7)) hV.1 cb_I_lengthOf lk_I_59 in_I_lengthOf rfl se_I_lengthOf (by decide +kernel) rfl rfl (Nat.le_of_ble_eq_true rfl) (by decide) e1 m3) (k_I_lengthOf hV G a0 a2) h (fun v5 G4 _ h => ?_)
  refine Y.blk (pc' := 9) (L' := [some (.ref a0), some (.int a1), some (.int a2), some (.int v5), some (.int (nI 0))]) (st' := []) (sg := [(.istore_n 3, 0), (.iconst 0, nI 0), (.istore 4, 0)]) (by decide +kernel) rfl ?_
  refine k_I_copyToRow_L9 hV _ ?_  zFu G4 a0 a1 a2 v5 (nI 0) h
  · intro G19 x16 x17 x18 h
    refine Y.blk (pc' := 36) (L' := [some (.ref x16), some (.int x17), none, some (.int x18), none]) (st' := [.ref x16]) (sg := [(.aload_n 0, 0)]) (by decide +kernel) rfl ?_
    refine Y.getA fl_I_20 (by decide +kernel) h (fun v20 h => ?_)
    refine Y.blk (pc' := 41) (L' := [some (.ref x16), some (.int x17), none, some (.int x18), none]) (st' := [.int x18, .int x17, .ref v20]) (sg := [(.iload_n 1, 0), (.iload_n 3, 0)]) (by decide +kernel) rfl ?_
    obtain ⟨_, o22, e21, m23, h⟩ := gOb_inv h
    refine Y.callN (yC.Vi (b := v20) (As := [.int x17, .int x18]) (st := []) (r := ("Partlister$Numbers", T_N, 1)) hV.1 cb_N_write lk_I_35 in_N_write rfl se_N_write (by decide +kernel) rfl rfl (Nat.le_of_ble_eq_true rfl) (by decide) e21 m23) (k_N_write hV G19 v20 x17 x18) h (fun G24 _ h => ?_)
    exact Y.vret rfl (by decide +kernel) h

def f_X_assign (G : gH) (a0 : Nat) (a1 : Int32) (a2 : Int32) : gR :=
  gOb G a0 3 fun o2 => bV (f_X_needRow G a0 a1) fun G4 => gOb G4 a0 3 fun o6 => bV (f_X_needList G4 a0 a2) fun G8 => gFA G8 a0 3 0 fun v9 => gOb G8 v9 1 fun o11 => bI (f_I_lengthOf G8 v9 a1) fun v14 G13 => gFA G13 a0 3 0 fun v15 => gOb G13 v15 1 fun o17 => bV (f_I_copyToRow G13 v15 a1 a2) fun G19 => gOb G19 a0 3 fun o21 => bI (f_X_endAround G19 a0 a1) fun v24 G23 => rI v14 G23
theorem k_X_assign {l : Launch} {D : va_G} {B : Nat} {O : State → Heap → Prop} (hV : zG l D B O) (G : gH) (a0 : Nat) (a1 : Int32) (a2 : Int32) : gMet (zVm l D B O) m_X_assign 7 [.ref a0, .int a1, .int a2] G (f_X_assign G a0 a1 a2) := by
  refine gMet.of (by decide +kernel) (Nat.le_of_ble_eq_true rfl) [some (.ref a0), some (.int a1), some (.int a2), none] (fun ls h => zEn_ok (n := 4) h) ?_
  intro o Gf h
  unfold f_X_assign at h
  refine Y.blk (pc' := 2) (L' := [some (.ref a0), some (.int a1), some (.int a2), none]) (st' := [.int a1, .ref a0]) (sg := [(.aload_n 0, 0), (.iload_n 1, 0)]) (by decide +kernel) rfl ?_
  obtain ⟨_, o2, e1, m3, h⟩ := gOb_inv h
  refine Y.callN (yC.Vi (b := a0) (As := [.int a1]) (st := []) (r := ("Partlister", T_X, 5)) hV.1 cb_X_needRow lk_X_106 in_X_needRow rfl se_X_needRow (by decide +kernel) rfl rfl (Nat.le_of_ble_eq_true rfl) (by decide) e1 m3) (k_X_needRow hV G a0 a1) h (fun G4 _ h => ?_)
  refine Y.blk (pc' := 7) (L' := [some (.ref a0), some (.int a1), some (.int a2), none]) (st' := [.int a2, .ref a0]) (sg := [(.aload_n 0, 0), (.iload_n 2, 0)]) (by decide +kernel) rfl ?_
  obtain ⟨_, o6, e5, m7, h⟩ := gOb_inv h
  refine Y.callN (yC.Vi (b := a0) (As := [.int a2]) (st := []) (r := ("Partlister", T_X, 5)) hV.1 cb_X_needList lk_X_23 in_X_needList rfl se_X_needList (by decide +kernel) rfl rfl (Nat.le_of_ble_eq_true rfl) (by decide) e5 m7) (k_X_needList hV G4 a0 a2) h (fun G8 _ h => ?_)
  refine Y.blk (pc' := 11) (L' := [some (.ref a0), some (.int a1), some (.int a2), none]) (st' := [.ref a0]) (sg := [(.aload_n 0, 0)]) (by decide +kernel) rfl ?_
  refine Y.getA fl_X_10 (by decide +kernel) h (fun v9 h => ?_)
  refine Y.blk (pc' := 15) (L' := [some (.ref a0), some (.int a1), some (.int a2), none]) (st' := [.int a1, .ref v9]) (sg := [(.iload_n 1, 0)]) (by decide +kernel) rfl ?_
  obtain ⟨_, o11, e10, m12, h⟩ := gOb_inv h
  refine Y.callI (yC.Vi (b := v9) (As := [.int a1]) (st := []) (r := ("Partlister$Lists", T_I, 7)) hV.1 cb_I_lengthOf lk_X_34 in_I_lengthOf rfl se_I_lengthOf (by decide +kernel) rfl rfl (Nat.le_of_ble_eq_true rfl) (by decide) e10 m12) (k_I_lengthOf hV G8 v9 a1) h (fun v14 G13 _ h => ?_)
  refine Y.blk (pc' := 20) (L' := [some (.ref a0), some (.int a1), some (.int a2), some (.int v14)]) (st' := [.ref a0]) (sg := [(.istore_n 3, 0), (.aload_n 0, 0)]) (by decide +kernel) rfl ?_
  refine Y.getA fl_X_10 (by decide +kernel) h (fun v15 h => ?_)
  refine Y.blk (pc' := 25) (L' := [some (.ref a0), some (.int a1), some (.int a2), some (.int v14)]) (st' := [.int a2, .int a1, .ref v15]) (sg := [(.iload_n 1, 0), (.iload_n 2, 0)]) (by decide +kernel) rfl ?_
  obtain ⟨_, o17, e16, m18, h⟩ := gOb_inv h
  refine Y.callN (yC.Vi (b := v15) (As := [.int a1, .int a2]) (st := []) (r := ("Partlister$Lists", T_I, 7)) hV.1 cb_I_copyToRow lk_X_109 in_I_copyToRow rfl se_I_copyToRow (by decide +kernel) rfl rfl (Nat.le_of_ble_eq_true rfl) (by decide) e16 m18) (k_I_copyToRow hV G13 v15 a1 a2) h (fun G19 _ h => ?_)
  refine Y.blk (pc' := 30) (L' := [some (.ref a0), some (.int a1), some (.int a2), some (.int v14)]) (st' := [.int a1, .ref a0]) (sg := [(.aload_n 0, 0), (.iload_n 1, 0)]) (by decide +kernel) rfl ?_
  obtain ⟨_, o21, e20, m22, h⟩ := gOb_inv h
  refine Y.callI (yC.Vi (b := a0) (As := [.int a1]) (st := []) (r := ("Partlister", T_X, 5)) hV.1 cb_X_endAround lk_X_103 in_X_endAround rfl se_X_endAround (by decide +kernel) rfl rfl (Nat.le_of_ble_eq_true rfl) (by decide) e20 m22) (k_X_endAround hV G19 a0 a1) h (fun v24 G23 _ h => ?_)
  refine Y.blk (pc' := 35) (L' := [some (.ref a0), some (.int a1), some (.int a2), some (.int v14)]) (st' := [.int v14]) (sg := [(.pop, 0), (.iload_n 3, 0)]) (by decide +kernel) rfl ?_
  exact Y.iret rfl (by decide +kernel) h

def f_I_sweepOut_L41 (K107 : gH → Nat → Int32 → Int32 → Int32 → gR) : Nat → gH → Nat → Int32 → Int32 → Int32 → Int32 → Int32 → Int32 → Int32 → gR
  | 0, _, _, _, _, _, _, _, _, _ => none
  | n + 1, G, x0, x1, x2, x3, x5, x6, x7, x8 =>
    if x6 ≤ x8 then K107 G x0 x1 x6 x7
    else gOb G x0 1 fun o23 => bI (f_I_thingAt G x0 x3 x8) fun v26 G25 => if x5 ≤ x8 then (if (nI 0) = 0 then gOb G25 x0 1 fun o28 => bV (f_I_write G25 x0 x3 x7 v26) fun G30 => f_I_sweepOut_L41 K107 n G30 x0 x1 x2 x3 x5 x6 (x7 + (nI 1)) (x8 + (nI 1))
        else f_I_sweepOut_L41 K107 n G25 x0 x1 x2 x3 x5 x6 x7 (x8 + (nI 1)))
      else bI (f_X_keyOf G25 v26) fun v34 G33 => if ((x2 >>> (v34 &&& 31)) &&& (nI 1)) = (nI 1) then (if (nI 1) = 0 then gOb G33 x0 1 fun o36 => bV (f_I_write G33 x0 x3 x7 v26) fun G38 => f_I_sweepOut_L41 K107 n G38 x0 x1 x2 x3 x5 x6 (x7 + (nI 1)) (x8 + (nI 1))
          else f_I_sweepOut_L41 K107 n G33 x0 x1 x2 x3 x5 x6 x7 (x8 + (nI 1)))
        else if (nI 0) = 0 then gOb G33 x0 1 fun o41 => bV (f_I_write G33 x0 x3 x7 v26) fun G43 => f_I_sweepOut_L41 K107 n G43 x0 x1 x2 x3 x5 x6 (x7 + (nI 1)) (x8 + (nI 1))
          else f_I_sweepOut_L41 K107 n G33 x0 x1 x2 x3 x5 x6 x7 (x8 + (nI 1))
def f_I_sweepOut (G : gH) (a0 : Nat) (a1 : Int32) (a2 : Int32) : gR :=
  gOb G a0 1 fun o2 => bI (f_I_rowOf G a0 a1) fun v5 G4 => gFA G4 a0 1 4 fun v6 => gOb G4 v6 2 fun o8 => bI (f_N_read G4 v6 a1) fun v11 G10 => gOb G10 a0 1 fun o13 => bI (f_I_lengthOf G10 a0 a1) fun v16 G15 => gOb G15 a0 1 fun o18 => bI (f_I_lengthOf G15 a0 v5) fun v21 G20 => f_I_sweepOut_L41 (fun G52 x48 x49 x50 x51 => gOb G52 x48 1 fun o54 => bV (f_I_lengthen G52 x48 x49 (x51 - x50)) fun G56 => rI (x50 - x51) G56) zFu G20 a0 a1 a2 v5 (v11 + v16) v21 v11 v11
theorem k_I_sweepOut_L41 {l : Launch} {D : va_G} {B : Nat} {O : State → Heap → Prop} (hV : zG l D B O) {o : gO} {Gf : gH} (K107 : gH → Nat → Int32 → Int32 → Int32 → gR) (hK107 : ∀ (G : gH) (x0 : Nat) (x1 : Int32) (x6 : Int32) (x7 : Int32), K107 G x0 x1 x6 x7 = some (o, Gf) → Y (zVm l D B O) m_I_sweepOut 4 o Gf 107 [some (.ref x0), some (.int x1), none, none, none, none, some (.int x6), some (.int x7), none, none, none] [] G) : ∀ (n : Nat) (G : gH) (x0 : Nat) (x1 : Int32) (x2 : Int32) (x3 : Int32) (x5 : Int32) (x6 : Int32) (x7 : Int32) (x8 : Int32), f_I_sweepOut_L41 K107 n G x0 x1 x2 x3 x5 x6 x7 x8 = some (o, Gf) → Y (zVm l D B O) m_I_sweepOut 4 o Gf 41 [some (.ref x0), some (.int x1), some (.int x2), some (.int x3), none, some (.int x5), some (.int x6), some (.int x7), some (.int x8), none, none] [] G := by
  intro n
  induction n with
  | zero => intro G x0 x1 x2 x3 x5 x6 x7 x8 h; cases h
  | succ n ih =>
    intro G x0 x1 x2 x3 x5 x6 x7 x8 h
    unfold f_I_sweepOut_L41 at h
    refine Y.blk (pc' := 45) (L' := [some (.ref x0), some (.int x1), some (.int x2), some (.int x3), none, some (.int x5), some (.int x6), some (.int x7), some (.int x8), none, none]) (st' := [.int x6, .int x8]) (sg := [(.iload 8, 0), (.iload 6, 0)]) (by decide +kernel) rfl ?_
    refine Y.ic_ge (off := 62) (tgt := 107) (by decide +kernel) (by decide) h (fun c47 h => ?_) (fun c47 h => ?_)
    · refine Y.less (L' := [some (.ref x0), some (.int x1), none, none, none, none, some (.int x6), some (.int x7), none, none, none]) (zLe_some (zLe_some (zLe_none (zLe_none (zLe_some (zLe_none (zLe_some (zLe_some (zLe_none (zLe_some (zLe_some (zLe_nil)))))))))))) ?_
      exact hK107 G x0 x1 x6 x7 h
    · refine Y.blk (pc' := 52) (L' := [some (.ref x0), some (.int x1), some (.int x2), some (.int x3), none, some (.int x5), some (.int x6), some (.int x7), some (.int x8), none, none]) (st' := [.int x8, .int x3, .ref x0]) (sg := [(.aload_n 0, 0), (.iload_n 3, 0), (.iload 8, 0)]) (by decide +kernel) rfl ?_
      obtain ⟨_, o23, e22, m24, h⟩ := gOb_inv h
      refine Y.callI (yC.Vi (b := x0) (As := [.int x3, .int x8]) (st := []) (r := ("Partlister$Lists", T_I, 7)) hV.1 cb_I_thingAt lk_I_50 in_I_thingAt rfl se_I_thingAt (by decide +kernel) rfl rfl (Nat.le_of_ble_eq_true rfl) (by decide) e22 m24) (k_I_thingAt hV G x0 x3 x8) h (fun v26 G25 _ h => ?_)
      refine Y.blk (pc' := 61) (L' := [some (.ref x0), some (.int x1), some (.int x2), some (.int x3), none, some (.int x5), some (.int x6), some (.int x7), some (.int x8), some (.int v26), none]) (st' := [.int x5, .int x8]) (sg := [(.istore 9, 0), (.iload 8, 0), (.iload 5, 0)]) (by decide +kernel) rfl ?_
      refine Y.ic_ge (off := 20) (tgt := 81) (by decide +kernel) (by decide) h (fun c46 h => ?_) (fun c46 h => ?_)
      · refine Y.blk (pc' := 86) (L' := [some (.ref x0), some (.int x1), some (.int x2), some (.int x3), none, some (.int x5), some (.int x6), some (.int x7), some (.int x8), some (.int v26), some (.int (nI 0))]) (st' := [.int (nI 0)]) (sg := [(.iconst 0, nI 0), (.istore 10, 0), (.iload 10, 0)]) (by decide +kernel) rfl ?_
        refine Y.if_ne (off := 15) (tgt := 101) (by decide +kernel) (by decide) h (fun c31 h => ?_) (fun c31 h => ?_)
        · refine Y.blk (pc' := 95) (L' := [some (.ref x0), some (.int x1), some (.int x2), some (.int x3), none, some (.int x5), some (.int x6), some (.int x7), some (.int x8), some (.int v26), some (.int (nI 0))]) (st' := [.int v26, .int x7, .int x3, .ref x0]) (sg := [(.aload_n 0, 0), (.iload_n 3, 0), (.iload 7, 0), (.iload 9, 0)]) (by decide +kernel) rfl ?_
          obtain ⟨_, o28, e27, m29, h⟩ := gOb_inv h
          refine Y.callN (yC.Vi (b := x0) (As := [.int x3, .int x7, .int v26]) (st := []) (r := ("Partlister$Lists", T_I, 7)) hV.1 cb_I_write lk_I_53 in_I_write rfl se_I_write (by decide +kernel) rfl rfl (Nat.le_of_ble_eq_true rfl) (by decide) e27 m29) (k_I_write hV G25 x0 x3 x7 v26) h (fun G30 _ h => ?_)
          refine Y.blk (pc' := 104) (L' := [some (.ref x0), some (.int x1), some (.int x2), some (.int x3), none, some (.int x5), some (.int x6), some (.int (x7 + (nI 1))), some (.int (x8 + (nI 1))), some (.int v26), some (.int (nI 0))]) (st' := []) (sg := [(.iinc 7 1, nI 1), (.iinc 8 1, nI 1)]) (by decide +kernel) rfl ?_
          refine Y.goto (off := -63) (tgt := 41) (by decide +kernel) (by decide) ?_
          refine Y.less (L' := [some (.ref x0), some (.int x1), some (.int x2), some (.int x3), none, some (.int x5), some (.int x6), some (.int (x7 + (nI 1))), some (.int (x8 + (nI 1))), none, none]) (zLe_some (zLe_some (zLe_some (zLe_some (zLe_some (zLe_some (zLe_some (zLe_some (zLe_some (zLe_none (zLe_none (zLe_nil)))))))))))) ?_
          exact ih G30 x0 x1 x2 x3 x5 x6 (x7 + (nI 1)) (x8 + (nI 1)) h
        · refine Y.blk (pc' := 104) (L' := [some (.ref x0), some (.int x1), some (.int x2), some (.int x3), none, some (.int x5), some (.int x6), some (.int x7), some (.int (x8 + (nI 1))), some (.int v26), some (.int (nI 0))]) (st' := []) (sg := [(.iinc 8 1, nI 1)]) (by decide +kernel) rfl ?_
          refine Y.goto (off := -63) (tgt := 41) (by decide +kernel) (by decide) ?_
          refine Y.less (L' := [some (.ref x0), some (.int x1), some (.int x2), some (.int x3), none, some (.int x5), some (.int x6), some (.int x7), some (.int (x8 + (nI 1))), none, none]) (zLe_some (zLe_some (zLe_some (zLe_some (zLe_some (zLe_some (zLe_some (zLe_some (zLe_some (zLe_none (zLe_none (zLe_nil)))))))))))) ?_
          exact ih G25 x0 x1 x2 x3 x5 x6 x7 (x8 + (nI 1)) h
      · refine Y.blk (pc' := 67) (L' := [some (.ref x0), some (.int x1), some (.int x2), some (.int x3), none, some (.int x5), some (.int x6), some (.int x7), some (.int x8), some (.int v26), none]) (st' := [.int v26, .int x2]) (sg := [(.iload_n 2, 0), (.iload 9, 0)]) (by decide +kernel) rfl ?_
        refine Y.callI (yC.SN (As := [.int v26]) (st := [.int x2]) hV.1 cb_X_keyOf lk_I_47 st_X_keyOf (by decide +kernel) rfl rfl (Nat.le_of_ble_eq_true rfl) (by decide)) (k_X_keyOf hV G25 v26) h (fun v34 G33 _ h => ?_)
        refine Y.blk (pc' := 74) (L' := [some (.ref x0), some (.int x1), some (.int x2), some (.int x3), none, some (.int x5), some (.int x6), some (.int x7), some (.int x8), some (.int v26), none]) (st' := [.int (nI 1), .int ((x2 >>> (v34 &&& 31)) &&& (nI 1))]) (sg := [(.ishr, 0), (.iconst 1, nI 1), (.iand, 0), (.iconst 1, nI 1)]) (by decide +kernel) rfl ?_
        refine Y.ic_ne (off := 7) (tgt := 81) (by decide +kernel) (by decide) h (fun c45 h => ?_) (fun c45 h => ?_)
        · refine Y.blk (pc' := 78) (L' := [some (.ref x0), some (.int x1), some (.int x2), some (.int x3), none, some (.int x5), some (.int x6), some (.int x7), some (.int x8), some (.int v26), none]) (st' := [.int (nI 1)]) (sg := [(.iconst 1, nI 1)]) (by decide +kernel) rfl ?_
          refine Y.goto (off := 4) (tgt := 82) (by decide +kernel) (by decide) ?_
          refine Y.blk (pc' := 86) (L' := [some (.ref x0), some (.int x1), some (.int x2), some (.int x3), none, some (.int x5), some (.int x6), some (.int x7), some (.int x8), some (.int v26), some (.int (nI 1))]) (st' := [.int (nI 1)]) (sg := [(.istore 10, 0), (.iload 10, 0)]) (by decide +kernel) rfl ?_
          refine Y.if_ne (off := 15) (tgt := 101) (by decide +kernel) (by decide) h (fun c39 h => ?_) (fun c39 h => ?_)
          · refine Y.blk (pc' := 95) (L' := [some (.ref x0), some (.int x1), some (.int x2), some (.int x3), none, some (.int x5), some (.int x6), some (.int x7), some (.int x8), some (.int v26), some (.int (nI 1))]) (st' := [.int v26, .int x7, .int x3, .ref x0]) (sg := [(.aload_n 0, 0), (.iload_n 3, 0), (.iload 7, 0), (.iload 9, 0)]) (by decide +kernel) rfl ?_
            obtain ⟨_, o36, e35, m37, h⟩ := gOb_inv h
            refine Y.callN (yC.Vi (b := x0) (As := [.int x3, .int x7, .int v26]) (st := []) (r := ("Partlister$Lists", T_I, 7)) hV.1 cb_I_write lk_I_53 in_I_write rfl se_I_write (by decide +kernel) rfl rfl (Nat.le_of_ble_eq_true rfl) (by decide) e35 m37) (k_I_write hV G33 x0 x3 x7 v26) h (fun G38 _ h => ?_)
            refine Y.blk (pc' := 104) (L' := [some (.ref x0), some (.int x1), some (.int x2), some (.int x3), none, some (.int x5), some (.int x6), some (.int (x7 + (nI 1))), some (.int (x8 + (nI 1))), some (.int v26), some (.int (nI 1))]) (st' := []) (sg := [(.iinc 7 1, nI 1), (.iinc 8 1, nI 1)]) (by decide +kernel) rfl ?_
            refine Y.goto (off := -63) (tgt := 41) (by decide +kernel) (by decide) ?_
            refine Y.less (L' := [some (.ref x0), some (.int x1), some (.int x2), some (.int x3), none, some (.int x5), some (.int x6), some (.int (x7 + (nI 1))), some (.int (x8 + (nI 1))), none, none]) (zLe_some (zLe_some (zLe_some (zLe_some (zLe_some (zLe_some (zLe_some (zLe_some (zLe_some (zLe_none (zLe_none (zLe_nil)))))))))))) ?_
            exact ih G38 x0 x1 x2 x3 x5 x6 (x7 + (nI 1)) (x8 + (nI 1)) h
          · refine Y.blk (pc' := 104) (L' := [some (.ref x0), some (.int x1), some (.int x2), some (.int x3), none, some (.int x5), some (.int x6), some (.int x7), some (.int (x8 + (nI 1))), some (.int v26), some (.int (nI 1))]) (st' := []) (sg := [(.iinc 8 1, nI 1)]) (by decide +kernel) rfl ?_
            refine Y.goto (off := -63) (tgt := 41) (by decide +kernel) (by decide) ?_
            refine Y.less (L' := [some (.ref x0), some (.int x1), some (.int x2), some (.int x3), none, some (.int x5), some (.int x6), some (.int x7), some (.int (x8 + (nI 1))), none, none]) (zLe_some (zLe_some (zLe_some (zLe_some (zLe_some (zLe_some (zLe_some (zLe_some (zLe_some (zLe_none (zLe_none (zLe_nil)))))))))))) ?_
            exact ih G33 x0 x1 x2 x3 x5 x6 x7 (x8 + (nI 1)) h
        · refine Y.blk (pc' := 86) (L' := [some (.ref x0), some (.int x1), some (.int x2), some (.int x3), none, some (.int x5), some (.int x6), some (.int x7), some (.int x8), some (.int v26), some (.int (nI 0))]) (st' := [.int (nI 0)]) (sg := [(.iconst 0, nI 0), (.istore 10, 0), (.iload 10, 0)]) (by decide +kernel) rfl ?_
          refine Y.if_ne (off := 15) (tgt := 101) (by decide +kernel) (by decide) h (fun c44 h => ?_) (fun c44 h => ?_)
          · refine Y.blk (pc' := 95) (L' := [some (.ref x0), some (.int x1), some (.int x2), some (.int x3), none, some (.int x5), some (.int x6), some (.int x7), some (.int x8), some (.int v26), some (.int (nI 0))]) (st' := [.int v26, .int x7, .int x3, .ref x0]) (sg := [(.aload_n 0, 0), (.iload_n 3, 0), (.iload 7, 0), (.iload 9, 0)]) (by decide +kernel) rfl ?_
            obtain ⟨_, o41, e40, m42, h⟩ := gOb_inv h
            refine Y.callN (yC.Vi (b := x0) (As := [.int x3, .int x7, .int v26]) (st := []) (r := ("Partlister$Lists", T_I, 7)) hV.1 cb_I_write lk_I_53 in_I_write rfl se_I_write (by decide +kernel) rfl rfl (Nat.le_of_ble_eq_true rfl) (by decide) e40 m42) (k_I_write hV G33 x0 x3 x7 v26) h (fun G43 _ h => ?_)
            refine Y.blk (pc' := 104) (L' := [some (.ref x0), some (.int x1), some (.int x2), some (.int x3), none, some (.int x5), some (.int x6), some (.int (x7 + (nI 1))), some (.int (x8 + (nI 1))), some (.int v26), some (.int (nI 0))]) (st' := []) (sg := [(.iinc 7 1, nI 1), (.iinc 8 1, nI 1)]) (by decide +kernel) rfl ?_
            refine Y.goto (off := -63) (tgt := 41) (by decide +kernel) (by decide) ?_
            refine Y.less (L' := [some (.ref x0), some (.int x1), some (.int x2), some (.int x3), none, some (.int x5), some (.int x6), some (.int (x7 + (nI 1))), some (.int (x8 + (nI 1))), none, none]) (zLe_some (zLe_some (zLe_some (zLe_some (zLe_some (zLe_some (zLe_some (zLe_some (zLe_some (zLe_none (zLe_none (zLe_nil)))))))))))) ?_
            exact ih G43 x0 x1 x2 x3 x5 x6 (x7 + (nI 1)) (x8 + (nI 1)) h
          · refine Y.blk (pc' := 104) (L' := [some (.ref x0), some (.int x1), some (.int x2), some (.int x3), none, some (.int x5), some (.int x6), some (.int x7), some (.int (x8 + (nI 1))), some (.int v26), some (.int (nI 0))]) (st' := []) (sg := [(.iinc 8 1, nI 1)]) (by decide +kernel) rfl ?_
            refine Y.goto (off := -63) (tgt := 41) (by decide +kernel) (by decide) ?_
            refine Y.less (L' := [some (.ref x0), some (.int x1), some (.int x2), some (.int x3), none, some (.int x5), some (.int x6), some (.int x7), some (.int (x8 + (nI 1))), none, none]) (zLe_some (zLe_some (zLe_some (zLe_some (zLe_some (zLe_some (zLe_some (zLe_some (zLe_some (zLe_none (zLe_none (zLe_nil)))))))))))) ?_
            exact ih G33 x0 x1 x2 x3 x5 x6 x7 (x8 + (nI 1)) h
theorem k_I_sweepOut {l : Launch} {D : va_G} {B : Nat} {O : State → Heap → Prop} (hV : zG l D B O) (G : gH) (a0 : Nat) (a1 : Int32) (a2 : Int32) : gMet (zVm l D B O) m_I_sweepOut 4 [.ref a0, .int a1, .int a2] G (f_I_sweepOut G a0 a1 a2) := by
  refine gMet.of (by decide +kernel) (Nat.le_of_ble_eq_true rfl) [some (.ref a0), some (.int a1), some (.int a2), none, none, none, none, none, none, none, none] (fun ls h => zEn_ok (n := 11) h) ?_
  intro o Gf h
  unfold f_I_sweepOut at h
  refine Y.blk (pc' := 2) (L' := [some (.ref a0), some (.int a1), some (.int a2), none, none, none, none, none, none, none, none]) (st' := [.int a1, .ref a0]) (sg := [(.aload_n 0, 0), (.iload_n 1, 0)]) (by decide +kernel) rfl ?_
  obtain ⟨_, o2, e1, m3, h⟩ := gOb_inv h
  refine Y.callI (yC.Vi (b := a0) (As := [.int a1]) (st := []) (r := ("Partlister$Lists", T_I, 7)) hV.1 cb_I_rowOf lk_I_56 in_I_rowOf rfl se_I_rowOf (by decide +kernel) rfl rfl (Nat.le_of_ble_eq_true rfl) (by decide) e1 m3) (k_I_rowOf hV G a0 a1) h (fun v5 G4 _ h => ?_)
  refine Y.blk (pc' := 7) (L' := [some (.ref a0), some (.int a1), some (.int a2), some (.int v5), none, none, none, none, none, none, none]) (st' := [.ref a0]) (sg := [(.istore_n 3, 0), (.aload_n 0, 0)]) (by decide +kernel) rfl ?_
  refine Y.getA fl_I_29 (by decide +kernel) h (fun v6 h => ?_)
  refine Y.blk (pc' := 11) (L' := [some (.ref a0), some (.int a1), some (.int a2), some (.int v5), none, none, none, none, none, none, none]) (st' := [.int a1, .ref v6]) (sg := [(.iload_n 1, 0)]) (by decide +kernel) rfl ?_
  obtain ⟨_, o8, e7, m9, h⟩ := gOb_inv h
  refine Y.callI (yC.Vi (b := v6) (As := [.int a1]) (st := []) (r := ("Partlister$Numbers", T_N, 1)) hV.1 cb_N_read lk_I_39 in_N_read rfl se_N_read (by decide +kernel) rfl rfl (Nat.le_of_ble_eq_true rfl) (by decide) e7 m9) (k_N_read hV G4 v6 a1) h (fun v11 G10 _ h => ?_)
  refine Y.blk (pc' := 20) (L' := [some (.ref a0), some (.int a1), some (.int a2), some (.int v5), some (.int v11), none, none, none, none, none, none]) (st' := [.int a1, .ref a0, .int v11]) (sg := [(.istore 4, 0), (.iload 4, 0), (.aload_n 0, 0), (.iload_n 1, 0)]) (by decide +kernel) rfl ?_
  obtain ⟨_, o13, e12, m14, h⟩ := gOb_inv h
  refine Y.callI (yC.Vi (b := a0) (As := [.int a1]) (st := [.int v11]) (r := ("Partlister$Lists", T_I, 7)) hV.1 cb_I_lengthOf lk_I_59 in_I_lengthOf rfl se_I_lengthOf (by decide +kernel) rfl rfl (Nat.le_of_ble_eq_true rfl) (by decide) e12 m14) (k_I_lengthOf hV G10 a0 a1) h (fun v16 G15 _ h => ?_)
  refine Y.blk (pc' := 28) (L' := [some (.ref a0), some (.int a1), some (.int a2), some (.int v5), some (.int v11), some (.int (v11 + v16)), none, none, none, none, none]) (st' := [.int v5, .ref a0]) (sg := [(.iadd, 0), (.istore 5, 0), (.aload_n 0, 0), (.iload_n 3, 0)]) (by decide +kernel) rfl ?_
  obtain ⟨_, o18, e17, m19, h⟩ := gOb_inv h
  refine Y.callI (yC.Vi (b := a0) (As := [.int v5]) (st := []) (r := ("Partlister$Lists", T_I, 7)) hV.1 cb_I_lengthOf lk_I_59 in_I_lengthOf rfl se_I_lengthOf (by decide +kernel) rfl rfl (Nat.le_of_ble_eq_true rfl) (by decide) e17 m19) (k_I_lengthOf hV G15 a0 v5) h (fun v21 G20 _ h => ?_)
  refine Y.blk (pc' := 41) (L' := [some (.ref a0), some (.int a1), some (.int a2), some (.int v5), some (.int v11), some (.int (v11 + v16)), some (.int v21), some (.int v11), some (.int v11), none, none]) (st' := []) (sg := [(.istore 6, 0), (.iload 4, 0), (.istore 7, 0), (.iload 4, 0), (.istore 8, 0)]) (by decide +kernel) rfl ?_
  refine Y.less (L' := [some (.ref a0), some (.int a1), some (.int a2), some (.int v5), none, some (.int (v11 + v16)), some (.int v21), some (.int v11), some (.int v11), none, none]) (zLe_some (zLe_some (zLe_some (zLe_some (zLe_none (zLe_some (zLe_some (zLe_some (zLe_some (zLe_some (zLe_some (zLe_nil)))))))))))) ?_
  refine k_I_sweepOut_L41 hV _ ?_  zFu G20 a0 a1 a2 v5 (v11 + v16) v21 v11 v11 h
  · intro G52 x48 x49 x50 x51 h
    refine Y.blk (pc' := 114) (L' := [some (.ref x48), some (.int x49), none, none, none, none, some (.int x50), some (.int x51), none, none, none]) (st' := [.int (x51 - x50), .int x49, .ref x48]) (sg := [(.aload_n 0, 0), (.iload_n 1, 0), (.iload 7, 0), (.iload 6, 0), (.isub, 0)]) (by decide +kernel) rfl ?_
    obtain ⟨_, o54, e53, m55, h⟩ := gOb_inv h
    refine Y.callN (yC.Vi (b := x48) (As := [.int x49, .int (x51 - x50)]) (st := []) (r := ("Partlister$Lists", T_I, 7)) hV.1 cb_I_lengthen lk_I_62 in_I_lengthen rfl se_I_lengthen (by decide +kernel) rfl rfl (Nat.le_of_ble_eq_true rfl) (by decide) e53 m55) (k_I_lengthen hV G52 x48 x49 (x51 - x50)) h (fun G56 _ h => ?_)
    refine Y.blk (pc' := 122) (L' := [some (.ref x48), some (.int x49), none, none, none, none, some (.int x50), some (.int x51), none, none, none]) (st' := [.int (x50 - x51)]) (sg := [(.iload 6, 0), (.iload 7, 0), (.isub, 0)]) (by decide +kernel) rfl ?_
    exact Y.iret rfl (by decide +kernel) h

def f_X_takeOutAll (G : gH) (a0 : Nat) (a1 : Int32) (a2 : Int32) : gR :=
  gFA G a0 3 0 fun v1 => gOb G v1 1 fun o3 => bI (f_I_sweepOut G v1 a1 a2) fun v6 G5 => if v6 ≤ 0 then rI v6 G5
  else gOb G5 a0 3 fun o8 => bV (f_X_endByLength G5 a0 a1 (-1)) fun G10 => rI v6 G10
theorem k_X_takeOutAll {l : Launch} {D : va_G} {B : Nat} {O : State → Heap → Prop} (hV : zG l D B O) (G : gH) (a0 : Nat) (a1 : Int32) (a2 : Int32) : gMet (zVm l D B O) m_X_takeOutAll 6 [.ref a0, .int a1, .int a2] G (f_X_takeOutAll G a0 a1 a2) := by
  refine gMet.of (by decide +kernel) (Nat.le_of_ble_eq_true rfl) [some (.ref a0), some (.int a1), some (.int a2), none] (fun ls h => zEn_ok (n := 4) h) ?_
  intro o Gf h
  unfold f_X_takeOutAll at h
  refine Y.blk (pc' := 1) (L' := [some (.ref a0), some (.int a1), some (.int a2), none]) (st' := [.ref a0]) (sg := [(.aload_n 0, 0)]) (by decide +kernel) rfl ?_
  refine Y.getA fl_X_10 (by decide +kernel) h (fun v1 h => ?_)
  refine Y.blk (pc' := 6) (L' := [some (.ref a0), some (.int a1), some (.int a2), none]) (st' := [.int a2, .int a1, .ref v1]) (sg := [(.iload_n 1, 0), (.iload_n 2, 0)]) (by decide +kernel) rfl ?_
  obtain ⟨_, o3, e2, m4, h⟩ := gOb_inv h
  refine Y.callI (yC.Vi (b := v1) (As := [.int a1, .int a2]) (st := []) (r := ("Partlister$Lists", T_I, 7)) hV.1 cb_I_sweepOut lk_X_287 in_I_sweepOut rfl se_I_sweepOut (by decide +kernel) rfl rfl (Nat.le_of_ble_eq_true rfl) (by decide) e2 m4) (k_I_sweepOut hV G v1 a1 a2) h (fun v6 G5 _ h => ?_)
  refine Y.blk (pc' := 11) (L' := [some (.ref a0), some (.int a1), some (.int a2), some (.int v6)]) (st' := [.int v6]) (sg := [(.istore_n 3, 0), (.iload_n 3, 0)]) (by decide +kernel) rfl ?_
  refine Y.if_le (off := 9) (tgt := 20) (by decide +kernel) (by decide) h (fun c11 h => ?_) (fun c11 h => ?_)
  · refine Y.blk (pc' := 21) (L' := [some (.ref a0), some (.int a1), some (.int a2), some (.int v6)]) (st' := [.int v6]) (sg := [(.iload_n 3, 0)]) (by decide +kernel) rfl ?_
    exact Y.iret rfl (by decide +kernel) h
  · refine Y.blk (pc' := 17) (L' := [some (.ref a0), some (.int a1), some (.int a2), some (.int v6)]) (st' := [.int (-1), .int a1, .ref a0]) (sg := [(.aload_n 0, 0), (.iload_n 1, 0), (.iconst (-1), -1)]) (by decide +kernel) rfl ?_
    obtain ⟨_, o8, e7, m9, h⟩ := gOb_inv h
    refine Y.callN (yC.Vi (b := a0) (As := [.int a1, .int (-1)]) (st := []) (r := ("Partlister", T_X, 5)) hV.1 cb_X_endByLength lk_X_281 in_X_endByLength rfl se_X_endByLength (by decide +kernel) rfl rfl (Nat.le_of_ble_eq_true rfl) (by decide) e7 m9) (k_X_endByLength hV G5 a0 a1 (-1)) h (fun G10 _ h => ?_)
    refine Y.blk (pc' := 21) (L' := [some (.ref a0), some (.int a1), some (.int a2), some (.int v6)]) (st' := [.int v6]) (sg := [(.iload_n 3, 0)]) (by decide +kernel) rfl ?_
    exact Y.iret rfl (by decide +kernel) h

def f_X_clear (G : gH) (a0 : Nat) (a1 : Int32) : gR :=
  gOb G a0 3 fun o2 => bV (f_X_needList G a0 a1) fun G4 => gOb G4 a0 3 fun o6 => bI (f_X_takeOutAll G4 a0 a1 (-1)) fun v9 G8 => rI v9 G8
theorem k_X_clear {l : Launch} {D : va_G} {B : Nat} {O : State → Heap → Prop} (hV : zG l D B O) (G : gH) (a0 : Nat) (a1 : Int32) : gMet (zVm l D B O) m_X_clear 7 [.ref a0, .int a1] G (f_X_clear G a0 a1) := by
  refine gMet.of (by decide +kernel) (Nat.le_of_ble_eq_true rfl) [some (.ref a0), some (.int a1)] (fun ls h => zEn_ok (n := 2) h) ?_
  intro o Gf h
  unfold f_X_clear at h
  refine Y.blk (pc' := 2) (L' := [some (.ref a0), some (.int a1)]) (st' := [.int a1, .ref a0]) (sg := [(.aload_n 0, 0), (.iload_n 1, 0)]) (by decide +kernel) rfl ?_
  obtain ⟨_, o2, e1, m3, h⟩ := gOb_inv h
  refine Y.callN (yC.Vi (b := a0) (As := [.int a1]) (st := []) (r := ("Partlister", T_X, 5)) hV.1 cb_X_needList lk_X_23 in_X_needList rfl se_X_needList (by decide +kernel) rfl rfl (Nat.le_of_ble_eq_true rfl) (by decide) e1 m3) (k_X_needList hV G a0 a1) h (fun G4 _ h => ?_)
  refine Y.blk (pc' := 8) (L' := [some (.ref a0), some (.int a1)]) (st' := [.int (-1), .int a1, .ref a0]) (sg := [(.aload_n 0, 0), (.iload_n 1, 0), (.iconst (-1), -1)]) (by decide +kernel) rfl ?_
  obtain ⟨_, o6, e5, m7, h⟩ := gOb_inv h
  refine Y.callI (yC.Vi (b := a0) (As := [.int a1, .int (-1)]) (st := []) (r := ("Partlister", T_X, 5)) hV.1 cb_X_takeOutAll lk_X_78 in_X_takeOutAll rfl se_X_takeOutAll (by decide +kernel) rfl rfl (Nat.le_of_ble_eq_true rfl) (by decide) e5 m7) (k_X_takeOutAll hV G4 a0 a1 (-1)) h (fun v9 G8 _ h => ?_)
  exact Y.iret rfl (by decide +kernel) h

def f_X_needPart (G : gH) (a0 : Nat) (a1 : Int32) : gR :=
  if a1 < (nI 2) then gThrow "java/lang/IndexOutOfBoundsException" G
  else gFA G a0 3 0 fun v1 => gOb G v1 1 fun o3 => bI (f_I_isThere G v1 a1) fun v6 G5 => if v6 = 0 then gThrow "java/lang/IndexOutOfBoundsException" G5
    else rV G5
theorem k_X_needPart {l : Launch} {D : va_G} {B : Nat} {O : State → Heap → Prop} (hV : zG l D B O) (G : gH) (a0 : Nat) (a1 : Int32) : gMet (zVm l D B O) m_X_needPart 6 [.ref a0, .int a1] G (f_X_needPart G a0 a1) := by
  refine gMet.of (by decide +kernel) (Nat.le_of_ble_eq_true rfl) [some (.ref a0), some (.int a1)] (fun ls h => zEn_ok (n := 2) h) ?_
  intro o Gf h
  unfold f_X_needPart at h
  refine Y.blk (pc' := 2) (L' := [some (.ref a0), some (.int a1)]) (st' := [.int (nI 2), .int a1]) (sg := [(.iload_n 1, 0), (.iconst 2, nI 2)]) (by decide +kernel) rfl ?_
  refine Y.ic_lt (off := 14) (tgt := 16) (by decide +kernel) (by decide) h (fun c8 h => ?_) (fun c8 h => ?_)
  · exact Y.throwSW (is := 333) (text := "there is no such PART") (names := zNm) hV.1 (hV.2 _ _ _ (by decide +kernel)) (by decide +kernel) (by decide +kernel) ck_X_125 ini_IOE tw_X_129 tg_X_129 (by decide) (by decide) rfl (Nat.le_of_ble_eq_true rfl) (by decide +kernel) (by decide +kernel) (by decide +kernel) (by decide +kernel) (by decide +kernel) h
  · refine Y.blk (pc' := 6) (L' := [some (.ref a0), some (.int a1)]) (st' := [.ref a0]) (sg := [(.aload_n 0, 0)]) (by decide +kernel) rfl ?_
    refine Y.getA fl_X_10 (by decide +kernel) h (fun v1 h => ?_)
    refine Y.blk (pc' := 10) (L' := [some (.ref a0), some (.int a1)]) (st' := [.int a1, .ref v1]) (sg := [(.iload_n 1, 0)]) (by decide +kernel) rfl ?_
    obtain ⟨_, o3, e2, m4, h⟩ := gOb_inv h
    refine Y.callI (yC.Vi (b := v1) (As := [.int a1]) (st := []) (r := ("Partlister$Lists", T_I, 7)) hV.1 cb_I_isThere lk_X_155 in_I_isThere rfl se_I_isThere (by decide +kernel) rfl rfl (Nat.le_of_ble_eq_true rfl) (by decide) e2 m4) (k_I_isThere hV G v1 a1) h (fun v6 G5 _ h => ?_)
    refine Y.if_ne (off := 14) (tgt := 27) (by decide +kernel) (by decide) h (fun c7 h => ?_) (fun c7 h => ?_)
    · exact Y.throwSW (is := 333) (text := "there is no such PART") (names := zNm) hV.1 (hV.2 _ _ _ (by decide +kernel)) (by decide +kernel) (by decide +kernel) ck_X_125 ini_IOE tw_X_129 tg_X_129 (by decide) (by decide) rfl (Nat.le_of_ble_eq_true rfl) (by decide +kernel) (by decide +kernel) (by decide +kernel) (by decide +kernel) (by decide +kernel) h
    · exact Y.vret rfl (by decide +kernel) h

def f_I_endWithin_L4 (K41 : gH → Int32 → gR) : Nat → gH → Nat → Int32 → Int32 → Int32 → gR
  | 0, _, _, _, _, _ => none
  | n + 1, G, x0, x1, x2, x3 =>
    if (nI 6) ≤ x3 then K41 G x2
    else gOb G x0 1 fun o2 => bI (f_I_isThere G x0 x3) fun v5 G4 => if v5 = 0 then f_I_endWithin_L4 K41 n G4 x0 x1 x2 (x3 + (nI 1))
      else gOb G4 x0 1 fun o7 => bI (f_I_isWithin G4 x0 x3 x1) fun v10 G9 => if v10 = 0 then f_I_endWithin_L4 K41 n G9 x0 x1 x2 (x3 + (nI 1))
        else gOb G9 x0 1 fun o12 => bV (f_I_finish G9 x0 x3) fun G14 => f_I_endWithin_L4 K41 n G14 x0 x1 (x2 + (nI 1)) (x3 + (nI 1))
def f_I_endWithin (G : gH) (a0 : Nat) (a1 : Int32) : gR :=
  f_I_endWithin_L4 (fun G19 x18 => rI x18 G19) zFu G a0 a1 (nI 0) (nI 2)
theorem k_I_endWithin_L4 {l : Launch} {D : va_G} {B : Nat} {O : State → Heap → Prop} (hV : zG l D B O) {o : gO} {Gf : gH} (K41 : gH → Int32 → gR) (hK41 : ∀ (G : gH) (x2 : Int32), K41 G x2 = some (o, Gf) → Y (zVm l D B O) m_I_endWithin 3 o Gf 41 [none, none, some (.int x2), none] [] G) : ∀ (n : Nat) (G : gH) (x0 : Nat) (x1 : Int32) (x2 : Int32) (x3 : Int32), f_I_endWithin_L4 K41 n G x0 x1 x2 x3 = some (o, Gf) → Y (zVm l D B O) m_I_endWithin 3 o Gf 4 [some (.ref x0), some (.int x1), some (.int x2), some (.int x3)] [] G := by
  intro n
  induction n with
  | zero => intro G x0 x1 x2 x3 h; cases h
  | succ n ih =>
    intro G x0 x1 x2 x3 h
    unfold f_I_endWithin_L4 at h
    refine Y.blk (pc' := 7) (L' := [some (.ref x0), some (.int x1), some (.int x2), some (.int x3)]) (st' := [.int (nI 6), .int x3]) (sg := [(.iload_n 3, 0), (.bipush 6, nI 6)]) (by decide +kernel) rfl ?_
    refine Y.ic_ge (off := 34) (tgt := 41) (by decide +kernel) (by decide) h (fun c17 h => ?_) (fun c17 h => ?_)
    · refine Y.less (L' := [none, none, some (.int x2), none]) (zLe_none (zLe_none (zLe_some (zLe_none (zLe_nil))))) ?_
      exact hK41 G x2 h
    · refine Y.blk (pc' := 12) (L' := [some (.ref x0), some (.int x1), some (.int x2), some (.int x3)]) (st' := [.int x3, .ref x0]) (sg := [(.aload_n 0, 0), (.iload_n 3, 0)]) (by decide +kernel) rfl ?_
      obtain ⟨_, o2, e1, m3, h⟩ := gOb_inv h
      refine Y.callI (yC.Vi (b := x0) (As := [.int x3]) (st := []) (r := ("Partlister$Lists", T_I, 7)) hV.1 cb_I_isThere lk_I_86 in_I_isThere rfl se_I_isThere (by decide +kernel) rfl rfl (Nat.le_of_ble_eq_true rfl) (by decide) e1 m3) (k_I_isThere hV G x0 x3) h (fun v5 G4 _ h => ?_)
      refine Y.if_eq (off := 20) (tgt := 35) (by decide +kernel) (by decide) h (fun c16 h => ?_) (fun c16 h => ?_)
      · refine Y.blk (pc' := 38) (L' := [some (.ref x0), some (.int x1), some (.int x2), some (.int (x3 + (nI 1)))]) (st' := []) (sg := [(.iinc 3 1, nI 1)]) (by decide +kernel) rfl ?_
        refine Y.goto (off := -34) (tgt := 4) (by decide +kernel) (by decide) ?_
        exact ih G4 x0 x1 x2 (x3 + (nI 1)) h
      · refine Y.blk (pc' := 21) (L' := [some (.ref x0), some (.int x1), some (.int x2), some (.int x3)]) (st' := [.int x1, .int x3, .ref x0]) (sg := [(.aload_n 0, 0), (.iload_n 3, 0), (.iload_n 1, 0)]) (by decide +kernel) rfl ?_
        obtain ⟨_, o7, e6, m8, h⟩ := gOb_inv h
        refine Y.callI (yC.Vi (b := x0) (As := [.int x3, .int x1]) (st := []) (r := ("Partlister$Lists", T_I, 7)) hV.1 cb_I_isWithin lk_I_90 in_I_isWithin rfl se_I_isWithin (by decide +kernel) rfl rfl (Nat.le_of_ble_eq_true rfl) (by decide) e6 m8) (k_I_isWithin hV G4 x0 x3 x1) h (fun v10 G9 _ h => ?_)
        refine Y.if_eq (off := 11) (tgt := 35) (by decide +kernel) (by decide) h (fun c15 h => ?_) (fun c15 h => ?_)
        · refine Y.blk (pc' := 38) (L' := [some (.ref x0), some (.int x1), some (.int x2), some (.int (x3 + (nI 1)))]) (st' := []) (sg := [(.iinc 3 1, nI 1)]) (by decide +kernel) rfl ?_
          refine Y.goto (off := -34) (tgt := 4) (by decide +kernel) (by decide) ?_
          exact ih G9 x0 x1 x2 (x3 + (nI 1)) h
        · refine Y.blk (pc' := 29) (L' := [some (.ref x0), some (.int x1), some (.int x2), some (.int x3)]) (st' := [.int x3, .ref x0]) (sg := [(.aload_n 0, 0), (.iload_n 3, 0)]) (by decide +kernel) rfl ?_
          obtain ⟨_, o12, e11, m13, h⟩ := gOb_inv h
          refine Y.callN (yC.Vi (b := x0) (As := [.int x3]) (st := []) (r := ("Partlister$Lists", T_I, 7)) hV.1 cb_I_finish lk_I_94 in_I_finish rfl se_I_finish (by decide +kernel) rfl rfl (Nat.le_of_ble_eq_true rfl) (by decide) e11 m13) (k_I_finish hV G9 x0 x3) h (fun G14 _ h => ?_)
          refine Y.blk (pc' := 38) (L' := [some (.ref x0), some (.int x1), some (.int (x2 + (nI 1))), some (.int (x3 + (nI 1)))]) (st' := []) (sg := [(.iinc 2 1, nI 1), (.iinc 3 1, nI 1)]) (by decide +kernel) rfl ?_
          refine Y.goto (off := -34) (tgt := 4) (by decide +kernel) (by decide) ?_
          exact ih G14 x0 x1 (x2 + (nI 1)) (x3 + (nI 1)) h
theorem k_I_endWithin {l : Launch} {D : va_G} {B : Nat} {O : State → Heap → Prop} (hV : zG l D B O) (G : gH) (a0 : Nat) (a1 : Int32) : gMet (zVm l D B O) m_I_endWithin 3 [.ref a0, .int a1] G (f_I_endWithin G a0 a1) := by
  refine gMet.of (by decide +kernel) (Nat.le_of_ble_eq_true rfl) [some (.ref a0), some (.int a1), none, none] (fun ls h => zEn_ok (n := 4) h) ?_
  intro o Gf h
  unfold f_I_endWithin at h
  refine Y.blk (pc' := 4) (L' := [some (.ref a0), some (.int a1), some (.int (nI 0)), some (.int (nI 2))]) (st' := []) (sg := [(.iconst 0, nI 0), (.istore_n 2, 0), (.iconst 2, nI 2), (.istore_n 3, 0)]) (by decide +kernel) rfl ?_
  refine k_I_endWithin_L4 hV _ ?_  zFu G a0 a1 (nI 0) (nI 2) h
  · intro G19 x18 h
    refine Y.blk (pc' := 42) (L' := [none, none, some (.int x18), none]) (st' := [.int x18]) (sg := [(.iload_n 2, 0)]) (by decide +kernel) rfl ?_
    exact Y.iret rfl (by decide +kernel) h

def f_X_close_L16 (K64 : gH → Int32 → gR) : Nat → gH → Nat → Int32 → Int32 → gR
  | 0, _, _, _, _ => none
  | n + 1, G, x0, x2, x3 =>
    if (nI 3) ≤ x3 then K64 G x2
    else gFA G x0 3 1 fun v11 => gOb G v11 0 fun o13 => bI (f_U_isThere G v11 x3) fun v16 G15 => if v16 = 0 then f_X_close_L16 K64 n G15 x0 x2 (x3 + (nI 1))
      else gFA G15 x0 3 0 fun v17 => gFA G15 x0 3 1 fun v18 => gOb G15 v18 0 fun o20 => bI (f_U_listOf G15 v18 x3) fun v23 G22 => gOb G22 v17 1 fun o25 => bI (f_I_isThere G22 v17 v23) fun v28 G27 => if v28 = 0 then gFA G27 x0 3 1 fun v29 => gOb G27 v29 0 fun o31 => bV (f_U_finish G27 v29 x3) fun G33 => f_X_close_L16 K64 n G33 x0 x2 (x3 + (nI 1))
        else f_X_close_L16 K64 n G27 x0 x2 (x3 + (nI 1))
def f_X_close (G : gH) (a0 : Nat) (a1 : Int32) : gR :=
  gOb G a0 3 fun o2 => bV (f_X_needPart G a0 a1) fun G4 => gFA G4 a0 3 0 fun v5 => gOb G4 v5 1 fun o7 => bI (f_I_endWithin G4 v5 a1) fun v10 G9 => f_X_close_L16 (fun G38 x37 => rI x37 G38) zFu G9 a0 v10 (nI 0)
theorem k_X_close_L16 {l : Launch} {D : va_G} {B : Nat} {O : State → Heap → Prop} (hV : zG l D B O) {o : gO} {Gf : gH} (K64 : gH → Int32 → gR) (hK64 : ∀ (G : gH) (x2 : Int32), K64 G x2 = some (o, Gf) → Y (zVm l D B O) m_X_close 7 o Gf 64 [none, none, some (.int x2), none] [] G) : ∀ (n : Nat) (G : gH) (x0 : Nat) (x2 : Int32) (x3 : Int32), f_X_close_L16 K64 n G x0 x2 x3 = some (o, Gf) → Y (zVm l D B O) m_X_close 7 o Gf 16 [some (.ref x0), none, some (.int x2), some (.int x3)] [] G := by
  intro n
  induction n with
  | zero => intro G x0 x2 x3 h; cases h
  | succ n ih =>
    intro G x0 x2 x3 h
    unfold f_X_close_L16 at h
    refine Y.blk (pc' := 18) (L' := [some (.ref x0), none, some (.int x2), some (.int x3)]) (st' := [.int (nI 3), .int x3]) (sg := [(.iload_n 3, 0), (.iconst 3, nI 3)]) (by decide +kernel) rfl ?_
    refine Y.ic_ge (off := 46) (tgt := 64) (by decide +kernel) (by decide) h (fun c36 h => ?_) (fun c36 h => ?_)
    · refine Y.less (L' := [none, none, some (.int x2), none]) (zLe_none (zLe_some (zLe_some (zLe_none (zLe_nil))))) ?_
      exact hK64 G x2 h
    · refine Y.blk (pc' := 22) (L' := [some (.ref x0), none, some (.int x2), some (.int x3)]) (st' := [.ref x0]) (sg := [(.aload_n 0, 0)]) (by decide +kernel) rfl ?_
      refine Y.getA fl_X_19 (by decide +kernel) h (fun v11 h => ?_)
      refine Y.blk (pc' := 26) (L' := [some (.ref x0), none, some (.int x2), some (.int x3)]) (st' := [.int x3, .ref v11]) (sg := [(.iload_n 3, 0)]) (by decide +kernel) rfl ?_
      obtain ⟨_, o13, e12, m14, h⟩ := gOb_inv h
      refine Y.callI (yC.Vi (b := v11) (As := [.int x3]) (st := []) (r := ("Partlister$Cursors", T_U, 5)) hV.1 cb_U_isThere lk_X_148 in_U_isThere rfl se_U_isThere (by decide +kernel) rfl rfl (Nat.le_of_ble_eq_true rfl) (by decide) e12 m14) (k_U_isThere hV G v11 x3) h (fun v16 G15 _ h => ?_)
      refine Y.if_eq (off := 29) (tgt := 58) (by decide +kernel) (by decide) h (fun c35 h => ?_) (fun c35 h => ?_)
      · refine Y.blk (pc' := 61) (L' := [some (.ref x0), none, some (.int x2), some (.int (x3 + (nI 1)))]) (st' := []) (sg := [(.iinc 3 1, nI 1)]) (by decide +kernel) rfl ?_
        refine Y.goto (off := -45) (tgt := 16) (by decide +kernel) (by decide) ?_
        exact ih G15 x0 x2 (x3 + (nI 1)) h
      · refine Y.blk (pc' := 33) (L' := [some (.ref x0), none, some (.int x2), some (.int x3)]) (st' := [.ref x0]) (sg := [(.aload_n 0, 0)]) (by decide +kernel) rfl ?_
        refine Y.getA fl_X_10 (by decide +kernel) h (fun v17 h => ?_)
        refine Y.blk (pc' := 37) (L' := [some (.ref x0), none, some (.int x2), some (.int x3)]) (st' := [.ref x0, .ref v17]) (sg := [(.aload_n 0, 0)]) (by decide +kernel) rfl ?_
        refine Y.getA fl_X_19 (by decide +kernel) h (fun v18 h => ?_)
        refine Y.blk (pc' := 41) (L' := [some (.ref x0), none, some (.int x2), some (.int x3)]) (st' := [.int x3, .ref v18, .ref v17]) (sg := [(.iload_n 3, 0)]) (by decide +kernel) rfl ?_
        obtain ⟨_, o20, e19, m21, h⟩ := gOb_inv h
        refine Y.callI (yC.Vi (b := v18) (As := [.int x3]) (st := [.ref v17]) (r := ("Partlister$Cursors", T_U, 5)) hV.1 cb_U_listOf lk_X_152 in_U_listOf rfl se_U_listOf (by decide +kernel) rfl rfl (Nat.le_of_ble_eq_true rfl) (by decide) e19 m21) (k_U_listOf hV G15 v18 x3) h (fun v23 G22 _ h => ?_)
        obtain ⟨_, o25, e24, m26, h⟩ := gOb_inv h
        refine Y.callI (yC.Vi (b := v17) (As := [.int v23]) (st := []) (r := ("Partlister$Lists", T_I, 7)) hV.1 cb_I_isThere lk_X_155 in_I_isThere rfl se_I_isThere (by decide +kernel) rfl rfl (Nat.le_of_ble_eq_true rfl) (by decide) e24 m26) (k_I_isThere hV G22 v17 v23) h (fun v28 G27 _ h => ?_)
        refine Y.if_ne (off := 11) (tgt := 58) (by decide +kernel) (by decide) h (fun c34 h => ?_) (fun c34 h => ?_)
        · refine Y.blk (pc' := 51) (L' := [some (.ref x0), none, some (.int x2), some (.int x3)]) (st' := [.ref x0]) (sg := [(.aload_n 0, 0)]) (by decide +kernel) rfl ?_
          refine Y.getA fl_X_19 (by decide +kernel) h (fun v29 h => ?_)
          refine Y.blk (pc' := 55) (L' := [some (.ref x0), none, some (.int x2), some (.int x3)]) (st' := [.int x3, .ref v29]) (sg := [(.iload_n 3, 0)]) (by decide +kernel) rfl ?_
          obtain ⟨_, o31, e30, m32, h⟩ := gOb_inv h
          refine Y.callN (yC.Vi (b := v29) (As := [.int x3]) (st := []) (r := ("Partlister$Cursors", T_U, 5)) hV.1 cb_U_finish lk_X_156 in_U_finish rfl se_U_finish (by decide +kernel) rfl rfl (Nat.le_of_ble_eq_true rfl) (by decide) e30 m32) (k_U_finish hV G27 v29 x3) h (fun G33 _ h => ?_)
          refine Y.blk (pc' := 61) (L' := [some (.ref x0), none, some (.int x2), some (.int (x3 + (nI 1)))]) (st' := []) (sg := [(.iinc 3 1, nI 1)]) (by decide +kernel) rfl ?_
          refine Y.goto (off := -45) (tgt := 16) (by decide +kernel) (by decide) ?_
          exact ih G33 x0 x2 (x3 + (nI 1)) h
        · refine Y.blk (pc' := 61) (L' := [some (.ref x0), none, some (.int x2), some (.int (x3 + (nI 1)))]) (st' := []) (sg := [(.iinc 3 1, nI 1)]) (by decide +kernel) rfl ?_
          refine Y.goto (off := -45) (tgt := 16) (by decide +kernel) (by decide) ?_
          exact ih G27 x0 x2 (x3 + (nI 1)) h
theorem k_X_close {l : Launch} {D : va_G} {B : Nat} {O : State → Heap → Prop} (hV : zG l D B O) (G : gH) (a0 : Nat) (a1 : Int32) : gMet (zVm l D B O) m_X_close 7 [.ref a0, .int a1] G (f_X_close G a0 a1) := by
  refine gMet.of (by decide +kernel) (Nat.le_of_ble_eq_true rfl) [some (.ref a0), some (.int a1), none, none] (fun ls h => zEn_ok (n := 4) h) ?_
  intro o Gf h
  unfold f_X_close at h
  refine Y.blk (pc' := 2) (L' := [some (.ref a0), some (.int a1), none, none]) (st' := [.int a1, .ref a0]) (sg := [(.aload_n 0, 0), (.iload_n 1, 0)]) (by decide +kernel) rfl ?_
  obtain ⟨_, o2, e1, m3, h⟩ := gOb_inv h
  refine Y.callN (yC.Vi (b := a0) (As := [.int a1]) (st := []) (r := ("Partlister", T_X, 5)) hV.1 cb_X_needPart lk_X_142 in_X_needPart rfl se_X_needPart (by decide +kernel) rfl rfl (Nat.le_of_ble_eq_true rfl) (by decide) e1 m3) (k_X_needPart hV G a0 a1) h (fun G4 _ h => ?_)
  refine Y.blk (pc' := 6) (L' := [some (.ref a0), some (.int a1), none, none]) (st' := [.ref a0]) (sg := [(.aload_n 0, 0)]) (by decide +kernel) rfl ?_
  refine Y.getA fl_X_10 (by decide +kernel) h (fun v5 h => ?_)
  refine Y.blk (pc' := 10) (L' := [some (.ref a0), some (.int a1), none, none]) (st' := [.int a1, .ref v5]) (sg := [(.iload_n 1, 0)]) (by decide +kernel) rfl ?_
  obtain ⟨_, o7, e6, m8, h⟩ := gOb_inv h
  refine Y.callI (yC.Vi (b := v5) (As := [.int a1]) (st := []) (r := ("Partlister$Lists", T_I, 7)) hV.1 cb_I_endWithin lk_X_145 in_I_endWithin rfl se_I_endWithin (by decide +kernel) rfl rfl (Nat.le_of_ble_eq_true rfl) (by decide) e6 m8) (k_I_endWithin hV G4 v5 a1) h (fun v10 G9 _ h => ?_)
  refine Y.blk (pc' := 16) (L' := [some (.ref a0), some (.int a1), some (.int v10), some (.int (nI 0))]) (st' := []) (sg := [(.istore_n 2, 0), (.iconst 0, nI 0), (.istore_n 3, 0)]) (by decide +kernel) rfl ?_
  refine Y.less (L' := [some (.ref a0), none, some (.int v10), some (.int (nI 0))]) (zLe_some (zLe_none (zLe_some (zLe_some (zLe_nil))))) ?_
  refine k_X_close_L16 hV _ ?_  zFu G9 a0 v10 (nI 0) h
  · intro G38 x37 h
    refine Y.blk (pc' := 65) (L' := [none, none, some (.int x37), none]) (st' := [.int x37]) (sg := [(.iload_n 2, 0)]) (by decide +kernel) rfl ?_
    exact Y.iret rfl (by decide +kernel) h

def f_X_countDigits_L9 (K33 : gH → Int32 → gR) : Nat → gH → Int32 → Int32 → Int32 → gR
  | 0, _, _, _, _ => none
  | n + 1, G, x1, x2, x3 =>
    if (nI 10) ≤ x3 then K33 G x1
    else if x2 ≤ 0 then K33 G x1
      else gDiv x2 (nI 10) fun v2 => f_X_countDigits_L9 K33 n G (x1 + (nI 1)) v2 (x3 + (nI 1))
def f_X_countDigits (G : gH) (a0 : Int32) : gR :=
  gDiv a0 (nI 10) fun v1 => f_X_countDigits_L9 (fun G6 x5 => rI x5 G6) zFu G (nI 1) v1 (nI 1)
theorem k_X_countDigits_L9 {l : Launch} {D : va_G} {B : Nat} {O : State → Heap → Prop} (hV : zG l D B O) {o : gO} {Gf : gH} (K33 : gH → Int32 → gR) (hK33 : ∀ (G : gH) (x1 : Int32), K33 G x1 = some (o, Gf) → Y (zVm l D B O) m_X_countDigits 1 o Gf 33 [none, some (.int x1), none, none] [] G) : ∀ (n : Nat) (G : gH) (x1 : Int32) (x2 : Int32) (x3 : Int32), f_X_countDigits_L9 K33 n G x1 x2 x3 = some (o, Gf) → Y (zVm l D B O) m_X_countDigits 1 o Gf 9 [none, some (.int x1), some (.int x2), some (.int x3)] [] G := by
  intro n
  induction n with
  | zero => intro G x1 x2 x3 h; cases h
  | succ n ih =>
    intro G x1 x2 x3 h
    unfold f_X_countDigits_L9 at h
    refine Y.blk (pc' := 12) (L' := [none, some (.int x1), some (.int x2), some (.int x3)]) (st' := [.int (nI 10), .int x3]) (sg := [(.iload_n 3, 0), (.bipush 10, nI 10)]) (by decide +kernel) rfl ?_
    refine Y.ic_ge (off := 21) (tgt := 33) (by decide +kernel) (by decide) h (fun c4 h => ?_) (fun c4 h => ?_)
    · refine Y.less (L' := [none, some (.int x1), none, none]) (zLe_some (zLe_some (zLe_none (zLe_none (zLe_nil))))) ?_
      exact hK33 G x1 h
    · refine Y.blk (pc' := 16) (L' := [none, some (.int x1), some (.int x2), some (.int x3)]) (st' := [.int x2]) (sg := [(.iload_n 2, 0)]) (by decide +kernel) rfl ?_
      refine Y.if_le (off := 17) (tgt := 33) (by decide +kernel) (by decide) h (fun c3 h => ?_) (fun c3 h => ?_)
      · refine Y.less (L' := [none, some (.int x1), none, none]) (zLe_some (zLe_some (zLe_none (zLe_none (zLe_nil))))) ?_
        exact hK33 G x1 h
      · refine Y.blk (pc' := 25) (L' := [none, some (.int (x1 + (nI 1))), some (.int x2), some (.int x3)]) (st' := [.int (nI 10), .int x2]) (sg := [(.iinc 1 1, nI 1), (.iload_n 2, 0), (.bipush 10, nI 10)]) (by decide +kernel) rfl ?_
        refine Y.idiv (by decide +kernel) h (fun v2 h => ?_)
        refine Y.blk (pc' := 30) (L' := [none, some (.int (x1 + (nI 1))), some (.int v2), some (.int (x3 + (nI 1)))]) (st' := []) (sg := [(.istore_n 2, 0), (.iinc 3 1, nI 1)]) (by decide +kernel) rfl ?_
        refine Y.goto (off := -21) (tgt := 9) (by decide +kernel) (by decide) ?_
        exact ih G (x1 + (nI 1)) v2 (x3 + (nI 1)) h
theorem k_X_countDigits {l : Launch} {D : va_G} {B : Nat} {O : State → Heap → Prop} (hV : zG l D B O) (G : gH) (a0 : Int32) : gMet (zVm l D B O) m_X_countDigits 1 [.int a0] G (f_X_countDigits G a0) := by
  refine gMet.of (by decide +kernel) (Nat.le_of_ble_eq_true rfl) [some (.int a0), none, none, none] (fun ls h => zEn_ok (n := 4) h) ?_
  intro o Gf h
  unfold f_X_countDigits at h
  refine Y.blk (pc' := 5) (L' := [some (.int a0), some (.int (nI 1)), none, none]) (st' := [.int (nI 10), .int a0]) (sg := [(.iconst 1, nI 1), (.istore_n 1, 0), (.iload_n 0, 0), (.bipush 10, nI 10)]) (by decide +kernel) rfl ?_
  refine Y.idiv (by decide +kernel) h (fun v1 h => ?_)
  refine Y.blk (pc' := 9) (L' := [some (.int a0), some (.int (nI 1)), some (.int v1), some (.int (nI 1))]) (st' := []) (sg := [(.istore_n 2, 0), (.iconst 1, nI 1), (.istore_n 3, 0)]) (by decide +kernel) rfl ?_
  refine Y.less (L' := [none, some (.int (nI 1)), some (.int v1), some (.int (nI 1))]) (zLe_none (zLe_some (zLe_some (zLe_some (zLe_nil))))) ?_
  refine k_X_countDigits_L9 hV _ ?_  zFu G (nI 1) v1 (nI 1) h
  · intro G6 x5 h
    refine Y.blk (pc' := 34) (L' := [none, some (.int x5), none, none]) (st' := [.int x5]) (sg := [(.iload_n 1, 0)]) (by decide +kernel) rfl ?_
    exact Y.iret rfl (by decide +kernel) h

def f_X_countSigns_L22 (K68 : gH → Int32 → gR) : Nat → gH → Nat → Int32 → Int32 → Int32 → Int32 → gR
  | 0, _, _, _, _, _, _ => none
  | n + 1, G, x0, x1, x2, x3, x4 =>
    if x2 ≤ x4 then K68 G x3
    else gFA G x0 3 0 fun v7 => gOb G v7 1 fun o9 => bI (f_I_thingAt G v7 x1 x4) fun v12 G11 => bI (f_X_keyOf G11 v12) fun v15 G14 => bI (f_X_countDigits G14 v15) fun v18 G17 => bI (f_X_tagOf G17 v12) fun v21 G20 => bI (f_X_countDigits G20 v21) fun v24 G23 => f_X_countSigns_L22 K68 n G23 x0 x1 x2 (x3 + ((v18 + (nI 1)) + v24)) (x4 + (nI 1))
def f_X_countSigns (G : gH) (a0 : Nat) (a1 : Int32) : gR :=
  gFA G a0 3 0 fun v1 => gOb G v1 1 fun o3 => bI (f_I_lengthOf G v1 a1) fun v6 G5 => if v6 = 0 then rI (nI 1) G5
  else f_X_countSigns_L22 (fun G27 x26 => rI x26 G27) zFu G5 a0 a1 v6 (v6 - (nI 1)) (nI 0)
theorem k_X_countSigns_L22 {l : Launch} {D : va_G} {B : Nat} {O : State → Heap → Prop} (hV : zG l D B O) {o : gO} {Gf : gH} (K68 : gH → Int32 → gR) (hK68 : ∀ (G : gH) (x3 : Int32), K68 G x3 = some (o, Gf) → Y (zVm l D B O) m_X_countSigns 4 o Gf 68 [none, none, none, some (.int x3), none, none] [] G) : ∀ (n : Nat) (G : gH) (x0 : Nat) (x1 : Int32) (x2 : Int32) (x3 : Int32) (x4 : Int32), f_X_countSigns_L22 K68 n G x0 x1 x2 x3 x4 = some (o, Gf) → Y (zVm l D B O) m_X_countSigns 4 o Gf 22 [some (.ref x0), some (.int x1), some (.int x2), some (.int x3), some (.int x4), none] [] G := by
  intro n
  induction n with
  | zero => intro G x0 x1 x2 x3 x4 h; cases h
  | succ n ih =>
    intro G x0 x1 x2 x3 x4 h
    unfold f_X_countSigns_L22 at h
    refine Y.blk (pc' := 25) (L' := [some (.ref x0), some (.int x1), some (.int x2), some (.int x3), some (.int x4), none]) (st' := [.int x2, .int x4]) (sg := [(.iload 4, 0), (.iload_n 2, 0)]) (by decide +kernel) rfl ?_
    refine Y.ic_ge (off := 43) (tgt := 68) (by decide +kernel) (by decide) h (fun c25 h => ?_) (fun c25 h => ?_)
    · refine Y.less (L' := [none, none, none, some (.int x3), none, none]) (zLe_none (zLe_none (zLe_none (zLe_some (zLe_none (zLe_some (zLe_nil))))))) ?_
      exact hK68 G x3 h
    · refine Y.blk (pc' := 29) (L' := [some (.ref x0), some (.int x1), some (.int x2), some (.int x3), some (.int x4), none]) (st' := [.ref x0]) (sg := [(.aload_n 0, 0)]) (by decide +kernel) rfl ?_
      refine Y.getA fl_X_10 (by decide +kernel) h (fun v7 h => ?_)
      refine Y.blk (pc' := 35) (L' := [some (.ref x0), some (.int x1), some (.int x2), some (.int x3), some (.int x4), none]) (st' := [.int x4, .int x1, .ref v7]) (sg := [(.iload_n 1, 0), (.iload 4, 0)]) (by decide +kernel) rfl ?_
      obtain ⟨_, o9, e8, m10, h⟩ := gOb_inv h
      refine Y.callI (yC.Vi (b := v7) (As := [.int x1, .int x4]) (st := []) (r := ("Partlister$Lists", T_I, 7)) hV.1 cb_I_thingAt lk_X_94 in_I_thingAt rfl se_I_thingAt (by decide +kernel) rfl rfl (Nat.le_of_ble_eq_true rfl) (by decide) e8 m10) (k_I_thingAt hV G v7 x1 x4) h (fun v12 G11 _ h => ?_)
      refine Y.blk (pc' := 43) (L' := [some (.ref x0), some (.int x1), some (.int x2), some (.int x3), some (.int x4), some (.int v12)]) (st' := [.int v12, .int x3]) (sg := [(.istore 5, 0), (.iload_n 3, 0), (.iload 5, 0)]) (by decide +kernel) rfl ?_
      refine Y.callI (yC.S (As := [.int v12]) (st := [.int x3]) hV.1 cb_X_keyOf lk_X_97 st_X_keyOf (by decide +kernel) rfl rfl (Nat.le_of_ble_eq_true rfl) (by decide)) (k_X_keyOf hV G11 v12) h (fun v15 G14 _ h => ?_)
      refine Y.callI (yC.S (As := [.int v15]) (st := [.int x3]) hV.1 cb_X_countDigits lk_X_326 st_X_countDigits (by decide +kernel) rfl rfl (Nat.le_of_ble_eq_true rfl) (by decide)) (k_X_countDigits hV G14 v15) h (fun v18 G17 _ h => ?_)
      refine Y.blk (pc' := 53) (L' := [some (.ref x0), some (.int x1), some (.int x2), some (.int x3), some (.int x4), some (.int v12)]) (st' := [.int v12, .int (v18 + (nI 1)), .int x3]) (sg := [(.iconst 1, nI 1), (.iadd, 0), (.iload 5, 0)]) (by decide +kernel) rfl ?_
      refine Y.callI (yC.S (As := [.int v12]) (st := [.int (v18 + (nI 1)), .int x3]) hV.1 cb_X_tagOf lk_X_48 st_X_tagOf (by decide +kernel) rfl rfl (Nat.le_of_ble_eq_true rfl) (by decide)) (k_X_tagOf hV G17 v12) h (fun v21 G20 _ h => ?_)
      refine Y.callI (yC.S (As := [.int v21]) (st := [.int (v18 + (nI 1)), .int x3]) hV.1 cb_X_countDigits lk_X_326 st_X_countDigits (by decide +kernel) rfl rfl (Nat.le_of_ble_eq_true rfl) (by decide)) (k_X_countDigits hV G20 v21) h (fun v24 G23 _ h => ?_)
      refine Y.blk (pc' := 65) (L' := [some (.ref x0), some (.int x1), some (.int x2), some (.int (x3 + ((v18 + (nI 1)) + v24))), some (.int (x4 + (nI 1))), some (.int v12)]) (st' := []) (sg := [(.iadd, 0), (.iadd, 0), (.istore_n 3, 0), (.iinc 4 1, nI 1)]) (by decide +kernel) rfl ?_
      refine Y.goto (off := -43) (tgt := 22) (by decide +kernel) (by decide) ?_
      refine Y.less (L' := [some (.ref x0), some (.int x1), some (.int x2), some (.int (x3 + ((v18 + (nI 1)) + v24))), some (.int (x4 + (nI 1))), none]) (zLe_some (zLe_some (zLe_some (zLe_some (zLe_some (zLe_none (zLe_nil))))))) ?_
      exact ih G23 x0 x1 x2 (x3 + ((v18 + (nI 1)) + v24)) (x4 + (nI 1)) h
theorem k_X_countSigns {l : Launch} {D : va_G} {B : Nat} {O : State → Heap → Prop} (hV : zG l D B O) (G : gH) (a0 : Nat) (a1 : Int32) : gMet (zVm l D B O) m_X_countSigns 4 [.ref a0, .int a1] G (f_X_countSigns G a0 a1) := by
  refine gMet.of (by decide +kernel) (Nat.le_of_ble_eq_true rfl) [some (.ref a0), some (.int a1), none, none, none, none] (fun ls h => zEn_ok (n := 6) h) ?_
  intro o Gf h
  unfold f_X_countSigns at h
  refine Y.blk (pc' := 1) (L' := [some (.ref a0), some (.int a1), none, none, none, none]) (st' := [.ref a0]) (sg := [(.aload_n 0, 0)]) (by decide +kernel) rfl ?_
  refine Y.getA fl_X_10 (by decide +kernel) h (fun v1 h => ?_)
  refine Y.blk (pc' := 5) (L' := [some (.ref a0), some (.int a1), none, none, none, none]) (st' := [.int a1, .ref v1]) (sg := [(.iload_n 1, 0)]) (by decide +kernel) rfl ?_
  obtain ⟨_, o3, e2, m4, h⟩ := gOb_inv h
  refine Y.callI (yC.Vi (b := v1) (As := [.int a1]) (st := []) (r := ("Partlister$Lists", T_I, 7)) hV.1 cb_I_lengthOf lk_X_34 in_I_lengthOf rfl se_I_lengthOf (by decide +kernel) rfl rfl (Nat.le_of_ble_eq_true rfl) (by decide) e2 m4) (k_I_lengthOf hV G v1 a1) h (fun v6 G5 _ h => ?_)
  refine Y.blk (pc' := 10) (L' := [some (.ref a0), some (.int a1), some (.int v6), none, none, none]) (st' := [.int v6]) (sg := [(.istore_n 2, 0), (.iload_n 2, 0)]) (by decide +kernel) rfl ?_
  refine Y.if_ne (off := 5) (tgt := 15) (by decide +kernel) (by decide) h (fun c28 h => ?_) (fun c28 h => ?_)
  · refine Y.blk (pc' := 14) (L' := [some (.ref a0), some (.int a1), some (.int v6), none, none, none]) (st' := [.int (nI 1)]) (sg := [(.iconst 1, nI 1)]) (by decide +kernel) rfl ?_
    exact Y.iret rfl (by decide +kernel) h
  · refine Y.blk (pc' := 22) (L' := [some (.ref a0), some (.int a1), some (.int v6), some (.int (v6 - (nI 1))), some (.int (nI 0)), none]) (st' := []) (sg := [(.iload_n 2, 0), (.iconst 1, nI 1), (.isub, 0), (.istore_n 3, 0), (.iconst 0, nI 0), (.istore 4, 0)]) (by decide +kernel) rfl ?_
    refine k_X_countSigns_L22 hV _ ?_  zFu G5 a0 a1 v6 (v6 - (nI 1)) (nI 0) h
    · intro G27 x26 h
      refine Y.blk (pc' := 69) (L' := [none, none, none, some (.int x26), none, none]) (st' := [.int x26]) (sg := [(.iload_n 3, 0)]) (by decide +kernel) rfl ?_
      exact Y.iret rfl (by decide +kernel) h
end
section
def f_U_freeCursor_L2 (K15 : gH → Int32 → gR) (K23 : gH → gR) : Nat → gH → Nat → Int32 → gR
  | 0, _, _, _ => none
  | n + 1, G, x0, x1 =>
    if (nI 3) ≤ x1 then K23 G
    else gOb G x0 0 fun o2 => bI (f_U_isThere G x0 x1) fun v5 G4 => if v5 = 0 then K15 G4 x1
      else f_U_freeCursor_L2 K15 K23 n G4 x0 (x1 + (nI 1))
def f_U_freeCursor (G : gH) (a0 : Nat) : gR :=
  f_U_freeCursor_L2 (fun G9 x8 => rI x8 G9) (fun G10 => rI (-1) G10) zFu G a0 (nI 0)
theorem k_U_freeCursor_L2 {l : Launch} {D : va_G} {B : Nat} {O : State → Heap → Prop} (hV : zG l D B O) {o : gO} {Gf : gH} (K15 : gH → Int32 → gR) (K23 : gH → gR) (hK15 : ∀ (G : gH) (x1 : Int32), K15 G x1 = some (o, Gf) → Y (zVm l D B O) m_U_freeCursor 4 o Gf 15 [none, some (.int x1)] [] G) (hK23 : ∀ (G : gH), K23 G  = some (o, Gf) → Y (zVm l D B O) m_U_freeCursor 4 o Gf 23 [none, none] [] G) : ∀ (n : Nat) (G : gH) (x0 : Nat) (x1 : Int32), f_U_freeCursor_L2 K15 K23 n G x0 x1 = some (o, Gf) → Y (zVm l D B O) m_U_freeCursor 4 o Gf 2 [some (.ref x0), some (.int x1)] [] G := by
  intro n
  induction n with
  | zero => intro G x0 x1 h; cases h
  | succ n ih =>
    intro G x0 x1 h
    unfold f_U_freeCursor_L2 at h
    refine Y.blk (pc' := 4) (L' := [some (.ref x0), some (.int x1)]) (st' := [.int (nI 3), .int x1]) (sg := [(.iload_n 1, 0), (.iconst 3, nI 3)]) (by decide +kernel) rfl ?_
    refine Y.ic_ge (off := 19) (tgt := 23) (by decide +kernel) (by decide) h (fun c7 h => ?_) (fun c7 h => ?_)
    · refine Y.less (L' := [none, none]) (zLe_none (zLe_none (zLe_nil))) ?_
      exact hK23 G  h
    · refine Y.blk (pc' := 9) (L' := [some (.ref x0), some (.int x1)]) (st' := [.int x1, .ref x0]) (sg := [(.aload_n 0, 0), (.iload_n 1, 0)]) (by decide +kernel) rfl ?_
      obtain ⟨_, o2, e1, m3, h⟩ := gOb_inv h
      refine Y.callI (yC.Vi (b := x0) (As := [.int x1]) (st := []) (r := ("Partlister$Cursors", T_U, 5)) hV.1 cb_U_isThere lk_U_37 in_U_isThere rfl se_U_isThere (by decide +kernel) rfl rfl (Nat.le_of_ble_eq_true rfl) (by decide) e1 m3) (k_U_isThere hV G x0 x1) h (fun v5 G4 _ h => ?_)
      refine Y.if_ne (off := 5) (tgt := 17) (by decide +kernel) (by decide) h (fun c6 h => ?_) (fun c6 h => ?_)
      · refine Y.less (L' := [none, some (.int x1)]) (zLe_none (zLe_some (zLe_nil))) ?_
        exact hK15 G4 x1 h
      · refine Y.blk (pc' := 20) (L' := [some (.ref x0), some (.int (x1 + (nI 1)))]) (st' := []) (sg := [(.iinc 1 1, nI 1)]) (by decide +kernel) rfl ?_
        refine Y.goto (off := -18) (tgt := 2) (by decide +kernel) (by decide) ?_
        exact ih G4 x0 (x1 + (nI 1)) h
theorem k_U_freeCursor {l : Launch} {D : va_G} {B : Nat} {O : State → Heap → Prop} (hV : zG l D B O) (G : gH) (a0 : Nat) : gMet (zVm l D B O) m_U_freeCursor 4 [.ref a0] G (f_U_freeCursor G a0) := by
  refine gMet.of (by decide +kernel) (Nat.le_of_ble_eq_true rfl) [some (.ref a0), none] (fun ls h => zEn_ok (n := 2) h) ?_
  intro o Gf h
  unfold f_U_freeCursor at h
  refine Y.blk (pc' := 2) (L' := [some (.ref a0), some (.int (nI 0))]) (st' := []) (sg := [(.iconst 0, nI 0), (.istore_n 1, 0)]) (by decide +kernel) rfl ?_
  refine k_U_freeCursor_L2 hV _ _ ?_ ?_  zFu G a0 (nI 0) h
  · intro G9 x8 h
    refine Y.blk (pc' := 16) (L' := [none, some (.int x8)]) (st' := [.int x8]) (sg := [(.iload_n 1, 0)]) (by decide +kernel) rfl ?_
    exact Y.iret rfl (by decide +kernel) h
  · intro G10 h
    refine Y.blk (pc' := 24) (L' := [none, none]) (st' := [.int (-1)]) (sg := [(.iconst (-1), -1)]) (by decide +kernel) rfl ?_
    exact Y.iret rfl (by decide +kernel) h

def f_U_stand (G : gH) (a0 : Nat) (a1 : Int32) (a2 : Int32) (a3 : Int32) : gR :=
  gFA G a0 0 2 fun v1 => gOb G v1 2 fun o3 => bV (f_N_write G v1 a1 a2) fun G5 => gFA G5 a0 0 3 fun v6 => gOb G5 v6 2 fun o8 => bV (f_N_write G5 v6 a1 a3) fun G10 => rV G10
theorem k_U_stand {l : Launch} {D : va_G} {B : Nat} {O : State → Heap → Prop} (hV : zG l D B O) (G : gH) (a0 : Nat) (a1 : Int32) (a2 : Int32) (a3 : Int32) : gMet (zVm l D B O) m_U_stand 2 [.ref a0, .int a1, .int a2, .int a3] G (f_U_stand G a0 a1 a2 a3) := by
  refine gMet.of (by decide +kernel) (Nat.le_of_ble_eq_true rfl) [some (.ref a0), some (.int a1), some (.int a2), some (.int a3)] (fun ls h => zEn_ok (n := 4) h) ?_
  intro o Gf h
  unfold f_U_stand at h
  refine Y.blk (pc' := 1) (L' := [some (.ref a0), some (.int a1), some (.int a2), some (.int a3)]) (st' := [.ref a0]) (sg := [(.aload_n 0, 0)]) (by decide +kernel) rfl ?_
  refine Y.getA fl_U_23 (by decide +kernel) h (fun v1 h => ?_)
  refine Y.blk (pc' := 6) (L' := [some (.ref a0), some (.int a1), some (.int a2), some (.int a3)]) (st' := [.int a2, .int a1, .ref v1]) (sg := [(.iload_n 1, 0), (.iload_n 2, 0)]) (by decide +kernel) rfl ?_
  obtain ⟨_, o3, e2, m4, h⟩ := gOb_inv h
  refine Y.callN (yC.Vi (b := v1) (As := [.int a1, .int a2]) (st := []) (r := ("Partlister$Numbers", T_N, 1)) hV.1 cb_N_write lk_U_40 in_N_write rfl se_N_write (by decide +kernel) rfl rfl (Nat.le_of_ble_eq_true rfl) (by decide) e2 m4) (k_N_write hV G v1 a1 a2) h (fun G5 _ h => ?_)
  refine Y.blk (pc' := 10) (L' := [some (.ref a0), some (.int a1), some (.int a2), some (.int a3)]) (st' := [.ref a0]) (sg := [(.aload_n 0, 0)]) (by decide +kernel) rfl ?_
  refine Y.getA fl_U_26 (by decide +kernel) h (fun v6 h => ?_)
  refine Y.blk (pc' := 15) (L' := [some (.ref a0), some (.int a1), some (.int a2), some (.int a3)]) (st' := [.int a3, .int a1, .ref v6]) (sg := [(.iload_n 1, 0), (.iload_n 3, 0)]) (by decide +kernel) rfl ?_
  obtain ⟨_, o8, e7, m9, h⟩ := gOb_inv h
  refine Y.callN (yC.Vi (b := v6) (As := [.int a1, .int a3]) (st := []) (r := ("Partlister$Numbers", T_N, 1)) hV.1 cb_N_write lk_U_40 in_N_write rfl se_N_write (by decide +kernel) rfl rfl (Nat.le_of_ble_eq_true rfl) (by decide) e7 m9) (k_N_write hV G5 v6 a1 a3) h (fun G10 _ h => ?_)
  exact Y.vret rfl (by decide +kernel) h

def f_U_start (G : gH) (a0 : Nat) (a1 : Int32) (a2 : Int32) (a3 : Int32) : gR :=
  gFA G a0 0 0 fun v1 => gOb G v1 2 fun o3 => bV (f_N_write G v1 a1 (nI 1)) fun G5 => gFA G5 a0 0 1 fun v6 => gOb G5 v6 2 fun o8 => bV (f_N_write G5 v6 a1 a2) fun G10 => gOb G10 a0 0 fun o12 => bV (f_U_stand G10 a0 a1 a3 (-1)) fun G14 => rV G14
theorem k_U_start {l : Launch} {D : va_G} {B : Nat} {O : State → Heap → Prop} (hV : zG l D B O) (G : gH) (a0 : Nat) (a1 : Int32) (a2 : Int32) (a3 : Int32) : gMet (zVm l D B O) m_U_start 3 [.ref a0, .int a1, .int a2, .int a3] G (f_U_start G a0 a1 a2 a3) := by
  refine gMet.of (by decide +kernel) (Nat.le_of_ble_eq_true rfl) [some (.ref a0), some (.int a1), some (.int a2), some (.int a3)] (fun ls h => zEn_ok (n := 4) h) ?_
  intro o Gf h
  unfold f_U_start at h
  refine Y.blk (pc' := 1) (L' := [some (.ref a0), some (.int a1), some (.int a2), some (.int a3)]) (st' := [.ref a0]) (sg := [(.aload_n 0, 0)]) (by decide +kernel) rfl ?_
  refine Y.getA fl_U_14 (by decide +kernel) h (fun v1 h => ?_)
  refine Y.blk (pc' := 6) (L' := [some (.ref a0), some (.int a1), some (.int a2), some (.int a3)]) (st' := [.int (nI 1), .int a1, .ref v1]) (sg := [(.iload_n 1, 0), (.iconst 1, nI 1)]) (by decide +kernel) rfl ?_
  obtain ⟨_, o3, e2, m4, h⟩ := gOb_inv h
  refine Y.callN (yC.Vi (b := v1) (As := [.int a1, .int (nI 1)]) (st := []) (r := ("Partlister$Numbers", T_N, 1)) hV.1 cb_N_write lk_U_40 in_N_write rfl se_N_write (by decide +kernel) rfl rfl (Nat.le_of_ble_eq_true rfl) (by decide) e2 m4) (k_N_write hV G v1 a1 (nI 1)) h (fun G5 _ h => ?_)
  refine Y.blk (pc' := 10) (L' := [some (.ref a0), some (.int a1), some (.int a2), some (.int a3)]) (st' := [.ref a0]) (sg := [(.aload_n 0, 0)]) (by decide +kernel) rfl ?_
  refine Y.getA fl_U_20 (by decide +kernel) h (fun v6 h => ?_)
  refine Y.blk (pc' := 15) (L' := [some (.ref a0), some (.int a1), some (.int a2), some (.int a3)]) (st' := [.int a2, .int a1, .ref v6]) (sg := [(.iload_n 1, 0), (.iload_n 2, 0)]) (by decide +kernel) rfl ?_
  obtain ⟨_, o8, e7, m9, h⟩ := gOb_inv h
  refine Y.callN (yC.Vi (b := v6) (As := [.int a1, .int a2]) (st := []) (r := ("Partlister$Numbers", T_N, 1)) hV.1 cb_N_write lk_U_40 in_N_write rfl se_N_write (by decide +kernel) rfl rfl (Nat.le_of_ble_eq_true rfl) (by decide) e7 m9) (k_N_write hV G5 v6 a1 a2) h (fun G10 _ h => ?_)
  refine Y.blk (pc' := 22) (L' := [some (.ref a0), some (.int a1), some (.int a2), some (.int a3)]) (st' := [.int (-1), .int a3, .int a1, .ref a0]) (sg := [(.aload_n 0, 0), (.iload_n 1, 0), (.iload_n 3, 0), (.iconst (-1), -1)]) (by decide +kernel) rfl ?_
  obtain ⟨_, o12, e11, m13, h⟩ := gOb_inv h
  refine Y.callN (yC.Vi (b := a0) (As := [.int a1, .int a3, .int (-1)]) (st := []) (r := ("Partlister$Cursors", T_U, 5)) hV.1 cb_U_stand lk_U_44 in_U_stand rfl se_U_stand (by decide +kernel) rfl rfl (Nat.le_of_ble_eq_true rfl) (by decide) e11 m13) (k_U_stand hV G10 a0 a1 a3 (-1)) h (fun G14 _ h => ?_)
  exact Y.vret rfl (by decide +kernel) h

def f_X_cursor (G : gH) (a0 : Nat) (a1 : Int32) (a2 : Int32) : gR :=
  gOb G a0 3 fun o2 => bV (f_X_needList G a0 a1) fun G4 => gOb G4 a0 3 fun o6 => bV (f_X_needGap G4 a0 a1 a2) fun G8 => gFA G8 a0 3 1 fun v9 => gOb G8 v9 0 fun o11 => bI (f_U_freeCursor G8 v9) fun v14 G13 => if v14 = (-1) then gThrow "java/lang/IllegalStateException" G13
  else gFA G13 a0 3 1 fun v15 => gOb G13 v15 0 fun o17 => bV (f_U_start G13 v15 v14 a1 a2) fun G19 => rI v14 G19
theorem k_X_cursor {l : Launch} {D : va_G} {B : Nat} {O : State → Heap → Prop} (hV : zG l D B O) (G : gH) (a0 : Nat) (a1 : Int32) (a2 : Int32) : gMet (zVm l D B O) m_X_cursor 7 [.ref a0, .int a1, .int a2] G (f_X_cursor G a0 a1 a2) := by
  refine gMet.of (by decide +kernel) (Nat.le_of_ble_eq_true rfl) [some (.ref a0), some (.int a1), some (.int a2), none] (fun ls h => zEn_ok (n := 4) h) ?_
  intro o Gf h
  unfold f_X_cursor at h
  refine Y.blk (pc' := 2) (L' := [some (.ref a0), some (.int a1), some (.int a2), none]) (st' := [.int a1, .ref a0]) (sg := [(.aload_n 0, 0), (.iload_n 1, 0)]) (by decide +kernel) rfl ?_
  obtain ⟨_, o2, e1, m3, h⟩ := gOb_inv h
  refine Y.callN (yC.Vi (b := a0) (As := [.int a1]) (st := []) (r := ("Partlister", T_X, 5)) hV.1 cb_X_needList lk_X_23 in_X_needList rfl se_X_needList (by decide +kernel) rfl rfl (Nat.le_of_ble_eq_true rfl) (by decide) e1 m3) (k_X_needList hV G a0 a1) h (fun G4 _ h => ?_)
  refine Y.blk (pc' := 8) (L' := [some (.ref a0), some (.int a1), some (.int a2), none]) (st' := [.int a2, .int a1, .ref a0]) (sg := [(.aload_n 0, 0), (.iload_n 1, 0), (.iload_n 2, 0)]) (by decide +kernel) rfl ?_
  obtain ⟨_, o6, e5, m7, h⟩ := gOb_inv h
  refine Y.callN (yC.Vi (b := a0) (As := [.int a1, .int a2]) (st := []) (r := ("Partlister", T_X, 5)) hV.1 cb_X_needGap lk_X_45 in_X_needGap rfl se_X_needGap (by decide +kernel) rfl rfl (Nat.le_of_ble_eq_true rfl) (by decide) e5 m7) (k_X_needGap hV G4 a0 a1 a2) h (fun G8 _ h => ?_)
  refine Y.blk (pc' := 12) (L' := [some (.ref a0), some (.int a1), some (.int a2), none]) (st' := [.ref a0]) (sg := [(.aload_n 0, 0)]) (by decide +kernel) rfl ?_
  refine Y.getA fl_X_19 (by decide +kernel) h (fun v9 h => ?_)
  obtain ⟨_, o11, e10, m12, h⟩ := gOb_inv h
  refine Y.callI (yC.Vi (b := v9) (As := []) (st := []) (r := ("Partlister$Cursors", T_U, 5)) hV.1 cb_U_freeCursor lk_X_159 in_U_freeCursor rfl se_U_freeCursor (by decide +kernel) rfl rfl (Nat.le_of_ble_eq_true rfl) (by decide) e10 m12) (k_U_freeCursor hV G8 v9) h (fun v14 G13 _ h => ?_)
  refine Y.blk (pc' := 21) (L' := [some (.ref a0), some (.int a1), some (.int a2), some (.int v14)]) (st' := [.int (-1), .int v14]) (sg := [(.istore_n 3, 0), (.iload_n 3, 0), (.iconst (-1), -1)]) (by decide +kernel) rfl ?_
  refine Y.ic_ne (off := 13) (tgt := 34) (by decide +kernel) (by decide) h (fun c20 h => ?_) (fun c20 h => ?_)
  · exact Y.throwS (is := 162) (text := "there are three CURSORS") (names := zNm) hV.1 (hV.2 _ _ _ (by decide +kernel)) (by decide +kernel) (by decide +kernel) ck_X_134 ini_ISE tw_X_138 tg_X_138 (by decide) (by decide) rfl (Nat.le_of_ble_eq_true rfl) (by decide +kernel) (by decide +kernel) (by decide +kernel) (by decide +kernel) (by decide +kernel) h
  · refine Y.blk (pc' := 35) (L' := [some (.ref a0), some (.int a1), some (.int a2), some (.int v14)]) (st' := [.ref a0]) (sg := [(.aload_n 0, 0)]) (by decide +kernel) rfl ?_
    refine Y.getA fl_X_19 (by decide +kernel) h (fun v15 h => ?_)
    refine Y.blk (pc' := 41) (L' := [some (.ref a0), some (.int a1), some (.int a2), some (.int v14)]) (st' := [.int a2, .int a1, .int v14, .ref v15]) (sg := [(.iload_n 3, 0), (.iload_n 1, 0), (.iload_n 2, 0)]) (by decide +kernel) rfl ?_
    obtain ⟨_, o17, e16, m18, h⟩ := gOb_inv h
    refine Y.callN (yC.Vi (b := v15) (As := [.int v14, .int a1, .int a2]) (st := []) (r := ("Partlister$Cursors", T_U, 5)) hV.1 cb_U_start lk_X_164 in_U_start rfl se_U_start (by decide +kernel) rfl rfl (Nat.le_of_ble_eq_true rfl) (by decide) e16 m18) (k_U_start hV G13 v15 v14 a1 a2) h (fun G19 _ h => ?_)
    refine Y.blk (pc' := 45) (L' := [some (.ref a0), some (.int a1), some (.int a2), some (.int v14)]) (st' := [.int v14]) (sg := [(.iload_n 3, 0)]) (by decide +kernel) rfl ?_
    exact Y.iret rfl (by decide +kernel) h

def f_X_mix (G : gH) (a0 : Int64) (a2 : Int64) : gR :=
  rL ((a0 * (lN 31)) + a2) G
theorem k_X_mix {l : Launch} {D : va_G} {B : Nat} {O : State → Heap → Prop} (hV : zG l D B O) (G : gH) (a0 : Int64) (a2 : Int64) : gMet (zVm l D B O) m_X_mix 1 [.long a0, .long a2] G (f_X_mix G a0 a2) := by
  refine gMet.of (by decide +kernel) (Nat.le_of_ble_eq_true rfl) [some (.long a0), none, some (.long a2), none] (fun ls h => zEn_ok (n := 4) h) ?_
  intro o Gf h
  unfold f_X_mix at h
  refine Y.blk (pc' := 1) (L' := [some (.long a0), none, some (.long a2), none]) (st' := [.long a0]) (sg := [(.lload_n 0, 0)]) (by decide +kernel) rfl ?_
  refine Y.ldc2 (v := lN 31) co_X_321 (by decide +kernel) ?_
  refine Y.blk (pc' := 7) (L' := [some (.long a0), none, some (.long a2), none]) (st' := [.long ((a0 * (lN 31)) + a2)]) (sg := [(.lmul, 0), (.lload_n 2, 0), (.ladd, 0)]) (by decide +kernel) rfl ?_
  exact Y.lret rfl (by decide +kernel) h

def f_I_countOf_L12 (K38 : gH → Int32 → gR) : Nat → gH → Nat → Int32 → Int32 → Int32 → Int32 → Int32 → gR
  | 0, _, _, _, _, _, _, _ => none
  | n + 1, G, x0, x1, x2, x3, x4, x5 =>
    if x3 ≤ x5 then K38 G x4
    else gOb G x0 1 fun o7 => bI (f_I_keyAt G x0 x1 x5) fun v10 G9 => if v10 = x2 then f_I_countOf_L12 K38 n G9 x0 x1 x2 x3 (x4 + (nI 1)) (x5 + (nI 1))
      else f_I_countOf_L12 K38 n G9 x0 x1 x2 x3 x4 (x5 + (nI 1))
def f_I_countOf (G : gH) (a0 : Nat) (a1 : Int32) (a2 : Int32) : gR :=
  gOb G a0 1 fun o2 => bI (f_I_lengthOf G a0 a1) fun v5 G4 => f_I_countOf_L12 (fun G14 x13 => rI x13 G14) zFu G4 a0 a1 a2 v5 (nI 0) (nI 0)
theorem k_I_countOf_L12 {l : Launch} {D : va_G} {B : Nat} {O : State → Heap → Prop} (hV : zG l D B O) {o : gO} {Gf : gH} (K38 : gH → Int32 → gR) (hK38 : ∀ (G : gH) (x4 : Int32), K38 G x4 = some (o, Gf) → Y (zVm l D B O) m_I_countOf 4 o Gf 38 [none, none, none, none, some (.int x4), none] [] G) : ∀ (n : Nat) (G : gH) (x0 : Nat) (x1 : Int32) (x2 : Int32) (x3 : Int32) (x4 : Int32) (x5 : Int32), f_I_countOf_L12 K38 n G x0 x1 x2 x3 x4 x5 = some (o, Gf) → Y (zVm l D B O) m_I_countOf 4 o Gf 12 [some (.ref x0), some (.int x1), some (.int x2), some (.int x3), some (.int x4), some (.int x5)] [] G := by
  intro n
  induction n with
  | zero => intro G x0 x1 x2 x3 x4 x5 h; cases h
  | succ n ih =>
    intro G x0 x1 x2 x3 x4 x5 h
    unfold f_I_countOf_L12 at h
    refine Y.blk (pc' := 15) (L' := [some (.ref x0), some (.int x1), some (.int x2), some (.int x3), some (.int x4), some (.int x5)]) (st' := [.int x3, .int x5]) (sg := [(.iload 5, 0), (.iload_n 3, 0)]) (by decide +kernel) rfl ?_
    refine Y.ic_ge (off := 23) (tgt := 38) (by decide +kernel) (by decide) h (fun c12 h => ?_) (fun c12 h => ?_)
    · refine Y.less (L' := [none, none, none, none, some (.int x4), none]) (zLe_none (zLe_none (zLe_none (zLe_none (zLe_some (zLe_none (zLe_nil))))))) ?_
      exact hK38 G x4 h
    · refine Y.blk (pc' := 22) (L' := [some (.ref x0), some (.int x1), some (.int x2), some (.int x3), some (.int x4), some (.int x5)]) (st' := [.int x5, .int x1, .ref x0]) (sg := [(.aload_n 0, 0), (.iload_n 1, 0), (.iload 5, 0)]) (by decide +kernel) rfl ?_
      obtain ⟨_, o7, e6, m8, h⟩ := gOb_inv h
      refine Y.callI (yC.Vi (b := x0) (As := [.int x1, .int x5]) (st := []) (r := ("Partlister$Lists", T_I, 7)) hV.1 cb_I_keyAt lk_I_101 in_I_keyAt rfl se_I_keyAt (by decide +kernel) rfl rfl (Nat.le_of_ble_eq_true rfl) (by decide) e6 m8) (k_I_keyAt hV G x0 x1 x5) h (fun v10 G9 _ h => ?_)
      refine Y.blk (pc' := 26) (L' := [some (.ref x0), some (.int x1), some (.int x2), some (.int x3), some (.int x4), some (.int x5)]) (st' := [.int x2, .int v10]) (sg := [(.iload_n 2, 0)]) (by decide +kernel) rfl ?_
      refine Y.ic_ne (off := 6) (tgt := 32) (by decide +kernel) (by decide) h (fun c11 h => ?_) (fun c11 h => ?_)
      · refine Y.blk (pc' := 35) (L' := [some (.ref x0), some (.int x1), some (.int x2), some (.int x3), some (.int (x4 + (nI 1))), some (.int (x5 + (nI 1)))]) (st' := []) (sg := [(.iinc 4 1, nI 1), (.iinc 5 1, nI 1)]) (by decide +kernel) rfl ?_
        refine Y.goto (off := -23) (tgt := 12) (by decide +kernel) (by decide) ?_
        exact ih G9 x0 x1 x2 x3 (x4 + (nI 1)) (x5 + (nI 1)) h
      · refine Y.blk (pc' := 35) (L' := [some (.ref x0), some (.int x1), some (.int x2), some (.int x3), some (.int x4), some (.int (x5 + (nI 1)))]) (st' := []) (sg := [(.iinc 5 1, nI 1)]) (by decide +kernel) rfl ?_
        refine Y.goto (off := -23) (tgt := 12) (by decide +kernel) (by decide) ?_
        exact ih G9 x0 x1 x2 x3 x4 (x5 + (nI 1)) h
theorem k_I_countOf {l : Launch} {D : va_G} {B : Nat} {O : State → Heap → Prop} (hV : zG l D B O) (G : gH) (a0 : Nat) (a1 : Int32) (a2 : Int32) : gMet (zVm l D B O) m_I_countOf 4 [.ref a0, .int a1, .int a2] G (f_I_countOf G a0 a1 a2) := by
  refine gMet.of (by decide +kernel) (Nat.le_of_ble_eq_true rfl) [some (.ref a0), some (.int a1), some (.int a2), none, none, none] (fun ls h => zEn_ok (n := 6) h) ?_
  intro o Gf h
  unfold f_I_countOf at h
  refine Y.blk (pc' := 2) (L' := [some (.ref a0), some (.int a1), some (.int a2), none, none, none]) (st' := [.int a1, .ref a0]) (sg := [(.aload_n 0, 0), (.iload_n 1, 0)]) (by decide +kernel) rfl ?_
  obtain ⟨_, o2, e1, m3, h⟩ := gOb_inv h
  refine Y.callI (yC.Vi (b := a0) (As := [.int a1]) (st := []) (r := ("Partlister$Lists", T_I, 7)) hV.1 cb_I_lengthOf lk_I_59 in_I_lengthOf rfl se_I_lengthOf (by decide +kernel) rfl rfl (Nat.le_of_ble_eq_true rfl) (by decide) e1 m3) (k_I_lengthOf hV G a0 a1) h (fun v5 G4 _ h => ?_)
  refine Y.blk (pc' := 12) (L' := [some (.ref a0), some (.int a1), some (.int a2), some (.int v5), some (.int (nI 0)), some (.int (nI 0))]) (st' := []) (sg := [(.istore_n 3, 0), (.iconst 0, nI 0), (.istore 4, 0), (.iconst 0, nI 0), (.istore 5, 0)]) (by decide +kernel) rfl ?_
  refine k_I_countOf_L12 hV _ ?_  zFu G4 a0 a1 a2 v5 (nI 0) (nI 0) h
  · intro G14 x13 h
    refine Y.blk (pc' := 40) (L' := [none, none, none, none, some (.int x13), none]) (st' := [.int x13]) (sg := [(.iload 4, 0)]) (by decide +kernel) rfl ?_
    exact Y.iret rfl (by decide +kernel) h

def f_I_extremeKey_L12 (K64 : gH → Int32 → gR) : Nat → gH → Nat → Int32 → Int32 → Int32 → Int32 → Int32 → gR
  | 0, _, _, _, _, _, _, _ => none
  | n + 1, G, x0, x1, x2, x3, x4, x5 =>
    if x3 ≤ x5 then K64 G x4
    else gOb G x0 1 fun o7 => bI (f_I_keyAt G x0 x1 x5) fun v10 G9 => if x4 = (-1) then f_I_extremeKey_L12 K64 n G9 x0 x1 x2 x3 v10 (x5 + (nI 1))
      else if x2 = 0 then (if v10 ≤ x4 then f_I_extremeKey_L12 K64 n G9 x0 x1 x2 x3 x4 (x5 + (nI 1))
          else f_I_extremeKey_L12 K64 n G9 x0 x1 x2 x3 v10 (x5 + (nI 1)))
        else if x4 ≤ v10 then f_I_extremeKey_L12 K64 n G9 x0 x1 x2 x3 x4 (x5 + (nI 1))
          else f_I_extremeKey_L12 K64 n G9 x0 x1 x2 x3 v10 (x5 + (nI 1))
def f_I_extremeKey (G : gH) (a0 : Nat) (a1 : Int32) (a2 : Int32) : gR :=
  gOb G a0 1 fun o2 => bI (f_I_lengthOf G a0 a1) fun v5 G4 => f_I_extremeKey_L12 (fun G17 x16 => rI x16 G17) zFu G4 a0 a1 a2 v5 (-1) (nI 0)
theorem k_I_extremeKey_L12 {l : Launch} {D : va_G} {B : Nat} {O : State → Heap → Prop} (hV : zG l D B O) {o : gO} {Gf : gH} (K64 : gH → Int32 → gR) (hK64 : ∀ (G : gH) (x4 : Int32), K64 G x4 = some (o, Gf) → Y (zVm l D B O) m_I_extremeKey 4 o Gf 64 [none, none, none, none, some (.int x4), none, none] [] G) : ∀ (n : Nat) (G : gH) (x0 : Nat) (x1 : Int32) (x2 : Int32) (x3 : Int32) (x4 : Int32) (x5 : Int32), f_I_extremeKey_L12 K64 n G x0 x1 x2 x3 x4 x5 = some (o, Gf) → Y (zVm l D B O) m_I_extremeKey 4 o Gf 12 [some (.ref x0), some (.int x1), some (.int x2), some (.int x3), some (.int x4), some (.int x5), none] [] G := by
  intro n
  induction n with
  | zero => intro G x0 x1 x2 x3 x4 x5 h; cases h
  | succ n ih =>
    intro G x0 x1 x2 x3 x4 x5 h
    unfold f_I_extremeKey_L12 at h
    refine Y.blk (pc' := 15) (L' := [some (.ref x0), some (.int x1), some (.int x2), some (.int x3), some (.int x4), some (.int x5), none]) (st' := [.int x3, .int x5]) (sg := [(.iload 5, 0), (.iload_n 3, 0)]) (by decide +kernel) rfl ?_
    refine Y.ic_ge (off := 49) (tgt := 64) (by decide +kernel) (by decide) h (fun c15 h => ?_) (fun c15 h => ?_)
    · refine Y.less (L' := [none, none, none, none, some (.int x4), none, none]) (zLe_none (zLe_none (zLe_none (zLe_none (zLe_some (zLe_none (zLe_some (zLe_nil)))))))) ?_
      exact hK64 G x4 h
    · refine Y.blk (pc' := 22) (L' := [some (.ref x0), some (.int x1), some (.int x2), some (.int x3), some (.int x4), some (.int x5), none]) (st' := [.int x5, .int x1, .ref x0]) (sg := [(.aload_n 0, 0), (.iload_n 1, 0), (.iload 5, 0)]) (by decide +kernel) rfl ?_
      obtain ⟨_, o7, e6, m8, h⟩ := gOb_inv h
      refine Y.callI (yC.Vi (b := x0) (As := [.int x1, .int x5]) (st := []) (r := ("Partlister$Lists", T_I, 7)) hV.1 cb_I_keyAt lk_I_101 in_I_keyAt rfl se_I_keyAt (by decide +kernel) rfl rfl (Nat.le_of_ble_eq_true rfl) (by decide) e6 m8) (k_I_keyAt hV G x0 x1 x5) h (fun v10 G9 _ h => ?_)
      refine Y.blk (pc' := 30) (L' := [some (.ref x0), some (.int x1), some (.int x2), some (.int x3), some (.int x4), some (.int x5), some (.int v10)]) (st' := [.int (-1), .int x4]) (sg := [(.istore 6, 0), (.iload 4, 0), (.iconst (-1), -1)]) (by decide +kernel) rfl ?_
      refine Y.ic_eq (off := 24) (tgt := 54) (by decide +kernel) (by decide) h (fun c14 h => ?_) (fun c14 h => ?_)
      · refine Y.blk (pc' := 61) (L' := [some (.ref x0), some (.int x1), some (.int x2), some (.int x3), some (.int v10), some (.int (x5 + (nI 1))), some (.int v10)]) (st' := []) (sg := [(.iload 6, 0), (.istore 4, 0), (.iinc 5 1, nI 1)]) (by decide +kernel) rfl ?_
        refine Y.goto (off := -49) (tgt := 12) (by decide +kernel) (by decide) ?_
        refine Y.less (L' := [some (.ref x0), some (.int x1), some (.int x2), some (.int x3), some (.int v10), some (.int (x5 + (nI 1))), none]) (zLe_some (zLe_some (zLe_some (zLe_some (zLe_some (zLe_some (zLe_none (zLe_nil)))))))) ?_
        exact ih G9 x0 x1 x2 x3 v10 (x5 + (nI 1)) h
      · refine Y.blk (pc' := 34) (L' := [some (.ref x0), some (.int x1), some (.int x2), some (.int x3), some (.int x4), some (.int x5), some (.int v10)]) (st' := [.int x2]) (sg := [(.iload_n 2, 0)]) (by decide +kernel) rfl ?_
        refine Y.if_eq (off := 13) (tgt := 47) (by decide +kernel) (by decide) h (fun c13 h => ?_) (fun c13 h => ?_)
        · refine Y.blk (pc' := 51) (L' := [some (.ref x0), some (.int x1), some (.int x2), some (.int x3), some (.int x4), some (.int x5), some (.int v10)]) (st' := [.int x4, .int v10]) (sg := [(.iload 6, 0), (.iload 4, 0)]) (by decide +kernel) rfl ?_
          refine Y.ic_le (off := 7) (tgt := 58) (by decide +kernel) (by decide) h (fun c11 h => ?_) (fun c11 h => ?_)
          · refine Y.blk (pc' := 61) (L' := [some (.ref x0), some (.int x1), some (.int x2), some (.int x3), some (.int x4), some (.int (x5 + (nI 1))), some (.int v10)]) (st' := []) (sg := [(.iinc 5 1, nI 1)]) (by decide +kernel) rfl ?_
            refine Y.goto (off := -49) (tgt := 12) (by decide +kernel) (by decide) ?_
            refine Y.less (L' := [some (.ref x0), some (.int x1), some (.int x2), some (.int x3), some (.int x4), some (.int (x5 + (nI 1))), none]) (zLe_some (zLe_some (zLe_some (zLe_some (zLe_some (zLe_some (zLe_none (zLe_nil)))))))) ?_
            exact ih G9 x0 x1 x2 x3 x4 (x5 + (nI 1)) h
          · refine Y.blk (pc' := 61) (L' := [some (.ref x0), some (.int x1), some (.int x2), some (.int x3), some (.int v10), some (.int (x5 + (nI 1))), some (.int v10)]) (st' := []) (sg := [(.iload 6, 0), (.istore 4, 0), (.iinc 5 1, nI 1)]) (by decide +kernel) rfl ?_
            refine Y.goto (off := -49) (tgt := 12) (by decide +kernel) (by decide) ?_
            refine Y.less (L' := [some (.ref x0), some (.int x1), some (.int x2), some (.int x3), some (.int v10), some (.int (x5 + (nI 1))), none]) (zLe_some (zLe_some (zLe_some (zLe_some (zLe_some (zLe_some (zLe_none (zLe_nil)))))))) ?_
            exact ih G9 x0 x1 x2 x3 v10 (x5 + (nI 1)) h
        · refine Y.blk (pc' := 41) (L' := [some (.ref x0), some (.int x1), some (.int x2), some (.int x3), some (.int x4), some (.int x5), some (.int v10)]) (st' := [.int x4, .int v10]) (sg := [(.iload 6, 0), (.iload 4, 0)]) (by decide +kernel) rfl ?_
          refine Y.ic_ge (off := 17) (tgt := 58) (by decide +kernel) (by decide) h (fun c12 h => ?_) (fun c12 h => ?_)
          · refine Y.blk (pc' := 61) (L' := [some (.ref x0), some (.int x1), some (.int x2), some (.int x3), some (.int x4), some (.int (x5 + (nI 1))), some (.int v10)]) (st' := []) (sg := [(.iinc 5 1, nI 1)]) (by decide +kernel) rfl ?_
            refine Y.goto (off := -49) (tgt := 12) (by decide +kernel) (by decide) ?_
            refine Y.less (L' := [some (.ref x0), some (.int x1), some (.int x2), some (.int x3), some (.int x4), some (.int (x5 + (nI 1))), none]) (zLe_some (zLe_some (zLe_some (zLe_some (zLe_some (zLe_some (zLe_none (zLe_nil)))))))) ?_
            exact ih G9 x0 x1 x2 x3 x4 (x5 + (nI 1)) h
          · refine Y.goto (off := 10) (tgt := 54) (by decide +kernel) (by decide) ?_
            refine Y.blk (pc' := 61) (L' := [some (.ref x0), some (.int x1), some (.int x2), some (.int x3), some (.int v10), some (.int (x5 + (nI 1))), some (.int v10)]) (st' := []) (sg := [(.iload 6, 0), (.istore 4, 0), (.iinc 5 1, nI 1)]) (by decide +kernel) rfl ?_
            refine Y.goto (off := -49) (tgt := 12) (by decide +kernel) (by decide) ?_
            refine Y.less (L' := [some (.ref x0), some (.int x1), some (.int x2), some (.int x3), some (.int v10), some (.int (x5 + (nI 1))), none]) (zLe_some (zLe_some (zLe_some (zLe_some (zLe_some (zLe_some (zLe_none (zLe_nil)))))))) ?_
            exact ih G9 x0 x1 x2 x3 v10 (x5 + (nI 1)) h
theorem k_I_extremeKey {l : Launch} {D : va_G} {B : Nat} {O : State → Heap → Prop} (hV : zG l D B O) (G : gH) (a0 : Nat) (a1 : Int32) (a2 : Int32) : gMet (zVm l D B O) m_I_extremeKey 4 [.ref a0, .int a1, .int a2] G (f_I_extremeKey G a0 a1 a2) := by
  refine gMet.of (by decide +kernel) (Nat.le_of_ble_eq_true rfl) [some (.ref a0), some (.int a1), some (.int a2), none, none, none, none] (fun ls h => zEn_ok (n := 7) h) ?_
  intro o Gf h
  unfold f_I_extremeKey at h
  refine Y.blk (pc' := 2) (L' := [some (.ref a0), some (.int a1), some (.int a2), none, none, none, none]) (st' := [.int a1, .ref a0]) (sg := [(.aload_n 0, 0), (.iload_n 1, 0)]) (by decide +kernel) rfl ?_
  obtain ⟨_, o2, e1, m3, h⟩ := gOb_inv h
  refine Y.callI (yC.Vi (b := a0) (As := [.int a1]) (st := []) (r := ("Partlister$Lists", T_I, 7)) hV.1 cb_I_lengthOf lk_I_59 in_I_lengthOf rfl se_I_lengthOf (by decide +kernel) rfl rfl (Nat.le_of_ble_eq_true rfl) (by decide) e1 m3) (k_I_lengthOf hV G a0 a1) h (fun v5 G4 _ h => ?_)
  refine Y.blk (pc' := 12) (L' := [some (.ref a0), some (.int a1), some (.int a2), some (.int v5), some (.int (-1)), some (.int (nI 0)), none]) (st' := []) (sg := [(.istore_n 3, 0), (.iconst (-1), -1), (.istore 4, 0), (.iconst 0, nI 0), (.istore 5, 0)]) (by decide +kernel) rfl ?_
  refine k_I_extremeKey_L12 hV _ ?_  zFu G4 a0 a1 a2 v5 (-1) (nI 0) h
  · intro G17 x16 h
    refine Y.blk (pc' := 66) (L' := [none, none, none, none, some (.int x16), none, none]) (st' := [.int x16]) (sg := [(.iload 4, 0)]) (by decide +kernel) rfl ?_
    exact Y.iret rfl (by decide +kernel) h

def f_I_firstOf_L9 (K26 : gH → Int32 → gR) (K35 : gH → gR) : Nat → gH → Nat → Int32 → Int32 → Int32 → Int32 → gR
  | 0, _, _, _, _, _, _ => none
  | n + 1, G, x0, x1, x2, x3, x4 =>
    if x3 ≤ x4 then K35 G
    else gOb G x0 1 fun o7 => bI (f_I_keyAt G x0 x1 x4) fun v10 G9 => if v10 = x2 then K26 G9 x4
      else f_I_firstOf_L9 K26 K35 n G9 x0 x1 x2 x3 (x4 + (nI 1))
def f_I_firstOf (G : gH) (a0 : Nat) (a1 : Int32) (a2 : Int32) : gR :=
  gOb G a0 1 fun o2 => bI (f_I_lengthOf G a0 a1) fun v5 G4 => f_I_firstOf_L9 (fun G14 x13 => rI x13 G14) (fun G15 => rI (-1) G15) zFu G4 a0 a1 a2 v5 (nI 0)
theorem k_I_firstOf_L9 {l : Launch} {D : va_G} {B : Nat} {O : State → Heap → Prop} (hV : zG l D B O) {o : gO} {Gf : gH} (K26 : gH → Int32 → gR) (K35 : gH → gR) (hK26 : ∀ (G : gH) (x4 : Int32), K26 G x4 = some (o, Gf) → Y (zVm l D B O) m_I_firstOf 4 o Gf 26 [none, none, none, none, some (.int x4)] [] G) (hK35 : ∀ (G : gH), K35 G  = some (o, Gf) → Y (zVm l D B O) m_I_firstOf 4 o Gf 35 [none, none, none, none, none] [] G) : ∀ (n : Nat) (G : gH) (x0 : Nat) (x1 : Int32) (x2 : Int32) (x3 : Int32) (x4 : Int32), f_I_firstOf_L9 K26 K35 n G x0 x1 x2 x3 x4 = some (o, Gf) → Y (zVm l D B O) m_I_firstOf 4 o Gf 9 [some (.ref x0), some (.int x1), some (.int x2), some (.int x3), some (.int x4)] [] G := by
  intro n
  induction n with
  | zero => intro G x0 x1 x2 x3 x4 h; cases h
  | succ n ih =>
    intro G x0 x1 x2 x3 x4 h
    unfold f_I_firstOf_L9 at h
    refine Y.blk (pc' := 12) (L' := [some (.ref x0), some (.int x1), some (.int x2), some (.int x3), some (.int x4)]) (st' := [.int x3, .int x4]) (sg := [(.iload 4, 0), (.iload_n 3, 0)]) (by decide +kernel) rfl ?_
    refine Y.ic_ge (off := 23) (tgt := 35) (by decide +kernel) (by decide) h (fun c12 h => ?_) (fun c12 h => ?_)
    · refine Y.less (L' := [none, none, none, none, none]) (zLe_none (zLe_none (zLe_none (zLe_none (zLe_none (zLe_nil)))))) ?_
      exact hK35 G  h
    · refine Y.blk (pc' := 19) (L' := [some (.ref x0), some (.int x1), some (.int x2), some (.int x3), some (.int x4)]) (st' := [.int x4, .int x1, .ref x0]) (sg := [(.aload_n 0, 0), (.iload_n 1, 0), (.iload 4, 0)]) (by decide +kernel) rfl ?_
      obtain ⟨_, o7, e6, m8, h⟩ := gOb_inv h
      refine Y.callI (yC.Vi (b := x0) (As := [.int x1, .int x4]) (st := []) (r := ("Partlister$Lists", T_I, 7)) hV.1 cb_I_keyAt lk_I_101 in_I_keyAt rfl se_I_keyAt (by decide +kernel) rfl rfl (Nat.le_of_ble_eq_true rfl) (by decide) e6 m8) (k_I_keyAt hV G x0 x1 x4) h (fun v10 G9 _ h => ?_)
      refine Y.blk (pc' := 23) (L' := [some (.ref x0), some (.int x1), some (.int x2), some (.int x3), some (.int x4)]) (st' := [.int x2, .int v10]) (sg := [(.iload_n 2, 0)]) (by decide +kernel) rfl ?_
      refine Y.ic_ne (off := 6) (tgt := 29) (by decide +kernel) (by decide) h (fun c11 h => ?_) (fun c11 h => ?_)
      · refine Y.less (L' := [none, none, none, none, some (.int x4)]) (zLe_none (zLe_none (zLe_none (zLe_none (zLe_some (zLe_nil)))))) ?_
        exact hK26 G9 x4 h
      · refine Y.blk (pc' := 32) (L' := [some (.ref x0), some (.int x1), some (.int x2), some (.int x3), some (.int (x4 + (nI 1)))]) (st' := []) (sg := [(.iinc 4 1, nI 1)]) (by decide +kernel) rfl ?_
        refine Y.goto (off := -23) (tgt := 9) (by decide +kernel) (by decide) ?_
        exact ih G9 x0 x1 x2 x3 (x4 + (nI 1)) h
theorem k_I_firstOf {l : Launch} {D : va_G} {B : Nat} {O : State → Heap → Prop} (hV : zG l D B O) (G : gH) (a0 : Nat) (a1 : Int32) (a2 : Int32) : gMet (zVm l D B O) m_I_firstOf 4 [.ref a0, .int a1, .int a2] G (f_I_firstOf G a0 a1 a2) := by
  refine gMet.of (by decide +kernel) (Nat.le_of_ble_eq_true rfl) [some (.ref a0), some (.int a1), some (.int a2), none, none] (fun ls h => zEn_ok (n := 5) h) ?_
  intro o Gf h
  unfold f_I_firstOf at h
  refine Y.blk (pc' := 2) (L' := [some (.ref a0), some (.int a1), some (.int a2), none, none]) (st' := [.int a1, .ref a0]) (sg := [(.aload_n 0, 0), (.iload_n 1, 0)]) (by decide +kernel) rfl ?_
  obtain ⟨_, o2, e1, m3, h⟩ := gOb_inv h
  refine Y.callI (yC.Vi (b := a0) (As := [.int a1]) (st := []) (r := ("Partlister$Lists", T_I, 7)) hV.1 cb_I_lengthOf lk_I_59 in_I_lengthOf rfl se_I_lengthOf (by decide +kernel) rfl rfl (Nat.le_of_ble_eq_true rfl) (by decide) e1 m3) (k_I_lengthOf hV G a0 a1) h (fun v5 G4 _ h => ?_)
  refine Y.blk (pc' := 9) (L' := [some (.ref a0), some (.int a1), some (.int a2), some (.int v5), some (.int (nI 0))]) (st' := []) (sg := [(.istore_n 3, 0), (.iconst 0, nI 0), (.istore 4, 0)]) (by decide +kernel) rfl ?_
  refine k_I_firstOf_L9 hV _ _ ?_ ?_  zFu G4 a0 a1 a2 v5 (nI 0) h
  · intro G14 x13 h
    refine Y.blk (pc' := 28) (L' := [none, none, none, none, some (.int x13)]) (st' := [.int x13]) (sg := [(.iload 4, 0)]) (by decide +kernel) rfl ?_
    exact Y.iret rfl (by decide +kernel) h
  · intro G15 h
    refine Y.blk (pc' := 36) (L' := [none, none, none, none, none]) (st' := [.int (-1)]) (sg := [(.iconst (-1), -1)]) (by decide +kernel) rfl ?_
    exact Y.iret rfl (by decide +kernel) h

def f_I_hashOf_L11 (K36 : gH → Int32 → gR) : Nat → gH → Nat → Int32 → Int32 → Int32 → Int32 → gR
  | 0, _, _, _, _, _, _ => none
  | n + 1, G, x0, x1, x2, x3, x4 =>
    if x2 ≤ x4 then K36 G x3
    else gOb G x0 1 fun o7 => bI (f_I_keyAt G x0 x1 x4) fun v10 G9 => f_I_hashOf_L11 K36 n G9 x0 x1 x2 ((x3 * (nI 31)) + v10) (x4 + (nI 1))
def f_I_hashOf (G : gH) (a0 : Nat) (a1 : Int32) : gR :=
  gOb G a0 1 fun o2 => bI (f_I_lengthOf G a0 a1) fun v5 G4 => f_I_hashOf_L11 (fun G13 x12 => rI x12 G13) zFu G4 a0 a1 v5 (nI 1) (nI 0)
theorem k_I_hashOf_L11 {l : Launch} {D : va_G} {B : Nat} {O : State → Heap → Prop} (hV : zG l D B O) {o : gO} {Gf : gH} (K36 : gH → Int32 → gR) (hK36 : ∀ (G : gH) (x3 : Int32), K36 G x3 = some (o, Gf) → Y (zVm l D B O) m_I_hashOf 4 o Gf 36 [none, none, none, some (.int x3), none] [] G) : ∀ (n : Nat) (G : gH) (x0 : Nat) (x1 : Int32) (x2 : Int32) (x3 : Int32) (x4 : Int32), f_I_hashOf_L11 K36 n G x0 x1 x2 x3 x4 = some (o, Gf) → Y (zVm l D B O) m_I_hashOf 4 o Gf 11 [some (.ref x0), some (.int x1), some (.int x2), some (.int x3), some (.int x4)] [] G := by
  intro n
  induction n with
  | zero => intro G x0 x1 x2 x3 x4 h; cases h
  | succ n ih =>
    intro G x0 x1 x2 x3 x4 h
    unfold f_I_hashOf_L11 at h
    refine Y.blk (pc' := 14) (L' := [some (.ref x0), some (.int x1), some (.int x2), some (.int x3), some (.int x4)]) (st' := [.int x2, .int x4]) (sg := [(.iload 4, 0), (.iload_n 2, 0)]) (by decide +kernel) rfl ?_
    refine Y.ic_ge (off := 22) (tgt := 36) (by decide +kernel) (by decide) h (fun c11 h => ?_) (fun c11 h => ?_)
    · refine Y.less (L' := [none, none, none, some (.int x3), none]) (zLe_none (zLe_none (zLe_none (zLe_some (zLe_none (zLe_nil)))))) ?_
      exact hK36 G x3 h
    · refine Y.blk (pc' := 25) (L' := [some (.ref x0), some (.int x1), some (.int x2), some (.int x3), some (.int x4)]) (st' := [.int x4, .int x1, .ref x0, .int (x3 * (nI 31))]) (sg := [(.iload_n 3, 0), (.bipush 31, nI 31), (.imul, 0), (.aload_n 0, 0), (.iload_n 1, 0), (.iload 4, 0)]) (by decide +kernel) rfl ?_
      obtain ⟨_, o7, e6, m8, h⟩ := gOb_inv h
      refine Y.callI (yC.Vi (b := x0) (As := [.int x1, .int x4]) (st := [.int (x3 * (nI 31))]) (r := ("Partlister$Lists", T_I, 7)) hV.1 cb_I_keyAt lk_I_101 in_I_keyAt rfl se_I_keyAt (by decide +kernel) rfl rfl (Nat.le_of_ble_eq_true rfl) (by decide) e6 m8) (k_I_keyAt hV G x0 x1 x4) h (fun v10 G9 _ h => ?_)
      refine Y.blk (pc' := 33) (L' := [some (.ref x0), some (.int x1), some (.int x2), some (.int ((x3 * (nI 31)) + v10)), some (.int (x4 + (nI 1)))]) (st' := []) (sg := [(.iadd, 0), (.istore_n 3, 0), (.iinc 4 1, nI 1)]) (by decide +kernel) rfl ?_
      refine Y.goto (off := -22) (tgt := 11) (by decide +kernel) (by decide) ?_
      exact ih G9 x0 x1 x2 ((x3 * (nI 31)) + v10) (x4 + (nI 1)) h
theorem k_I_hashOf {l : Launch} {D : va_G} {B : Nat} {O : State → Heap → Prop} (hV : zG l D B O) (G : gH) (a0 : Nat) (a1 : Int32) : gMet (zVm l D B O) m_I_hashOf 4 [.ref a0, .int a1] G (f_I_hashOf G a0 a1) := by
  refine gMet.of (by decide +kernel) (Nat.le_of_ble_eq_true rfl) [some (.ref a0), some (.int a1), none, none, none] (fun ls h => zEn_ok (n := 5) h) ?_
  intro o Gf h
  unfold f_I_hashOf at h
  refine Y.blk (pc' := 2) (L' := [some (.ref a0), some (.int a1), none, none, none]) (st' := [.int a1, .ref a0]) (sg := [(.aload_n 0, 0), (.iload_n 1, 0)]) (by decide +kernel) rfl ?_
  obtain ⟨_, o2, e1, m3, h⟩ := gOb_inv h
  refine Y.callI (yC.Vi (b := a0) (As := [.int a1]) (st := []) (r := ("Partlister$Lists", T_I, 7)) hV.1 cb_I_lengthOf lk_I_59 in_I_lengthOf rfl se_I_lengthOf (by decide +kernel) rfl rfl (Nat.le_of_ble_eq_true rfl) (by decide) e1 m3) (k_I_lengthOf hV G a0 a1) h (fun v5 G4 _ h => ?_)
  refine Y.blk (pc' := 11) (L' := [some (.ref a0), some (.int a1), some (.int v5), some (.int (nI 1)), some (.int (nI 0))]) (st' := []) (sg := [(.istore_n 2, 0), (.iconst 1, nI 1), (.istore_n 3, 0), (.iconst 0, nI 0), (.istore 4, 0)]) (by decide +kernel) rfl ?_
  refine k_I_hashOf_L11 hV _ ?_  zFu G4 a0 a1 v5 (nI 1) (nI 0) h
  · intro G13 x12 h
    refine Y.blk (pc' := 37) (L' := [none, none, none, some (.int x12), none]) (st' := [.int x12]) (sg := [(.iload_n 3, 0)]) (by decide +kernel) rfl ?_
    exact Y.iret rfl (by decide +kernel) h

def f_I_lastOf_L8 (K22 : gH → Int32 → gR) (K30 : gH → gR) : Nat → gH → Nat → Int32 → Int32 → Int32 → gR
  | 0, _, _, _, _, _ => none
  | n + 1, G, x0, x1, x2, x3 =>
    if x3 < 0 then K30 G
    else gOb G x0 1 fun o7 => bI (f_I_keyAt G x0 x1 x3) fun v10 G9 => if v10 = x2 then K22 G9 x3
      else f_I_lastOf_L8 K22 K30 n G9 x0 x1 x2 (x3 + (-1))
def f_I_lastOf (G : gH) (a0 : Nat) (a1 : Int32) (a2 : Int32) : gR :=
  gOb G a0 1 fun o2 => bI (f_I_lengthOf G a0 a1) fun v5 G4 => f_I_lastOf_L8 (fun G14 x13 => rI x13 G14) (fun G15 => rI (-1) G15) zFu G4 a0 a1 a2 (v5 - (nI 1))
theorem k_I_lastOf_L8 {l : Launch} {D : va_G} {B : Nat} {O : State → Heap → Prop} (hV : zG l D B O) {o : gO} {Gf : gH} (K22 : gH → Int32 → gR) (K30 : gH → gR) (hK22 : ∀ (G : gH) (x3 : Int32), K22 G x3 = some (o, Gf) → Y (zVm l D B O) m_I_lastOf 4 o Gf 22 [none, none, none, some (.int x3)] [] G) (hK30 : ∀ (G : gH), K30 G  = some (o, Gf) → Y (zVm l D B O) m_I_lastOf 4 o Gf 30 [none, none, none, none] [] G) : ∀ (n : Nat) (G : gH) (x0 : Nat) (x1 : Int32) (x2 : Int32) (x3 : Int32), f_I_lastOf_L8 K22 K30 n G x0 x1 x2 x3 = some (o, Gf) → Y (zVm l D B O) m_I_lastOf 4 o Gf 8 [some (.ref x0), some (.int x1), some (.int x2), some (.int x3)] [] G := by
  intro n
  induction n with
  | zero => intro G x0 x1 x2 x3 h; cases h
  | succ n ih =>
    intro G x0 x1 x2 x3 h
    unfold f_I_lastOf_L8 at h
    refine Y.blk (pc' := 9) (L' := [some (.ref x0), some (.int x1), some (.int x2), some (.int x3)]) (st' := [.int x3]) (sg := [(.iload_n 3, 0)]) (by decide +kernel) rfl ?_
    refine Y.if_lt (off := 21) (tgt := 30) (by decide +kernel) (by decide) h (fun c12 h => ?_) (fun c12 h => ?_)
    · refine Y.less (L' := [none, none, none, none]) (zLe_none (zLe_none (zLe_none (zLe_none (zLe_nil))))) ?_
      exact hK30 G  h
    · refine Y.blk (pc' := 15) (L' := [some (.ref x0), some (.int x1), some (.int x2), some (.int x3)]) (st' := [.int x3, .int x1, .ref x0]) (sg := [(.aload_n 0, 0), (.iload_n 1, 0), (.iload_n 3, 0)]) (by decide +kernel) rfl ?_
      obtain ⟨_, o7, e6, m8, h⟩ := gOb_inv h
      refine Y.callI (yC.Vi (b := x0) (As := [.int x1, .int x3]) (st := []) (r := ("Partlister$Lists", T_I, 7)) hV.1 cb_I_keyAt lk_I_101 in_I_keyAt rfl se_I_keyAt (by decide +kernel) rfl rfl (Nat.le_of_ble_eq_true rfl) (by decide) e6 m8) (k_I_keyAt hV G x0 x1 x3) h (fun v10 G9 _ h => ?_)
      refine Y.blk (pc' := 19) (L' := [some (.ref x0), some (.int x1), some (.int x2), some (.int x3)]) (st' := [.int x2, .int v10]) (sg := [(.iload_n 2, 0)]) (by decide +kernel) rfl ?_
      refine Y.ic_ne (off := 5) (tgt := 24) (by decide +kernel) (by decide) h (fun c11 h => ?_) (fun c11 h => ?_)
      · refine Y.less (L' := [none, none, none, some (.int x3)]) (zLe_none (zLe_none (zLe_none (zLe_some (zLe_nil))))) ?_
        exact hK22 G9 x3 h
      · refine Y.blk (pc' := 27) (L' := [some (.ref x0), some (.int x1), some (.int x2), some (.int (x3 + (-1)))]) (st' := []) (sg := [(.iinc 3 (-1), -1)]) (by decide +kernel) rfl ?_
        refine Y.goto (off := -19) (tgt := 8) (by decide +kernel) (by decide) ?_
        exact ih G9 x0 x1 x2 (x3 + (-1)) h
theorem k_I_lastOf {l : Launch} {D : va_G} {B : Nat} {O : State → Heap → Prop} (hV : zG l D B O) (G : gH) (a0 : Nat) (a1 : Int32) (a2 : Int32) : gMet (zVm l D B O) m_I_lastOf 4 [.ref a0, .int a1, .int a2] G (f_I_lastOf G a0 a1 a2) := by
  refine gMet.of (by decide +kernel) (Nat.le_of_ble_eq_true rfl) [some (.ref a0), some (.int a1), some (.int a2), none] (fun ls h => zEn_ok (n := 4) h) ?_
  intro o Gf h
  unfold f_I_lastOf at h
  refine Y.blk (pc' := 2) (L' := [some (.ref a0), some (.int a1), some (.int a2), none]) (st' := [.int a1, .ref a0]) (sg := [(.aload_n 0, 0), (.iload_n 1, 0)]) (by decide +kernel) rfl ?_
  obtain ⟨_, o2, e1, m3, h⟩ := gOb_inv h
  refine Y.callI (yC.Vi (b := a0) (As := [.int a1]) (st := []) (r := ("Partlister$Lists", T_I, 7)) hV.1 cb_I_lengthOf lk_I_59 in_I_lengthOf rfl se_I_lengthOf (by decide +kernel) rfl rfl (Nat.le_of_ble_eq_true rfl) (by decide) e1 m3) (k_I_lengthOf hV G a0 a1) h (fun v5 G4 _ h => ?_)
  refine Y.blk (pc' := 8) (L' := [some (.ref a0), some (.int a1), some (.int a2), some (.int (v5 - (nI 1)))]) (st' := []) (sg := [(.iconst 1, nI 1), (.isub, 0), (.istore_n 3, 0)]) (by decide +kernel) rfl ?_
  refine k_I_lastOf_L8 hV _ _ ?_ ?_  zFu G4 a0 a1 a2 (v5 - (nI 1)) h
  · intro G14 x13 h
    refine Y.blk (pc' := 23) (L' := [none, none, none, some (.int x13)]) (st' := [.int x13]) (sg := [(.iload_n 3, 0)]) (by decide +kernel) rfl ?_
    exact Y.iret rfl (by decide +kernel) h
  · intro G15 h
    refine Y.blk (pc' := 31) (L' := [none, none, none, none]) (st' := [.int (-1)]) (sg := [(.iconst (-1), -1)]) (by decide +kernel) rfl ?_
    exact Y.iret rfl (by decide +kernel) h

def f_I_worthOf (G : gH) (a0 : Nat) (a1 : Int32) (a2 : Int32) : gR :=
  gFA G a0 1 2 fun v1 => gOb G v1 2 fun o3 => bI (f_N_read G v1 a1) fun v6 G5 => if a2.toInt = 0 then (rI v6 G5)
  else if a2.toInt = 1 then (gFA G5 a0 1 4 fun v8 => gOb G5 v8 2 fun o10 => bI (f_N_read G5 v8 a1) fun v13 G12 => gFA G12 a0 1 4 fun v14 => gOb G12 v14 2 fun o16 => bI (f_N_read G12 v14 v6) fun v19 G18 => rI (v13 - v19) G18)
  else if a2.toInt = 2 then (gOb G5 a0 1 fun o22 => bI (f_I_rowOf G5 a0 a1) fun v25 G24 => rI v25 G24)
  else gFA G5 a0 1 4 fun v27 => gOb G5 v27 2 fun o29 => bI (f_N_read G5 v27 a1) fun v32 G31 => rI v32 G31
theorem k_I_worthOf {l : Launch} {D : va_G} {B : Nat} {O : State → Heap → Prop} (hV : zG l D B O) (G : gH) (a0 : Nat) (a1 : Int32) (a2 : Int32) : gMet (zVm l D B O) m_I_worthOf 3 [.ref a0, .int a1, .int a2] G (f_I_worthOf G a0 a1 a2) := by
  refine gMet.of (by decide +kernel) (Nat.le_of_ble_eq_true rfl) [some (.ref a0), some (.int a1), some (.int a2), none] (fun ls h => zEn_ok (n := 4) h) ?_
  intro o Gf h
  unfold f_I_worthOf at h
  refine Y.blk (pc' := 1) (L' := [some (.ref a0), some (.int a1), some (.int a2), none]) (st' := [.ref a0]) (sg := [(.aload_n 0, 0)]) (by decide +kernel) rfl ?_
  refine Y.getA fl_I_23 (by decide +kernel) h (fun v1 h => ?_)
  refine Y.blk (pc' := 5) (L' := [some (.ref a0), some (.int a1), some (.int a2), none]) (st' := [.int a1, .ref v1]) (sg := [(.iload_n 1, 0)]) (by decide +kernel) rfl ?_
  obtain ⟨_, o3, e2, m4, h⟩ := gOb_inv h
  refine Y.callI (yC.Vi (b := v1) (As := [.int a1]) (st := []) (r := ("Partlister$Numbers", T_N, 1)) hV.1 cb_N_read lk_I_39 in_N_read rfl se_N_read (by decide +kernel) rfl rfl (Nat.le_of_ble_eq_true rfl) (by decide) e2 m4) (k_N_read hV G v1 a1) h (fun v6 G5 _ h => ?_)
  refine Y.blk (pc' := 10) (L' := [some (.ref a0), some (.int a1), some (.int a2), some (.int v6)]) (st' := [.int a2]) (sg := [(.istore_n 3, 0), (.iload_n 2, 0)]) (by decide +kernel) rfl ?_
  refine Y.swC (j := 0) (off := 26) (tgt := 36) (dflt := 52) (lo := 0) (hi := 2) (offs := #[26, 28, 46]) (len := 26) (by decide +kernel) (by decide) (by decide) (by decide) h (fun c7 h => ?_) (fun c7 h => ?_)
  · refine Y.blk (pc' := 37) (L' := [some (.ref a0), some (.int a1), some (.int a2), some (.int v6)]) (st' := [.int v6]) (sg := [(.iload_n 3, 0)]) (by decide +kernel) rfl ?_
    exact Y.iret rfl (by decide +kernel) h
  refine Y.swC (j := 1) (off := 28) (tgt := 38) (dflt := 52) (lo := 0) (hi := 2) (offs := #[26, 28, 46]) (len := 26) (by decide +kernel) (by decide) (by decide) (by decide) h (fun c20 h => ?_) (fun c20 h => ?_)
  · refine Y.blk (pc' := 39) (L' := [some (.ref a0), some (.int a1), some (.int a2), some (.int v6)]) (st' := [.ref a0]) (sg := [(.aload_n 0, 0)]) (by decide +kernel) rfl ?_
    refine Y.getA fl_I_29 (by decide +kernel) h (fun v8 h => ?_)
    refine Y.blk (pc' := 43) (L' := [some (.ref a0), some (.int a1), some (.int a2), some (.int v6)]) (st' := [.int a1, .ref v8]) (sg := [(.iload_n 1, 0)]) (by decide +kernel) rfl ?_
    obtain ⟨_, o10, e9, m11, h⟩ := gOb_inv h
    refine Y.callI (yC.Vi (b := v8) (As := [.int a1]) (st := []) (r := ("Partlister$Numbers", T_N, 1)) hV.1 cb_N_read lk_I_39 in_N_read rfl se_N_read (by decide +kernel) rfl rfl (Nat.le_of_ble_eq_true rfl) (by decide) e9 m11) (k_N_read hV G5 v8 a1) h (fun v13 G12 _ h => ?_)
    refine Y.blk (pc' := 47) (L' := [some (.ref a0), some (.int a1), some (.int a2), some (.int v6)]) (st' := [.ref a0, .int v13]) (sg := [(.aload_n 0, 0)]) (by decide +kernel) rfl ?_
    refine Y.getA fl_I_29 (by decide +kernel) h (fun v14 h => ?_)
    refine Y.blk (pc' := 51) (L' := [some (.ref a0), some (.int a1), some (.int a2), some (.int v6)]) (st' := [.int v6, .ref v14, .int v13]) (sg := [(.iload_n 3, 0)]) (by decide +kernel) rfl ?_
    obtain ⟨_, o16, e15, m17, h⟩ := gOb_inv h
    refine Y.callI (yC.Vi (b := v14) (As := [.int v6]) (st := [.int v13]) (r := ("Partlister$Numbers", T_N, 1)) hV.1 cb_N_read lk_I_39 in_N_read rfl se_N_read (by decide +kernel) rfl rfl (Nat.le_of_ble_eq_true rfl) (by decide) e15 m17) (k_N_read hV G12 v14 v6) h (fun v19 G18 _ h => ?_)
    refine Y.blk (pc' := 55) (L' := [some (.ref a0), some (.int a1), some (.int a2), some (.int v6)]) (st' := [.int (v13 - v19)]) (sg := [(.isub, 0)]) (by decide +kernel) rfl ?_
    exact Y.iret rfl (by decide +kernel) h
  refine Y.swC (j := 2) (off := 46) (tgt := 56) (dflt := 52) (lo := 0) (hi := 2) (offs := #[26, 28, 46]) (len := 26) (by decide +kernel) (by decide) (by decide) (by decide) h (fun c26 h => ?_) (fun c26 h => ?_)
  · refine Y.blk (pc' := 58) (L' := [some (.ref a0), some (.int a1), some (.int a2), some (.int v6)]) (st' := [.int a1, .ref a0]) (sg := [(.aload_n 0, 0), (.iload_n 1, 0)]) (by decide +kernel) rfl ?_
    obtain ⟨_, o22, e21, m23, h⟩ := gOb_inv h
    refine Y.callI (yC.Vi (b := a0) (As := [.int a1]) (st := []) (r := ("Partlister$Lists", T_I, 7)) hV.1 cb_I_rowOf lk_I_56 in_I_rowOf rfl se_I_rowOf (by decide +kernel) rfl rfl (Nat.le_of_ble_eq_true rfl) (by decide) e21 m23) (k_I_rowOf hV G5 a0 a1) h (fun v25 G24 _ h => ?_)
    exact Y.iret rfl (by decide +kernel) h
  refine Y.swOut (dflt := 52) (lo := 0) (hi := 2) (offs := #[26, 28, 46]) (len := 26) (tgt := 62) (by decide +kernel) (by omega) (by decide) ?_
  refine Y.blk (pc' := 63) (L' := [some (.ref a0), some (.int a1), some (.int a2), some (.int v6)]) (st' := [.ref a0]) (sg := [(.aload_n 0, 0)]) (by decide +kernel) rfl ?_
  refine Y.getA fl_I_29 (by decide +kernel) h (fun v27 h => ?_)
  refine Y.blk (pc' := 67) (L' := [some (.ref a0), some (.int a1), some (.int a2), some (.int v6)]) (st' := [.int a1, .ref v27]) (sg := [(.iload_n 1, 0)]) (by decide +kernel) rfl ?_
  obtain ⟨_, o29, e28, m30, h⟩ := gOb_inv h
  refine Y.callI (yC.Vi (b := v27) (As := [.int a1]) (st := []) (r := ("Partlister$Numbers", T_N, 1)) hV.1 cb_N_read lk_I_39 in_N_read rfl se_N_read (by decide +kernel) rfl rfl (Nat.le_of_ble_eq_true rfl) (by decide) e28 m30) (k_N_read hV G5 v27 a1) h (fun v32 G31 _ h => ?_)
  exact Y.iret rfl (by decide +kernel) h

def f_X_mixList_L16 (K63 : gH → Nat → Int32 → Int64 → gR) : Nat → gH → Nat → Int32 → Int64 → Int32 → Int32 → gR
  | 0, _, _, _, _, _, _ => none
  | n + 1, G, x0, x3, x4, x6, x7 =>
    if x6 ≤ x7 then K63 G x0 x3 x4
    else gFA G x0 3 0 fun v7 => gOb G v7 1 fun o9 => bI (f_I_thingAt G v7 x3 x7) fun v12 G11 => bI (f_X_keyOf G11 v12) fun v15 G14 => bL (f_X_mix G14 x4 v15.toInt64) fun v18 G17 => bI (f_X_tagOf G17 v12) fun v21 G20 => bL (f_X_mix G20 v18 v21.toInt64) fun v24 G23 => f_X_mixList_L16 K63 n G23 x0 x3 v24 x6 (x7 + (nI 1))
def f_X_mixList_L188 (K218 : gH → Int64 → gR) : Nat → gH → Nat → Int32 → Int64 → Int32 → gR
  | 0, _, _, _, _, _ => none
  | n + 1, G, x0, x3, x4, x7 =>
    if (nI 4) ≤ x7 then K218 G x4
    else gFA G x0 3 0 fun v92 => gOb G v92 1 fun o94 => bI (f_I_worthOf G v92 x3 x7) fun v97 G96 => bL (f_X_mix G96 x4 v97.toInt64) fun v100 G99 => f_X_mixList_L188 K218 n G99 x0 x3 v100 (x7 + (nI 1))
def f_X_mixList (G : gH) (a0 : Nat) (a1 : Int64) (a3 : Int32) : gR :=
  gFA G a0 3 0 fun v1 => gOb G v1 1 fun o3 => bI (f_I_lengthOf G v1 a3) fun v6 G5 => f_X_mixList_L16 (fun G29 x26 x27 x28 => gFA G29 x26 3 0 fun v30 => gOb G29 v30 1 fun o32 => bI (f_I_hashOf G29 v30 x27) fun v35 G34 => bL (f_X_mix G34 x28 v35.toInt64) fun v38 G37 => gFA G37 x26 3 0 fun v39 => gOb G37 v39 1 fun o41 => bI (f_I_extremeKey G37 v39 x27 (nI 1)) fun v44 G43 => bL (f_X_mix G43 v38 v44.toInt64) fun v47 G46 => gFA G46 x26 3 0 fun v48 => gOb G46 v48 1 fun o50 => bI (f_I_extremeKey G46 v48 x27 (nI 0)) fun v53 G52 => bL (f_X_mix G52 v47 v53.toInt64) fun v56 G55 => gFA G55 x26 3 0 fun v57 => gOb G55 v57 1 fun o59 => bI (f_I_firstOf G55 v57 x27 (nI 7)) fun v62 G61 => bL (f_X_mix G61 v56 v62.toInt64) fun v65 G64 => gFA G64 x26 3 0 fun v66 => gOb G64 v66 1 fun o68 => bI (f_I_lastOf G64 v66 x27 (nI 7)) fun v71 G70 => bL (f_X_mix G70 v65 v71.toInt64) fun v74 G73 => gFA G73 x26 3 0 fun v75 => gOb G73 v75 1 fun o77 => bI (f_I_countOf G73 v75 x27 (nI 7)) fun v80 G79 => bL (f_X_mix G79 v74 v80.toInt64) fun v83 G82 => gOb G82 x26 3 fun o85 => bI (f_X_countSigns G82 x26 x27) fun v88 G87 => bL (f_X_mix G87 v83 v88.toInt64) fun v91 G90 => if x27 < (nI 2) then rL v91 G90
    else f_X_mixList_L188 (fun G103 x102 => rL x102 G103) zFu G90 x26 x27 v91 (nI 0)) zFu G5 a0 a3 a1 v6 (nI 0)
theorem k_X_mixList_L16 {l : Launch} {D : va_G} {B : Nat} {O : State → Heap → Prop} (hV : zG l D B O) {o : gO} {Gf : gH} (K63 : gH → Nat → Int32 → Int64 → gR) (hK63 : ∀ (G : gH) (x0 : Nat) (x3 : Int32) (x4 : Int64), K63 G x0 x3 x4 = some (o, Gf) → Y (zVm l D B O) m_X_mixList 5 o Gf 63 [some (.ref x0), none, none, some (.int x3), some (.long x4), none, none, none, none] [] G) : ∀ (n : Nat) (G : gH) (x0 : Nat) (x3 : Int32) (x4 : Int64) (x6 : Int32) (x7 : Int32), f_X_mixList_L16 K63 n G x0 x3 x4 x6 x7 = some (o, Gf) → Y (zVm l D B O) m_X_mixList 5 o Gf 16 [some (.ref x0), none, none, some (.int x3), some (.long x4), none, some (.int x6), some (.int x7), none] [] G := by
  intro n
  induction n with
  | zero => intro G x0 x3 x4 x6 x7 h; cases h
  | succ n ih =>
    intro G x0 x3 x4 x6 x7 h
    unfold f_X_mixList_L16 at h
    refine Y.blk (pc' := 20) (L' := [some (.ref x0), none, none, some (.int x3), some (.long x4), none, some (.int x6), some (.int x7), none]) (st' := [.int x6, .int x7]) (sg := [(.iload 7, 0), (.iload 6, 0)]) (by decide +kernel) rfl ?_
    refine Y.ic_ge (off := 43) (tgt := 63) (by decide +kernel) (by decide) h (fun c25 h => ?_) (fun c25 h => ?_)
    · refine Y.less (L' := [some (.ref x0), none, none, some (.int x3), some (.long x4), none, none, none, none]) (zLe_some (zLe_some (zLe_some (zLe_some (zLe_some (zLe_some (zLe_none (zLe_none (zLe_some (zLe_nil)))))))))) ?_
      exact hK63 G x0 x3 x4 h
    · refine Y.blk (pc' := 24) (L' := [some (.ref x0), none, none, some (.int x3), some (.long x4), none, some (.int x6), some (.int x7), none]) (st' := [.ref x0]) (sg := [(.aload_n 0, 0)]) (by decide +kernel) rfl ?_
      refine Y.getA fl_X_10 (by decide +kernel) h (fun v7 h => ?_)
      refine Y.blk (pc' := 30) (L' := [some (.ref x0), none, none, some (.int x3), some (.long x4), none, some (.int x6), some (.int x7), none]) (st' := [.int x7, .int x3, .ref v7]) (sg := [(.iload_n 3, 0), (.iload 7, 0)]) (by decide +kernel) rfl ?_
      obtain ⟨_, o9, e8, m10, h⟩ := gOb_inv h
      refine Y.callI (yC.Vi (b := v7) (As := [.int x3, .int x7]) (st := []) (r := ("Partlister$Lists", T_I, 7)) hV.1 cb_I_thingAt lk_X_94 in_I_thingAt rfl se_I_thingAt (by decide +kernel) rfl rfl (Nat.le_of_ble_eq_true rfl) (by decide) e8 m10) (k_I_thingAt hV G v7 x3 x7) h (fun v12 G11 _ h => ?_)
      refine Y.blk (pc' := 39) (L' := [some (.ref x0), none, none, some (.int x3), some (.long x4), none, some (.int x6), some (.int x7), some (.int v12)]) (st' := [.int v12, .long x4]) (sg := [(.istore 8, 0), (.lload 4, 0), (.iload 8, 0)]) (by decide +kernel) rfl ?_
      refine Y.callI (yC.S (As := [.int v12]) (st := [.long x4]) hV.1 cb_X_keyOf lk_X_97 st_X_keyOf (by decide +kernel) rfl rfl (Nat.le_of_ble_eq_true rfl) (by decide)) (k_X_keyOf hV G11 v12) h (fun v15 G14 _ h => ?_)
      refine Y.blk (pc' := 43) (L' := [some (.ref x0), none, none, some (.int x3), some (.long x4), none, some (.int x6), some (.int x7), some (.int v12)]) (st' := [.long v15.toInt64, .long x4]) (sg := [(.i2l, 0)]) (by decide +kernel) rfl ?_
      refine Y.callL (yC.S (As := [.long x4, .long v15.toInt64]) (st := []) hV.1 cb_X_mix lk_X_263 st_X_mix (by decide +kernel) rfl rfl (Nat.le_of_ble_eq_true rfl) (by decide)) (k_X_mix hV G14 x4 v15.toInt64) h (fun v18 G17 _ h => ?_)
      refine Y.blk (pc' := 48) (L' := [some (.ref x0), none, none, some (.int x3), some (.long x4), none, some (.int x6), some (.int x7), some (.int v12)]) (st' := [.int v12, .long v18]) (sg := [(.iload 8, 0)]) (by decide +kernel) rfl ?_
      refine Y.callI (yC.S (As := [.int v12]) (st := [.long v18]) hV.1 cb_X_tagOf lk_X_48 st_X_tagOf (by decide +kernel) rfl rfl (Nat.le_of_ble_eq_true rfl) (by decide)) (k_X_tagOf hV G17 v12) h (fun v21 G20 _ h => ?_)
      refine Y.blk (pc' := 52) (L' := [some (.ref x0), none, none, some (.int x3), some (.long x4), none, some (.int x6), some (.int x7), some (.int v12)]) (st' := [.long v21.toInt64, .long v18]) (sg := [(.i2l, 0)]) (by decide +kernel) rfl ?_
      refine Y.callL (yC.S (As := [.long v18, .long v21.toInt64]) (st := []) hV.1 cb_X_mix lk_X_263 st_X_mix (by decide +kernel) rfl rfl (Nat.le_of_ble_eq_true rfl) (by decide)) (k_X_mix hV G20 v18 v21.toInt64) h (fun v24 G23 _ h => ?_)
      refine Y.blk (pc' := 60) (L' := [some (.ref x0), none, none, some (.int x3), some (.long v24), none, some (.int x6), some (.int (x7 + (nI 1))), some (.int v12)]) (st' := []) (sg := [(.lstore 4, 0), (.iinc 7 1, nI 1)]) (by decide +kernel) rfl ?_
      refine Y.goto (off := -44) (tgt := 16) (by decide +kernel) (by decide) ?_
      refine Y.less (L' := [some (.ref x0), none, none, some (.int x3), some (.long v24), none, some (.int x6), some (.int (x7 + (nI 1))), none]) (zLe_some (zLe_some (zLe_some (zLe_some (zLe_some (zLe_some (zLe_some (zLe_some (zLe_none (zLe_nil)))))))))) ?_
      exact ih G23 x0 x3 v24 x6 (x7 + (nI 1)) h
theorem k_X_mixList_L188 {l : Launch} {D : va_G} {B : Nat} {O : State → Heap → Prop} (hV : zG l D B O) {o : gO} {Gf : gH} (K218 : gH → Int64 → gR) (hK218 : ∀ (G : gH) (x4 : Int64), K218 G x4 = some (o, Gf) → Y (zVm l D B O) m_X_mixList 5 o Gf 218 [none, none, none, none, some (.long x4), none, none, none, none] [] G) : ∀ (n : Nat) (G : gH) (x0 : Nat) (x3 : Int32) (x4 : Int64) (x7 : Int32), f_X_mixList_L188 K218 n G x0 x3 x4 x7 = some (o, Gf) → Y (zVm l D B O) m_X_mixList 5 o Gf 188 [some (.ref x0), none, none, some (.int x3), some (.long x4), none, none, some (.int x7), none] [] G := by
  intro n
  induction n with
  | zero => intro G x0 x3 x4 x7 h; cases h
  | succ n ih =>
    intro G x0 x3 x4 x7 h
    unfold f_X_mixList_L188 at h
    refine Y.blk (pc' := 191) (L' := [some (.ref x0), none, none, some (.int x3), some (.long x4), none, none, some (.int x7), none]) (st' := [.int (nI 4), .int x7]) (sg := [(.iload 7, 0), (.iconst 4, nI 4)]) (by decide +kernel) rfl ?_
    refine Y.ic_ge (off := 27) (tgt := 218) (by decide +kernel) (by decide) h (fun c101 h => ?_) (fun c101 h => ?_)
    · refine Y.less (L' := [none, none, none, none, some (.long x4), none, none, none, none]) (zLe_none (zLe_some (zLe_some (zLe_none (zLe_some (zLe_some (zLe_some (zLe_none (zLe_some (zLe_nil)))))))))) ?_
      exact hK218 G x4 h
    · refine Y.blk (pc' := 197) (L' := [some (.ref x0), none, none, some (.int x3), some (.long x4), none, none, some (.int x7), none]) (st' := [.ref x0, .long x4]) (sg := [(.lload 4, 0), (.aload_n 0, 0)]) (by decide +kernel) rfl ?_
      refine Y.getA fl_X_10 (by decide +kernel) h (fun v92 h => ?_)
      refine Y.blk (pc' := 203) (L' := [some (.ref x0), none, none, some (.int x3), some (.long x4), none, none, some (.int x7), none]) (st' := [.int x7, .int x3, .ref v92, .long x4]) (sg := [(.iload_n 3, 0), (.iload 7, 0)]) (by decide +kernel) rfl ?_
      obtain ⟨_, o94, e93, m95, h⟩ := gOb_inv h
      refine Y.callI (yC.Vi (b := v92) (As := [.int x3, .int x7]) (st := [.long x4]) (r := ("Partlister$Lists", T_I, 7)) hV.1 cb_I_worthOf lk_X_238 in_I_worthOf rfl se_I_worthOf (by decide +kernel) rfl rfl (Nat.le_of_ble_eq_true rfl) (by decide) e93 m95) (k_I_worthOf hV G v92 x3 x7) h (fun v97 G96 _ h => ?_)
      refine Y.blk (pc' := 207) (L' := [some (.ref x0), none, none, some (.int x3), some (.long x4), none, none, some (.int x7), none]) (st' := [.long v97.toInt64, .long x4]) (sg := [(.i2l, 0)]) (by decide +kernel) rfl ?_
      refine Y.callL (yC.S (As := [.long x4, .long v97.toInt64]) (st := []) hV.1 cb_X_mix lk_X_263 st_X_mix (by decide +kernel) rfl rfl (Nat.le_of_ble_eq_true rfl) (by decide)) (k_X_mix hV G96 x4 v97.toInt64) h (fun v100 G99 _ h => ?_)
      refine Y.blk (pc' := 215) (L' := [some (.ref x0), none, none, some (.int x3), some (.long v100), none, none, some (.int (x7 + (nI 1))), none]) (st' := []) (sg := [(.lstore 4, 0), (.iinc 7 1, nI 1)]) (by decide +kernel) rfl ?_
      refine Y.goto (off := -27) (tgt := 188) (by decide +kernel) (by decide) ?_
      exact ih G99 x0 x3 v100 (x7 + (nI 1)) h
theorem k_X_mixList {l : Launch} {D : va_G} {B : Nat} {O : State → Heap → Prop} (hV : zG l D B O) (G : gH) (a0 : Nat) (a1 : Int64) (a3 : Int32) : gMet (zVm l D B O) m_X_mixList 5 [.ref a0, .long a1, .int a3] G (f_X_mixList G a0 a1 a3) := by
  refine gMet.of (by decide +kernel) (Nat.le_of_ble_eq_true rfl) [some (.ref a0), some (.long a1), none, some (.int a3), none, none, none, none, none] (fun ls h => zEn_ok (n := 9) h) ?_
  intro o Gf h
  unfold f_X_mixList at h
  refine Y.blk (pc' := 4) (L' := [some (.ref a0), some (.long a1), none, some (.int a3), some (.long a1), none, none, none, none]) (st' := [.ref a0]) (sg := [(.lload_n 1, 0), (.lstore 4, 0), (.aload_n 0, 0)]) (by decide +kernel) rfl ?_
  refine Y.getA fl_X_10 (by decide +kernel) h (fun v1 h => ?_)
  refine Y.blk (pc' := 8) (L' := [some (.ref a0), some (.long a1), none, some (.int a3), some (.long a1), none, none, none, none]) (st' := [.int a3, .ref v1]) (sg := [(.iload_n 3, 0)]) (by decide +kernel) rfl ?_
  obtain ⟨_, o3, e2, m4, h⟩ := gOb_inv h
  refine Y.callI (yC.Vi (b := v1) (As := [.int a3]) (st := []) (r := ("Partlister$Lists", T_I, 7)) hV.1 cb_I_lengthOf lk_X_34 in_I_lengthOf rfl se_I_lengthOf (by decide +kernel) rfl rfl (Nat.le_of_ble_eq_true rfl) (by decide) e2 m4) (k_I_lengthOf hV G v1 a3) h (fun v6 G5 _ h => ?_)
  refine Y.blk (pc' := 16) (L' := [some (.ref a0), some (.long a1), none, some (.int a3), some (.long a1), none, some (.int v6), some (.int (nI 0)), none]) (st' := []) (sg := [(.istore 6, 0), (.iconst 0, nI 0), (.istore 7, 0)]) (by decide +kernel) rfl ?_
  refine Y.less (L' := [some (.ref a0), none, none, some (.int a3), some (.long a1), none, some (.int v6), some (.int (nI 0)), none]) (zLe_some (zLe_none (zLe_some (zLe_some (zLe_some (zLe_some (zLe_some (zLe_some (zLe_some (zLe_nil)))))))))) ?_
  refine k_X_mixList_L16 hV _ ?_  zFu G5 a0 a3 a1 v6 (nI 0) h
  · intro G29 x26 x27 x28 h
    refine Y.blk (pc' := 66) (L' := [some (.ref x26), none, none, some (.int x27), some (.long x28), none, none, none, none]) (st' := [.ref x26, .long x28]) (sg := [(.lload 4, 0), (.aload_n 0, 0)]) (by decide +kernel) rfl ?_
    refine Y.getA fl_X_10 (by decide +kernel) h (fun v30 h => ?_)
    refine Y.blk (pc' := 70) (L' := [some (.ref x26), none, none, some (.int x27), some (.long x28), none, none, none, none]) (st' := [.int x27, .ref v30, .long x28]) (sg := [(.iload_n 3, 0)]) (by decide +kernel) rfl ?_
    obtain ⟨_, o32, e31, m33, h⟩ := gOb_inv h
    refine Y.callI (yC.Vi (b := v30) (As := [.int x27]) (st := [.long x28]) (r := ("Partlister$Lists", T_I, 7)) hV.1 cb_I_hashOf lk_X_217 in_I_hashOf rfl se_I_hashOf (by decide +kernel) rfl rfl (Nat.le_of_ble_eq_true rfl) (by decide) e31 m33) (k_I_hashOf hV G29 v30 x27) h (fun v35 G34 _ h => ?_)
    refine Y.blk (pc' := 74) (L' := [some (.ref x26), none, none, some (.int x27), some (.long x28), none, none, none, none]) (st' := [.long v35.toInt64, .long x28]) (sg := [(.i2l, 0)]) (by decide +kernel) rfl ?_
    refine Y.callL (yC.S (As := [.long x28, .long v35.toInt64]) (st := []) hV.1 cb_X_mix lk_X_263 st_X_mix (by decide +kernel) rfl rfl (Nat.le_of_ble_eq_true rfl) (by decide)) (k_X_mix hV G34 x28 v35.toInt64) h (fun v38 G37 _ h => ?_)
    refine Y.blk (pc' := 82) (L' := [some (.ref x26), none, none, some (.int x27), some (.long v38), none, none, none, none]) (st' := [.ref x26, .long v38]) (sg := [(.lstore 4, 0), (.lload 4, 0), (.aload_n 0, 0)]) (by decide +kernel) rfl ?_
    refine Y.getA fl_X_10 (by decide +kernel) h (fun v39 h => ?_)
    refine Y.blk (pc' := 87) (L' := [some (.ref x26), none, none, some (.int x27), some (.long v38), none, none, none, none]) (st' := [.int (nI 1), .int x27, .ref v39, .long v38]) (sg := [(.iload_n 3, 0), (.iconst 1, nI 1)]) (by decide +kernel) rfl ?_
    obtain ⟨_, o41, e40, m42, h⟩ := gOb_inv h
    refine Y.callI (yC.Vi (b := v39) (As := [.int x27, .int (nI 1)]) (st := [.long v38]) (r := ("Partlister$Lists", T_I, 7)) hV.1 cb_I_extremeKey lk_X_213 in_I_extremeKey rfl se_I_extremeKey (by decide +kernel) rfl rfl (Nat.le_of_ble_eq_true rfl) (by decide) e40 m42) (k_I_extremeKey hV G37 v39 x27 (nI 1)) h (fun v44 G43 _ h => ?_)
    refine Y.blk (pc' := 91) (L' := [some (.ref x26), none, none, some (.int x27), some (.long v38), none, none, none, none]) (st' := [.long v44.toInt64, .long v38]) (sg := [(.i2l, 0)]) (by decide +kernel) rfl ?_
    refine Y.callL (yC.S (As := [.long v38, .long v44.toInt64]) (st := []) hV.1 cb_X_mix lk_X_263 st_X_mix (by decide +kernel) rfl rfl (Nat.le_of_ble_eq_true rfl) (by decide)) (k_X_mix hV G43 v38 v44.toInt64) h (fun v47 G46 _ h => ?_)
    refine Y.blk (pc' := 99) (L' := [some (.ref x26), none, none, some (.int x27), some (.long v47), none, none, none, none]) (st' := [.ref x26, .long v47]) (sg := [(.lstore 4, 0), (.lload 4, 0), (.aload_n 0, 0)]) (by decide +kernel) rfl ?_
    refine Y.getA fl_X_10 (by decide +kernel) h (fun v48 h => ?_)
    refine Y.blk (pc' := 104) (L' := [some (.ref x26), none, none, some (.int x27), some (.long v47), none, none, none, none]) (st' := [.int (nI 0), .int x27, .ref v48, .long v47]) (sg := [(.iload_n 3, 0), (.iconst 0, nI 0)]) (by decide +kernel) rfl ?_
    obtain ⟨_, o50, e49, m51, h⟩ := gOb_inv h
    refine Y.callI (yC.Vi (b := v48) (As := [.int x27, .int (nI 0)]) (st := [.long v47]) (r := ("Partlister$Lists", T_I, 7)) hV.1 cb_I_extremeKey lk_X_213 in_I_extremeKey rfl se_I_extremeKey (by decide +kernel) rfl rfl (Nat.le_of_ble_eq_true rfl) (by decide) e49 m51) (k_I_extremeKey hV G46 v48 x27 (nI 0)) h (fun v53 G52 _ h => ?_)
    refine Y.blk (pc' := 108) (L' := [some (.ref x26), none, none, some (.int x27), some (.long v47), none, none, none, none]) (st' := [.long v53.toInt64, .long v47]) (sg := [(.i2l, 0)]) (by decide +kernel) rfl ?_
    refine Y.callL (yC.S (As := [.long v47, .long v53.toInt64]) (st := []) hV.1 cb_X_mix lk_X_263 st_X_mix (by decide +kernel) rfl rfl (Nat.le_of_ble_eq_true rfl) (by decide)) (k_X_mix hV G52 v47 v53.toInt64) h (fun v56 G55 _ h => ?_)
    refine Y.blk (pc' := 116) (L' := [some (.ref x26), none, none, some (.int x27), some (.long v56), none, none, none, none]) (st' := [.ref x26, .long v56]) (sg := [(.lstore 4, 0), (.lload 4, 0), (.aload_n 0, 0)]) (by decide +kernel) rfl ?_
    refine Y.getA fl_X_10 (by decide +kernel) h (fun v57 h => ?_)
    refine Y.blk (pc' := 122) (L' := [some (.ref x26), none, none, some (.int x27), some (.long v56), none, none, none, none]) (st' := [.int (nI 7), .int x27, .ref v57, .long v56]) (sg := [(.iload_n 3, 0), (.bipush 7, nI 7)]) (by decide +kernel) rfl ?_
    obtain ⟨_, o59, e58, m60, h⟩ := gOb_inv h
    refine Y.callI (yC.Vi (b := v57) (As := [.int x27, .int (nI 7)]) (st := [.long v56]) (r := ("Partlister$Lists", T_I, 7)) hV.1 cb_I_firstOf lk_X_72 in_I_firstOf rfl se_I_firstOf (by decide +kernel) rfl rfl (Nat.le_of_ble_eq_true rfl) (by decide) e58 m60) (k_I_firstOf hV G55 v57 x27 (nI 7)) h (fun v62 G61 _ h => ?_)
    refine Y.blk (pc' := 126) (L' := [some (.ref x26), none, none, some (.int x27), some (.long v56), none, none, none, none]) (st' := [.long v62.toInt64, .long v56]) (sg := [(.i2l, 0)]) (by decide +kernel) rfl ?_
    refine Y.callL (yC.S (As := [.long v56, .long v62.toInt64]) (st := []) hV.1 cb_X_mix lk_X_263 st_X_mix (by decide +kernel) rfl rfl (Nat.le_of_ble_eq_true rfl) (by decide)) (k_X_mix hV G61 v56 v62.toInt64) h (fun v65 G64 _ h => ?_)
    refine Y.blk (pc' := 134) (L' := [some (.ref x26), none, none, some (.int x27), some (.long v65), none, none, none, none]) (st' := [.ref x26, .long v65]) (sg := [(.lstore 4, 0), (.lload 4, 0), (.aload_n 0, 0)]) (by decide +kernel) rfl ?_
    refine Y.getA fl_X_10 (by decide +kernel) h (fun v66 h => ?_)
    refine Y.blk (pc' := 140) (L' := [some (.ref x26), none, none, some (.int x27), some (.long v65), none, none, none, none]) (st' := [.int (nI 7), .int x27, .ref v66, .long v65]) (sg := [(.iload_n 3, 0), (.bipush 7, nI 7)]) (by decide +kernel) rfl ?_
    obtain ⟨_, o68, e67, m69, h⟩ := gOb_inv h
    refine Y.callI (yC.Vi (b := v66) (As := [.int x27, .int (nI 7)]) (st := [.long v65]) (r := ("Partlister$Lists", T_I, 7)) hV.1 cb_I_lastOf lk_X_187 in_I_lastOf rfl se_I_lastOf (by decide +kernel) rfl rfl (Nat.le_of_ble_eq_true rfl) (by decide) e67 m69) (k_I_lastOf hV G64 v66 x27 (nI 7)) h (fun v71 G70 _ h => ?_)
    refine Y.blk (pc' := 144) (L' := [some (.ref x26), none, none, some (.int x27), some (.long v65), none, none, none, none]) (st' := [.long v71.toInt64, .long v65]) (sg := [(.i2l, 0)]) (by decide +kernel) rfl ?_
    refine Y.callL (yC.S (As := [.long v65, .long v71.toInt64]) (st := []) hV.1 cb_X_mix lk_X_263 st_X_mix (by decide +kernel) rfl rfl (Nat.le_of_ble_eq_true rfl) (by decide)) (k_X_mix hV G70 v65 v71.toInt64) h (fun v74 G73 _ h => ?_)
    refine Y.blk (pc' := 152) (L' := [some (.ref x26), none, none, some (.int x27), some (.long v74), none, none, none, none]) (st' := [.ref x26, .long v74]) (sg := [(.lstore 4, 0), (.lload 4, 0), (.aload_n 0, 0)]) (by decide +kernel) rfl ?_
    refine Y.getA fl_X_10 (by decide +kernel) h (fun v75 h => ?_)
    refine Y.blk (pc' := 158) (L' := [some (.ref x26), none, none, some (.int x27), some (.long v74), none, none, none, none]) (st' := [.int (nI 7), .int x27, .ref v75, .long v74]) (sg := [(.iload_n 3, 0), (.bipush 7, nI 7)]) (by decide +kernel) rfl ?_
    obtain ⟨_, o77, e76, m78, h⟩ := gOb_inv h
    refine Y.callI (yC.Vi (b := v75) (As := [.int x27, .int (nI 7)]) (st := [.long v74]) (r := ("Partlister$Lists", T_I, 7)) hV.1 cb_I_countOf lk_X_189 in_I_countOf rfl se_I_countOf (by decide +kernel) rfl rfl (Nat.le_of_ble_eq_true rfl) (by decide) e76 m78) (k_I_countOf hV G73 v75 x27 (nI 7)) h (fun v80 G79 _ h => ?_)
    refine Y.blk (pc' := 162) (L' := [some (.ref x26), none, none, some (.int x27), some (.long v74), none, none, none, none]) (st' := [.long v80.toInt64, .long v74]) (sg := [(.i2l, 0)]) (by decide +kernel) rfl ?_
    refine Y.callL (yC.S (As := [.long v74, .long v80.toInt64]) (st := []) hV.1 cb_X_mix lk_X_263 st_X_mix (by decide +kernel) rfl rfl (Nat.le_of_ble_eq_true rfl) (by decide)) (k_X_mix hV G79 v74 v80.toInt64) h (fun v83 G82 _ h => ?_)
    refine Y.blk (pc' := 171) (L' := [some (.ref x26), none, none, some (.int x27), some (.long v83), none, none, none, none]) (st' := [.int x27, .ref x26, .long v83]) (sg := [(.lstore 4, 0), (.lload 4, 0), (.aload_n 0, 0), (.iload_n 3, 0)]) (by decide +kernel) rfl ?_
    obtain ⟨_, o85, e84, m86, h⟩ := gOb_inv h
    refine Y.callI (yC.Vi (b := x26) (As := [.int x27]) (st := [.long v83]) (r := ("Partlister", T_X, 5)) hV.1 cb_X_countSigns lk_X_323 in_X_countSigns rfl se_X_countSigns (by decide +kernel) rfl rfl (Nat.le_of_ble_eq_true rfl) (by decide) e84 m86) (k_X_countSigns hV G82 x26 x27) h (fun v88 G87 _ h => ?_)
    refine Y.blk (pc' := 175) (L' := [some (.ref x26), none, none, some (.int x27), some (.long v83), none, none, none, none]) (st' := [.long v88.toInt64, .long v83]) (sg := [(.i2l, 0)]) (by decide +kernel) rfl ?_
    refine Y.callL (yC.S (As := [.long v83, .long v88.toInt64]) (st := []) hV.1 cb_X_mix lk_X_263 st_X_mix (by decide +kernel) rfl rfl (Nat.le_of_ble_eq_true rfl) (by decide)) (k_X_mix hV G87 v83 v88.toInt64) h (fun v91 G90 _ h => ?_)
    refine Y.blk (pc' := 182) (L' := [some (.ref x26), none, none, some (.int x27), some (.long v91), none, none, none, none]) (st' := [.int (nI 2), .int x27]) (sg := [(.lstore 4, 0), (.iload_n 3, 0), (.iconst 2, nI 2)]) (by decide +kernel) rfl ?_
    refine Y.ic_lt (off := 36) (tgt := 218) (by decide +kernel) (by decide) h (fun c104 h => ?_) (fun c104 h => ?_)
    · refine Y.blk (pc' := 220) (L' := [some (.ref x26), none, none, some (.int x27), some (.long v91), none, none, none, none]) (st' := [.long v91]) (sg := [(.lload 4, 0)]) (by decide +kernel) rfl ?_
      exact Y.lret rfl (by decide +kernel) h
    · refine Y.blk (pc' := 188) (L' := [some (.ref x26), none, none, some (.int x27), some (.long v91), none, none, some (.int (nI 0)), none]) (st' := []) (sg := [(.iconst 0, nI 0), (.istore 7, 0)]) (by decide +kernel) rfl ?_
      refine k_X_mixList_L188 hV _ ?_  zFu G90 x26 x27 v91 (nI 0) h
      · intro G103 x102 h
        refine Y.blk (pc' := 220) (L' := [none, none, none, none, some (.long x102), none, none, none, none]) (st' := [.long x102]) (sg := [(.lload 4, 0)]) (by decide +kernel) rfl ?_
        exact Y.lret rfl (by decide +kernel) h
end
section
def f_I_holdsKeys (G : gH) (a0 : Nat) (a1 : Int32) (a2 : Int32) : gR :=
  gOb G a0 1 fun o2 => bI (f_I_keysOf G a0 a2) fun v5 G4 => gOb G4 a0 1 fun o7 => bI (f_I_keysOf G4 a0 a1) fun v10 G9 => if (v5 &&& (v10 ^^^ (-1))) = 0 then rZ (nI 1) G9
  else rZ (nI 0) G9
theorem k_I_holdsKeys {l : Launch} {D : va_G} {B : Nat} {O : State → Heap → Prop} (hV : zG l D B O) (G : gH) (a0 : Nat) (a1 : Int32) (a2 : Int32) : gMet (zVm l D B O) m_I_holdsKeys 5 [.ref a0, .int a1, .int a2] G (f_I_holdsKeys G a0 a1 a2) := by
  refine gMet.of (by decide +kernel) (Nat.le_of_ble_eq_true rfl) [some (.ref a0), some (.int a1), some (.int a2)] (fun ls h => zEn_ok (n := 3) h) ?_
  intro o Gf h
  unfold f_I_holdsKeys at h
  refine Y.blk (pc' := 2) (L' := [some (.ref a0), some (.int a1), some (.int a2)]) (st' := [.int a2, .ref a0]) (sg := [(.aload_n 0, 0), (.iload_n 2, 0)]) (by decide +kernel) rfl ?_
  obtain ⟨_, o2, e1, m3, h⟩ := gOb_inv h
  refine Y.callI (yC.Vi (b := a0) (As := [.int a2]) (st := []) (r := ("Partlister$Lists", T_I, 7)) hV.1 cb_I_keysOf lk_I_104 in_I_keysOf rfl se_I_keysOf (by decide +kernel) rfl rfl (Nat.le_of_ble_eq_true rfl) (by decide) e1 m3) (k_I_keysOf hV G a0 a2) h (fun v5 G4 _ h => ?_)
  refine Y.blk (pc' := 7) (L' := [some (.ref a0), some (.int a1), some (.int a2)]) (st' := [.int a1, .ref a0, .int v5]) (sg := [(.aload_n 0, 0), (.iload_n 1, 0)]) (by decide +kernel) rfl ?_
  obtain ⟨_, o7, e6, m8, h⟩ := gOb_inv h
  refine Y.callI (yC.Vi (b := a0) (As := [.int a1]) (st := [.int v5]) (r := ("Partlister$Lists", T_I, 7)) hV.1 cb_I_keysOf lk_I_104 in_I_keysOf rfl se_I_keysOf (by decide +kernel) rfl rfl (Nat.le_of_ble_eq_true rfl) (by decide) e6 m8) (k_I_keysOf hV G4 a0 a1) h (fun v10 G9 _ h => ?_)
  refine Y.blk (pc' := 13) (L' := [some (.ref a0), some (.int a1), some (.int a2)]) (st' := [.int (v5 &&& (v10 ^^^ (-1)))]) (sg := [(.iconst (-1), -1), (.ixor, 0), (.iand, 0)]) (by decide +kernel) rfl ?_
  refine Y.if_ne (off := 7) (tgt := 20) (by decide +kernel) (by decide) h (fun c11 h => ?_) (fun c11 h => ?_)
  · refine Y.blk (pc' := 17) (L' := [some (.ref a0), some (.int a1), some (.int a2)]) (st' := [.int (nI 1)]) (sg := [(.iconst 1, nI 1)]) (by decide +kernel) rfl ?_
    refine Y.goto (off := 4) (tgt := 21) (by decide +kernel) (by decide) ?_
    exact Y.zret rfl (by decide +kernel) h
  · refine Y.blk (pc' := 21) (L' := [some (.ref a0), some (.int a1), some (.int a2)]) (st' := [.int (nI 0)]) (sg := [(.iconst 0, nI 0)]) (by decide +kernel) rfl ?_
    exact Y.zret rfl (by decide +kernel) h

def f_I_matchFrom_L10 (K36 : gH → gR) (K44 : gH → gR) : Nat → gH → Nat → Int32 → Int32 → Int32 → Int32 → Int32 → gR
  | 0, _, _, _, _, _, _, _ => none
  | n + 1, G, x0, x1, x2, x3, x4, x5 =>
    if x4 ≤ x5 then K44 G
    else gOb G x0 1 fun o7 => bI (f_I_keyAt G x0 x1 (x2 + x5)) fun v10 G9 => gOb G9 x0 1 fun o12 => bI (f_I_keyAt G9 x0 x3 x5) fun v15 G14 => if v10 = v15 then f_I_matchFrom_L10 K36 K44 n G14 x0 x1 x2 x3 x4 (x5 + (nI 1))
      else K36 G14
def f_I_matchFrom (G : gH) (a0 : Nat) (a1 : Int32) (a2 : Int32) (a3 : Int32) : gR :=
  gOb G a0 1 fun o2 => bI (f_I_lengthOf G a0 a3) fun v5 G4 => f_I_matchFrom_L10 (fun G18 => rZ (nI 0) G18) (fun G19 => rZ (nI 1) G19) zFu G4 a0 a1 a2 a3 v5 (nI 0)
theorem k_I_matchFrom_L10 {l : Launch} {D : va_G} {B : Nat} {O : State → Heap → Prop} (hV : zG l D B O) {o : gO} {Gf : gH} (K36 : gH → gR) (K44 : gH → gR) (hK36 : ∀ (G : gH), K36 G  = some (o, Gf) → Y (zVm l D B O) m_I_matchFrom 4 o Gf 36 [none, none, none, none, none, none] [] G) (hK44 : ∀ (G : gH), K44 G  = some (o, Gf) → Y (zVm l D B O) m_I_matchFrom 4 o Gf 44 [none, none, none, none, none, none] [] G) : ∀ (n : Nat) (G : gH) (x0 : Nat) (x1 : Int32) (x2 : Int32) (x3 : Int32) (x4 : Int32) (x5 : Int32), f_I_matchFrom_L10 K36 K44 n G x0 x1 x2 x3 x4 x5 = some (o, Gf) → Y (zVm l D B O) m_I_matchFrom 4 o Gf 10 [some (.ref x0), some (.int x1), some (.int x2), some (.int x3), some (.int x4), some (.int x5)] [] G := by
  intro n
  induction n with
  | zero => intro G x0 x1 x2 x3 x4 x5 h; cases h
  | succ n ih =>
    intro G x0 x1 x2 x3 x4 x5 h
    unfold f_I_matchFrom_L10 at h
    refine Y.blk (pc' := 14) (L' := [some (.ref x0), some (.int x1), some (.int x2), some (.int x3), some (.int x4), some (.int x5)]) (st' := [.int x4, .int x5]) (sg := [(.iload 5, 0), (.iload 4, 0)]) (by decide +kernel) rfl ?_
    refine Y.ic_ge (off := 30) (tgt := 44) (by decide +kernel) (by decide) h (fun c17 h => ?_) (fun c17 h => ?_)
    · refine Y.less (L' := [none, none, none, none, none, none]) (zLe_none (zLe_none (zLe_none (zLe_none (zLe_none (zLe_none (zLe_nil))))))) ?_
      exact hK44 G  h
    · refine Y.blk (pc' := 23) (L' := [some (.ref x0), some (.int x1), some (.int x2), some (.int x3), some (.int x4), some (.int x5)]) (st' := [.int (x2 + x5), .int x1, .ref x0]) (sg := [(.aload_n 0, 0), (.iload_n 1, 0), (.iload_n 2, 0), (.iload 5, 0), (.iadd, 0)]) (by decide +kernel) rfl ?_
      obtain ⟨_, o7, e6, m8, h⟩ := gOb_inv h
      refine Y.callI (yC.Vi (b := x0) (As := [.int x1, .int (x2 + x5)]) (st := []) (r := ("Partlister$Lists", T_I, 7)) hV.1 cb_I_keyAt lk_I_101 in_I_keyAt rfl se_I_keyAt (by decide +kernel) rfl rfl (Nat.le_of_ble_eq_true rfl) (by decide) e6 m8) (k_I_keyAt hV G x0 x1 (x2 + x5)) h (fun v10 G9 _ h => ?_)
      refine Y.blk (pc' := 30) (L' := [some (.ref x0), some (.int x1), some (.int x2), some (.int x3), some (.int x4), some (.int x5)]) (st' := [.int x5, .int x3, .ref x0, .int v10]) (sg := [(.aload_n 0, 0), (.iload_n 3, 0), (.iload 5, 0)]) (by decide +kernel) rfl ?_
      obtain ⟨_, o12, e11, m13, h⟩ := gOb_inv h
      refine Y.callI (yC.Vi (b := x0) (As := [.int x3, .int x5]) (st := [.int v10]) (r := ("Partlister$Lists", T_I, 7)) hV.1 cb_I_keyAt lk_I_101 in_I_keyAt rfl se_I_keyAt (by decide +kernel) rfl rfl (Nat.le_of_ble_eq_true rfl) (by decide) e11 m13) (k_I_keyAt hV G9 x0 x3 x5) h (fun v15 G14 _ h => ?_)
      refine Y.ic_eq (off := 5) (tgt := 38) (by decide +kernel) (by decide) h (fun c16 h => ?_) (fun c16 h => ?_)
      · refine Y.blk (pc' := 41) (L' := [some (.ref x0), some (.int x1), some (.int x2), some (.int x3), some (.int x4), some (.int (x5 + (nI 1)))]) (st' := []) (sg := [(.iinc 5 1, nI 1)]) (by decide +kernel) rfl ?_
        refine Y.goto (off := -31) (tgt := 10) (by decide +kernel) (by decide) ?_
        exact ih G14 x0 x1 x2 x3 x4 (x5 + (nI 1)) h
      · refine Y.less (L' := [none, none, none, none, none, none]) (zLe_none (zLe_none (zLe_none (zLe_none (zLe_none (zLe_none (zLe_nil))))))) ?_
        exact hK36 G14  h
theorem k_I_matchFrom {l : Launch} {D : va_G} {B : Nat} {O : State → Heap → Prop} (hV : zG l D B O) (G : gH) (a0 : Nat) (a1 : Int32) (a2 : Int32) (a3 : Int32) : gMet (zVm l D B O) m_I_matchFrom 4 [.ref a0, .int a1, .int a2, .int a3] G (f_I_matchFrom G a0 a1 a2 a3) := by
  refine gMet.of (by decide +kernel) (Nat.le_of_ble_eq_true rfl) [some (.ref a0), some (.int a1), some (.int a2), some (.int a3), none, none] (fun ls h => zEn_ok (n := 6) h) ?_
  intro o Gf h
  unfold f_I_matchFrom at h
  refine Y.blk (pc' := 2) (L' := [some (.ref a0), some (.int a1), some (.int a2), some (.int a3), none, none]) (st' := [.int a3, .ref a0]) (sg := [(.aload_n 0, 0), (.iload_n 3, 0)]) (by decide +kernel) rfl ?_
  obtain ⟨_, o2, e1, m3, h⟩ := gOb_inv h
  refine Y.callI (yC.Vi (b := a0) (As := [.int a3]) (st := []) (r := ("Partlister$Lists", T_I, 7)) hV.1 cb_I_lengthOf lk_I_59 in_I_lengthOf rfl se_I_lengthOf (by decide +kernel) rfl rfl (Nat.le_of_ble_eq_true rfl) (by decide) e1 m3) (k_I_lengthOf hV G a0 a3) h (fun v5 G4 _ h => ?_)
  refine Y.blk (pc' := 10) (L' := [some (.ref a0), some (.int a1), some (.int a2), some (.int a3), some (.int v5), some (.int (nI 0))]) (st' := []) (sg := [(.istore 4, 0), (.iconst 0, nI 0), (.istore 5, 0)]) (by decide +kernel) rfl ?_
  refine k_I_matchFrom_L10 hV _ _ ?_ ?_  zFu G4 a0 a1 a2 a3 v5 (nI 0) h
  · intro G18 h
    refine Y.blk (pc' := 37) (L' := [none, none, none, none, none, none]) (st' := [.int (nI 0)]) (sg := [(.iconst 0, nI 0)]) (by decide +kernel) rfl ?_
    exact Y.zret rfl (by decide +kernel) h
  · intro G19 h
    refine Y.blk (pc' := 45) (L' := [none, none, none, none, none, none]) (st' := [.int (nI 1)]) (sg := [(.iconst 1, nI 1)]) (by decide +kernel) rfl ?_
    exact Y.zret rfl (by decide +kernel) h

def f_I_matchWholly (G : gH) (a0 : Nat) (a1 : Int32) (a2 : Int32) : gR :=
  gOb G a0 1 fun o2 => bI (f_I_lengthOf G a0 a1) fun v5 G4 => gOb G4 a0 1 fun o7 => bI (f_I_lengthOf G4 a0 a2) fun v10 G9 => if v5 = v10 then (gOb G9 a0 1 fun o12 => bI (f_I_matchFrom G9 a0 a1 (nI 0) a2) fun v15 G14 => if v15 = 0 then rZ (nI 0) G14
    else rZ (nI 1) G14)
  else rZ (nI 0) G9
theorem k_I_matchWholly {l : Launch} {D : va_G} {B : Nat} {O : State → Heap → Prop} (hV : zG l D B O) (G : gH) (a0 : Nat) (a1 : Int32) (a2 : Int32) : gMet (zVm l D B O) m_I_matchWholly 5 [.ref a0, .int a1, .int a2] G (f_I_matchWholly G a0 a1 a2) := by
  refine gMet.of (by decide +kernel) (Nat.le_of_ble_eq_true rfl) [some (.ref a0), some (.int a1), some (.int a2)] (fun ls h => zEn_ok (n := 3) h) ?_
  intro o Gf h
  unfold f_I_matchWholly at h
  refine Y.blk (pc' := 2) (L' := [some (.ref a0), some (.int a1), some (.int a2)]) (st' := [.int a1, .ref a0]) (sg := [(.aload_n 0, 0), (.iload_n 1, 0)]) (by decide +kernel) rfl ?_
  obtain ⟨_, o2, e1, m3, h⟩ := gOb_inv h
  refine Y.callI (yC.Vi (b := a0) (As := [.int a1]) (st := []) (r := ("Partlister$Lists", T_I, 7)) hV.1 cb_I_lengthOf lk_I_59 in_I_lengthOf rfl se_I_lengthOf (by decide +kernel) rfl rfl (Nat.le_of_ble_eq_true rfl) (by decide) e1 m3) (k_I_lengthOf hV G a0 a1) h (fun v5 G4 _ h => ?_)
  refine Y.blk (pc' := 7) (L' := [some (.ref a0), some (.int a1), some (.int a2)]) (st' := [.int a2, .ref a0, .int v5]) (sg := [(.aload_n 0, 0), (.iload_n 2, 0)]) (by decide +kernel) rfl ?_
  obtain ⟨_, o7, e6, m8, h⟩ := gOb_inv h
  refine Y.callI (yC.Vi (b := a0) (As := [.int a2]) (st := [.int v5]) (r := ("Partlister$Lists", T_I, 7)) hV.1 cb_I_lengthOf lk_I_59 in_I_lengthOf rfl se_I_lengthOf (by decide +kernel) rfl rfl (Nat.le_of_ble_eq_true rfl) (by decide) e6 m8) (k_I_lengthOf hV G4 a0 a2) h (fun v10 G9 _ h => ?_)
  refine Y.ic_ne (off := 17) (tgt := 27) (by decide +kernel) (by decide) h (fun c17 h => ?_) (fun c17 h => ?_)
  · refine Y.blk (pc' := 17) (L' := [some (.ref a0), some (.int a1), some (.int a2)]) (st' := [.int a2, .int (nI 0), .int a1, .ref a0]) (sg := [(.aload_n 0, 0), (.iload_n 1, 0), (.iconst 0, nI 0), (.iload_n 2, 0)]) (by decide +kernel) rfl ?_
    obtain ⟨_, o12, e11, m13, h⟩ := gOb_inv h
    refine Y.callI (yC.Vi (b := a0) (As := [.int a1, .int (nI 0), .int a2]) (st := []) (r := ("Partlister$Lists", T_I, 7)) hV.1 cb_I_matchFrom lk_I_107 in_I_matchFrom rfl se_I_matchFrom (by decide +kernel) rfl rfl (Nat.le_of_ble_eq_true rfl) (by decide) e11 m13) (k_I_matchFrom hV G9 a0 a1 (nI 0) a2) h (fun v15 G14 _ h => ?_)
    refine Y.if_eq (off := 7) (tgt := 27) (by decide +kernel) (by decide) h (fun c16 h => ?_) (fun c16 h => ?_)
    · refine Y.blk (pc' := 28) (L' := [some (.ref a0), some (.int a1), some (.int a2)]) (st' := [.int (nI 0)]) (sg := [(.iconst 0, nI 0)]) (by decide +kernel) rfl ?_
      exact Y.zret rfl (by decide +kernel) h
    · refine Y.blk (pc' := 24) (L' := [some (.ref a0), some (.int a1), some (.int a2)]) (st' := [.int (nI 1)]) (sg := [(.iconst 1, nI 1)]) (by decide +kernel) rfl ?_
      refine Y.goto (off := 4) (tgt := 28) (by decide +kernel) (by decide) ?_
      exact Y.zret rfl (by decide +kernel) h
  · refine Y.blk (pc' := 28) (L' := [some (.ref a0), some (.int a1), some (.int a2)]) (st' := [.int (nI 0)]) (sg := [(.iconst 0, nI 0)]) (by decide +kernel) rfl ?_
    exact Y.zret rfl (by decide +kernel) h

def f_I_placeOf_L15 (K32 : gH → Int32 → gR) (K41 : gH → gR) : Nat → gH → Nat → Int32 → Int32 → Int32 → Int32 → gR
  | 0, _, _, _, _, _, _ => none
  | n + 1, G, x0, x1, x2, x3, x4 =>
    if x3 < x4 then K41 G
    else gOb G x0 1 fun o12 => bI (f_I_matchFrom G x0 x1 x4 x2) fun v15 G14 => if v15 = 0 then f_I_placeOf_L15 K32 K41 n G14 x0 x1 x2 x3 (x4 + (nI 1))
      else K32 G14 x4
def f_I_placeOf (G : gH) (a0 : Nat) (a1 : Int32) (a2 : Int32) : gR :=
  gOb G a0 1 fun o2 => bI (f_I_lengthOf G a0 a1) fun v5 G4 => gOb G4 a0 1 fun o7 => bI (f_I_lengthOf G4 a0 a2) fun v10 G9 => f_I_placeOf_L15 (fun G19 x18 => rI x18 G19) (fun G20 => rI (-1) G20) zFu G9 a0 a1 a2 (v5 - v10) (nI 0)
theorem k_I_placeOf_L15 {l : Launch} {D : va_G} {B : Nat} {O : State → Heap → Prop} (hV : zG l D B O) {o : gO} {Gf : gH} (K32 : gH → Int32 → gR) (K41 : gH → gR) (hK32 : ∀ (G : gH) (x4 : Int32), K32 G x4 = some (o, Gf) → Y (zVm l D B O) m_I_placeOf 5 o Gf 32 [none, none, none, none, some (.int x4)] [] G) (hK41 : ∀ (G : gH), K41 G  = some (o, Gf) → Y (zVm l D B O) m_I_placeOf 5 o Gf 41 [none, none, none, none, none] [] G) : ∀ (n : Nat) (G : gH) (x0 : Nat) (x1 : Int32) (x2 : Int32) (x3 : Int32) (x4 : Int32), f_I_placeOf_L15 K32 K41 n G x0 x1 x2 x3 x4 = some (o, Gf) → Y (zVm l D B O) m_I_placeOf 5 o Gf 15 [some (.ref x0), some (.int x1), some (.int x2), some (.int x3), some (.int x4)] [] G := by
  intro n
  induction n with
  | zero => intro G x0 x1 x2 x3 x4 h; cases h
  | succ n ih =>
    intro G x0 x1 x2 x3 x4 h
    unfold f_I_placeOf_L15 at h
    refine Y.blk (pc' := 18) (L' := [some (.ref x0), some (.int x1), some (.int x2), some (.int x3), some (.int x4)]) (st' := [.int x3, .int x4]) (sg := [(.iload 4, 0), (.iload_n 3, 0)]) (by decide +kernel) rfl ?_
    refine Y.ic_gt (off := 23) (tgt := 41) (by decide +kernel) (by decide) h (fun c17 h => ?_) (fun c17 h => ?_)
    · refine Y.less (L' := [none, none, none, none, none]) (zLe_none (zLe_none (zLe_none (zLe_none (zLe_none (zLe_nil)))))) ?_
      exact hK41 G  h
    · refine Y.blk (pc' := 26) (L' := [some (.ref x0), some (.int x1), some (.int x2), some (.int x3), some (.int x4)]) (st' := [.int x2, .int x4, .int x1, .ref x0]) (sg := [(.aload_n 0, 0), (.iload_n 1, 0), (.iload 4, 0), (.iload_n 2, 0)]) (by decide +kernel) rfl ?_
      obtain ⟨_, o12, e11, m13, h⟩ := gOb_inv h
      refine Y.callI (yC.Vi (b := x0) (As := [.int x1, .int x4, .int x2]) (st := []) (r := ("Partlister$Lists", T_I, 7)) hV.1 cb_I_matchFrom lk_I_107 in_I_matchFrom rfl se_I_matchFrom (by decide +kernel) rfl rfl (Nat.le_of_ble_eq_true rfl) (by decide) e11 m13) (k_I_matchFrom hV G x0 x1 x4 x2) h (fun v15 G14 _ h => ?_)
      refine Y.if_eq (off := 6) (tgt := 35) (by decide +kernel) (by decide) h (fun c16 h => ?_) (fun c16 h => ?_)
      · refine Y.blk (pc' := 38) (L' := [some (.ref x0), some (.int x1), some (.int x2), some (.int x3), some (.int (x4 + (nI 1)))]) (st' := []) (sg := [(.iinc 4 1, nI 1)]) (by decide +kernel) rfl ?_
        refine Y.goto (off := -23) (tgt := 15) (by decide +kernel) (by decide) ?_
        exact ih G14 x0 x1 x2 x3 (x4 + (nI 1)) h
      · refine Y.less (L' := [none, none, none, none, some (.int x4)]) (zLe_none (zLe_none (zLe_none (zLe_none (zLe_some (zLe_nil)))))) ?_
        exact hK32 G14 x4 h
theorem k_I_placeOf {l : Launch} {D : va_G} {B : Nat} {O : State → Heap → Prop} (hV : zG l D B O) (G : gH) (a0 : Nat) (a1 : Int32) (a2 : Int32) : gMet (zVm l D B O) m_I_placeOf 5 [.ref a0, .int a1, .int a2] G (f_I_placeOf G a0 a1 a2) := by
  refine gMet.of (by decide +kernel) (Nat.le_of_ble_eq_true rfl) [some (.ref a0), some (.int a1), some (.int a2), none, none] (fun ls h => zEn_ok (n := 5) h) ?_
  intro o Gf h
  unfold f_I_placeOf at h
  refine Y.blk (pc' := 2) (L' := [some (.ref a0), some (.int a1), some (.int a2), none, none]) (st' := [.int a1, .ref a0]) (sg := [(.aload_n 0, 0), (.iload_n 1, 0)]) (by decide +kernel) rfl ?_
  obtain ⟨_, o2, e1, m3, h⟩ := gOb_inv h
  refine Y.callI (yC.Vi (b := a0) (As := [.int a1]) (st := []) (r := ("Partlister$Lists", T_I, 7)) hV.1 cb_I_lengthOf lk_I_59 in_I_lengthOf rfl se_I_lengthOf (by decide +kernel) rfl rfl (Nat.le_of_ble_eq_true rfl) (by decide) e1 m3) (k_I_lengthOf hV G a0 a1) h (fun v5 G4 _ h => ?_)
  refine Y.blk (pc' := 7) (L' := [some (.ref a0), some (.int a1), some (.int a2), none, none]) (st' := [.int a2, .ref a0, .int v5]) (sg := [(.aload_n 0, 0), (.iload_n 2, 0)]) (by decide +kernel) rfl ?_
  obtain ⟨_, o7, e6, m8, h⟩ := gOb_inv h
  refine Y.callI (yC.Vi (b := a0) (As := [.int a2]) (st := [.int v5]) (r := ("Partlister$Lists", T_I, 7)) hV.1 cb_I_lengthOf lk_I_59 in_I_lengthOf rfl se_I_lengthOf (by decide +kernel) rfl rfl (Nat.le_of_ble_eq_true rfl) (by decide) e6 m8) (k_I_lengthOf hV G4 a0 a2) h (fun v10 G9 _ h => ?_)
  refine Y.blk (pc' := 15) (L' := [some (.ref a0), some (.int a1), some (.int a2), some (.int (v5 - v10)), some (.int (nI 0))]) (st' := []) (sg := [(.isub, 0), (.istore_n 3, 0), (.iconst 0, nI 0), (.istore 4, 0)]) (by decide +kernel) rfl ?_
  refine k_I_placeOf_L15 hV _ _ ?_ ?_  zFu G9 a0 a1 a2 (v5 - v10) (nI 0) h
  · intro G19 x18 h
    refine Y.blk (pc' := 34) (L' := [none, none, none, none, some (.int x18)]) (st' := [.int x18]) (sg := [(.iload 4, 0)]) (by decide +kernel) rfl ?_
    exact Y.iret rfl (by decide +kernel) h
  · intro G20 h
    refine Y.blk (pc' := 42) (L' := [none, none, none, none, none]) (st' := [.int (-1)]) (sg := [(.iconst (-1), -1)]) (by decide +kernel) rfl ?_
    exact Y.iret rfl (by decide +kernel) h

def f_X_mixPair (G : gH) (a0 : Nat) (a1 : Int64) (a3 : Int32) (a4 : Int32) : gR :=
  gFA G a0 3 0 fun v1 => gOb G v1 1 fun o3 => bI (f_I_matchWholly G v1 a3 a4) fun v6 G5 => if v6 = 0 then (bL (f_X_mix G5 a1 (lN 0)) fun v9 G8 => gFA G8 a0 3 0 fun v10 => gOb G8 v10 1 fun o12 => bI (f_I_holdsKeys G8 v10 a3 a4) fun v15 G14 => if v15 = 0 then (bL (f_X_mix G14 v9 (lN 0)) fun v18 G17 => gFA G17 a0 3 0 fun v19 => gOb G17 v19 1 fun o21 => bI (f_I_shareNoKey G17 v19 a3 a4) fun v24 G23 => if v24 = 0 then bL (f_X_mix G23 v18 (lN 0)) fun v27 G26 => gFA G26 a0 3 0 fun v28 => gOb G26 v28 1 fun o30 => bI (f_I_placeOf G26 v28 a3 a4) fun v33 G32 => bL (f_X_mix G32 v27 v33.toInt64) fun v36 G35 => rL v36 G35
      else bL (f_X_mix G23 v18 (lN 1)) fun v39 G38 => gFA G38 a0 3 0 fun v40 => gOb G38 v40 1 fun o42 => bI (f_I_placeOf G38 v40 a3 a4) fun v45 G44 => bL (f_X_mix G44 v39 v45.toInt64) fun v48 G47 => rL v48 G47)
    else bL (f_X_mix G14 v9 (lN 1)) fun v52 G51 => gFA G51 a0 3 0 fun v53 => gOb G51 v53 1 fun o55 => bI (f_I_shareNoKey G51 v53 a3 a4) fun v58 G57 => if v58 = 0 then bL (f_X_mix G57 v52 (lN 0)) fun v61 G60 => gFA G60 a0 3 0 fun v62 => gOb G60 v62 1 fun o64 => bI (f_I_placeOf G60 v62 a3 a4) fun v67 G66 => bL (f_X_mix G66 v61 v67.toInt64) fun v70 G69 => rL v70 G69
      else bL (f_X_mix G57 v52 (lN 1)) fun v73 G72 => gFA G72 a0 3 0 fun v74 => gOb G72 v74 1 fun o76 => bI (f_I_placeOf G72 v74 a3 a4) fun v79 G78 => bL (f_X_mix G78 v73 v79.toInt64) fun v82 G81 => rL v82 G81)
  else bL (f_X_mix G5 a1 (lN 1)) fun v87 G86 => gFA G86 a0 3 0 fun v88 => gOb G86 v88 1 fun o90 => bI (f_I_holdsKeys G86 v88 a3 a4) fun v93 G92 => if v93 = 0 then (bL (f_X_mix G92 v87 (lN 0)) fun v96 G95 => gFA G95 a0 3 0 fun v97 => gOb G95 v97 1 fun o99 => bI (f_I_shareNoKey G95 v97 a3 a4) fun v102 G101 => if v102 = 0 then bL (f_X_mix G101 v96 (lN 0)) fun v105 G104 => gFA G104 a0 3 0 fun v106 => gOb G104 v106 1 fun o108 => bI (f_I_placeOf G104 v106 a3 a4) fun v111 G110 => bL (f_X_mix G110 v105 v111.toInt64) fun v114 G113 => rL v114 G113
      else bL (f_X_mix G101 v96 (lN 1)) fun v117 G116 => gFA G116 a0 3 0 fun v118 => gOb G116 v118 1 fun o120 => bI (f_I_placeOf G116 v118 a3 a4) fun v123 G122 => bL (f_X_mix G122 v117 v123.toInt64) fun v126 G125 => rL v126 G125)
    else bL (f_X_mix G92 v87 (lN 1)) fun v130 G129 => gFA G129 a0 3 0 fun v131 => gOb G129 v131 1 fun o133 => bI (f_I_shareNoKey G129 v131 a3 a4) fun v136 G135 => if v136 = 0 then bL (f_X_mix G135 v130 (lN 0)) fun v139 G138 => gFA G138 a0 3 0 fun v140 => gOb G138 v140 1 fun o142 => bI (f_I_placeOf G138 v140 a3 a4) fun v145 G144 => bL (f_X_mix G144 v139 v145.toInt64) fun v148 G147 => rL v148 G147
      else bL (f_X_mix G135 v130 (lN 1)) fun v151 G150 => gFA G150 a0 3 0 fun v152 => gOb G150 v152 1 fun o154 => bI (f_I_placeOf G150 v152 a3 a4) fun v157 G156 => bL (f_X_mix G156 v151 v157.toInt64) fun v160 G159 => rL v160 G159
theorem k_X_mixPair {l : Launch} {D : va_G} {B : Nat} {O : State → Heap → Prop} (hV : zG l D B O) (G : gH) (a0 : Nat) (a1 : Int64) (a3 : Int32) (a4 : Int32) : gMet (zVm l D B O) m_X_mixPair 6 [.ref a0, .long a1, .int a3, .int a4] G (f_X_mixPair G a0 a1 a3 a4) := by
  refine gMet.of (by decide +kernel) (Nat.le_of_ble_eq_true rfl) [some (.ref a0), some (.long a1), none, some (.int a3), some (.int a4), none, none] (fun ls h => zEn_ok (n := 7) h) ?_
  intro o Gf h
  unfold f_X_mixPair at h
  refine Y.blk (pc' := 2) (L' := [some (.ref a0), some (.long a1), none, some (.int a3), some (.int a4), none, none]) (st' := [.ref a0, .long a1]) (sg := [(.lload_n 1, 0), (.aload_n 0, 0)]) (by decide +kernel) rfl ?_
  refine Y.getA fl_X_10 (by decide +kernel) h (fun v1 h => ?_)
  refine Y.blk (pc' := 8) (L' := [some (.ref a0), some (.long a1), none, some (.int a3), some (.int a4), none, none]) (st' := [.int a4, .int a3, .ref v1, .long a1]) (sg := [(.iload_n 3, 0), (.iload 4, 0)]) (by decide +kernel) rfl ?_
  obtain ⟨_, o3, e2, m4, h⟩ := gOb_inv h
  refine Y.callI (yC.Vi (b := v1) (As := [.int a3, .int a4]) (st := [.long a1]) (r := ("Partlister$Lists", T_I, 7)) hV.1 cb_I_matchWholly lk_X_199 in_I_matchWholly rfl se_I_matchWholly (by decide +kernel) rfl rfl (Nat.le_of_ble_eq_true rfl) (by decide) e2 m4) (k_I_matchWholly hV G v1 a3 a4) h (fun v6 G5 _ h => ?_)
  refine Y.if_eq (off := 7) (tgt := 18) (by decide +kernel) (by decide) h (fun c163 h => ?_) (fun c163 h => ?_)
  · refine Y.blk (pc' := 19) (L' := [some (.ref a0), some (.long a1), none, some (.int a3), some (.int a4), none, none]) (st' := [.long (lN 0), .long a1]) (sg := [(.lconst 0, 0)]) (by decide +kernel) rfl ?_
    refine Y.callL (yC.S (As := [.long a1, .long (lN 0)]) (st := []) hV.1 cb_X_mix lk_X_263 st_X_mix (by decide +kernel) rfl rfl (Nat.le_of_ble_eq_true rfl) (by decide)) (k_X_mix hV G5 a1 (lN 0)) h (fun v9 G8 _ h => ?_)
    refine Y.blk (pc' := 27) (L' := [some (.ref a0), some (.long a1), none, some (.int a3), some (.int a4), some (.long v9), none]) (st' := [.ref a0, .long v9]) (sg := [(.lstore 5, 0), (.lload 5, 0), (.aload_n 0, 0)]) (by decide +kernel) rfl ?_
    refine Y.getA fl_X_10 (by decide +kernel) h (fun v10 h => ?_)
    refine Y.blk (pc' := 33) (L' := [some (.ref a0), some (.long a1), none, some (.int a3), some (.int a4), some (.long v9), none]) (st' := [.int a4, .int a3, .ref v10, .long v9]) (sg := [(.iload_n 3, 0), (.iload 4, 0)]) (by decide +kernel) rfl ?_
    obtain ⟨_, o12, e11, m13, h⟩ := gOb_inv h
    refine Y.callI (yC.Vi (b := v10) (As := [.int a3, .int a4]) (st := [.long v9]) (r := ("Partlister$Lists", T_I, 7)) hV.1 cb_I_holdsKeys lk_X_192 in_I_holdsKeys rfl se_I_holdsKeys (by decide +kernel) rfl rfl (Nat.le_of_ble_eq_true rfl) (by decide) e11 m13) (k_I_holdsKeys hV G8 v10 a3 a4) h (fun v15 G14 _ h => ?_)
    refine Y.if_eq (off := 7) (tgt := 43) (by decide +kernel) (by decide) h (fun c84 h => ?_) (fun c84 h => ?_)
    · refine Y.blk (pc' := 44) (L' := [some (.ref a0), some (.long a1), none, some (.int a3), some (.int a4), some (.long v9), none]) (st' := [.long (lN 0), .long v9]) (sg := [(.lconst 0, 0)]) (by decide +kernel) rfl ?_
      refine Y.callL (yC.S (As := [.long v9, .long (lN 0)]) (st := []) hV.1 cb_X_mix lk_X_263 st_X_mix (by decide +kernel) rfl rfl (Nat.le_of_ble_eq_true rfl) (by decide)) (k_X_mix hV G14 v9 (lN 0)) h (fun v18 G17 _ h => ?_)
      refine Y.blk (pc' := 52) (L' := [some (.ref a0), some (.long a1), none, some (.int a3), some (.int a4), some (.long v18), none]) (st' := [.ref a0, .long v18]) (sg := [(.lstore 5, 0), (.lload 5, 0), (.aload_n 0, 0)]) (by decide +kernel) rfl ?_
      refine Y.getA fl_X_10 (by decide +kernel) h (fun v19 h => ?_)
      refine Y.blk (pc' := 58) (L' := [some (.ref a0), some (.long a1), none, some (.int a3), some (.int a4), some (.long v18), none]) (st' := [.int a4, .int a3, .ref v19, .long v18]) (sg := [(.iload_n 3, 0), (.iload 4, 0)]) (by decide +kernel) rfl ?_
      obtain ⟨_, o21, e20, m22, h⟩ := gOb_inv h
      refine Y.callI (yC.Vi (b := v19) (As := [.int a3, .int a4]) (st := [.long v18]) (r := ("Partlister$Lists", T_I, 7)) hV.1 cb_I_shareNoKey lk_X_196 in_I_shareNoKey rfl se_I_shareNoKey (by decide +kernel) rfl rfl (Nat.le_of_ble_eq_true rfl) (by decide) e20 m22) (k_I_shareNoKey hV G17 v19 a3 a4) h (fun v24 G23 _ h => ?_)
      refine Y.if_eq (off := 7) (tgt := 68) (by decide +kernel) (by decide) h (fun c49 h => ?_) (fun c49 h => ?_)
      · refine Y.blk (pc' := 69) (L' := [some (.ref a0), some (.long a1), none, some (.int a3), some (.int a4), some (.long v18), none]) (st' := [.long (lN 0), .long v18]) (sg := [(.lconst 0, 0)]) (by decide +kernel) rfl ?_
        refine Y.callL (yC.S (As := [.long v18, .long (lN 0)]) (st := []) hV.1 cb_X_mix lk_X_263 st_X_mix (by decide +kernel) rfl rfl (Nat.le_of_ble_eq_true rfl) (by decide)) (k_X_mix hV G23 v18 (lN 0)) h (fun v27 G26 _ h => ?_)
        refine Y.blk (pc' := 77) (L' := [some (.ref a0), some (.long a1), none, some (.int a3), some (.int a4), some (.long v27), none]) (st' := [.ref a0, .long v27]) (sg := [(.lstore 5, 0), (.lload 5, 0), (.aload_n 0, 0)]) (by decide +kernel) rfl ?_
        refine Y.getA fl_X_10 (by decide +kernel) h (fun v28 h => ?_)
        refine Y.blk (pc' := 83) (L' := [some (.ref a0), some (.long a1), none, some (.int a3), some (.int a4), some (.long v27), none]) (st' := [.int a4, .int a3, .ref v28, .long v27]) (sg := [(.iload_n 3, 0), (.iload 4, 0)]) (by decide +kernel) rfl ?_
        obtain ⟨_, o30, e29, m31, h⟩ := gOb_inv h
        refine Y.callI (yC.Vi (b := v28) (As := [.int a3, .int a4]) (st := [.long v27]) (r := ("Partlister$Lists", T_I, 7)) hV.1 cb_I_placeOf lk_X_202 in_I_placeOf rfl se_I_placeOf (by decide +kernel) rfl rfl (Nat.le_of_ble_eq_true rfl) (by decide) e29 m31) (k_I_placeOf hV G26 v28 a3 a4) h (fun v33 G32 _ h => ?_)
        refine Y.blk (pc' := 87) (L' := [some (.ref a0), some (.long a1), none, some (.int a3), some (.int a4), some (.long v27), none]) (st' := [.long v33.toInt64, .long v27]) (sg := [(.i2l, 0)]) (by decide +kernel) rfl ?_
        refine Y.callL (yC.S (As := [.long v27, .long v33.toInt64]) (st := []) hV.1 cb_X_mix lk_X_263 st_X_mix (by decide +kernel) rfl rfl (Nat.le_of_ble_eq_true rfl) (by decide)) (k_X_mix hV G32 v27 v33.toInt64) h (fun v36 G35 _ h => ?_)
        exact Y.lret rfl (by decide +kernel) h
      · refine Y.blk (pc' := 65) (L' := [some (.ref a0), some (.long a1), none, some (.int a3), some (.int a4), some (.long v18), none]) (st' := [.long (lN 1), .long v18]) (sg := [(.lconst 1, 0)]) (by decide +kernel) rfl ?_
        refine Y.goto (off := 4) (tgt := 69) (by decide +kernel) (by decide) ?_
        refine Y.callL (yC.S (As := [.long v18, .long (lN 1)]) (st := []) hV.1 cb_X_mix lk_X_263 st_X_mix (by decide +kernel) rfl rfl (Nat.le_of_ble_eq_true rfl) (by decide)) (k_X_mix hV G23 v18 (lN 1)) h (fun v39 G38 _ h => ?_)
        refine Y.blk (pc' := 77) (L' := [some (.ref a0), some (.long a1), none, some (.int a3), some (.int a4), some (.long v39), none]) (st' := [.ref a0, .long v39]) (sg := [(.lstore 5, 0), (.lload 5, 0), (.aload_n 0, 0)]) (by decide +kernel) rfl ?_
        refine Y.getA fl_X_10 (by decide +kernel) h (fun v40 h => ?_)
        refine Y.blk (pc' := 83) (L' := [some (.ref a0), some (.long a1), none, some (.int a3), some (.int a4), some (.long v39), none]) (st' := [.int a4, .int a3, .ref v40, .long v39]) (sg := [(.iload_n 3, 0), (.iload 4, 0)]) (by decide +kernel) rfl ?_
        obtain ⟨_, o42, e41, m43, h⟩ := gOb_inv h
        refine Y.callI (yC.Vi (b := v40) (As := [.int a3, .int a4]) (st := [.long v39]) (r := ("Partlister$Lists", T_I, 7)) hV.1 cb_I_placeOf lk_X_202 in_I_placeOf rfl se_I_placeOf (by decide +kernel) rfl rfl (Nat.le_of_ble_eq_true rfl) (by decide) e41 m43) (k_I_placeOf hV G38 v40 a3 a4) h (fun v45 G44 _ h => ?_)
        refine Y.blk (pc' := 87) (L' := [some (.ref a0), some (.long a1), none, some (.int a3), some (.int a4), some (.long v39), none]) (st' := [.long v45.toInt64, .long v39]) (sg := [(.i2l, 0)]) (by decide +kernel) rfl ?_
        refine Y.callL (yC.S (As := [.long v39, .long v45.toInt64]) (st := []) hV.1 cb_X_mix lk_X_263 st_X_mix (by decide +kernel) rfl rfl (Nat.le_of_ble_eq_true rfl) (by decide)) (k_X_mix hV G44 v39 v45.toInt64) h (fun v48 G47 _ h => ?_)
        exact Y.lret rfl (by decide +kernel) h
    · refine Y.blk (pc' := 40) (L' := [some (.ref a0), some (.long a1), none, some (.int a3), some (.int a4), some (.long v9), none]) (st' := [.long (lN 1), .long v9]) (sg := [(.lconst 1, 0)]) (by decide +kernel) rfl ?_
      refine Y.goto (off := 4) (tgt := 44) (by decide +kernel) (by decide) ?_
      refine Y.callL (yC.S (As := [.long v9, .long (lN 1)]) (st := []) hV.1 cb_X_mix lk_X_263 st_X_mix (by decide +kernel) rfl rfl (Nat.le_of_ble_eq_true rfl) (by decide)) (k_X_mix hV G14 v9 (lN 1)) h (fun v52 G51 _ h => ?_)
      refine Y.blk (pc' := 52) (L' := [some (.ref a0), some (.long a1), none, some (.int a3), some (.int a4), some (.long v52), none]) (st' := [.ref a0, .long v52]) (sg := [(.lstore 5, 0), (.lload 5, 0), (.aload_n 0, 0)]) (by decide +kernel) rfl ?_
      refine Y.getA fl_X_10 (by decide +kernel) h (fun v53 h => ?_)
      refine Y.blk (pc' := 58) (L' := [some (.ref a0), some (.long a1), none, some (.int a3), some (.int a4), some (.long v52), none]) (st' := [.int a4, .int a3, .ref v53, .long v52]) (sg := [(.iload_n 3, 0), (.iload 4, 0)]) (by decide +kernel) rfl ?_
      obtain ⟨_, o55, e54, m56, h⟩ := gOb_inv h
      refine Y.callI (yC.Vi (b := v53) (As := [.int a3, .int a4]) (st := [.long v52]) (r := ("Partlister$Lists", T_I, 7)) hV.1 cb_I_shareNoKey lk_X_196 in_I_shareNoKey rfl se_I_shareNoKey (by decide +kernel) rfl rfl (Nat.le_of_ble_eq_true rfl) (by decide) e54 m56) (k_I_shareNoKey hV G51 v53 a3 a4) h (fun v58 G57 _ h => ?_)
      refine Y.if_eq (off := 7) (tgt := 68) (by decide +kernel) (by decide) h (fun c83 h => ?_) (fun c83 h => ?_)
      · refine Y.blk (pc' := 69) (L' := [some (.ref a0), some (.long a1), none, some (.int a3), some (.int a4), some (.long v52), none]) (st' := [.long (lN 0), .long v52]) (sg := [(.lconst 0, 0)]) (by decide +kernel) rfl ?_
        refine Y.callL (yC.S (As := [.long v52, .long (lN 0)]) (st := []) hV.1 cb_X_mix lk_X_263 st_X_mix (by decide +kernel) rfl rfl (Nat.le_of_ble_eq_true rfl) (by decide)) (k_X_mix hV G57 v52 (lN 0)) h (fun v61 G60 _ h => ?_)
        refine Y.blk (pc' := 77) (L' := [some (.ref a0), some (.long a1), none, some (.int a3), some (.int a4), some (.long v61), none]) (st' := [.ref a0, .long v61]) (sg := [(.lstore 5, 0), (.lload 5, 0), (.aload_n 0, 0)]) (by decide +kernel) rfl ?_
        refine Y.getA fl_X_10 (by decide +kernel) h (fun v62 h => ?_)
        refine Y.blk (pc' := 83) (L' := [some (.ref a0), some (.long a1), none, some (.int a3), some (.int a4), some (.long v61), none]) (st' := [.int a4, .int a3, .ref v62, .long v61]) (sg := [(.iload_n 3, 0), (.iload 4, 0)]) (by decide +kernel) rfl ?_
        obtain ⟨_, o64, e63, m65, h⟩ := gOb_inv h
        refine Y.callI (yC.Vi (b := v62) (As := [.int a3, .int a4]) (st := [.long v61]) (r := ("Partlister$Lists", T_I, 7)) hV.1 cb_I_placeOf lk_X_202 in_I_placeOf rfl se_I_placeOf (by decide +kernel) rfl rfl (Nat.le_of_ble_eq_true rfl) (by decide) e63 m65) (k_I_placeOf hV G60 v62 a3 a4) h (fun v67 G66 _ h => ?_)
        refine Y.blk (pc' := 87) (L' := [some (.ref a0), some (.long a1), none, some (.int a3), some (.int a4), some (.long v61), none]) (st' := [.long v67.toInt64, .long v61]) (sg := [(.i2l, 0)]) (by decide +kernel) rfl ?_
        refine Y.callL (yC.S (As := [.long v61, .long v67.toInt64]) (st := []) hV.1 cb_X_mix lk_X_263 st_X_mix (by decide +kernel) rfl rfl (Nat.le_of_ble_eq_true rfl) (by decide)) (k_X_mix hV G66 v61 v67.toInt64) h (fun v70 G69 _ h => ?_)
        exact Y.lret rfl (by decide +kernel) h
      · refine Y.blk (pc' := 65) (L' := [some (.ref a0), some (.long a1), none, some (.int a3), some (.int a4), some (.long v52), none]) (st' := [.long (lN 1), .long v52]) (sg := [(.lconst 1, 0)]) (by decide +kernel) rfl ?_
        refine Y.goto (off := 4) (tgt := 69) (by decide +kernel) (by decide) ?_
        refine Y.callL (yC.S (As := [.long v52, .long (lN 1)]) (st := []) hV.1 cb_X_mix lk_X_263 st_X_mix (by decide +kernel) rfl rfl (Nat.le_of_ble_eq_true rfl) (by decide)) (k_X_mix hV G57 v52 (lN 1)) h (fun v73 G72 _ h => ?_)
        refine Y.blk (pc' := 77) (L' := [some (.ref a0), some (.long a1), none, some (.int a3), some (.int a4), some (.long v73), none]) (st' := [.ref a0, .long v73]) (sg := [(.lstore 5, 0), (.lload 5, 0), (.aload_n 0, 0)]) (by decide +kernel) rfl ?_
        refine Y.getA fl_X_10 (by decide +kernel) h (fun v74 h => ?_)
        refine Y.blk (pc' := 83) (L' := [some (.ref a0), some (.long a1), none, some (.int a3), some (.int a4), some (.long v73), none]) (st' := [.int a4, .int a3, .ref v74, .long v73]) (sg := [(.iload_n 3, 0), (.iload 4, 0)]) (by decide +kernel) rfl ?_
        obtain ⟨_, o76, e75, m77, h⟩ := gOb_inv h
        refine Y.callI (yC.Vi (b := v74) (As := [.int a3, .int a4]) (st := [.long v73]) (r := ("Partlister$Lists", T_I, 7)) hV.1 cb_I_placeOf lk_X_202 in_I_placeOf rfl se_I_placeOf (by decide +kernel) rfl rfl (Nat.le_of_ble_eq_true rfl) (by decide) e75 m77) (k_I_placeOf hV G72 v74 a3 a4) h (fun v79 G78 _ h => ?_)
        refine Y.blk (pc' := 87) (L' := [some (.ref a0), some (.long a1), none, some (.int a3), some (.int a4), some (.long v73), none]) (st' := [.long v79.toInt64, .long v73]) (sg := [(.i2l, 0)]) (by decide +kernel) rfl ?_
        refine Y.callL (yC.S (As := [.long v73, .long v79.toInt64]) (st := []) hV.1 cb_X_mix lk_X_263 st_X_mix (by decide +kernel) rfl rfl (Nat.le_of_ble_eq_true rfl) (by decide)) (k_X_mix hV G78 v73 v79.toInt64) h (fun v82 G81 _ h => ?_)
        exact Y.lret rfl (by decide +kernel) h
  · refine Y.blk (pc' := 15) (L' := [some (.ref a0), some (.long a1), none, some (.int a3), some (.int a4), none, none]) (st' := [.long (lN 1), .long a1]) (sg := [(.lconst 1, 0)]) (by decide +kernel) rfl ?_
    refine Y.goto (off := 4) (tgt := 19) (by decide +kernel) (by decide) ?_
    refine Y.callL (yC.S (As := [.long a1, .long (lN 1)]) (st := []) hV.1 cb_X_mix lk_X_263 st_X_mix (by decide +kernel) rfl rfl (Nat.le_of_ble_eq_true rfl) (by decide)) (k_X_mix hV G5 a1 (lN 1)) h (fun v87 G86 _ h => ?_)
    refine Y.blk (pc' := 27) (L' := [some (.ref a0), some (.long a1), none, some (.int a3), some (.int a4), some (.long v87), none]) (st' := [.ref a0, .long v87]) (sg := [(.lstore 5, 0), (.lload 5, 0), (.aload_n 0, 0)]) (by decide +kernel) rfl ?_
    refine Y.getA fl_X_10 (by decide +kernel) h (fun v88 h => ?_)
    refine Y.blk (pc' := 33) (L' := [some (.ref a0), some (.long a1), none, some (.int a3), some (.int a4), some (.long v87), none]) (st' := [.int a4, .int a3, .ref v88, .long v87]) (sg := [(.iload_n 3, 0), (.iload 4, 0)]) (by decide +kernel) rfl ?_
    obtain ⟨_, o90, e89, m91, h⟩ := gOb_inv h
    refine Y.callI (yC.Vi (b := v88) (As := [.int a3, .int a4]) (st := [.long v87]) (r := ("Partlister$Lists", T_I, 7)) hV.1 cb_I_holdsKeys lk_X_192 in_I_holdsKeys rfl se_I_holdsKeys (by decide +kernel) rfl rfl (Nat.le_of_ble_eq_true rfl) (by decide) e89 m91) (k_I_holdsKeys hV G86 v88 a3 a4) h (fun v93 G92 _ h => ?_)
    refine Y.if_eq (off := 7) (tgt := 43) (by decide +kernel) (by decide) h (fun c162 h => ?_) (fun c162 h => ?_)
    · refine Y.blk (pc' := 44) (L' := [some (.ref a0), some (.long a1), none, some (.int a3), some (.int a4), some (.long v87), none]) (st' := [.long (lN 0), .long v87]) (sg := [(.lconst 0, 0)]) (by decide +kernel) rfl ?_
      refine Y.callL (yC.S (As := [.long v87, .long (lN 0)]) (st := []) hV.1 cb_X_mix lk_X_263 st_X_mix (by decide +kernel) rfl rfl (Nat.le_of_ble_eq_true rfl) (by decide)) (k_X_mix hV G92 v87 (lN 0)) h (fun v96 G95 _ h => ?_)
      refine Y.blk (pc' := 52) (L' := [some (.ref a0), some (.long a1), none, some (.int a3), some (.int a4), some (.long v96), none]) (st' := [.ref a0, .long v96]) (sg := [(.lstore 5, 0), (.lload 5, 0), (.aload_n 0, 0)]) (by decide +kernel) rfl ?_
      refine Y.getA fl_X_10 (by decide +kernel) h (fun v97 h => ?_)
      refine Y.blk (pc' := 58) (L' := [some (.ref a0), some (.long a1), none, some (.int a3), some (.int a4), some (.long v96), none]) (st' := [.int a4, .int a3, .ref v97, .long v96]) (sg := [(.iload_n 3, 0), (.iload 4, 0)]) (by decide +kernel) rfl ?_
      obtain ⟨_, o99, e98, m100, h⟩ := gOb_inv h
      refine Y.callI (yC.Vi (b := v97) (As := [.int a3, .int a4]) (st := [.long v96]) (r := ("Partlister$Lists", T_I, 7)) hV.1 cb_I_shareNoKey lk_X_196 in_I_shareNoKey rfl se_I_shareNoKey (by decide +kernel) rfl rfl (Nat.le_of_ble_eq_true rfl) (by decide) e98 m100) (k_I_shareNoKey hV G95 v97 a3 a4) h (fun v102 G101 _ h => ?_)
      refine Y.if_eq (off := 7) (tgt := 68) (by decide +kernel) (by decide) h (fun c127 h => ?_) (fun c127 h => ?_)
      · refine Y.blk (pc' := 69) (L' := [some (.ref a0), some (.long a1), none, some (.int a3), some (.int a4), some (.long v96), none]) (st' := [.long (lN 0), .long v96]) (sg := [(.lconst 0, 0)]) (by decide +kernel) rfl ?_
        refine Y.callL (yC.S (As := [.long v96, .long (lN 0)]) (st := []) hV.1 cb_X_mix lk_X_263 st_X_mix (by decide +kernel) rfl rfl (Nat.le_of_ble_eq_true rfl) (by decide)) (k_X_mix hV G101 v96 (lN 0)) h (fun v105 G104 _ h => ?_)
        refine Y.blk (pc' := 77) (L' := [some (.ref a0), some (.long a1), none, some (.int a3), some (.int a4), some (.long v105), none]) (st' := [.ref a0, .long v105]) (sg := [(.lstore 5, 0), (.lload 5, 0), (.aload_n 0, 0)]) (by decide +kernel) rfl ?_
        refine Y.getA fl_X_10 (by decide +kernel) h (fun v106 h => ?_)
        refine Y.blk (pc' := 83) (L' := [some (.ref a0), some (.long a1), none, some (.int a3), some (.int a4), some (.long v105), none]) (st' := [.int a4, .int a3, .ref v106, .long v105]) (sg := [(.iload_n 3, 0), (.iload 4, 0)]) (by decide +kernel) rfl ?_
        obtain ⟨_, o108, e107, m109, h⟩ := gOb_inv h
        refine Y.callI (yC.Vi (b := v106) (As := [.int a3, .int a4]) (st := [.long v105]) (r := ("Partlister$Lists", T_I, 7)) hV.1 cb_I_placeOf lk_X_202 in_I_placeOf rfl se_I_placeOf (by decide +kernel) rfl rfl (Nat.le_of_ble_eq_true rfl) (by decide) e107 m109) (k_I_placeOf hV G104 v106 a3 a4) h (fun v111 G110 _ h => ?_)
        refine Y.blk (pc' := 87) (L' := [some (.ref a0), some (.long a1), none, some (.int a3), some (.int a4), some (.long v105), none]) (st' := [.long v111.toInt64, .long v105]) (sg := [(.i2l, 0)]) (by decide +kernel) rfl ?_
        refine Y.callL (yC.S (As := [.long v105, .long v111.toInt64]) (st := []) hV.1 cb_X_mix lk_X_263 st_X_mix (by decide +kernel) rfl rfl (Nat.le_of_ble_eq_true rfl) (by decide)) (k_X_mix hV G110 v105 v111.toInt64) h (fun v114 G113 _ h => ?_)
        exact Y.lret rfl (by decide +kernel) h
      · refine Y.blk (pc' := 65) (L' := [some (.ref a0), some (.long a1), none, some (.int a3), some (.int a4), some (.long v96), none]) (st' := [.long (lN 1), .long v96]) (sg := [(.lconst 1, 0)]) (by decide +kernel) rfl ?_
        refine Y.goto (off := 4) (tgt := 69) (by decide +kernel) (by decide) ?_
        refine Y.callL (yC.S (As := [.long v96, .long (lN 1)]) (st := []) hV.1 cb_X_mix lk_X_263 st_X_mix (by decide +kernel) rfl rfl (Nat.le_of_ble_eq_true rfl) (by decide)) (k_X_mix hV G101 v96 (lN 1)) h (fun v117 G116 _ h => ?_)
        refine Y.blk (pc' := 77) (L' := [some (.ref a0), some (.long a1), none, some (.int a3), some (.int a4), some (.long v117), none]) (st' := [.ref a0, .long v117]) (sg := [(.lstore 5, 0), (.lload 5, 0), (.aload_n 0, 0)]) (by decide +kernel) rfl ?_
        refine Y.getA fl_X_10 (by decide +kernel) h (fun v118 h => ?_)
        refine Y.blk (pc' := 83) (L' := [some (.ref a0), some (.long a1), none, some (.int a3), some (.int a4), some (.long v117), none]) (st' := [.int a4, .int a3, .ref v118, .long v117]) (sg := [(.iload_n 3, 0), (.iload 4, 0)]) (by decide +kernel) rfl ?_
        obtain ⟨_, o120, e119, m121, h⟩ := gOb_inv h
        refine Y.callI (yC.Vi (b := v118) (As := [.int a3, .int a4]) (st := [.long v117]) (r := ("Partlister$Lists", T_I, 7)) hV.1 cb_I_placeOf lk_X_202 in_I_placeOf rfl se_I_placeOf (by decide +kernel) rfl rfl (Nat.le_of_ble_eq_true rfl) (by decide) e119 m121) (k_I_placeOf hV G116 v118 a3 a4) h (fun v123 G122 _ h => ?_)
        refine Y.blk (pc' := 87) (L' := [some (.ref a0), some (.long a1), none, some (.int a3), some (.int a4), some (.long v117), none]) (st' := [.long v123.toInt64, .long v117]) (sg := [(.i2l, 0)]) (by decide +kernel) rfl ?_
        refine Y.callL (yC.S (As := [.long v117, .long v123.toInt64]) (st := []) hV.1 cb_X_mix lk_X_263 st_X_mix (by decide +kernel) rfl rfl (Nat.le_of_ble_eq_true rfl) (by decide)) (k_X_mix hV G122 v117 v123.toInt64) h (fun v126 G125 _ h => ?_)
        exact Y.lret rfl (by decide +kernel) h
    · refine Y.blk (pc' := 40) (L' := [some (.ref a0), some (.long a1), none, some (.int a3), some (.int a4), some (.long v87), none]) (st' := [.long (lN 1), .long v87]) (sg := [(.lconst 1, 0)]) (by decide +kernel) rfl ?_
      refine Y.goto (off := 4) (tgt := 44) (by decide +kernel) (by decide) ?_
      refine Y.callL (yC.S (As := [.long v87, .long (lN 1)]) (st := []) hV.1 cb_X_mix lk_X_263 st_X_mix (by decide +kernel) rfl rfl (Nat.le_of_ble_eq_true rfl) (by decide)) (k_X_mix hV G92 v87 (lN 1)) h (fun v130 G129 _ h => ?_)
      refine Y.blk (pc' := 52) (L' := [some (.ref a0), some (.long a1), none, some (.int a3), some (.int a4), some (.long v130), none]) (st' := [.ref a0, .long v130]) (sg := [(.lstore 5, 0), (.lload 5, 0), (.aload_n 0, 0)]) (by decide +kernel) rfl ?_
      refine Y.getA fl_X_10 (by decide +kernel) h (fun v131 h => ?_)
      refine Y.blk (pc' := 58) (L' := [some (.ref a0), some (.long a1), none, some (.int a3), some (.int a4), some (.long v130), none]) (st' := [.int a4, .int a3, .ref v131, .long v130]) (sg := [(.iload_n 3, 0), (.iload 4, 0)]) (by decide +kernel) rfl ?_
      obtain ⟨_, o133, e132, m134, h⟩ := gOb_inv h
      refine Y.callI (yC.Vi (b := v131) (As := [.int a3, .int a4]) (st := [.long v130]) (r := ("Partlister$Lists", T_I, 7)) hV.1 cb_I_shareNoKey lk_X_196 in_I_shareNoKey rfl se_I_shareNoKey (by decide +kernel) rfl rfl (Nat.le_of_ble_eq_true rfl) (by decide) e132 m134) (k_I_shareNoKey hV G129 v131 a3 a4) h (fun v136 G135 _ h => ?_)
      refine Y.if_eq (off := 7) (tgt := 68) (by decide +kernel) (by decide) h (fun c161 h => ?_) (fun c161 h => ?_)
      · refine Y.blk (pc' := 69) (L' := [some (.ref a0), some (.long a1), none, some (.int a3), some (.int a4), some (.long v130), none]) (st' := [.long (lN 0), .long v130]) (sg := [(.lconst 0, 0)]) (by decide +kernel) rfl ?_
        refine Y.callL (yC.S (As := [.long v130, .long (lN 0)]) (st := []) hV.1 cb_X_mix lk_X_263 st_X_mix (by decide +kernel) rfl rfl (Nat.le_of_ble_eq_true rfl) (by decide)) (k_X_mix hV G135 v130 (lN 0)) h (fun v139 G138 _ h => ?_)
        refine Y.blk (pc' := 77) (L' := [some (.ref a0), some (.long a1), none, some (.int a3), some (.int a4), some (.long v139), none]) (st' := [.ref a0, .long v139]) (sg := [(.lstore 5, 0), (.lload 5, 0), (.aload_n 0, 0)]) (by decide +kernel) rfl ?_
        refine Y.getA fl_X_10 (by decide +kernel) h (fun v140 h => ?_)
        refine Y.blk (pc' := 83) (L' := [some (.ref a0), some (.long a1), none, some (.int a3), some (.int a4), some (.long v139), none]) (st' := [.int a4, .int a3, .ref v140, .long v139]) (sg := [(.iload_n 3, 0), (.iload 4, 0)]) (by decide +kernel) rfl ?_
        obtain ⟨_, o142, e141, m143, h⟩ := gOb_inv h
        refine Y.callI (yC.Vi (b := v140) (As := [.int a3, .int a4]) (st := [.long v139]) (r := ("Partlister$Lists", T_I, 7)) hV.1 cb_I_placeOf lk_X_202 in_I_placeOf rfl se_I_placeOf (by decide +kernel) rfl rfl (Nat.le_of_ble_eq_true rfl) (by decide) e141 m143) (k_I_placeOf hV G138 v140 a3 a4) h (fun v145 G144 _ h => ?_)
        refine Y.blk (pc' := 87) (L' := [some (.ref a0), some (.long a1), none, some (.int a3), some (.int a4), some (.long v139), none]) (st' := [.long v145.toInt64, .long v139]) (sg := [(.i2l, 0)]) (by decide +kernel) rfl ?_
        refine Y.callL (yC.S (As := [.long v139, .long v145.toInt64]) (st := []) hV.1 cb_X_mix lk_X_263 st_X_mix (by decide +kernel) rfl rfl (Nat.le_of_ble_eq_true rfl) (by decide)) (k_X_mix hV G144 v139 v145.toInt64) h (fun v148 G147 _ h => ?_)
        exact Y.lret rfl (by decide +kernel) h
      · refine Y.blk (pc' := 65) (L' := [some (.ref a0), some (.long a1), none, some (.int a3), some (.int a4), some (.long v130), none]) (st' := [.long (lN 1), .long v130]) (sg := [(.lconst 1, 0)]) (by decide +kernel) rfl ?_
        refine Y.goto (off := 4) (tgt := 69) (by decide +kernel) (by decide) ?_
        refine Y.callL (yC.S (As := [.long v130, .long (lN 1)]) (st := []) hV.1 cb_X_mix lk_X_263 st_X_mix (by decide +kernel) rfl rfl (Nat.le_of_ble_eq_true rfl) (by decide)) (k_X_mix hV G135 v130 (lN 1)) h (fun v151 G150 _ h => ?_)
        refine Y.blk (pc' := 77) (L' := [some (.ref a0), some (.long a1), none, some (.int a3), some (.int a4), some (.long v151), none]) (st' := [.ref a0, .long v151]) (sg := [(.lstore 5, 0), (.lload 5, 0), (.aload_n 0, 0)]) (by decide +kernel) rfl ?_
        refine Y.getA fl_X_10 (by decide +kernel) h (fun v152 h => ?_)
        refine Y.blk (pc' := 83) (L' := [some (.ref a0), some (.long a1), none, some (.int a3), some (.int a4), some (.long v151), none]) (st' := [.int a4, .int a3, .ref v152, .long v151]) (sg := [(.iload_n 3, 0), (.iload 4, 0)]) (by decide +kernel) rfl ?_
        obtain ⟨_, o154, e153, m155, h⟩ := gOb_inv h
        refine Y.callI (yC.Vi (b := v152) (As := [.int a3, .int a4]) (st := [.long v151]) (r := ("Partlister$Lists", T_I, 7)) hV.1 cb_I_placeOf lk_X_202 in_I_placeOf rfl se_I_placeOf (by decide +kernel) rfl rfl (Nat.le_of_ble_eq_true rfl) (by decide) e153 m155) (k_I_placeOf hV G150 v152 a3 a4) h (fun v157 G156 _ h => ?_)
        refine Y.blk (pc' := 87) (L' := [some (.ref a0), some (.long a1), none, some (.int a3), some (.int a4), some (.long v151), none]) (st' := [.long v157.toInt64, .long v151]) (sg := [(.i2l, 0)]) (by decide +kernel) rfl ?_
        refine Y.callL (yC.S (As := [.long v151, .long v157.toInt64]) (st := []) hV.1 cb_X_mix lk_X_263 st_X_mix (by decide +kernel) rfl rfl (Nat.le_of_ble_eq_true rfl) (by decide)) (k_X_mix hV G156 v151 v157.toInt64) h (fun v160 G159 _ h => ?_)
        exact Y.lret rfl (by decide +kernel) h

def f_U_lastOf (G : gH) (a0 : Nat) (a1 : Int32) : gR :=
  gFA G a0 0 3 fun v1 => gOb G v1 2 fun o3 => bI (f_N_read G v1 a1) fun v6 G5 => rI v6 G5
theorem k_U_lastOf {l : Launch} {D : va_G} {B : Nat} {O : State → Heap → Prop} (hV : zG l D B O) (G : gH) (a0 : Nat) (a1 : Int32) : gMet (zVm l D B O) m_U_lastOf 2 [.ref a0, .int a1] G (f_U_lastOf G a0 a1) := by
  refine gMet.of (by decide +kernel) (Nat.le_of_ble_eq_true rfl) [some (.ref a0), some (.int a1)] (fun ls h => zEn_ok (n := 2) h) ?_
  intro o Gf h
  unfold f_U_lastOf at h
  refine Y.blk (pc' := 1) (L' := [some (.ref a0), some (.int a1)]) (st' := [.ref a0]) (sg := [(.aload_n 0, 0)]) (by decide +kernel) rfl ?_
  refine Y.getA fl_U_26 (by decide +kernel) h (fun v1 h => ?_)
  refine Y.blk (pc' := 5) (L' := [some (.ref a0), some (.int a1)]) (st' := [.int a1, .ref v1]) (sg := [(.iload_n 1, 0)]) (by decide +kernel) rfl ?_
  obtain ⟨_, o3, e2, m4, h⟩ := gOb_inv h
  refine Y.callI (yC.Vi (b := v1) (As := [.int a1]) (st := []) (r := ("Partlister$Numbers", T_N, 1)) hV.1 cb_N_read lk_U_33 in_N_read rfl se_N_read (by decide +kernel) rfl rfl (Nat.le_of_ble_eq_true rfl) (by decide) e2 m4) (k_N_read hV G v1 a1) h (fun v6 G5 _ h => ?_)
  exact Y.iret rfl (by decide +kernel) h

def f_U_nextOf (G : gH) (a0 : Nat) (a1 : Int32) : gR :=
  gFA G a0 0 2 fun v1 => gOb G v1 2 fun o3 => bI (f_N_read G v1 a1) fun v6 G5 => rI v6 G5
theorem k_U_nextOf {l : Launch} {D : va_G} {B : Nat} {O : State → Heap → Prop} (hV : zG l D B O) (G : gH) (a0 : Nat) (a1 : Int32) : gMet (zVm l D B O) m_U_nextOf 2 [.ref a0, .int a1] G (f_U_nextOf G a0 a1) := by
  refine gMet.of (by decide +kernel) (Nat.le_of_ble_eq_true rfl) [some (.ref a0), some (.int a1)] (fun ls h => zEn_ok (n := 2) h) ?_
  intro o Gf h
  unfold f_U_nextOf at h
  refine Y.blk (pc' := 1) (L' := [some (.ref a0), some (.int a1)]) (st' := [.ref a0]) (sg := [(.aload_n 0, 0)]) (by decide +kernel) rfl ?_
  refine Y.getA fl_U_23 (by decide +kernel) h (fun v1 h => ?_)
  refine Y.blk (pc' := 5) (L' := [some (.ref a0), some (.int a1)]) (st' := [.int a1, .ref v1]) (sg := [(.iload_n 1, 0)]) (by decide +kernel) rfl ?_
  obtain ⟨_, o3, e2, m4, h⟩ := gOb_inv h
  refine Y.callI (yC.Vi (b := v1) (As := [.int a1]) (st := []) (r := ("Partlister$Numbers", T_N, 1)) hV.1 cb_N_read lk_U_33 in_N_read rfl se_N_read (by decide +kernel) rfl rfl (Nat.le_of_ble_eq_true rfl) (by decide) e2 m4) (k_N_read hV G v1 a1) h (fun v6 G5 _ h => ?_)
  exact Y.iret rfl (by decide +kernel) h

def f_U_stateOf (G : gH) (a0 : Nat) (a1 : Int32) : gR :=
  gFA G a0 0 0 fun v1 => gOb G v1 2 fun o3 => bI (f_N_read G v1 a1) fun v6 G5 => rI v6 G5
theorem k_U_stateOf {l : Launch} {D : va_G} {B : Nat} {O : State → Heap → Prop} (hV : zG l D B O) (G : gH) (a0 : Nat) (a1 : Int32) : gMet (zVm l D B O) m_U_stateOf 2 [.ref a0, .int a1] G (f_U_stateOf G a0 a1) := by
  refine gMet.of (by decide +kernel) (Nat.le_of_ble_eq_true rfl) [some (.ref a0), some (.int a1)] (fun ls h => zEn_ok (n := 2) h) ?_
  intro o Gf h
  unfold f_U_stateOf at h
  refine Y.blk (pc' := 1) (L' := [some (.ref a0), some (.int a1)]) (st' := [.ref a0]) (sg := [(.aload_n 0, 0)]) (by decide +kernel) rfl ?_
  refine Y.getA fl_U_14 (by decide +kernel) h (fun v1 h => ?_)
  refine Y.blk (pc' := 5) (L' := [some (.ref a0), some (.int a1)]) (st' := [.int a1, .ref v1]) (sg := [(.iload_n 1, 0)]) (by decide +kernel) rfl ?_
  obtain ⟨_, o3, e2, m4, h⟩ := gOb_inv h
  refine Y.callI (yC.Vi (b := v1) (As := [.int a1]) (st := []) (r := ("Partlister$Numbers", T_N, 1)) hV.1 cb_N_read lk_U_33 in_N_read rfl se_N_read (by decide +kernel) rfl rfl (Nat.le_of_ble_eq_true rfl) (by decide) e2 m4) (k_N_read hV G v1 a1) h (fun v6 G5 _ h => ?_)
  exact Y.iret rfl (by decide +kernel) h

def f_X_worthOfCursor (G : gH) (a0 : Nat) (a1 : Int32) (a2 : Int32) : gR :=
  if a2 = 0 then gFA G a0 3 1 fun v1 => gOb G v1 0 fun o3 => bI (f_U_stateOf G v1 a1) fun v6 G5 => rI v6 G5
  else gFA G a0 3 1 fun v7 => gOb G v7 0 fun o9 => bI (f_U_isThere G v7 a1) fun v12 G11 => if v12 = 0 then rI (-1) G11
    else gFA G11 a0 3 1 fun v13 => gOb G11 v13 0 fun o15 => bI (f_U_listOf G11 v13 a1) fun v18 G17 => if a2 = (nI 1) then rI v18 G17
      else gFA G17 a0 3 1 fun v19 => gOb G17 v19 0 fun o21 => bI (f_U_isStale G17 v19 a1) fun v24 G23 => if v24 = 0 then (gFA G23 a0 3 1 fun v25 => gOb G23 v25 0 fun o27 => bI (f_U_nextOf G23 v25 a1) fun v30 G29 => if a2.toInt = 2 then (rI v30 G29)
          else if a2.toInt = 3 then (if v30 ≤ 0 then rI (-1) G29
            else rI (v30 - (nI 1)) G29)
          else if a2.toInt = 4 then (gFA G29 a0 3 0 fun v34 => gOb G29 v34 1 fun o36 => bI (f_I_lengthOf G29 v34 v18) fun v39 G38 => if v39 ≤ v30 then rI (nI 0) G38
            else rI (nI 1) G38)
          else if a2.toInt = 5 then (if v30 ≤ 0 then rI (nI 0) G29
            else rI (nI 1) G29)
          else gFA G29 a0 3 1 fun v44 => gOb G29 v44 0 fun o46 => bI (f_U_lastOf G29 v44 a1) fun v49 G48 => rI v49 G48)
        else rI (-1) G23
theorem k_X_worthOfCursor {l : Launch} {D : va_G} {B : Nat} {O : State → Heap → Prop} (hV : zG l D B O) (G : gH) (a0 : Nat) (a1 : Int32) (a2 : Int32) : gMet (zVm l D B O) m_X_worthOfCursor 4 [.ref a0, .int a1, .int a2] G (f_X_worthOfCursor G a0 a1 a2) := by
  refine gMet.of (by decide +kernel) (Nat.le_of_ble_eq_true rfl) [some (.ref a0), some (.int a1), some (.int a2), none, none] (fun ls h => zEn_ok (n := 5) h) ?_
  intro o Gf h
  unfold f_X_worthOfCursor at h
  refine Y.blk (pc' := 1) (L' := [some (.ref a0), some (.int a1), some (.int a2), none, none]) (st' := [.int a2]) (sg := [(.iload_n 2, 0)]) (by decide +kernel) rfl ?_
  refine Y.if_ne (off := 12) (tgt := 13) (by decide +kernel) (by decide) h (fun c53 h => ?_) (fun c53 h => ?_)
  · refine Y.blk (pc' := 5) (L' := [some (.ref a0), some (.int a1), some (.int a2), none, none]) (st' := [.ref a0]) (sg := [(.aload_n 0, 0)]) (by decide +kernel) rfl ?_
    refine Y.getA fl_X_19 (by decide +kernel) h (fun v1 h => ?_)
    refine Y.blk (pc' := 9) (L' := [some (.ref a0), some (.int a1), some (.int a2), none, none]) (st' := [.int a1, .ref v1]) (sg := [(.iload_n 1, 0)]) (by decide +kernel) rfl ?_
    obtain ⟨_, o3, e2, m4, h⟩ := gOb_inv h
    refine Y.callI (yC.Vi (b := v1) (As := [.int a1]) (st := []) (r := ("Partlister$Cursors", T_U, 5)) hV.1 cb_U_stateOf lk_X_305 in_U_stateOf rfl se_U_stateOf (by decide +kernel) rfl rfl (Nat.le_of_ble_eq_true rfl) (by decide) e2 m4) (k_U_stateOf hV G v1 a1) h (fun v6 G5 _ h => ?_)
    exact Y.iret rfl (by decide +kernel) h
  · refine Y.blk (pc' := 14) (L' := [some (.ref a0), some (.int a1), some (.int a2), none, none]) (st' := [.ref a0]) (sg := [(.aload_n 0, 0)]) (by decide +kernel) rfl ?_
    refine Y.getA fl_X_19 (by decide +kernel) h (fun v7 h => ?_)
    refine Y.blk (pc' := 18) (L' := [some (.ref a0), some (.int a1), some (.int a2), none, none]) (st' := [.int a1, .ref v7]) (sg := [(.iload_n 1, 0)]) (by decide +kernel) rfl ?_
    obtain ⟨_, o9, e8, m10, h⟩ := gOb_inv h
    refine Y.callI (yC.Vi (b := v7) (As := [.int a1]) (st := []) (r := ("Partlister$Cursors", T_U, 5)) hV.1 cb_U_isThere lk_X_148 in_U_isThere rfl se_U_isThere (by decide +kernel) rfl rfl (Nat.le_of_ble_eq_true rfl) (by decide) e8 m10) (k_U_isThere hV G v7 a1) h (fun v12 G11 _ h => ?_)
    refine Y.if_ne (off := 5) (tgt := 26) (by decide +kernel) (by decide) h (fun c52 h => ?_) (fun c52 h => ?_)
    · refine Y.blk (pc' := 25) (L' := [some (.ref a0), some (.int a1), some (.int a2), none, none]) (st' := [.int (-1)]) (sg := [(.iconst (-1), -1)]) (by decide +kernel) rfl ?_
      exact Y.iret rfl (by decide +kernel) h
    · refine Y.blk (pc' := 27) (L' := [some (.ref a0), some (.int a1), some (.int a2), none, none]) (st' := [.ref a0]) (sg := [(.aload_n 0, 0)]) (by decide +kernel) rfl ?_
      refine Y.getA fl_X_19 (by decide +kernel) h (fun v13 h => ?_)
      refine Y.blk (pc' := 31) (L' := [some (.ref a0), some (.int a1), some (.int a2), none, none]) (st' := [.int a1, .ref v13]) (sg := [(.iload_n 1, 0)]) (by decide +kernel) rfl ?_
      obtain ⟨_, o15, e14, m16, h⟩ := gOb_inv h
      refine Y.callI (yC.Vi (b := v13) (As := [.int a1]) (st := []) (r := ("Partlister$Cursors", T_U, 5)) hV.1 cb_U_listOf lk_X_152 in_U_listOf rfl se_U_listOf (by decide +kernel) rfl rfl (Nat.le_of_ble_eq_true rfl) (by decide) e14 m16) (k_U_listOf hV G11 v13 a1) h (fun v18 G17 _ h => ?_)
      refine Y.blk (pc' := 37) (L' := [some (.ref a0), some (.int a1), some (.int a2), some (.int v18), none]) (st' := [.int (nI 1), .int a2]) (sg := [(.istore_n 3, 0), (.iload_n 2, 0), (.iconst 1, nI 1)]) (by decide +kernel) rfl ?_
      refine Y.ic_ne (off := 5) (tgt := 42) (by decide +kernel) (by decide) h (fun c51 h => ?_) (fun c51 h => ?_)
      · refine Y.blk (pc' := 41) (L' := [some (.ref a0), some (.int a1), some (.int a2), some (.int v18), none]) (st' := [.int v18]) (sg := [(.iload_n 3, 0)]) (by decide +kernel) rfl ?_
        exact Y.iret rfl (by decide +kernel) h
      · refine Y.blk (pc' := 43) (L' := [some (.ref a0), some (.int a1), some (.int a2), some (.int v18), none]) (st' := [.ref a0]) (sg := [(.aload_n 0, 0)]) (by decide +kernel) rfl ?_
        refine Y.getA fl_X_19 (by decide +kernel) h (fun v19 h => ?_)
        refine Y.blk (pc' := 47) (L' := [some (.ref a0), some (.int a1), some (.int a2), some (.int v18), none]) (st' := [.int a1, .ref v19]) (sg := [(.iload_n 1, 0)]) (by decide +kernel) rfl ?_
        obtain ⟨_, o21, e20, m22, h⟩ := gOb_inv h
        refine Y.callI (yC.Vi (b := v19) (As := [.int a1]) (st := []) (r := ("Partlister$Cursors", T_U, 5)) hV.1 cb_U_isStale lk_X_170 in_U_isStale rfl se_U_isStale (by decide +kernel) rfl rfl (Nat.le_of_ble_eq_true rfl) (by decide) e20 m22) (k_U_isStale hV G17 v19 a1) h (fun v24 G23 _ h => ?_)
        refine Y.if_eq (off := 5) (tgt := 55) (by decide +kernel) (by decide) h (fun c50 h => ?_) (fun c50 h => ?_)
        · refine Y.blk (pc' := 56) (L' := [some (.ref a0), some (.int a1), some (.int a2), some (.int v18), none]) (st' := [.ref a0]) (sg := [(.aload_n 0, 0)]) (by decide +kernel) rfl ?_
          refine Y.getA fl_X_19 (by decide +kernel) h (fun v25 h => ?_)
          refine Y.blk (pc' := 60) (L' := [some (.ref a0), some (.int a1), some (.int a2), some (.int v18), none]) (st' := [.int a1, .ref v25]) (sg := [(.iload_n 1, 0)]) (by decide +kernel) rfl ?_
          obtain ⟨_, o27, e26, m28, h⟩ := gOb_inv h
          refine Y.callI (yC.Vi (b := v25) (As := [.int a1]) (st := []) (r := ("Partlister$Cursors", T_U, 5)) hV.1 cb_U_nextOf lk_X_176 in_U_nextOf rfl se_U_nextOf (by decide +kernel) rfl rfl (Nat.le_of_ble_eq_true rfl) (by decide) e26 m28) (k_U_nextOf hV G23 v25 a1) h (fun v30 G29 _ h => ?_)
          refine Y.blk (pc' := 66) (L' := [some (.ref a0), some (.int a1), some (.int a2), some (.int v18), some (.int v30)]) (st' := [.int a2]) (sg := [(.istore 4, 0), (.iload_n 2, 0)]) (by decide +kernel) rfl ?_
          refine Y.swC (j := 2) (off := 30) (tgt := 96) (dflt := 77) (lo := 2) (hi := 5) (offs := #[30, 33, 47, 66]) (len := 30) (by decide +kernel) (by decide) (by decide) (by decide) h (fun c31 h => ?_) (fun c31 h => ?_)
          · refine Y.blk (pc' := 98) (L' := [some (.ref a0), some (.int a1), some (.int a2), some (.int v18), some (.int v30)]) (st' := [.int v30]) (sg := [(.iload 4, 0)]) (by decide +kernel) rfl ?_
            exact Y.iret rfl (by decide +kernel) h
          refine Y.swC (j := 3) (off := 33) (tgt := 99) (dflt := 77) (lo := 2) (hi := 5) (offs := #[30, 33, 47, 66]) (len := 30) (by decide +kernel) (by decide) (by decide) (by decide) h (fun c33 h => ?_) (fun c33 h => ?_)
          · refine Y.blk (pc' := 101) (L' := [some (.ref a0), some (.int a1), some (.int a2), some (.int v18), some (.int v30)]) (st' := [.int v30]) (sg := [(.iload 4, 0)]) (by decide +kernel) rfl ?_
            refine Y.if_le (off := 10) (tgt := 111) (by decide +kernel) (by decide) h (fun c32 h => ?_) (fun c32 h => ?_)
            · refine Y.blk (pc' := 112) (L' := [some (.ref a0), some (.int a1), some (.int a2), some (.int v18), some (.int v30)]) (st' := [.int (-1)]) (sg := [(.iconst (-1), -1)]) (by decide +kernel) rfl ?_
              exact Y.iret rfl (by decide +kernel) h
            · refine Y.blk (pc' := 108) (L' := [some (.ref a0), some (.int a1), some (.int a2), some (.int v18), some (.int v30)]) (st' := [.int (v30 - (nI 1))]) (sg := [(.iload 4, 0), (.iconst 1, nI 1), (.isub, 0)]) (by decide +kernel) rfl ?_
              refine Y.goto (off := 4) (tgt := 112) (by decide +kernel) (by decide) ?_
              exact Y.iret rfl (by decide +kernel) h
          refine Y.swC (j := 4) (off := 47) (tgt := 113) (dflt := 77) (lo := 2) (hi := 5) (offs := #[30, 33, 47, 66]) (len := 30) (by decide +kernel) (by decide) (by decide) (by decide) h (fun c41 h => ?_) (fun c41 h => ?_)
          · refine Y.blk (pc' := 116) (L' := [some (.ref a0), some (.int a1), some (.int a2), some (.int v18), some (.int v30)]) (st' := [.ref a0, .int v30]) (sg := [(.iload 4, 0), (.aload_n 0, 0)]) (by decide +kernel) rfl ?_
            refine Y.getA fl_X_10 (by decide +kernel) h (fun v34 h => ?_)
            refine Y.blk (pc' := 120) (L' := [some (.ref a0), some (.int a1), some (.int a2), some (.int v18), some (.int v30)]) (st' := [.int v18, .ref v34, .int v30]) (sg := [(.iload_n 3, 0)]) (by decide +kernel) rfl ?_
            obtain ⟨_, o36, e35, m37, h⟩ := gOb_inv h
            refine Y.callI (yC.Vi (b := v34) (As := [.int v18]) (st := [.int v30]) (r := ("Partlister$Lists", T_I, 7)) hV.1 cb_I_lengthOf lk_X_34 in_I_lengthOf rfl se_I_lengthOf (by decide +kernel) rfl rfl (Nat.le_of_ble_eq_true rfl) (by decide) e35 m37) (k_I_lengthOf hV G29 v34 v18) h (fun v39 G38 _ h => ?_)
            refine Y.ic_ge (off := 7) (tgt := 130) (by decide +kernel) (by decide) h (fun c40 h => ?_) (fun c40 h => ?_)
            · refine Y.blk (pc' := 131) (L' := [some (.ref a0), some (.int a1), some (.int a2), some (.int v18), some (.int v30)]) (st' := [.int (nI 0)]) (sg := [(.iconst 0, nI 0)]) (by decide +kernel) rfl ?_
              exact Y.iret rfl (by decide +kernel) h
            · refine Y.blk (pc' := 127) (L' := [some (.ref a0), some (.int a1), some (.int a2), some (.int v18), some (.int v30)]) (st' := [.int (nI 1)]) (sg := [(.iconst 1, nI 1)]) (by decide +kernel) rfl ?_
              refine Y.goto (off := 4) (tgt := 131) (by decide +kernel) (by decide) ?_
              exact Y.iret rfl (by decide +kernel) h
          refine Y.swC (j := 5) (off := 66) (tgt := 132) (dflt := 77) (lo := 2) (hi := 5) (offs := #[30, 33, 47, 66]) (len := 30) (by decide +kernel) (by decide) (by decide) (by decide) h (fun c43 h => ?_) (fun c43 h => ?_)
          · refine Y.blk (pc' := 134) (L' := [some (.ref a0), some (.int a1), some (.int a2), some (.int v18), some (.int v30)]) (st' := [.int v30]) (sg := [(.iload 4, 0)]) (by decide +kernel) rfl ?_
            refine Y.if_le (off := 7) (tgt := 141) (by decide +kernel) (by decide) h (fun c42 h => ?_) (fun c42 h => ?_)
            · refine Y.blk (pc' := 142) (L' := [some (.ref a0), some (.int a1), some (.int a2), some (.int v18), some (.int v30)]) (st' := [.int (nI 0)]) (sg := [(.iconst 0, nI 0)]) (by decide +kernel) rfl ?_
              exact Y.iret rfl (by decide +kernel) h
            · refine Y.blk (pc' := 138) (L' := [some (.ref a0), some (.int a1), some (.int a2), some (.int v18), some (.int v30)]) (st' := [.int (nI 1)]) (sg := [(.iconst 1, nI 1)]) (by decide +kernel) rfl ?_
              refine Y.goto (off := 4) (tgt := 142) (by decide +kernel) (by decide) ?_
              exact Y.iret rfl (by decide +kernel) h
          refine Y.swOut (dflt := 77) (lo := 2) (hi := 5) (offs := #[30, 33, 47, 66]) (len := 30) (tgt := 143) (by decide +kernel) (by omega) (by decide) ?_
          refine Y.blk (pc' := 144) (L' := [some (.ref a0), some (.int a1), some (.int a2), some (.int v18), some (.int v30)]) (st' := [.ref a0]) (sg := [(.aload_n 0, 0)]) (by decide +kernel) rfl ?_
          refine Y.getA fl_X_19 (by decide +kernel) h (fun v44 h => ?_)
          refine Y.blk (pc' := 148) (L' := [some (.ref a0), some (.int a1), some (.int a2), some (.int v18), some (.int v30)]) (st' := [.int a1, .ref v44]) (sg := [(.iload_n 1, 0)]) (by decide +kernel) rfl ?_
          obtain ⟨_, o46, e45, m47, h⟩ := gOb_inv h
          refine Y.callI (yC.Vi (b := v44) (As := [.int a1]) (st := []) (r := ("Partlister$Cursors", T_U, 5)) hV.1 cb_U_lastOf lk_X_182 in_U_lastOf rfl se_U_lastOf (by decide +kernel) rfl rfl (Nat.le_of_ble_eq_true rfl) (by decide) e45 m47) (k_U_lastOf hV G29 v44 a1) h (fun v49 G48 _ h => ?_)
          exact Y.iret rfl (by decide +kernel) h
        · refine Y.blk (pc' := 54) (L' := [some (.ref a0), some (.int a1), some (.int a2), some (.int v18), none]) (st' := [.int (-1)]) (sg := [(.iconst (-1), -1)]) (by decide +kernel) rfl ?_
          exact Y.iret rfl (by decide +kernel) h

def f_U_countEnded (G : gH) (a0 : Nat) : gR :=
  gFI G a0 0 4 fun v1 => rI v1 G
theorem k_U_countEnded {l : Launch} {D : va_G} {B : Nat} {O : State → Heap → Prop} (hV : zG l D B O) (G : gH) (a0 : Nat) : gMet (zVm l D B O) m_U_countEnded 1 [.ref a0] G (f_U_countEnded G a0) := by
  refine gMet.of (by decide +kernel) (Nat.le_of_ble_eq_true rfl) [some (.ref a0)] (fun ls h => zEn_ok (n := 1) h) ?_
  intro o Gf h
  unfold f_U_countEnded at h
  refine Y.blk (pc' := 1) (L' := [some (.ref a0)]) (st' := [.ref a0]) (sg := [(.aload_n 0, 0)]) (by decide +kernel) rfl ?_
  refine Y.getI fl_U_54 (by decide +kernel) h (fun v1 h => ?_)
  exact Y.iret rfl (by decide +kernel) h

def f_U_countStale_L4 (K26 : gH → Int32 → gR) : Nat → gH → Nat → Int32 → Int32 → gR
  | 0, _, _, _, _ => none
  | n + 1, G, x0, x1, x2 =>
    if (nI 3) ≤ x2 then K26 G x1
    else gOb G x0 0 fun o2 => bI (f_U_isStale G x0 x2) fun v5 G4 => if v5 = 0 then f_U_countStale_L4 K26 n G4 x0 x1 (x2 + (nI 1))
      else f_U_countStale_L4 K26 n G4 x0 (x1 + (nI 1)) (x2 + (nI 1))
def f_U_countStale (G : gH) (a0 : Nat) : gR :=
  f_U_countStale_L4 (fun G9 x8 => rI x8 G9) zFu G a0 (nI 0) (nI 0)
theorem k_U_countStale_L4 {l : Launch} {D : va_G} {B : Nat} {O : State → Heap → Prop} (hV : zG l D B O) {o : gO} {Gf : gH} (K26 : gH → Int32 → gR) (hK26 : ∀ (G : gH) (x1 : Int32), K26 G x1 = some (o, Gf) → Y (zVm l D B O) m_U_countStale 3 o Gf 26 [none, some (.int x1), none] [] G) : ∀ (n : Nat) (G : gH) (x0 : Nat) (x1 : Int32) (x2 : Int32), f_U_countStale_L4 K26 n G x0 x1 x2 = some (o, Gf) → Y (zVm l D B O) m_U_countStale 3 o Gf 4 [some (.ref x0), some (.int x1), some (.int x2)] [] G := by
  intro n
  induction n with
  | zero => intro G x0 x1 x2 h; cases h
  | succ n ih =>
    intro G x0 x1 x2 h
    unfold f_U_countStale_L4 at h
    refine Y.blk (pc' := 6) (L' := [some (.ref x0), some (.int x1), some (.int x2)]) (st' := [.int (nI 3), .int x2]) (sg := [(.iload_n 2, 0), (.iconst 3, nI 3)]) (by decide +kernel) rfl ?_
    refine Y.ic_ge (off := 20) (tgt := 26) (by decide +kernel) (by decide) h (fun c7 h => ?_) (fun c7 h => ?_)
    · refine Y.less (L' := [none, some (.int x1), none]) (zLe_none (zLe_some (zLe_none (zLe_nil)))) ?_
      exact hK26 G x1 h
    · refine Y.blk (pc' := 11) (L' := [some (.ref x0), some (.int x1), some (.int x2)]) (st' := [.int x2, .ref x0]) (sg := [(.aload_n 0, 0), (.iload_n 2, 0)]) (by decide +kernel) rfl ?_
      obtain ⟨_, o2, e1, m3, h⟩ := gOb_inv h
      refine Y.callI (yC.Vi (b := x0) (As := [.int x2]) (st := []) (r := ("Partlister$Cursors", T_U, 5)) hV.1 cb_U_isStale lk_U_29 in_U_isStale rfl se_U_isStale (by decide +kernel) rfl rfl (Nat.le_of_ble_eq_true rfl) (by decide) e1 m3) (k_U_isStale hV G x0 x2) h (fun v5 G4 _ h => ?_)
      refine Y.if_eq (off := 6) (tgt := 20) (by decide +kernel) (by decide) h (fun c6 h => ?_) (fun c6 h => ?_)
      · refine Y.blk (pc' := 23) (L' := [some (.ref x0), some (.int x1), some (.int (x2 + (nI 1)))]) (st' := []) (sg := [(.iinc 2 1, nI 1)]) (by decide +kernel) rfl ?_
        refine Y.goto (off := -19) (tgt := 4) (by decide +kernel) (by decide) ?_
        exact ih G4 x0 x1 (x2 + (nI 1)) h
      · refine Y.blk (pc' := 23) (L' := [some (.ref x0), some (.int (x1 + (nI 1))), some (.int (x2 + (nI 1)))]) (st' := []) (sg := [(.iinc 1 1, nI 1), (.iinc 2 1, nI 1)]) (by decide +kernel) rfl ?_
        refine Y.goto (off := -19) (tgt := 4) (by decide +kernel) (by decide) ?_
        exact ih G4 x0 (x1 + (nI 1)) (x2 + (nI 1)) h
theorem k_U_countStale {l : Launch} {D : va_G} {B : Nat} {O : State → Heap → Prop} (hV : zG l D B O) (G : gH) (a0 : Nat) : gMet (zVm l D B O) m_U_countStale 3 [.ref a0] G (f_U_countStale G a0) := by
  refine gMet.of (by decide +kernel) (Nat.le_of_ble_eq_true rfl) [some (.ref a0), none, none] (fun ls h => zEn_ok (n := 3) h) ?_
  intro o Gf h
  unfold f_U_countStale at h
  refine Y.blk (pc' := 4) (L' := [some (.ref a0), some (.int (nI 0)), some (.int (nI 0))]) (st' := []) (sg := [(.iconst 0, nI 0), (.istore_n 1, 0), (.iconst 0, nI 0), (.istore_n 2, 0)]) (by decide +kernel) rfl ?_
  refine k_U_countStale_L4 hV _ ?_  zFu G a0 (nI 0) (nI 0) h
  · intro G9 x8 h
    refine Y.blk (pc' := 27) (L' := [none, some (.int x8), none]) (st' := [.int x8]) (sg := [(.iload_n 1, 0)]) (by decide +kernel) rfl ?_
    exact Y.iret rfl (by decide +kernel) h

def f_U_countThere_L4 (K26 : gH → Int32 → gR) : Nat → gH → Nat → Int32 → Int32 → gR
  | 0, _, _, _, _ => none
  | n + 1, G, x0, x1, x2 =>
    if (nI 3) ≤ x2 then K26 G x1
    else gOb G x0 0 fun o2 => bI (f_U_isThere G x0 x2) fun v5 G4 => if v5 = 0 then f_U_countThere_L4 K26 n G4 x0 x1 (x2 + (nI 1))
      else f_U_countThere_L4 K26 n G4 x0 (x1 + (nI 1)) (x2 + (nI 1))
def f_U_countThere (G : gH) (a0 : Nat) : gR :=
  f_U_countThere_L4 (fun G9 x8 => rI x8 G9) zFu G a0 (nI 0) (nI 0)
theorem k_U_countThere_L4 {l : Launch} {D : va_G} {B : Nat} {O : State → Heap → Prop} (hV : zG l D B O) {o : gO} {Gf : gH} (K26 : gH → Int32 → gR) (hK26 : ∀ (G : gH) (x1 : Int32), K26 G x1 = some (o, Gf) → Y (zVm l D B O) m_U_countThere 4 o Gf 26 [none, some (.int x1), none] [] G) : ∀ (n : Nat) (G : gH) (x0 : Nat) (x1 : Int32) (x2 : Int32), f_U_countThere_L4 K26 n G x0 x1 x2 = some (o, Gf) → Y (zVm l D B O) m_U_countThere 4 o Gf 4 [some (.ref x0), some (.int x1), some (.int x2)] [] G := by
  intro n
  induction n with
  | zero => intro G x0 x1 x2 h; cases h
  | succ n ih =>
    intro G x0 x1 x2 h
    unfold f_U_countThere_L4 at h
    refine Y.blk (pc' := 6) (L' := [some (.ref x0), some (.int x1), some (.int x2)]) (st' := [.int (nI 3), .int x2]) (sg := [(.iload_n 2, 0), (.iconst 3, nI 3)]) (by decide +kernel) rfl ?_
    refine Y.ic_ge (off := 20) (tgt := 26) (by decide +kernel) (by decide) h (fun c7 h => ?_) (fun c7 h => ?_)
    · refine Y.less (L' := [none, some (.int x1), none]) (zLe_none (zLe_some (zLe_none (zLe_nil)))) ?_
      exact hK26 G x1 h
    · refine Y.blk (pc' := 11) (L' := [some (.ref x0), some (.int x1), some (.int x2)]) (st' := [.int x2, .ref x0]) (sg := [(.aload_n 0, 0), (.iload_n 2, 0)]) (by decide +kernel) rfl ?_
      obtain ⟨_, o2, e1, m3, h⟩ := gOb_inv h
      refine Y.callI (yC.Vi (b := x0) (As := [.int x2]) (st := []) (r := ("Partlister$Cursors", T_U, 5)) hV.1 cb_U_isThere lk_U_37 in_U_isThere rfl se_U_isThere (by decide +kernel) rfl rfl (Nat.le_of_ble_eq_true rfl) (by decide) e1 m3) (k_U_isThere hV G x0 x2) h (fun v5 G4 _ h => ?_)
      refine Y.if_eq (off := 6) (tgt := 20) (by decide +kernel) (by decide) h (fun c6 h => ?_) (fun c6 h => ?_)
      · refine Y.blk (pc' := 23) (L' := [some (.ref x0), some (.int x1), some (.int (x2 + (nI 1)))]) (st' := []) (sg := [(.iinc 2 1, nI 1)]) (by decide +kernel) rfl ?_
        refine Y.goto (off := -19) (tgt := 4) (by decide +kernel) (by decide) ?_
        exact ih G4 x0 x1 (x2 + (nI 1)) h
      · refine Y.blk (pc' := 23) (L' := [some (.ref x0), some (.int (x1 + (nI 1))), some (.int (x2 + (nI 1)))]) (st' := []) (sg := [(.iinc 1 1, nI 1), (.iinc 2 1, nI 1)]) (by decide +kernel) rfl ?_
        refine Y.goto (off := -19) (tgt := 4) (by decide +kernel) (by decide) ?_
        exact ih G4 x0 (x1 + (nI 1)) (x2 + (nI 1)) h
theorem k_U_countThere {l : Launch} {D : va_G} {B : Nat} {O : State → Heap → Prop} (hV : zG l D B O) (G : gH) (a0 : Nat) : gMet (zVm l D B O) m_U_countThere 4 [.ref a0] G (f_U_countThere G a0) := by
  refine gMet.of (by decide +kernel) (Nat.le_of_ble_eq_true rfl) [some (.ref a0), none, none] (fun ls h => zEn_ok (n := 3) h) ?_
  intro o Gf h
  unfold f_U_countThere at h
  refine Y.blk (pc' := 4) (L' := [some (.ref a0), some (.int (nI 0)), some (.int (nI 0))]) (st' := []) (sg := [(.iconst 0, nI 0), (.istore_n 1, 0), (.iconst 0, nI 0), (.istore_n 2, 0)]) (by decide +kernel) rfl ?_
  refine k_U_countThere_L4 hV _ ?_  zFu G a0 (nI 0) (nI 0) h
  · intro G9 x8 h
    refine Y.blk (pc' := 27) (L' := [none, some (.int x8), none]) (st' := [.int x8]) (sg := [(.iload_n 1, 0)]) (by decide +kernel) rfl ?_
    exact Y.iret rfl (by decide +kernel) h
end
section
def f_I_countEnded (G : gH) (a0 : Nat) : gR :=
  gFI G a0 1 6 fun v1 => rI v1 G
theorem k_I_countEnded {l : Launch} {D : va_G} {B : Nat} {O : State → Heap → Prop} (hV : zG l D B O) (G : gH) (a0 : Nat) : gMet (zVm l D B O) m_I_countEnded 1 [.ref a0] G (f_I_countEnded G a0) := by
  refine gMet.of (by decide +kernel) (Nat.le_of_ble_eq_true rfl) [some (.ref a0)] (fun ls h => zEn_ok (n := 1) h) ?_
  intro o Gf h
  unfold f_I_countEnded at h
  refine Y.blk (pc' := 1) (L' := [some (.ref a0)]) (st' := [.ref a0]) (sg := [(.aload_n 0, 0)]) (by decide +kernel) rfl ?_
  refine Y.getI fl_I_97 (by decide +kernel) h (fun v1 h => ?_)
  exact Y.iret rfl (by decide +kernel) h

def f_I_countParts_L4 (K27 : gH → Int32 → gR) : Nat → gH → Nat → Int32 → Int32 → gR
  | 0, _, _, _, _ => none
  | n + 1, G, x0, x1, x2 =>
    if (nI 6) ≤ x2 then K27 G x1
    else gOb G x0 1 fun o2 => bI (f_I_isThere G x0 x2) fun v5 G4 => if v5 = 0 then f_I_countParts_L4 K27 n G4 x0 x1 (x2 + (nI 1))
      else f_I_countParts_L4 K27 n G4 x0 (x1 + (nI 1)) (x2 + (nI 1))
def f_I_countParts (G : gH) (a0 : Nat) : gR :=
  f_I_countParts_L4 (fun G9 x8 => rI x8 G9) zFu G a0 (nI 0) (nI 2)
theorem k_I_countParts_L4 {l : Launch} {D : va_G} {B : Nat} {O : State → Heap → Prop} (hV : zG l D B O) {o : gO} {Gf : gH} (K27 : gH → Int32 → gR) (hK27 : ∀ (G : gH) (x1 : Int32), K27 G x1 = some (o, Gf) → Y (zVm l D B O) m_I_countParts 3 o Gf 27 [none, some (.int x1), none] [] G) : ∀ (n : Nat) (G : gH) (x0 : Nat) (x1 : Int32) (x2 : Int32), f_I_countParts_L4 K27 n G x0 x1 x2 = some (o, Gf) → Y (zVm l D B O) m_I_countParts 3 o Gf 4 [some (.ref x0), some (.int x1), some (.int x2)] [] G := by
  intro n
  induction n with
  | zero => intro G x0 x1 x2 h; cases h
  | succ n ih =>
    intro G x0 x1 x2 h
    unfold f_I_countParts_L4 at h
    refine Y.blk (pc' := 7) (L' := [some (.ref x0), some (.int x1), some (.int x2)]) (st' := [.int (nI 6), .int x2]) (sg := [(.iload_n 2, 0), (.bipush 6, nI 6)]) (by decide +kernel) rfl ?_
    refine Y.ic_ge (off := 20) (tgt := 27) (by decide +kernel) (by decide) h (fun c7 h => ?_) (fun c7 h => ?_)
    · refine Y.less (L' := [none, some (.int x1), none]) (zLe_none (zLe_some (zLe_none (zLe_nil)))) ?_
      exact hK27 G x1 h
    · refine Y.blk (pc' := 12) (L' := [some (.ref x0), some (.int x1), some (.int x2)]) (st' := [.int x2, .ref x0]) (sg := [(.aload_n 0, 0), (.iload_n 2, 0)]) (by decide +kernel) rfl ?_
      obtain ⟨_, o2, e1, m3, h⟩ := gOb_inv h
      refine Y.callI (yC.Vi (b := x0) (As := [.int x2]) (st := []) (r := ("Partlister$Lists", T_I, 7)) hV.1 cb_I_isThere lk_I_86 in_I_isThere rfl se_I_isThere (by decide +kernel) rfl rfl (Nat.le_of_ble_eq_true rfl) (by decide) e1 m3) (k_I_isThere hV G x0 x2) h (fun v5 G4 _ h => ?_)
      refine Y.if_eq (off := 6) (tgt := 21) (by decide +kernel) (by decide) h (fun c6 h => ?_) (fun c6 h => ?_)
      · refine Y.blk (pc' := 24) (L' := [some (.ref x0), some (.int x1), some (.int (x2 + (nI 1)))]) (st' := []) (sg := [(.iinc 2 1, nI 1)]) (by decide +kernel) rfl ?_
        refine Y.goto (off := -20) (tgt := 4) (by decide +kernel) (by decide) ?_
        exact ih G4 x0 x1 (x2 + (nI 1)) h
      · refine Y.blk (pc' := 24) (L' := [some (.ref x0), some (.int (x1 + (nI 1))), some (.int (x2 + (nI 1)))]) (st' := []) (sg := [(.iinc 1 1, nI 1), (.iinc 2 1, nI 1)]) (by decide +kernel) rfl ?_
        refine Y.goto (off := -20) (tgt := 4) (by decide +kernel) (by decide) ?_
        exact ih G4 x0 (x1 + (nI 1)) (x2 + (nI 1)) h
theorem k_I_countParts {l : Launch} {D : va_G} {B : Nat} {O : State → Heap → Prop} (hV : zG l D B O) (G : gH) (a0 : Nat) : gMet (zVm l D B O) m_I_countParts 3 [.ref a0] G (f_I_countParts G a0) := by
  refine gMet.of (by decide +kernel) (Nat.le_of_ble_eq_true rfl) [some (.ref a0), none, none] (fun ls h => zEn_ok (n := 3) h) ?_
  intro o Gf h
  unfold f_I_countParts at h
  refine Y.blk (pc' := 4) (L' := [some (.ref a0), some (.int (nI 0)), some (.int (nI 2))]) (st' := []) (sg := [(.iconst 0, nI 0), (.istore_n 1, 0), (.iconst 2, nI 2), (.istore_n 2, 0)]) (by decide +kernel) rfl ?_
  refine k_I_countParts_L4 hV _ ?_  zFu G a0 (nI 0) (nI 2) h
  · intro G9 x8 h
    refine Y.blk (pc' := 28) (L' := [none, some (.int x8), none]) (st' := [.int x8]) (sg := [(.iload_n 1, 0)]) (by decide +kernel) rfl ?_
    exact Y.iret rfl (by decide +kernel) h

def f_X_worthOfHouse (G : gH) (a0 : Nat) (a1 : Int32) : gR :=
  if a1.toInt = 0 then (gFI G a0 3 2 fun v1 => rI v1 G)
  else if a1.toInt = 1 then (gFA G a0 3 0 fun v3 => gOb G v3 1 fun o5 => bI (f_I_countParts G v3) fun v8 G7 => rI v8 G7)
  else if a1.toInt = 2 then (gFA G a0 3 1 fun v10 => gOb G v10 0 fun o12 => bI (f_U_countThere G v10) fun v15 G14 => rI v15 G14)
  else if a1.toInt = 3 then (gFA G a0 3 1 fun v17 => gOb G v17 0 fun o19 => bI (f_U_countStale G v17) fun v22 G21 => rI v22 G21)
  else if a1.toInt = 4 then (gFA G a0 3 0 fun v24 => gOb G v24 1 fun o26 => bI (f_I_countEnded G v24) fun v29 G28 => rI v29 G28)
  else if a1.toInt = 5 then (gFA G a0 3 1 fun v31 => gOb G v31 0 fun o33 => bI (f_U_countEnded G v31) fun v36 G35 => rI v36 G35)
  else if a1.toInt = 6 then (gFI G a0 3 3 fun v38 => rI v38 G)
  else gFI G a0 3 4 fun v40 => rI v40 G
theorem k_X_worthOfHouse {l : Launch} {D : va_G} {B : Nat} {O : State → Heap → Prop} (hV : zG l D B O) (G : gH) (a0 : Nat) (a1 : Int32) : gMet (zVm l D B O) m_X_worthOfHouse 5 [.ref a0, .int a1] G (f_X_worthOfHouse G a0 a1) := by
  refine gMet.of (by decide +kernel) (Nat.le_of_ble_eq_true rfl) [some (.ref a0), some (.int a1)] (fun ls h => zEn_ok (n := 2) h) ?_
  intro o Gf h
  unfold f_X_worthOfHouse at h
  refine Y.blk (pc' := 1) (L' := [some (.ref a0), some (.int a1)]) (st' := [.int a1]) (sg := [(.iload_n 1, 0)]) (by decide +kernel) rfl ?_
  refine Y.swC (j := 0) (off := 43) (tgt := 44) (dflt := 93) (lo := 0) (hi := 6) (offs := #[43, 48, 56, 64, 72, 80, 88]) (len := 43) (by decide +kernel) (by decide) (by decide) (by decide) h (fun c2 h => ?_) (fun c2 h => ?_)
  · refine Y.blk (pc' := 45) (L' := [some (.ref a0), some (.int a1)]) (st' := [.ref a0]) (sg := [(.aload_n 0, 0)]) (by decide +kernel) rfl ?_
    refine Y.getI fl_X_275 (by decide +kernel) h (fun v1 h => ?_)
    exact Y.iret rfl (by decide +kernel) h
  refine Y.swC (j := 1) (off := 48) (tgt := 49) (dflt := 93) (lo := 0) (hi := 6) (offs := #[43, 48, 56, 64, 72, 80, 88]) (len := 43) (by decide +kernel) (by decide) (by decide) (by decide) h (fun c9 h => ?_) (fun c9 h => ?_)
  · refine Y.blk (pc' := 50) (L' := [some (.ref a0), some (.int a1)]) (st' := [.ref a0]) (sg := [(.aload_n 0, 0)]) (by decide +kernel) rfl ?_
    refine Y.getA fl_X_10 (by decide +kernel) h (fun v3 h => ?_)
    obtain ⟨_, o5, e4, m6, h⟩ := gOb_inv h
    refine Y.callI (yC.Vi (b := v3) (As := []) (st := []) (r := ("Partlister$Lists", T_I, 7)) hV.1 cb_I_countParts lk_X_308 in_I_countParts rfl se_I_countParts (by decide +kernel) rfl rfl (Nat.le_of_ble_eq_true rfl) (by decide) e4 m6) (k_I_countParts hV G v3) h (fun v8 G7 _ h => ?_)
    exact Y.iret rfl (by decide +kernel) h
  refine Y.swC (j := 2) (off := 56) (tgt := 57) (dflt := 93) (lo := 0) (hi := 6) (offs := #[43, 48, 56, 64, 72, 80, 88]) (len := 43) (by decide +kernel) (by decide) (by decide) (by decide) h (fun c16 h => ?_) (fun c16 h => ?_)
  · refine Y.blk (pc' := 58) (L' := [some (.ref a0), some (.int a1)]) (st' := [.ref a0]) (sg := [(.aload_n 0, 0)]) (by decide +kernel) rfl ?_
    refine Y.getA fl_X_19 (by decide +kernel) h (fun v10 h => ?_)
    obtain ⟨_, o12, e11, m13, h⟩ := gOb_inv h
    refine Y.callI (yC.Vi (b := v10) (As := []) (st := []) (r := ("Partlister$Cursors", T_U, 5)) hV.1 cb_U_countThere lk_X_311 in_U_countThere rfl se_U_countThere (by decide +kernel) rfl rfl (Nat.le_of_ble_eq_true rfl) (by decide) e11 m13) (k_U_countThere hV G v10) h (fun v15 G14 _ h => ?_)
    exact Y.iret rfl (by decide +kernel) h
  refine Y.swC (j := 3) (off := 64) (tgt := 65) (dflt := 93) (lo := 0) (hi := 6) (offs := #[43, 48, 56, 64, 72, 80, 88]) (len := 43) (by decide +kernel) (by decide) (by decide) (by decide) h (fun c23 h => ?_) (fun c23 h => ?_)
  · refine Y.blk (pc' := 66) (L' := [some (.ref a0), some (.int a1)]) (st' := [.ref a0]) (sg := [(.aload_n 0, 0)]) (by decide +kernel) rfl ?_
    refine Y.getA fl_X_19 (by decide +kernel) h (fun v17 h => ?_)
    obtain ⟨_, o19, e18, m20, h⟩ := gOb_inv h
    refine Y.callI (yC.Vi (b := v17) (As := []) (st := []) (r := ("Partlister$Cursors", T_U, 5)) hV.1 cb_U_countStale lk_X_314 in_U_countStale rfl se_U_countStale (by decide +kernel) rfl rfl (Nat.le_of_ble_eq_true rfl) (by decide) e18 m20) (k_U_countStale hV G v17) h (fun v22 G21 _ h => ?_)
    exact Y.iret rfl (by decide +kernel) h
  refine Y.swC (j := 4) (off := 72) (tgt := 73) (dflt := 93) (lo := 0) (hi := 6) (offs := #[43, 48, 56, 64, 72, 80, 88]) (len := 43) (by decide +kernel) (by decide) (by decide) (by decide) h (fun c30 h => ?_) (fun c30 h => ?_)
  · refine Y.blk (pc' := 74) (L' := [some (.ref a0), some (.int a1)]) (st' := [.ref a0]) (sg := [(.aload_n 0, 0)]) (by decide +kernel) rfl ?_
    refine Y.getA fl_X_10 (by decide +kernel) h (fun v24 h => ?_)
    obtain ⟨_, o26, e25, m27, h⟩ := gOb_inv h
    refine Y.callI (yC.Vi (b := v24) (As := []) (st := []) (r := ("Partlister$Lists", T_I, 7)) hV.1 cb_I_countEnded lk_X_317 in_I_countEnded rfl se_I_countEnded (by decide +kernel) rfl rfl (Nat.le_of_ble_eq_true rfl) (by decide) e25 m27) (k_I_countEnded hV G v24) h (fun v29 G28 _ h => ?_)
    exact Y.iret rfl (by decide +kernel) h
  refine Y.swC (j := 5) (off := 80) (tgt := 81) (dflt := 93) (lo := 0) (hi := 6) (offs := #[43, 48, 56, 64, 72, 80, 88]) (len := 43) (by decide +kernel) (by decide) (by decide) (by decide) h (fun c37 h => ?_) (fun c37 h => ?_)
  · refine Y.blk (pc' := 82) (L' := [some (.ref a0), some (.int a1)]) (st' := [.ref a0]) (sg := [(.aload_n 0, 0)]) (by decide +kernel) rfl ?_
    refine Y.getA fl_X_19 (by decide +kernel) h (fun v31 h => ?_)
    obtain ⟨_, o33, e32, m34, h⟩ := gOb_inv h
    refine Y.callI (yC.Vi (b := v31) (As := []) (st := []) (r := ("Partlister$Cursors", T_U, 5)) hV.1 cb_U_countEnded lk_X_320 in_U_countEnded rfl se_U_countEnded (by decide +kernel) rfl rfl (Nat.le_of_ble_eq_true rfl) (by decide) e32 m34) (k_U_countEnded hV G v31) h (fun v36 G35 _ h => ?_)
    exact Y.iret rfl (by decide +kernel) h
  refine Y.swC (j := 6) (off := 88) (tgt := 89) (dflt := 93) (lo := 0) (hi := 6) (offs := #[43, 48, 56, 64, 72, 80, 88]) (len := 43) (by decide +kernel) (by decide) (by decide) (by decide) h (fun c39 h => ?_) (fun c39 h => ?_)
  · refine Y.blk (pc' := 90) (L' := [some (.ref a0), some (.int a1)]) (st' := [.ref a0]) (sg := [(.aload_n 0, 0)]) (by decide +kernel) rfl ?_
    refine Y.getI fl_X_302 (by decide +kernel) h (fun v38 h => ?_)
    exact Y.iret rfl (by decide +kernel) h
  refine Y.swOut (dflt := 93) (lo := 0) (hi := 6) (offs := #[43, 48, 56, 64, 72, 80, 88]) (len := 43) (tgt := 94) (by decide +kernel) (by omega) (by decide) ?_
  refine Y.blk (pc' := 95) (L' := [some (.ref a0), some (.int a1)]) (st' := [.ref a0]) (sg := [(.aload_n 0, 0)]) (by decide +kernel) rfl ?_
  refine Y.getI fl_X_257 (by decide +kernel) h (fun v40 h => ?_)
  exact Y.iret rfl (by decide +kernel) h

def f_I_areKeysFound_L8 (K62 : gH → gR) (K88 : gH → gR) (K96 : gH → gR) : Nat → gH → Nat → Int32 → Int32 → Int32 → gR
  | 0, _, _, _, _, _ => none
  | n + 1, G, x0, x1, x2, x3 =>
    if x2 ≤ x3 then K96 G
    else gOb G x0 1 fun o7 => bI (f_I_keyAt G x0 x1 x3) fun v10 G9 => gOb G9 x0 1 fun o12 => bI (f_I_firstOf G9 x0 x1 v10) fun v15 G14 => gOb G14 x0 1 fun o17 => bI (f_I_lastOf G14 x0 x1 v10) fun v20 G19 => if v15 < 0 then K62 G19
      else if x3 < v15 then K62 G19
        else if v20 < x3 then K62 G19
          else if v20 < x2 then (gOb G19 x0 1 fun o22 => bI (f_I_keyAt G19 x0 x1 v15) fun v25 G24 => if v25 = v10 then (gOb G24 x0 1 fun o27 => bI (f_I_keyAt G24 x0 x1 v20) fun v30 G29 => if v30 = v10 then f_I_areKeysFound_L8 K62 K88 K96 n G29 x0 x1 x2 (x3 + (nI 1))
                else K88 G29)
              else K88 G24)
            else K62 G19
def f_I_areKeysFound (G : gH) (a0 : Nat) (a1 : Int32) : gR :=
  gOb G a0 1 fun o2 => bI (f_I_lengthOf G a0 a1) fun v5 G4 => f_I_areKeysFound_L8 (fun G38 => rZ (nI 0) G38) (fun G39 => rZ (nI 0) G39) (fun G40 => rZ (nI 1) G40) zFu G4 a0 a1 v5 (nI 0)
theorem k_I_areKeysFound_L8 {l : Launch} {D : va_G} {B : Nat} {O : State → Heap → Prop} (hV : zG l D B O) {o : gO} {Gf : gH} (K62 : gH → gR) (K88 : gH → gR) (K96 : gH → gR) (hK62 : ∀ (G : gH), K62 G  = some (o, Gf) → Y (zVm l D B O) m_I_areKeysFound 5 o Gf 62 [none, none, none, none, none, none, none] [] G) (hK88 : ∀ (G : gH), K88 G  = some (o, Gf) → Y (zVm l D B O) m_I_areKeysFound 5 o Gf 88 [none, none, none, none, none, none, none] [] G) (hK96 : ∀ (G : gH), K96 G  = some (o, Gf) → Y (zVm l D B O) m_I_areKeysFound 5 o Gf 96 [none, none, none, none, none, none, none] [] G) : ∀ (n : Nat) (G : gH) (x0 : Nat) (x1 : Int32) (x2 : Int32) (x3 : Int32), f_I_areKeysFound_L8 K62 K88 K96 n G x0 x1 x2 x3 = some (o, Gf) → Y (zVm l D B O) m_I_areKeysFound 5 o Gf 8 [some (.ref x0), some (.int x1), some (.int x2), some (.int x3), none, none, none] [] G := by
  intro n
  induction n with
  | zero => intro G x0 x1 x2 x3 h; cases h
  | succ n ih =>
    intro G x0 x1 x2 x3 h
    unfold f_I_areKeysFound_L8 at h
    refine Y.blk (pc' := 10) (L' := [some (.ref x0), some (.int x1), some (.int x2), some (.int x3), none, none, none]) (st' := [.int x2, .int x3]) (sg := [(.iload_n 3, 0), (.iload_n 2, 0)]) (by decide +kernel) rfl ?_
    refine Y.ic_ge (off := 86) (tgt := 96) (by decide +kernel) (by decide) h (fun c37 h => ?_) (fun c37 h => ?_)
    · refine Y.less (L' := [none, none, none, none, none, none, none]) (zLe_none (zLe_none (zLe_none (zLe_none (zLe_some (zLe_some (zLe_some (zLe_nil)))))))) ?_
      exact hK96 G  h
    · refine Y.blk (pc' := 16) (L' := [some (.ref x0), some (.int x1), some (.int x2), some (.int x3), none, none, none]) (st' := [.int x3, .int x1, .ref x0]) (sg := [(.aload_n 0, 0), (.iload_n 1, 0), (.iload_n 3, 0)]) (by decide +kernel) rfl ?_
      obtain ⟨_, o7, e6, m8, h⟩ := gOb_inv h
      refine Y.callI (yC.Vi (b := x0) (As := [.int x1, .int x3]) (st := []) (r := ("Partlister$Lists", T_I, 7)) hV.1 cb_I_keyAt lk_I_101 in_I_keyAt rfl se_I_keyAt (by decide +kernel) rfl rfl (Nat.le_of_ble_eq_true rfl) (by decide) e6 m8) (k_I_keyAt hV G x0 x1 x3) h (fun v10 G9 _ h => ?_)
      refine Y.blk (pc' := 25) (L' := [some (.ref x0), some (.int x1), some (.int x2), some (.int x3), some (.int v10), none, none]) (st' := [.int v10, .int x1, .ref x0]) (sg := [(.istore 4, 0), (.aload_n 0, 0), (.iload_n 1, 0), (.iload 4, 0)]) (by decide +kernel) rfl ?_
      obtain ⟨_, o12, e11, m13, h⟩ := gOb_inv h
      refine Y.callI (yC.Vi (b := x0) (As := [.int x1, .int v10]) (st := []) (r := ("Partlister$Lists", T_I, 7)) hV.1 cb_I_firstOf lk_I_125 in_I_firstOf rfl se_I_firstOf (by decide +kernel) rfl rfl (Nat.le_of_ble_eq_true rfl) (by decide) e11 m13) (k_I_firstOf hV G9 x0 x1 v10) h (fun v15 G14 _ h => ?_)
      refine Y.blk (pc' := 34) (L' := [some (.ref x0), some (.int x1), some (.int x2), some (.int x3), some (.int v10), some (.int v15), none]) (st' := [.int v10, .int x1, .ref x0]) (sg := [(.istore 5, 0), (.aload_n 0, 0), (.iload_n 1, 0), (.iload 4, 0)]) (by decide +kernel) rfl ?_
      obtain ⟨_, o17, e16, m18, h⟩ := gOb_inv h
      refine Y.callI (yC.Vi (b := x0) (As := [.int x1, .int v10]) (st := []) (r := ("Partlister$Lists", T_I, 7)) hV.1 cb_I_lastOf lk_I_128 in_I_lastOf rfl se_I_lastOf (by decide +kernel) rfl rfl (Nat.le_of_ble_eq_true rfl) (by decide) e16 m18) (k_I_lastOf hV G14 x0 x1 v10) h (fun v20 G19 _ h => ?_)
      refine Y.blk (pc' := 41) (L' := [some (.ref x0), some (.int x1), some (.int x2), some (.int x3), some (.int v10), some (.int v15), some (.int v20)]) (st' := [.int v15]) (sg := [(.istore 6, 0), (.iload 5, 0)]) (by decide +kernel) rfl ?_
      refine Y.if_lt (off := 21) (tgt := 62) (by decide +kernel) (by decide) h (fun c36 h => ?_) (fun c36 h => ?_)
      · refine Y.less (L' := [none, none, none, none, none, none, none]) (zLe_none (zLe_none (zLe_none (zLe_none (zLe_none (zLe_none (zLe_none (zLe_nil)))))))) ?_
        exact hK62 G19  h
      · refine Y.blk (pc' := 47) (L' := [some (.ref x0), some (.int x1), some (.int x2), some (.int x3), some (.int v10), some (.int v15), some (.int v20)]) (st' := [.int x3, .int v15]) (sg := [(.iload 5, 0), (.iload_n 3, 0)]) (by decide +kernel) rfl ?_
        refine Y.ic_gt (off := 15) (tgt := 62) (by decide +kernel) (by decide) h (fun c35 h => ?_) (fun c35 h => ?_)
        · refine Y.less (L' := [none, none, none, none, none, none, none]) (zLe_none (zLe_none (zLe_none (zLe_none (zLe_none (zLe_none (zLe_none (zLe_nil)))))))) ?_
          exact hK62 G19  h
        · refine Y.blk (pc' := 53) (L' := [some (.ref x0), some (.int x1), some (.int x2), some (.int x3), some (.int v10), some (.int v15), some (.int v20)]) (st' := [.int x3, .int v20]) (sg := [(.iload 6, 0), (.iload_n 3, 0)]) (by decide +kernel) rfl ?_
          refine Y.ic_lt (off := 9) (tgt := 62) (by decide +kernel) (by decide) h (fun c34 h => ?_) (fun c34 h => ?_)
          · refine Y.less (L' := [none, none, none, none, none, none, none]) (zLe_none (zLe_none (zLe_none (zLe_none (zLe_none (zLe_none (zLe_none (zLe_nil)))))))) ?_
            exact hK62 G19  h
          · refine Y.blk (pc' := 59) (L' := [some (.ref x0), some (.int x1), some (.int x2), some (.int x3), some (.int v10), some (.int v15), some (.int v20)]) (st' := [.int x2, .int v20]) (sg := [(.iload 6, 0), (.iload_n 2, 0)]) (by decide +kernel) rfl ?_
            refine Y.ic_lt (off := 5) (tgt := 64) (by decide +kernel) (by decide) h (fun c33 h => ?_) (fun c33 h => ?_)
            · refine Y.blk (pc' := 68) (L' := [some (.ref x0), some (.int x1), some (.int x2), some (.int x3), some (.int v10), some (.int v15), some (.int v20)]) (st' := [.int v15, .int x1, .ref x0]) (sg := [(.aload_n 0, 0), (.iload_n 1, 0), (.iload 5, 0)]) (by decide +kernel) rfl ?_
              obtain ⟨_, o22, e21, m23, h⟩ := gOb_inv h
              refine Y.callI (yC.Vi (b := x0) (As := [.int x1, .int v15]) (st := []) (r := ("Partlister$Lists", T_I, 7)) hV.1 cb_I_keyAt lk_I_101 in_I_keyAt rfl se_I_keyAt (by decide +kernel) rfl rfl (Nat.le_of_ble_eq_true rfl) (by decide) e21 m23) (k_I_keyAt hV G19 x0 x1 v15) h (fun v25 G24 _ h => ?_)
              refine Y.blk (pc' := 73) (L' := [some (.ref x0), some (.int x1), some (.int x2), some (.int x3), some (.int v10), some (.int v15), some (.int v20)]) (st' := [.int v10, .int v25]) (sg := [(.iload 4, 0)]) (by decide +kernel) rfl ?_
              refine Y.ic_ne (off := 15) (tgt := 88) (by decide +kernel) (by decide) h (fun c32 h => ?_) (fun c32 h => ?_)
              · refine Y.blk (pc' := 80) (L' := [some (.ref x0), some (.int x1), some (.int x2), some (.int x3), some (.int v10), some (.int v15), some (.int v20)]) (st' := [.int v20, .int x1, .ref x0]) (sg := [(.aload_n 0, 0), (.iload_n 1, 0), (.iload 6, 0)]) (by decide +kernel) rfl ?_
                obtain ⟨_, o27, e26, m28, h⟩ := gOb_inv h
                refine Y.callI (yC.Vi (b := x0) (As := [.int x1, .int v20]) (st := []) (r := ("Partlister$Lists", T_I, 7)) hV.1 cb_I_keyAt lk_I_101 in_I_keyAt rfl se_I_keyAt (by decide +kernel) rfl rfl (Nat.le_of_ble_eq_true rfl) (by decide) e26 m28) (k_I_keyAt hV G24 x0 x1 v20) h (fun v30 G29 _ h => ?_)
                refine Y.blk (pc' := 85) (L' := [some (.ref x0), some (.int x1), some (.int x2), some (.int x3), some (.int v10), some (.int v15), some (.int v20)]) (st' := [.int v10, .int v30]) (sg := [(.iload 4, 0)]) (by decide +kernel) rfl ?_
                refine Y.ic_eq (off := 5) (tgt := 90) (by decide +kernel) (by decide) h (fun c31 h => ?_) (fun c31 h => ?_)
                · refine Y.blk (pc' := 93) (L' := [some (.ref x0), some (.int x1), some (.int x2), some (.int (x3 + (nI 1))), some (.int v10), some (.int v15), some (.int v20)]) (st' := []) (sg := [(.iinc 3 1, nI 1)]) (by decide +kernel) rfl ?_
                  refine Y.goto (off := -85) (tgt := 8) (by decide +kernel) (by decide) ?_
                  refine Y.less (L' := [some (.ref x0), some (.int x1), some (.int x2), some (.int (x3 + (nI 1))), none, none, none]) (zLe_some (zLe_some (zLe_some (zLe_some (zLe_none (zLe_none (zLe_none (zLe_nil)))))))) ?_
                  exact ih G29 x0 x1 x2 (x3 + (nI 1)) h
                · refine Y.less (L' := [none, none, none, none, none, none, none]) (zLe_none (zLe_none (zLe_none (zLe_none (zLe_none (zLe_none (zLe_none (zLe_nil)))))))) ?_
                  exact hK88 G29  h
              · refine Y.less (L' := [none, none, none, none, none, none, none]) (zLe_none (zLe_none (zLe_none (zLe_none (zLe_none (zLe_none (zLe_none (zLe_nil)))))))) ?_
                exact hK88 G24  h
            · refine Y.less (L' := [none, none, none, none, none, none, none]) (zLe_none (zLe_none (zLe_none (zLe_none (zLe_none (zLe_none (zLe_none (zLe_nil)))))))) ?_
              exact hK62 G19  h
theorem k_I_areKeysFound {l : Launch} {D : va_G} {B : Nat} {O : State → Heap → Prop} (hV : zG l D B O) (G : gH) (a0 : Nat) (a1 : Int32) : gMet (zVm l D B O) m_I_areKeysFound 5 [.ref a0, .int a1] G (f_I_areKeysFound G a0 a1) := by
  refine gMet.of (by decide +kernel) (Nat.le_of_ble_eq_true rfl) [some (.ref a0), some (.int a1), none, none, none, none, none] (fun ls h => zEn_ok (n := 7) h) ?_
  intro o Gf h
  unfold f_I_areKeysFound at h
  refine Y.blk (pc' := 2) (L' := [some (.ref a0), some (.int a1), none, none, none, none, none]) (st' := [.int a1, .ref a0]) (sg := [(.aload_n 0, 0), (.iload_n 1, 0)]) (by decide +kernel) rfl ?_
  obtain ⟨_, o2, e1, m3, h⟩ := gOb_inv h
  refine Y.callI (yC.Vi (b := a0) (As := [.int a1]) (st := []) (r := ("Partlister$Lists", T_I, 7)) hV.1 cb_I_lengthOf lk_I_59 in_I_lengthOf rfl se_I_lengthOf (by decide +kernel) rfl rfl (Nat.le_of_ble_eq_true rfl) (by decide) e1 m3) (k_I_lengthOf hV G a0 a1) h (fun v5 G4 _ h => ?_)
  refine Y.blk (pc' := 8) (L' := [some (.ref a0), some (.int a1), some (.int v5), some (.int (nI 0)), none, none, none]) (st' := []) (sg := [(.istore_n 2, 0), (.iconst 0, nI 0), (.istore_n 3, 0)]) (by decide +kernel) rfl ?_
  refine k_I_areKeysFound_L8 hV _ _ _ ?_ ?_ ?_  zFu G4 a0 a1 v5 (nI 0) h
  · intro G38 h
    refine Y.blk (pc' := 63) (L' := [none, none, none, none, none, none, none]) (st' := [.int (nI 0)]) (sg := [(.iconst 0, nI 0)]) (by decide +kernel) rfl ?_
    exact Y.zret rfl (by decide +kernel) h
  · intro G39 h
    refine Y.blk (pc' := 89) (L' := [none, none, none, none, none, none, none]) (st' := [.int (nI 0)]) (sg := [(.iconst 0, nI 0)]) (by decide +kernel) rfl ?_
    exact Y.zret rfl (by decide +kernel) h
  · intro G40 h
    refine Y.blk (pc' := 97) (L' := [none, none, none, none, none, none, none]) (st' := [.int (nI 1)]) (sg := [(.iconst 1, nI 1)]) (by decide +kernel) rfl ?_
    exact Y.zret rfl (by decide +kernel) h

def f_X_hasToBeAhead (G : gH) (a0 : Int32) (a1 : Int32) (a2 : Int32) : gR :=
  bI (f_X_keyOf G a0) fun v3 G2 => bI (f_X_keyOf G2 a1) fun v6 G5 => if a2.toInt = 0 then (if v6 ≤ v3 then rZ (nI 0) G5
    else rZ (nI 1) G5)
  else if a2.toInt = 1 then (if v3 ≤ v6 then rZ (nI 0) G5
    else rZ (nI 1) G5)
  else if a2.toInt = 2 then (gRem v3 (nI 5) fun v11 => gRem v6 (nI 5) fun v12 => if v12 ≤ v11 then rZ (nI 0) G5
    else rZ (nI 1) G5)
  else if a2.toInt = 3 then (bI (f_X_tagOf G5 a0) fun v17 G16 => bI (f_X_tagOf G16 a1) fun v20 G19 => if v17 ≤ v20 then rZ (nI 0) G19
    else rZ (nI 1) G19)
  else gRem v3 (nI 2) fun v23 => gRem v6 (nI 2) fun v24 => if v23 = v24 then (if v6 ≤ v3 then rZ (nI 0) G5
      else rZ (nI 1) G5)
    else gRem v3 (nI 2) fun v26 => gRem v6 (nI 2) fun v27 => if v26 ≤ v27 then rZ (nI 0) G5
      else rZ (nI 1) G5
theorem k_X_hasToBeAhead {l : Launch} {D : va_G} {B : Nat} {O : State → Heap → Prop} (hV : zG l D B O) (G : gH) (a0 : Int32) (a1 : Int32) (a2 : Int32) : gMet (zVm l D B O) m_X_hasToBeAhead 2 [.int a0, .int a1, .int a2] G (f_X_hasToBeAhead G a0 a1 a2) := by
  refine gMet.of (by decide +kernel) (Nat.le_of_ble_eq_true rfl) [some (.int a0), some (.int a1), some (.int a2), none, none] (fun ls h => zEn_ok (n := 5) h) ?_
  intro o Gf h
  unfold f_X_hasToBeAhead at h
  refine Y.blk (pc' := 1) (L' := [some (.int a0), some (.int a1), some (.int a2), none, none]) (st' := [.int a0]) (sg := [(.iload_n 0, 0)]) (by decide +kernel) rfl ?_
  refine Y.callI (yC.S (As := [.int a0]) (st := []) hV.1 cb_X_keyOf lk_X_97 st_X_keyOf (by decide +kernel) rfl rfl (Nat.le_of_ble_eq_true rfl) (by decide)) (k_X_keyOf hV G a0) h (fun v3 G2 _ h => ?_)
  refine Y.blk (pc' := 6) (L' := [some (.int a0), some (.int a1), some (.int a2), some (.int v3), none]) (st' := [.int a1]) (sg := [(.istore_n 3, 0), (.iload_n 1, 0)]) (by decide +kernel) rfl ?_
  refine Y.callI (yC.S (As := [.int a1]) (st := []) hV.1 cb_X_keyOf lk_X_97 st_X_keyOf (by decide +kernel) rfl rfl (Nat.le_of_ble_eq_true rfl) (by decide)) (k_X_keyOf hV G2 a1) h (fun v6 G5 _ h => ?_)
  refine Y.blk (pc' := 12) (L' := [some (.int a0), some (.int a1), some (.int a2), some (.int v3), some (.int v6)]) (st' := [.int a2]) (sg := [(.istore 4, 0), (.iload_n 2, 0)]) (by decide +kernel) rfl ?_
  refine Y.swC (j := 0) (off := 32) (tgt := 44) (dflt := 89) (lo := 0) (hi := 3) (offs := #[32, 44, 56, 72]) (len := 32) (by decide +kernel) (by decide) (by decide) (by decide) h (fun c8 h => ?_) (fun c8 h => ?_)
  · refine Y.blk (pc' := 47) (L' := [some (.int a0), some (.int a1), some (.int a2), some (.int v3), some (.int v6)]) (st' := [.int v6, .int v3]) (sg := [(.iload_n 3, 0), (.iload 4, 0)]) (by decide +kernel) rfl ?_
    refine Y.ic_ge (off := 7) (tgt := 54) (by decide +kernel) (by decide) h (fun c7 h => ?_) (fun c7 h => ?_)
    · refine Y.blk (pc' := 55) (L' := [some (.int a0), some (.int a1), some (.int a2), some (.int v3), some (.int v6)]) (st' := [.int (nI 0)]) (sg := [(.iconst 0, nI 0)]) (by decide +kernel) rfl ?_
      exact Y.zret rfl (by decide +kernel) h
    · refine Y.blk (pc' := 51) (L' := [some (.int a0), some (.int a1), some (.int a2), some (.int v3), some (.int v6)]) (st' := [.int (nI 1)]) (sg := [(.iconst 1, nI 1)]) (by decide +kernel) rfl ?_
      refine Y.goto (off := 4) (tgt := 55) (by decide +kernel) (by decide) ?_
      exact Y.zret rfl (by decide +kernel) h
  refine Y.swC (j := 1) (off := 44) (tgt := 56) (dflt := 89) (lo := 0) (hi := 3) (offs := #[32, 44, 56, 72]) (len := 32) (by decide +kernel) (by decide) (by decide) (by decide) h (fun c10 h => ?_) (fun c10 h => ?_)
  · refine Y.blk (pc' := 59) (L' := [some (.int a0), some (.int a1), some (.int a2), some (.int v3), some (.int v6)]) (st' := [.int v6, .int v3]) (sg := [(.iload_n 3, 0), (.iload 4, 0)]) (by decide +kernel) rfl ?_
    refine Y.ic_le (off := 7) (tgt := 66) (by decide +kernel) (by decide) h (fun c9 h => ?_) (fun c9 h => ?_)
    · refine Y.blk (pc' := 67) (L' := [some (.int a0), some (.int a1), some (.int a2), some (.int v3), some (.int v6)]) (st' := [.int (nI 0)]) (sg := [(.iconst 0, nI 0)]) (by decide +kernel) rfl ?_
      exact Y.zret rfl (by decide +kernel) h
    · refine Y.blk (pc' := 63) (L' := [some (.int a0), some (.int a1), some (.int a2), some (.int v3), some (.int v6)]) (st' := [.int (nI 1)]) (sg := [(.iconst 1, nI 1)]) (by decide +kernel) rfl ?_
      refine Y.goto (off := 4) (tgt := 67) (by decide +kernel) (by decide) ?_
      exact Y.zret rfl (by decide +kernel) h
  refine Y.swC (j := 2) (off := 56) (tgt := 68) (dflt := 89) (lo := 0) (hi := 3) (offs := #[32, 44, 56, 72]) (len := 32) (by decide +kernel) (by decide) (by decide) (by decide) h (fun c14 h => ?_) (fun c14 h => ?_)
  · refine Y.blk (pc' := 70) (L' := [some (.int a0), some (.int a1), some (.int a2), some (.int v3), some (.int v6)]) (st' := [.int (nI 5), .int v3]) (sg := [(.iload_n 3, 0), (.iconst 5, nI 5)]) (by decide +kernel) rfl ?_
    refine Y.irem (by decide +kernel) h (fun v11 h => ?_)
    refine Y.blk (pc' := 74) (L' := [some (.int a0), some (.int a1), some (.int a2), some (.int v3), some (.int v6)]) (st' := [.int (nI 5), .int v6, .int v11]) (sg := [(.iload 4, 0), (.iconst 5, nI 5)]) (by decide +kernel) rfl ?_
    refine Y.irem (by decide +kernel) h (fun v12 h => ?_)
    refine Y.ic_ge (off := 7) (tgt := 82) (by decide +kernel) (by decide) h (fun c13 h => ?_) (fun c13 h => ?_)
    · refine Y.blk (pc' := 83) (L' := [some (.int a0), some (.int a1), some (.int a2), some (.int v3), some (.int v6)]) (st' := [.int (nI 0)]) (sg := [(.iconst 0, nI 0)]) (by decide +kernel) rfl ?_
      exact Y.zret rfl (by decide +kernel) h
    · refine Y.blk (pc' := 79) (L' := [some (.int a0), some (.int a1), some (.int a2), some (.int v3), some (.int v6)]) (st' := [.int (nI 1)]) (sg := [(.iconst 1, nI 1)]) (by decide +kernel) rfl ?_
      refine Y.goto (off := 4) (tgt := 83) (by decide +kernel) (by decide) ?_
      exact Y.zret rfl (by decide +kernel) h
  refine Y.swC (j := 3) (off := 72) (tgt := 84) (dflt := 89) (lo := 0) (hi := 3) (offs := #[32, 44, 56, 72]) (len := 32) (by decide +kernel) (by decide) (by decide) (by decide) h (fun c22 h => ?_) (fun c22 h => ?_)
  · refine Y.blk (pc' := 85) (L' := [some (.int a0), some (.int a1), some (.int a2), some (.int v3), some (.int v6)]) (st' := [.int a0]) (sg := [(.iload_n 0, 0)]) (by decide +kernel) rfl ?_
    refine Y.callI (yC.S (As := [.int a0]) (st := []) hV.1 cb_X_tagOf lk_X_48 st_X_tagOf (by decide +kernel) rfl rfl (Nat.le_of_ble_eq_true rfl) (by decide)) (k_X_tagOf hV G5 a0) h (fun v17 G16 _ h => ?_)
    refine Y.blk (pc' := 89) (L' := [some (.int a0), some (.int a1), some (.int a2), some (.int v3), some (.int v6)]) (st' := [.int a1, .int v17]) (sg := [(.iload_n 1, 0)]) (by decide +kernel) rfl ?_
    refine Y.callI (yC.S (As := [.int a1]) (st := [.int v17]) hV.1 cb_X_tagOf lk_X_48 st_X_tagOf (by decide +kernel) rfl rfl (Nat.le_of_ble_eq_true rfl) (by decide)) (k_X_tagOf hV G16 a1) h (fun v20 G19 _ h => ?_)
    refine Y.ic_le (off := 7) (tgt := 99) (by decide +kernel) (by decide) h (fun c21 h => ?_) (fun c21 h => ?_)
    · refine Y.blk (pc' := 100) (L' := [some (.int a0), some (.int a1), some (.int a2), some (.int v3), some (.int v6)]) (st' := [.int (nI 0)]) (sg := [(.iconst 0, nI 0)]) (by decide +kernel) rfl ?_
      exact Y.zret rfl (by decide +kernel) h
    · refine Y.blk (pc' := 96) (L' := [some (.int a0), some (.int a1), some (.int a2), some (.int v3), some (.int v6)]) (st' := [.int (nI 1)]) (sg := [(.iconst 1, nI 1)]) (by decide +kernel) rfl ?_
      refine Y.goto (off := 4) (tgt := 100) (by decide +kernel) (by decide) ?_
      exact Y.zret rfl (by decide +kernel) h
  refine Y.swOut (dflt := 89) (lo := 0) (hi := 3) (offs := #[32, 44, 56, 72]) (len := 32) (tgt := 101) (by decide +kernel) (by omega) (by decide) ?_
  refine Y.blk (pc' := 103) (L' := [some (.int a0), some (.int a1), some (.int a2), some (.int v3), some (.int v6)]) (st' := [.int (nI 2), .int v3]) (sg := [(.iload_n 3, 0), (.iconst 2, nI 2)]) (by decide +kernel) rfl ?_
  refine Y.irem (by decide +kernel) h (fun v23 h => ?_)
  refine Y.blk (pc' := 107) (L' := [some (.int a0), some (.int a1), some (.int a2), some (.int v3), some (.int v6)]) (st' := [.int (nI 2), .int v6, .int v23]) (sg := [(.iload 4, 0), (.iconst 2, nI 2)]) (by decide +kernel) rfl ?_
  refine Y.irem (by decide +kernel) h (fun v24 h => ?_)
  refine Y.ic_eq (off := 21) (tgt := 129) (by decide +kernel) (by decide) h (fun c29 h => ?_) (fun c29 h => ?_)
  · refine Y.blk (pc' := 132) (L' := [some (.int a0), some (.int a1), some (.int a2), some (.int v3), some (.int v6)]) (st' := [.int v6, .int v3]) (sg := [(.iload_n 3, 0), (.iload 4, 0)]) (by decide +kernel) rfl ?_
    refine Y.ic_ge (off := 7) (tgt := 139) (by decide +kernel) (by decide) h (fun c25 h => ?_) (fun c25 h => ?_)
    · refine Y.blk (pc' := 140) (L' := [some (.int a0), some (.int a1), some (.int a2), some (.int v3), some (.int v6)]) (st' := [.int (nI 0)]) (sg := [(.iconst 0, nI 0)]) (by decide +kernel) rfl ?_
      exact Y.zret rfl (by decide +kernel) h
    · refine Y.blk (pc' := 136) (L' := [some (.int a0), some (.int a1), some (.int a2), some (.int v3), some (.int v6)]) (st' := [.int (nI 1)]) (sg := [(.iconst 1, nI 1)]) (by decide +kernel) rfl ?_
      refine Y.goto (off := 4) (tgt := 140) (by decide +kernel) (by decide) ?_
      exact Y.zret rfl (by decide +kernel) h
  · refine Y.blk (pc' := 113) (L' := [some (.int a0), some (.int a1), some (.int a2), some (.int v3), some (.int v6)]) (st' := [.int (nI 2), .int v3]) (sg := [(.iload_n 3, 0), (.iconst 2, nI 2)]) (by decide +kernel) rfl ?_
    refine Y.irem (by decide +kernel) h (fun v26 h => ?_)
    refine Y.blk (pc' := 117) (L' := [some (.int a0), some (.int a1), some (.int a2), some (.int v3), some (.int v6)]) (st' := [.int (nI 2), .int v6, .int v26]) (sg := [(.iload 4, 0), (.iconst 2, nI 2)]) (by decide +kernel) rfl ?_
    refine Y.irem (by decide +kernel) h (fun v27 h => ?_)
    refine Y.ic_le (off := 7) (tgt := 125) (by decide +kernel) (by decide) h (fun c28 h => ?_) (fun c28 h => ?_)
    · refine Y.blk (pc' := 126) (L' := [some (.int a0), some (.int a1), some (.int a2), some (.int v3), some (.int v6)]) (st' := [.int (nI 0)]) (sg := [(.iconst 0, nI 0)]) (by decide +kernel) rfl ?_
      refine Y.goto (off := 14) (tgt := 140) (by decide +kernel) (by decide) ?_
      exact Y.zret rfl (by decide +kernel) h
    · refine Y.blk (pc' := 122) (L' := [some (.int a0), some (.int a1), some (.int a2), some (.int v3), some (.int v6)]) (st' := [.int (nI 1)]) (sg := [(.iconst 1, nI 1)]) (by decide +kernel) rfl ?_
      refine Y.goto (off := 18) (tgt := 140) (by decide +kernel) (by decide) ?_
      exact Y.zret rfl (by decide +kernel) h

def f_I_thingInSpare (G : gH) (a0 : Nat) (a1 : Int32) : gR :=
  gFA G a0 1 5 fun v1 => gOb G v1 2 fun o3 => bI (f_N_read G v1 a1) fun v6 G5 => rI (v6 >>> ((nI 5) &&& 31)) G5
theorem k_I_thingInSpare {l : Launch} {D : va_G} {B : Nat} {O : State → Heap → Prop} (hV : zG l D B O) (G : gH) (a0 : Nat) (a1 : Int32) : gMet (zVm l D B O) m_I_thingInSpare 2 [.ref a0, .int a1] G (f_I_thingInSpare G a0 a1) := by
  refine gMet.of (by decide +kernel) (Nat.le_of_ble_eq_true rfl) [some (.ref a0), some (.int a1)] (fun ls h => zEn_ok (n := 2) h) ?_
  intro o Gf h
  unfold f_I_thingInSpare at h
  refine Y.blk (pc' := 1) (L' := [some (.ref a0), some (.int a1)]) (st' := [.ref a0]) (sg := [(.aload_n 0, 0)]) (by decide +kernel) rfl ?_
  refine Y.getA fl_I_32 (by decide +kernel) h (fun v1 h => ?_)
  refine Y.blk (pc' := 5) (L' := [some (.ref a0), some (.int a1)]) (st' := [.int a1, .ref v1]) (sg := [(.iload_n 1, 0)]) (by decide +kernel) rfl ?_
  obtain ⟨_, o3, e2, m4, h⟩ := gOb_inv h
  refine Y.callI (yC.Vi (b := v1) (As := [.int a1]) (st := []) (r := ("Partlister$Numbers", T_N, 1)) hV.1 cb_N_read lk_I_39 in_N_read rfl se_N_read (by decide +kernel) rfl rfl (Nat.le_of_ble_eq_true rfl) (by decide) e2 m4) (k_N_read hV G v1 a1) h (fun v6 G5 _ h => ?_)
  refine Y.blk (pc' := 10) (L' := [some (.ref a0), some (.int a1)]) (st' := [.int (v6 >>> ((nI 5) &&& 31))]) (sg := [(.iconst 5, nI 5), (.ishr, 0)]) (by decide +kernel) rfl ?_
  exact Y.iret rfl (by decide +kernel) h

def f_I_arrangeSpare_L20 (K70 : gH → Nat → Int32 → Int32 → Int32 → Int32 → Int32 → gR) : Nat → gH → Nat → Int32 → Int32 → Int32 → Int32 → Int32 → gR
  | 0, _, _, _, _, _, _, _ => none
  | n + 1, G, x0, x1, x2, x3, x4, x5 =>
    if x5 ≤ 0 then K70 G x0 x1 x2 x3 x4 x5
    else gOb G x0 1 fun o8 => bI (f_I_thingInSpare G x0 (x5 - (nI 1))) fun v11 G10 => bI (f_X_hasToBeAhead G10 (x4 >>> ((nI 5) &&& 31)) v11 x2) fun v14 G13 => if v14 = 0 then K70 G13 x0 x1 x2 x3 x4 x5
      else gFA G13 x0 1 5 fun v15 => gFA G13 x0 1 5 fun v16 => gOb G13 v16 2 fun o18 => bI (f_N_read G13 v16 (x5 - (nI 1))) fun v21 G20 => gOb G20 v15 2 fun o23 => bV (f_N_write G20 v15 x5 v21) fun G25 => f_I_arrangeSpare_L20 K70 n G25 x0 x1 x2 x3 x4 (x5 + (-1))
def f_I_arrangeSpare_L2 (K87 : gH → gR) : Nat → gH → Nat → Int32 → Int32 → Int32 → gR
  | 0, _, _, _, _, _ => none
  | n + 1, G, x0, x1, x2, x3 =>
    if x1 ≤ x3 then K87 G
    else gFA G x0 1 5 fun v1 => gOb G v1 2 fun o3 => bI (f_N_read G v1 x3) fun v6 G5 => f_I_arrangeSpare_L20 (fun G34 x28 x29 x30 x31 x32 x33 => gFA G34 x28 1 5 fun v35 => gOb G34 v35 2 fun o37 => bV (f_N_write G34 v35 x33 x32) fun G39 => f_I_arrangeSpare_L2 K87 n G39 x28 x29 x30 (x31 + (nI 1))) zFu G5 x0 x1 x2 x3 v6 x3
def f_I_arrangeSpare (G : gH) (a0 : Nat) (a1 : Int32) (a2 : Int32) : gR :=
  f_I_arrangeSpare_L2 (fun G41 => rV G41) zFu G a0 a1 a2 (nI 1)
theorem k_I_arrangeSpare_L20 {l : Launch} {D : va_G} {B : Nat} {O : State → Heap → Prop} (hV : zG l D B O) {o : gO} {Gf : gH} (K70 : gH → Nat → Int32 → Int32 → Int32 → Int32 → Int32 → gR) (hK70 : ∀ (G : gH) (x0 : Nat) (x1 : Int32) (x2 : Int32) (x3 : Int32) (x4 : Int32) (x5 : Int32), K70 G x0 x1 x2 x3 x4 x5 = some (o, Gf) → Y (zVm l D B O) m_I_arrangeSpare 3 o Gf 70 [some (.ref x0), some (.int x1), some (.int x2), some (.int x3), some (.int x4), some (.int x5)] [] G) : ∀ (n : Nat) (G : gH) (x0 : Nat) (x1 : Int32) (x2 : Int32) (x3 : Int32) (x4 : Int32) (x5 : Int32), f_I_arrangeSpare_L20 K70 n G x0 x1 x2 x3 x4 x5 = some (o, Gf) → Y (zVm l D B O) m_I_arrangeSpare 3 o Gf 20 [some (.ref x0), some (.int x1), some (.int x2), some (.int x3), some (.int x4), some (.int x5)] [] G := by
  intro n
  induction n with
  | zero => intro G x0 x1 x2 x3 x4 x5 h; cases h
  | succ n ih =>
    intro G x0 x1 x2 x3 x4 x5 h
    unfold f_I_arrangeSpare_L20 at h
    refine Y.blk (pc' := 22) (L' := [some (.ref x0), some (.int x1), some (.int x2), some (.int x3), some (.int x4), some (.int x5)]) (st' := [.int x5]) (sg := [(.iload 5, 0)]) (by decide +kernel) rfl ?_
    refine Y.if_le (off := 48) (tgt := 70) (by decide +kernel) (by decide) h (fun c27 h => ?_) (fun c27 h => ?_)
    · exact hK70 G x0 x1 x2 x3 x4 x5 h
    · refine Y.blk (pc' := 34) (L' := [some (.ref x0), some (.int x1), some (.int x2), some (.int x3), some (.int x4), some (.int x5)]) (st' := [.int (x5 - (nI 1)), .ref x0, .int (x4 >>> ((nI 5) &&& 31))]) (sg := [(.iload 4, 0), (.iconst 5, nI 5), (.ishr, 0), (.aload_n 0, 0), (.iload 5, 0), (.iconst 1, nI 1), (.isub, 0)]) (by decide +kernel) rfl ?_
      obtain ⟨_, o8, e7, m9, h⟩ := gOb_inv h
      refine Y.callI (yC.Vi (b := x0) (As := [.int (x5 - (nI 1))]) (st := [.int (x4 >>> ((nI 5) &&& 31))]) (r := ("Partlister$Lists", T_I, 7)) hV.1 cb_I_thingInSpare lk_I_73 in_I_thingInSpare rfl se_I_thingInSpare (by decide +kernel) rfl rfl (Nat.le_of_ble_eq_true rfl) (by decide) e7 m9) (k_I_thingInSpare hV G x0 (x5 - (nI 1))) h (fun v11 G10 _ h => ?_)
      refine Y.blk (pc' := 38) (L' := [some (.ref x0), some (.int x1), some (.int x2), some (.int x3), some (.int x4), some (.int x5)]) (st' := [.int x2, .int v11, .int (x4 >>> ((nI 5) &&& 31))]) (sg := [(.iload_n 2, 0)]) (by decide +kernel) rfl ?_
      refine Y.callI (yC.SN (As := [.int (x4 >>> ((nI 5) &&& 31)), .int v11, .int x2]) (st := []) hV.1 cb_X_hasToBeAhead lk_I_82 st_X_hasToBeAhead (by decide +kernel) rfl rfl (Nat.le_of_ble_eq_true rfl) (by decide)) (k_X_hasToBeAhead hV G10 (x4 >>> ((nI 5) &&& 31)) v11 x2) h (fun v14 G13 _ h => ?_)
      refine Y.if_eq (off := 29) (tgt := 70) (by decide +kernel) (by decide) h (fun c26 h => ?_) (fun c26 h => ?_)
      · exact hK70 G13 x0 x1 x2 x3 x4 x5 h
      · refine Y.blk (pc' := 45) (L' := [some (.ref x0), some (.int x1), some (.int x2), some (.int x3), some (.int x4), some (.int x5)]) (st' := [.ref x0]) (sg := [(.aload_n 0, 0)]) (by decide +kernel) rfl ?_
        refine Y.getA fl_I_32 (by decide +kernel) h (fun v15 h => ?_)
        refine Y.blk (pc' := 51) (L' := [some (.ref x0), some (.int x1), some (.int x2), some (.int x3), some (.int x4), some (.int x5)]) (st' := [.ref x0, .int x5, .ref v15]) (sg := [(.iload 5, 0), (.aload_n 0, 0)]) (by decide +kernel) rfl ?_
        refine Y.getA fl_I_32 (by decide +kernel) h (fun v16 h => ?_)
        refine Y.blk (pc' := 58) (L' := [some (.ref x0), some (.int x1), some (.int x2), some (.int x3), some (.int x4), some (.int x5)]) (st' := [.int (x5 - (nI 1)), .ref v16, .int x5, .ref v15]) (sg := [(.iload 5, 0), (.iconst 1, nI 1), (.isub, 0)]) (by decide +kernel) rfl ?_
        obtain ⟨_, o18, e17, m19, h⟩ := gOb_inv h
        refine Y.callI (yC.Vi (b := v16) (As := [.int (x5 - (nI 1))]) (st := [.int x5, .ref v15]) (r := ("Partlister$Numbers", T_N, 1)) hV.1 cb_N_read lk_I_39 in_N_read rfl se_N_read (by decide +kernel) rfl rfl (Nat.le_of_ble_eq_true rfl) (by decide) e17 m19) (k_N_read hV G13 v16 (x5 - (nI 1))) h (fun v21 G20 _ h => ?_)
        obtain ⟨_, o23, e22, m24, h⟩ := gOb_inv h
        refine Y.callN (yC.Vi (b := v15) (As := [.int x5, .int v21]) (st := []) (r := ("Partlister$Numbers", T_N, 1)) hV.1 cb_N_write lk_I_35 in_N_write rfl se_N_write (by decide +kernel) rfl rfl (Nat.le_of_ble_eq_true rfl) (by decide) e22 m24) (k_N_write hV G20 v15 x5 v21) h (fun G25 _ h => ?_)
        refine Y.blk (pc' := 67) (L' := [some (.ref x0), some (.int x1), some (.int x2), some (.int x3), some (.int x4), some (.int (x5 + (-1)))]) (st' := []) (sg := [(.iinc 5 (-1), -1)]) (by decide +kernel) rfl ?_
        refine Y.goto (off := -47) (tgt := 20) (by decide +kernel) (by decide) ?_
        exact ih G25 x0 x1 x2 x3 x4 (x5 + (-1)) h
theorem k_I_arrangeSpare_L2 {l : Launch} {D : va_G} {B : Nat} {O : State → Heap → Prop} (hV : zG l D B O) {o : gO} {Gf : gH} (K87 : gH → gR) (hK87 : ∀ (G : gH), K87 G  = some (o, Gf) → Y (zVm l D B O) m_I_arrangeSpare 3 o Gf 87 [none, none, none, none, none, none] [] G) : ∀ (n : Nat) (G : gH) (x0 : Nat) (x1 : Int32) (x2 : Int32) (x3 : Int32), f_I_arrangeSpare_L2 K87 n G x0 x1 x2 x3 = some (o, Gf) → Y (zVm l D B O) m_I_arrangeSpare 3 o Gf 2 [some (.ref x0), some (.int x1), some (.int x2), some (.int x3), none, none] [] G := by
  intro n
  induction n with
  | zero => intro G x0 x1 x2 x3 h; cases h
  | succ n ih =>
    intro G x0 x1 x2 x3 h
    unfold f_I_arrangeSpare_L2 at h
    refine Y.blk (pc' := 4) (L' := [some (.ref x0), some (.int x1), some (.int x2), some (.int x3), none, none]) (st' := [.int x1, .int x3]) (sg := [(.iload_n 3, 0), (.iload_n 1, 0)]) (by decide +kernel) rfl ?_
    refine Y.ic_ge (off := 83) (tgt := 87) (by decide +kernel) (by decide) h (fun c40 h => ?_) (fun c40 h => ?_)
    · refine Y.less (L' := [none, none, none, none, none, none]) (zLe_none (zLe_none (zLe_none (zLe_none (zLe_some (zLe_some (zLe_nil))))))) ?_
      exact hK87 G  h
    · refine Y.blk (pc' := 8) (L' := [some (.ref x0), some (.int x1), some (.int x2), some (.int x3), none, none]) (st' := [.ref x0]) (sg := [(.aload_n 0, 0)]) (by decide +kernel) rfl ?_
      refine Y.getA fl_I_32 (by decide +kernel) h (fun v1 h => ?_)
      refine Y.blk (pc' := 12) (L' := [some (.ref x0), some (.int x1), some (.int x2), some (.int x3), none, none]) (st' := [.int x3, .ref v1]) (sg := [(.iload_n 3, 0)]) (by decide +kernel) rfl ?_
      obtain ⟨_, o3, e2, m4, h⟩ := gOb_inv h
      refine Y.callI (yC.Vi (b := v1) (As := [.int x3]) (st := []) (r := ("Partlister$Numbers", T_N, 1)) hV.1 cb_N_read lk_I_39 in_N_read rfl se_N_read (by decide +kernel) rfl rfl (Nat.le_of_ble_eq_true rfl) (by decide) e2 m4) (k_N_read hV G v1 x3) h (fun v6 G5 _ h => ?_)
      refine Y.blk (pc' := 20) (L' := [some (.ref x0), some (.int x1), some (.int x2), some (.int x3), some (.int v6), some (.int x3)]) (st' := []) (sg := [(.istore 4, 0), (.iload_n 3, 0), (.istore 5, 0)]) (by decide +kernel) rfl ?_
      refine k_I_arrangeSpare_L20 hV _ ?_  zFu G5 x0 x1 x2 x3 v6 x3 h
      · intro G34 x28 x29 x30 x31 x32 x33 h
        refine Y.blk (pc' := 71) (L' := [some (.ref x28), some (.int x29), some (.int x30), some (.int x31), some (.int x32), some (.int x33)]) (st' := [.ref x28]) (sg := [(.aload_n 0, 0)]) (by decide +kernel) rfl ?_
        refine Y.getA fl_I_32 (by decide +kernel) h (fun v35 h => ?_)
        refine Y.blk (pc' := 78) (L' := [some (.ref x28), some (.int x29), some (.int x30), some (.int x31), some (.int x32), some (.int x33)]) (st' := [.int x32, .int x33, .ref v35]) (sg := [(.iload 5, 0), (.iload 4, 0)]) (by decide +kernel) rfl ?_
        obtain ⟨_, o37, e36, m38, h⟩ := gOb_inv h
        refine Y.callN (yC.Vi (b := v35) (As := [.int x33, .int x32]) (st := []) (r := ("Partlister$Numbers", T_N, 1)) hV.1 cb_N_write lk_I_35 in_N_write rfl se_N_write (by decide +kernel) rfl rfl (Nat.le_of_ble_eq_true rfl) (by decide) e36 m38) (k_N_write hV G34 v35 x33 x32) h (fun G39 _ h => ?_)
        refine Y.blk (pc' := 84) (L' := [some (.ref x28), some (.int x29), some (.int x30), some (.int (x31 + (nI 1))), some (.int x32), some (.int x33)]) (st' := []) (sg := [(.iinc 3 1, nI 1)]) (by decide +kernel) rfl ?_
        refine Y.goto (off := -82) (tgt := 2) (by decide +kernel) (by decide) ?_
        refine Y.less (L' := [some (.ref x28), some (.int x29), some (.int x30), some (.int (x31 + (nI 1))), none, none]) (zLe_some (zLe_some (zLe_some (zLe_some (zLe_none (zLe_none (zLe_nil))))))) ?_
        exact ih G39 x28 x29 x30 (x31 + (nI 1)) h
theorem k_I_arrangeSpare {l : Launch} {D : va_G} {B : Nat} {O : State → Heap → Prop} (hV : zG l D B O) (G : gH) (a0 : Nat) (a1 : Int32) (a2 : Int32) : gMet (zVm l D B O) m_I_arrangeSpare 3 [.ref a0, .int a1, .int a2] G (f_I_arrangeSpare G a0 a1 a2) := by
  refine gMet.of (by decide +kernel) (Nat.le_of_ble_eq_true rfl) [some (.ref a0), some (.int a1), some (.int a2), none, none, none] (fun ls h => zEn_ok (n := 6) h) ?_
  intro o Gf h
  unfold f_I_arrangeSpare at h
  refine Y.blk (pc' := 2) (L' := [some (.ref a0), some (.int a1), some (.int a2), some (.int (nI 1)), none, none]) (st' := []) (sg := [(.iconst 1, nI 1), (.istore_n 3, 0)]) (by decide +kernel) rfl ?_
  refine k_I_arrangeSpare_L2 hV _ ?_  zFu G a0 a1 a2 (nI 1) h
  · intro G41 h
    exact Y.vret rfl (by decide +kernel) h

def f_I_copyToSpare_L8 (K37 : gH → gR) : Nat → gH → Nat → Int32 → Int32 → Int32 → gR
  | 0, _, _, _, _, _ => none
  | n + 1, G, x0, x1, x2, x3 =>
    if x2 ≤ x3 then K37 G
    else gFA G x0 1 5 fun v6 => gOb G x0 1 fun o8 => bI (f_I_thingAt G x0 x1 x3) fun v11 G10 => gOb G10 v6 2 fun o13 => bV (f_N_write G10 v6 x3 ((v11 <<< ((nI 5) &&& 31)) ||| x3)) fun G15 => f_I_copyToSpare_L8 K37 n G15 x0 x1 x2 (x3 + (nI 1))
def f_I_copyToSpare (G : gH) (a0 : Nat) (a1 : Int32) : gR :=
  gOb G a0 1 fun o2 => bI (f_I_lengthOf G a0 a1) fun v5 G4 => f_I_copyToSpare_L8 (fun G17 => rV G17) zFu G4 a0 a1 v5 (nI 0)
theorem k_I_copyToSpare_L8 {l : Launch} {D : va_G} {B : Nat} {O : State → Heap → Prop} (hV : zG l D B O) {o : gO} {Gf : gH} (K37 : gH → gR) (hK37 : ∀ (G : gH), K37 G  = some (o, Gf) → Y (zVm l D B O) m_I_copyToSpare 4 o Gf 37 [none, none, none, none] [] G) : ∀ (n : Nat) (G : gH) (x0 : Nat) (x1 : Int32) (x2 : Int32) (x3 : Int32), f_I_copyToSpare_L8 K37 n G x0 x1 x2 x3 = some (o, Gf) → Y (zVm l D B O) m_I_copyToSpare 4 o Gf 8 [some (.ref x0), some (.int x1), some (.int x2), some (.int x3)] [] G := by
  intro n
  induction n with
  | zero => intro G x0 x1 x2 x3 h; cases h
  | succ n ih =>
    intro G x0 x1 x2 x3 h
    unfold f_I_copyToSpare_L8 at h
    refine Y.blk (pc' := 10) (L' := [some (.ref x0), some (.int x1), some (.int x2), some (.int x3)]) (st' := [.int x2, .int x3]) (sg := [(.iload_n 3, 0), (.iload_n 2, 0)]) (by decide +kernel) rfl ?_
    refine Y.ic_ge (off := 27) (tgt := 37) (by decide +kernel) (by decide) h (fun c16 h => ?_) (fun c16 h => ?_)
    · refine Y.less (L' := [none, none, none, none]) (zLe_none (zLe_none (zLe_none (zLe_none (zLe_nil))))) ?_
      exact hK37 G  h
    · refine Y.blk (pc' := 14) (L' := [some (.ref x0), some (.int x1), some (.int x2), some (.int x3)]) (st' := [.ref x0]) (sg := [(.aload_n 0, 0)]) (by decide +kernel) rfl ?_
      refine Y.getA fl_I_32 (by decide +kernel) h (fun v6 h => ?_)
      refine Y.blk (pc' := 21) (L' := [some (.ref x0), some (.int x1), some (.int x2), some (.int x3)]) (st' := [.int x3, .int x1, .ref x0, .int x3, .ref v6]) (sg := [(.iload_n 3, 0), (.aload_n 0, 0), (.iload_n 1, 0), (.iload_n 3, 0)]) (by decide +kernel) rfl ?_
      obtain ⟨_, o8, e7, m9, h⟩ := gOb_inv h
      refine Y.callI (yC.Vi (b := x0) (As := [.int x1, .int x3]) (st := [.int x3, .ref v6]) (r := ("Partlister$Lists", T_I, 7)) hV.1 cb_I_thingAt lk_I_50 in_I_thingAt rfl se_I_thingAt (by decide +kernel) rfl rfl (Nat.le_of_ble_eq_true rfl) (by decide) e7 m9) (k_I_thingAt hV G x0 x1 x3) h (fun v11 G10 _ h => ?_)
      refine Y.blk (pc' := 28) (L' := [some (.ref x0), some (.int x1), some (.int x2), some (.int x3)]) (st' := [.int ((v11 <<< ((nI 5) &&& 31)) ||| x3), .int x3, .ref v6]) (sg := [(.iconst 5, nI 5), (.ishl, 0), (.iload_n 3, 0), (.ior, 0)]) (by decide +kernel) rfl ?_
      obtain ⟨_, o13, e12, m14, h⟩ := gOb_inv h
      refine Y.callN (yC.Vi (b := v6) (As := [.int x3, .int ((v11 <<< ((nI 5) &&& 31)) ||| x3)]) (st := []) (r := ("Partlister$Numbers", T_N, 1)) hV.1 cb_N_write lk_I_35 in_N_write rfl se_N_write (by decide +kernel) rfl rfl (Nat.le_of_ble_eq_true rfl) (by decide) e12 m14) (k_N_write hV G10 v6 x3 ((v11 <<< ((nI 5) &&& 31)) ||| x3)) h (fun G15 _ h => ?_)
      refine Y.blk (pc' := 34) (L' := [some (.ref x0), some (.int x1), some (.int x2), some (.int (x3 + (nI 1)))]) (st' := []) (sg := [(.iinc 3 1, nI 1)]) (by decide +kernel) rfl ?_
      refine Y.goto (off := -26) (tgt := 8) (by decide +kernel) (by decide) ?_
      exact ih G15 x0 x1 x2 (x3 + (nI 1)) h
theorem k_I_copyToSpare {l : Launch} {D : va_G} {B : Nat} {O : State → Heap → Prop} (hV : zG l D B O) (G : gH) (a0 : Nat) (a1 : Int32) : gMet (zVm l D B O) m_I_copyToSpare 4 [.ref a0, .int a1] G (f_I_copyToSpare G a0 a1) := by
  refine gMet.of (by decide +kernel) (Nat.le_of_ble_eq_true rfl) [some (.ref a0), some (.int a1), none, none] (fun ls h => zEn_ok (n := 4) h) ?_
  intro o Gf h
  unfold f_I_copyToSpare at h
  refine Y.blk (pc' := 2) (L' := [some (.ref a0), some (.int a1), none, none]) (st' := [.int a1, .ref a0]) (sg := [(.aload_n 0, 0), (.iload_n 1, 0)]) (by decide +kernel) rfl ?_
  obtain ⟨_, o2, e1, m3, h⟩ := gOb_inv h
  refine Y.callI (yC.Vi (b := a0) (As := [.int a1]) (st := []) (r := ("Partlister$Lists", T_I, 7)) hV.1 cb_I_lengthOf lk_I_59 in_I_lengthOf rfl se_I_lengthOf (by decide +kernel) rfl rfl (Nat.le_of_ble_eq_true rfl) (by decide) e1 m3) (k_I_lengthOf hV G a0 a1) h (fun v5 G4 _ h => ?_)
  refine Y.blk (pc' := 8) (L' := [some (.ref a0), some (.int a1), some (.int v5), some (.int (nI 0))]) (st' := []) (sg := [(.istore_n 2, 0), (.iconst 0, nI 0), (.istore_n 3, 0)]) (by decide +kernel) rfl ?_
  refine k_I_copyToSpare_L8 hV _ ?_  zFu G4 a0 a1 v5 (nI 0) h
  · intro G17 h
    exact Y.vret rfl (by decide +kernel) h

def f_I_placeInSpare (G : gH) (a0 : Nat) (a1 : Int32) : gR :=
  gFA G a0 1 5 fun v1 => gOb G v1 2 fun o3 => bI (f_N_read G v1 a1) fun v6 G5 => rI (v6 &&& (nI 31)) G5
theorem k_I_placeInSpare {l : Launch} {D : va_G} {B : Nat} {O : State → Heap → Prop} (hV : zG l D B O) (G : gH) (a0 : Nat) (a1 : Int32) : gMet (zVm l D B O) m_I_placeInSpare 2 [.ref a0, .int a1] G (f_I_placeInSpare G a0 a1) := by
  refine gMet.of (by decide +kernel) (Nat.le_of_ble_eq_true rfl) [some (.ref a0), some (.int a1)] (fun ls h => zEn_ok (n := 2) h) ?_
  intro o Gf h
  unfold f_I_placeInSpare at h
  refine Y.blk (pc' := 1) (L' := [some (.ref a0), some (.int a1)]) (st' := [.ref a0]) (sg := [(.aload_n 0, 0)]) (by decide +kernel) rfl ?_
  refine Y.getA fl_I_32 (by decide +kernel) h (fun v1 h => ?_)
  refine Y.blk (pc' := 5) (L' := [some (.ref a0), some (.int a1)]) (st' := [.int a1, .ref v1]) (sg := [(.iload_n 1, 0)]) (by decide +kernel) rfl ?_
  obtain ⟨_, o3, e2, m4, h⟩ := gOb_inv h
  refine Y.callI (yC.Vi (b := v1) (As := [.int a1]) (st := []) (r := ("Partlister$Numbers", T_N, 1)) hV.1 cb_N_read lk_I_39 in_N_read rfl se_N_read (by decide +kernel) rfl rfl (Nat.le_of_ble_eq_true rfl) (by decide) e2 m4) (k_N_read hV G v1 a1) h (fun v6 G5 _ h => ?_)
  refine Y.blk (pc' := 11) (L' := [some (.ref a0), some (.int a1)]) (st' := [.int (v6 &&& (nI 31))]) (sg := [(.bipush 31, nI 31), (.iand, 0)]) (by decide +kernel) rfl ?_
  exact Y.iret rfl (by decide +kernel) h

def f_I_mayFollow (G : gH) (a0 : Nat) (a1 : Int32) (a2 : Int32) : gR :=
  gOb G a0 1 fun o2 => bI (f_I_thingInSpare G a0 a1) fun v5 G4 => gOb G4 a0 1 fun o7 => bI (f_I_thingInSpare G4 a0 (a1 - (nI 1))) fun v10 G9 => bI (f_X_hasToBeAhead G9 v5 v10 a2) fun v13 G12 => if v13 = 0 then (bI (f_X_hasToBeAhead G12 v10 v5 a2) fun v16 G15 => if v16 = 0 then (gOb G15 a0 1 fun o18 => bI (f_I_placeInSpare G15 a0 (a1 - (nI 1))) fun v21 G20 => gOb G20 a0 1 fun o23 => bI (f_I_placeInSpare G20 a0 a1) fun v26 G25 => if v26 ≤ v21 then rZ (nI 0) G25
      else rZ (nI 1) G25)
    else rZ (nI 1) G15)
  else rZ (nI 0) G12
theorem k_I_mayFollow {l : Launch} {D : va_G} {B : Nat} {O : State → Heap → Prop} (hV : zG l D B O) (G : gH) (a0 : Nat) (a1 : Int32) (a2 : Int32) : gMet (zVm l D B O) m_I_mayFollow 3 [.ref a0, .int a1, .int a2] G (f_I_mayFollow G a0 a1 a2) := by
  refine gMet.of (by decide +kernel) (Nat.le_of_ble_eq_true rfl) [some (.ref a0), some (.int a1), some (.int a2), none, none] (fun ls h => zEn_ok (n := 5) h) ?_
  intro o Gf h
  unfold f_I_mayFollow at h
  refine Y.blk (pc' := 2) (L' := [some (.ref a0), some (.int a1), some (.int a2), none, none]) (st' := [.int a1, .ref a0]) (sg := [(.aload_n 0, 0), (.iload_n 1, 0)]) (by decide +kernel) rfl ?_
  obtain ⟨_, o2, e1, m3, h⟩ := gOb_inv h
  refine Y.callI (yC.Vi (b := a0) (As := [.int a1]) (st := []) (r := ("Partlister$Lists", T_I, 7)) hV.1 cb_I_thingInSpare lk_I_73 in_I_thingInSpare rfl se_I_thingInSpare (by decide +kernel) rfl rfl (Nat.le_of_ble_eq_true rfl) (by decide) e1 m3) (k_I_thingInSpare hV G a0 a1) h (fun v5 G4 _ h => ?_)
  refine Y.blk (pc' := 10) (L' := [some (.ref a0), some (.int a1), some (.int a2), some (.int v5), none]) (st' := [.int (a1 - (nI 1)), .ref a0]) (sg := [(.istore_n 3, 0), (.aload_n 0, 0), (.iload_n 1, 0), (.iconst 1, nI 1), (.isub, 0)]) (by decide +kernel) rfl ?_
  obtain ⟨_, o7, e6, m8, h⟩ := gOb_inv h
  refine Y.callI (yC.Vi (b := a0) (As := [.int (a1 - (nI 1))]) (st := []) (r := ("Partlister$Lists", T_I, 7)) hV.1 cb_I_thingInSpare lk_I_73 in_I_thingInSpare rfl se_I_thingInSpare (by decide +kernel) rfl rfl (Nat.le_of_ble_eq_true rfl) (by decide) e6 m8) (k_I_thingInSpare hV G4 a0 (a1 - (nI 1))) h (fun v10 G9 _ h => ?_)
  refine Y.blk (pc' := 19) (L' := [some (.ref a0), some (.int a1), some (.int a2), some (.int v5), some (.int v10)]) (st' := [.int a2, .int v10, .int v5]) (sg := [(.istore 4, 0), (.iload_n 3, 0), (.iload 4, 0), (.iload_n 2, 0)]) (by decide +kernel) rfl ?_
  refine Y.callI (yC.SN (As := [.int v5, .int v10, .int a2]) (st := []) hV.1 cb_X_hasToBeAhead lk_I_82 st_X_hasToBeAhead (by decide +kernel) rfl rfl (Nat.le_of_ble_eq_true rfl) (by decide)) (k_X_hasToBeAhead hV G9 v5 v10 a2) h (fun v13 G12 _ h => ?_)
  refine Y.if_eq (off := 5) (tgt := 27) (by decide +kernel) (by decide) h (fun c29 h => ?_) (fun c29 h => ?_)
  · refine Y.blk (pc' := 31) (L' := [some (.ref a0), some (.int a1), some (.int a2), some (.int v5), some (.int v10)]) (st' := [.int a2, .int v5, .int v10]) (sg := [(.iload 4, 0), (.iload_n 3, 0), (.iload_n 2, 0)]) (by decide +kernel) rfl ?_
    refine Y.callI (yC.SN (As := [.int v10, .int v5, .int a2]) (st := []) hV.1 cb_X_hasToBeAhead lk_I_82 st_X_hasToBeAhead (by decide +kernel) rfl rfl (Nat.le_of_ble_eq_true rfl) (by decide)) (k_X_hasToBeAhead hV G12 v10 v5 a2) h (fun v16 G15 _ h => ?_)
    refine Y.if_ne (off := 18) (tgt := 52) (by decide +kernel) (by decide) h (fun c28 h => ?_) (fun c28 h => ?_)
    · refine Y.blk (pc' := 41) (L' := [some (.ref a0), some (.int a1), some (.int a2), some (.int v5), some (.int v10)]) (st' := [.int (a1 - (nI 1)), .ref a0]) (sg := [(.aload_n 0, 0), (.iload_n 1, 0), (.iconst 1, nI 1), (.isub, 0)]) (by decide +kernel) rfl ?_
      obtain ⟨_, o18, e17, m19, h⟩ := gOb_inv h
      refine Y.callI (yC.Vi (b := a0) (As := [.int (a1 - (nI 1))]) (st := []) (r := ("Partlister$Lists", T_I, 7)) hV.1 cb_I_placeInSpare lk_I_122 in_I_placeInSpare rfl se_I_placeInSpare (by decide +kernel) rfl rfl (Nat.le_of_ble_eq_true rfl) (by decide) e17 m19) (k_I_placeInSpare hV G15 a0 (a1 - (nI 1))) h (fun v21 G20 _ h => ?_)
      refine Y.blk (pc' := 46) (L' := [some (.ref a0), some (.int a1), some (.int a2), some (.int v5), some (.int v10)]) (st' := [.int a1, .ref a0, .int v21]) (sg := [(.aload_n 0, 0), (.iload_n 1, 0)]) (by decide +kernel) rfl ?_
      obtain ⟨_, o23, e22, m24, h⟩ := gOb_inv h
      refine Y.callI (yC.Vi (b := a0) (As := [.int a1]) (st := [.int v21]) (r := ("Partlister$Lists", T_I, 7)) hV.1 cb_I_placeInSpare lk_I_122 in_I_placeInSpare rfl se_I_placeInSpare (by decide +kernel) rfl rfl (Nat.le_of_ble_eq_true rfl) (by decide) e22 m24) (k_I_placeInSpare hV G20 a0 a1) h (fun v26 G25 _ h => ?_)
      refine Y.ic_ge (off := 7) (tgt := 56) (by decide +kernel) (by decide) h (fun c27 h => ?_) (fun c27 h => ?_)
      · refine Y.blk (pc' := 57) (L' := [some (.ref a0), some (.int a1), some (.int a2), some (.int v5), some (.int v10)]) (st' := [.int (nI 0)]) (sg := [(.iconst 0, nI 0)]) (by decide +kernel) rfl ?_
        exact Y.zret rfl (by decide +kernel) h
      · refine Y.blk (pc' := 53) (L' := [some (.ref a0), some (.int a1), some (.int a2), some (.int v5), some (.int v10)]) (st' := [.int (nI 1)]) (sg := [(.iconst 1, nI 1)]) (by decide +kernel) rfl ?_
        refine Y.goto (off := 4) (tgt := 57) (by decide +kernel) (by decide) ?_
        exact Y.zret rfl (by decide +kernel) h
    · refine Y.blk (pc' := 53) (L' := [some (.ref a0), some (.int a1), some (.int a2), some (.int v5), some (.int v10)]) (st' := [.int (nI 1)]) (sg := [(.iconst 1, nI 1)]) (by decide +kernel) rfl ?_
      refine Y.goto (off := 4) (tgt := 57) (by decide +kernel) (by decide) ?_
      exact Y.zret rfl (by decide +kernel) h
  · refine Y.blk (pc' := 26) (L' := [some (.ref a0), some (.int a1), some (.int a2), some (.int v5), some (.int v10)]) (st' := [.int (nI 0)]) (sg := [(.iconst 0, nI 0)]) (by decide +kernel) rfl ?_
    exact Y.zret rfl (by decide +kernel) h

def f_IN_bitCount (G : gH) (a0 : Int32) : gR :=
  rI ((((((((a0 - (((a0.toUInt32 >>> ((nI 1).toUInt32 &&& Int32.toUInt32 31)).toInt32) &&& (nI 1431655765))) &&& (nI 858993459)) + ((((a0 - (((a0.toUInt32 >>> ((nI 1).toUInt32 &&& Int32.toUInt32 31)).toInt32) &&& (nI 1431655765))).toUInt32 >>> ((nI 2).toUInt32 &&& Int32.toUInt32 31)).toInt32) &&& (nI 858993459))) + (((((a0 - (((a0.toUInt32 >>> ((nI 1).toUInt32 &&& Int32.toUInt32 31)).toInt32) &&& (nI 1431655765))) &&& (nI 858993459)) + ((((a0 - (((a0.toUInt32 >>> ((nI 1).toUInt32 &&& Int32.toUInt32 31)).toInt32) &&& (nI 1431655765))).toUInt32 >>> ((nI 2).toUInt32 &&& Int32.toUInt32 31)).toInt32) &&& (nI 858993459))).toUInt32 >>> ((nI 4).toUInt32 &&& Int32.toUInt32 31)).toInt32)) &&& (nI 252645135)) + (((((((a0 - (((a0.toUInt32 >>> ((nI 1).toUInt32 &&& Int32.toUInt32 31)).toInt32) &&& (nI 1431655765))) &&& (nI 858993459)) + ((((a0 - (((a0.toUInt32 >>> ((nI 1).toUInt32 &&& Int32.toUInt32 31)).toInt32) &&& (nI 1431655765))).toUInt32 >>> ((nI 2).toUInt32 &&& Int32.toUInt32 31)).toInt32) &&& (nI 858993459))) + (((((a0 - (((a0.toUInt32 >>> ((nI 1).toUInt32 &&& Int32.toUInt32 31)).toInt32) &&& (nI 1431655765))) &&& (nI 858993459)) + ((((a0 - (((a0.toUInt32 >>> ((nI 1).toUInt32 &&& Int32.toUInt32 31)).toInt32) &&& (nI 1431655765))).toUInt32 >>> ((nI 2).toUInt32 &&& Int32.toUInt32 31)).toInt32) &&& (nI 858993459))).toUInt32 >>> ((nI 4).toUInt32 &&& Int32.toUInt32 31)).toInt32)) &&& (nI 252645135)).toUInt32 >>> ((nI 8).toUInt32 &&& Int32.toUInt32 31)).toInt32)) + ((((((((a0 - (((a0.toUInt32 >>> ((nI 1).toUInt32 &&& Int32.toUInt32 31)).toInt32) &&& (nI 1431655765))) &&& (nI 858993459)) + ((((a0 - (((a0.toUInt32 >>> ((nI 1).toUInt32 &&& Int32.toUInt32 31)).toInt32) &&& (nI 1431655765))).toUInt32 >>> ((nI 2).toUInt32 &&& Int32.toUInt32 31)).toInt32) &&& (nI 858993459))) + (((((a0 - (((a0.toUInt32 >>> ((nI 1).toUInt32 &&& Int32.toUInt32 31)).toInt32) &&& (nI 1431655765))) &&& (nI 858993459)) + ((((a0 - (((a0.toUInt32 >>> ((nI 1).toUInt32 &&& Int32.toUInt32 31)).toInt32) &&& (nI 1431655765))).toUInt32 >>> ((nI 2).toUInt32 &&& Int32.toUInt32 31)).toInt32) &&& (nI 858993459))).toUInt32 >>> ((nI 4).toUInt32 &&& Int32.toUInt32 31)).toInt32)) &&& (nI 252645135)) + (((((((a0 - (((a0.toUInt32 >>> ((nI 1).toUInt32 &&& Int32.toUInt32 31)).toInt32) &&& (nI 1431655765))) &&& (nI 858993459)) + ((((a0 - (((a0.toUInt32 >>> ((nI 1).toUInt32 &&& Int32.toUInt32 31)).toInt32) &&& (nI 1431655765))).toUInt32 >>> ((nI 2).toUInt32 &&& Int32.toUInt32 31)).toInt32) &&& (nI 858993459))) + (((((a0 - (((a0.toUInt32 >>> ((nI 1).toUInt32 &&& Int32.toUInt32 31)).toInt32) &&& (nI 1431655765))) &&& (nI 858993459)) + ((((a0 - (((a0.toUInt32 >>> ((nI 1).toUInt32 &&& Int32.toUInt32 31)).toInt32) &&& (nI 1431655765))).toUInt32 >>> ((nI 2).toUInt32 &&& Int32.toUInt32 31)).toInt32) &&& (nI 858993459))).toUInt32 >>> ((nI 4).toUInt32 &&& Int32.toUInt32 31)).toInt32)) &&& (nI 252645135)).toUInt32 >>> ((nI 8).toUInt32 &&& Int32.toUInt32 31)).toInt32)).toUInt32 >>> ((nI 16).toUInt32 &&& Int32.toUInt32 31)).toInt32)) &&& (nI 63)) G
theorem k_IN_bitCount {l : Launch} {D : va_G} {B : Nat} {O : State → Heap → Prop} (hV : zG l D B O) (G : gH) (a0 : Int32) : gMet (zVm l D B O) m_IN_bitCount 1 [.int a0] G (f_IN_bitCount G a0) := by
  refine gMet.of (by decide +kernel) (Nat.le_of_ble_eq_true rfl) [some (.int a0)] (fun ls h => zEn_ok (n := 1) h) ?_
  intro o Gf h
  unfold f_IN_bitCount at h
  refine Y.blk (pc' := 4) (L' := [some (.int a0)]) (st' := [.int ((a0.toUInt32 >>> ((nI 1).toUInt32 &&& Int32.toUInt32 31)).toInt32), .int a0]) (sg := [(.iload_n 0, 0), (.iload_n 0, 0), (.iconst 1, nI 1), (.iushr, 0)]) (by decide +kernel) rfl ?_
  refine Y.ldcw (v := nI 1431655765) co_IN_265 (by decide +kernel) ?_
  refine Y.blk (pc' := 11) (L' := [some (.int (a0 - (((a0.toUInt32 >>> ((nI 1).toUInt32 &&& Int32.toUInt32 31)).toInt32) &&& (nI 1431655765))))]) (st' := [.int (a0 - (((a0.toUInt32 >>> ((nI 1).toUInt32 &&& Int32.toUInt32 31)).toInt32) &&& (nI 1431655765)))]) (sg := [(.iand, 0), (.isub, 0), (.istore_n 0, 0), (.iload_n 0, 0)]) (by decide +kernel) rfl ?_
  refine Y.ldcw (v := nI 858993459) co_IN_266 (by decide +kernel) ?_
  refine Y.blk (pc' := 18) (L' := [some (.int (a0 - (((a0.toUInt32 >>> ((nI 1).toUInt32 &&& Int32.toUInt32 31)).toInt32) &&& (nI 1431655765))))]) (st' := [.int (((a0 - (((a0.toUInt32 >>> ((nI 1).toUInt32 &&& Int32.toUInt32 31)).toInt32) &&& (nI 1431655765))).toUInt32 >>> ((nI 2).toUInt32 &&& Int32.toUInt32 31)).toInt32), .int ((a0 - (((a0.toUInt32 >>> ((nI 1).toUInt32 &&& Int32.toUInt32 31)).toInt32) &&& (nI 1431655765))) &&& (nI 858993459))]) (sg := [(.iand, 0), (.iload_n 0, 0), (.iconst 2, nI 2), (.iushr, 0)]) (by decide +kernel) rfl ?_
  refine Y.ldcw (v := nI 858993459) co_IN_266 (by decide +kernel) ?_
  refine Y.blk (pc' := 29) (L' := [some (.int (((a0 - (((a0.toUInt32 >>> ((nI 1).toUInt32 &&& Int32.toUInt32 31)).toInt32) &&& (nI 1431655765))) &&& (nI 858993459)) + ((((a0 - (((a0.toUInt32 >>> ((nI 1).toUInt32 &&& Int32.toUInt32 31)).toInt32) &&& (nI 1431655765))).toUInt32 >>> ((nI 2).toUInt32 &&& Int32.toUInt32 31)).toInt32) &&& (nI 858993459))))]) (st' := [.int ((((a0 - (((a0.toUInt32 >>> ((nI 1).toUInt32 &&& Int32.toUInt32 31)).toInt32) &&& (nI 1431655765))) &&& (nI 858993459)) + ((((a0 - (((a0.toUInt32 >>> ((nI 1).toUInt32 &&& Int32.toUInt32 31)).toInt32) &&& (nI 1431655765))).toUInt32 >>> ((nI 2).toUInt32 &&& Int32.toUInt32 31)).toInt32) &&& (nI 858993459))) + (((((a0 - (((a0.toUInt32 >>> ((nI 1).toUInt32 &&& Int32.toUInt32 31)).toInt32) &&& (nI 1431655765))) &&& (nI 858993459)) + ((((a0 - (((a0.toUInt32 >>> ((nI 1).toUInt32 &&& Int32.toUInt32 31)).toInt32) &&& (nI 1431655765))).toUInt32 >>> ((nI 2).toUInt32 &&& Int32.toUInt32 31)).toInt32) &&& (nI 858993459))).toUInt32 >>> ((nI 4).toUInt32 &&& Int32.toUInt32 31)).toInt32))]) (sg := [(.iand, 0), (.iadd, 0), (.istore_n 0, 0), (.iload_n 0, 0), (.iload_n 0, 0), (.iconst 4, nI 4), (.iushr, 0), (.iadd, 0)]) (by decide +kernel) rfl ?_
  refine Y.ldcw (v := nI 252645135) co_IN_267 (by decide +kernel) ?_
  refine Y.blk (pc' := 52) (L' := [some (.int (((((((a0 - (((a0.toUInt32 >>> ((nI 1).toUInt32 &&& Int32.toUInt32 31)).toInt32) &&& (nI 1431655765))) &&& (nI 858993459)) + ((((a0 - (((a0.toUInt32 >>> ((nI 1).toUInt32 &&& Int32.toUInt32 31)).toInt32) &&& (nI 1431655765))).toUInt32 >>> ((nI 2).toUInt32 &&& Int32.toUInt32 31)).toInt32) &&& (nI 858993459))) + (((((a0 - (((a0.toUInt32 >>> ((nI 1).toUInt32 &&& Int32.toUInt32 31)).toInt32) &&& (nI 1431655765))) &&& (nI 858993459)) + ((((a0 - (((a0.toUInt32 >>> ((nI 1).toUInt32 &&& Int32.toUInt32 31)).toInt32) &&& (nI 1431655765))).toUInt32 >>> ((nI 2).toUInt32 &&& Int32.toUInt32 31)).toInt32) &&& (nI 858993459))).toUInt32 >>> ((nI 4).toUInt32 &&& Int32.toUInt32 31)).toInt32)) &&& (nI 252645135)) + (((((((a0 - (((a0.toUInt32 >>> ((nI 1).toUInt32 &&& Int32.toUInt32 31)).toInt32) &&& (nI 1431655765))) &&& (nI 858993459)) + ((((a0 - (((a0.toUInt32 >>> ((nI 1).toUInt32 &&& Int32.toUInt32 31)).toInt32) &&& (nI 1431655765))).toUInt32 >>> ((nI 2).toUInt32 &&& Int32.toUInt32 31)).toInt32) &&& (nI 858993459))) + (((((a0 - (((a0.toUInt32 >>> ((nI 1).toUInt32 &&& Int32.toUInt32 31)).toInt32) &&& (nI 1431655765))) &&& (nI 858993459)) + ((((a0 - (((a0.toUInt32 >>> ((nI 1).toUInt32 &&& Int32.toUInt32 31)).toInt32) &&& (nI 1431655765))).toUInt32 >>> ((nI 2).toUInt32 &&& Int32.toUInt32 31)).toInt32) &&& (nI 858993459))).toUInt32 >>> ((nI 4).toUInt32 &&& Int32.toUInt32 31)).toInt32)) &&& (nI 252645135)).toUInt32 >>> ((nI 8).toUInt32 &&& Int32.toUInt32 31)).toInt32)) + ((((((((a0 - (((a0.toUInt32 >>> ((nI 1).toUInt32 &&& Int32.toUInt32 31)).toInt32) &&& (nI 1431655765))) &&& (nI 858993459)) + ((((a0 - (((a0.toUInt32 >>> ((nI 1).toUInt32 &&& Int32.toUInt32 31)).toInt32) &&& (nI 1431655765))).toUInt32 >>> ((nI 2).toUInt32 &&& Int32.toUInt32 31)).toInt32) &&& (nI 858993459))) + (((((a0 - (((a0.toUInt32 >>> ((nI 1).toUInt32 &&& Int32.toUInt32 31)).toInt32) &&& (nI 1431655765))) &&& (nI 858993459)) + ((((a0 - (((a0.toUInt32 >>> ((nI 1).toUInt32 &&& Int32.toUInt32 31)).toInt32) &&& (nI 1431655765))).toUInt32 >>> ((nI 2).toUInt32 &&& Int32.toUInt32 31)).toInt32) &&& (nI 858993459))).toUInt32 >>> ((nI 4).toUInt32 &&& Int32.toUInt32 31)).toInt32)) &&& (nI 252645135)) + (((((((a0 - (((a0.toUInt32 >>> ((nI 1).toUInt32 &&& Int32.toUInt32 31)).toInt32) &&& (nI 1431655765))) &&& (nI 858993459)) + ((((a0 - (((a0.toUInt32 >>> ((nI 1).toUInt32 &&& Int32.toUInt32 31)).toInt32) &&& (nI 1431655765))).toUInt32 >>> ((nI 2).toUInt32 &&& Int32.toUInt32 31)).toInt32) &&& (nI 858993459))) + (((((a0 - (((a0.toUInt32 >>> ((nI 1).toUInt32 &&& Int32.toUInt32 31)).toInt32) &&& (nI 1431655765))) &&& (nI 858993459)) + ((((a0 - (((a0.toUInt32 >>> ((nI 1).toUInt32 &&& Int32.toUInt32 31)).toInt32) &&& (nI 1431655765))).toUInt32 >>> ((nI 2).toUInt32 &&& Int32.toUInt32 31)).toInt32) &&& (nI 858993459))).toUInt32 >>> ((nI 4).toUInt32 &&& Int32.toUInt32 31)).toInt32)) &&& (nI 252645135)).toUInt32 >>> ((nI 8).toUInt32 &&& Int32.toUInt32 31)).toInt32)).toUInt32 >>> ((nI 16).toUInt32 &&& Int32.toUInt32 31)).toInt32)))]) (st' := [.int ((((((((a0 - (((a0.toUInt32 >>> ((nI 1).toUInt32 &&& Int32.toUInt32 31)).toInt32) &&& (nI 1431655765))) &&& (nI 858993459)) + ((((a0 - (((a0.toUInt32 >>> ((nI 1).toUInt32 &&& Int32.toUInt32 31)).toInt32) &&& (nI 1431655765))).toUInt32 >>> ((nI 2).toUInt32 &&& Int32.toUInt32 31)).toInt32) &&& (nI 858993459))) + (((((a0 - (((a0.toUInt32 >>> ((nI 1).toUInt32 &&& Int32.toUInt32 31)).toInt32) &&& (nI 1431655765))) &&& (nI 858993459)) + ((((a0 - (((a0.toUInt32 >>> ((nI 1).toUInt32 &&& Int32.toUInt32 31)).toInt32) &&& (nI 1431655765))).toUInt32 >>> ((nI 2).toUInt32 &&& Int32.toUInt32 31)).toInt32) &&& (nI 858993459))).toUInt32 >>> ((nI 4).toUInt32 &&& Int32.toUInt32 31)).toInt32)) &&& (nI 252645135)) + (((((((a0 - (((a0.toUInt32 >>> ((nI 1).toUInt32 &&& Int32.toUInt32 31)).toInt32) &&& (nI 1431655765))) &&& (nI 858993459)) + ((((a0 - (((a0.toUInt32 >>> ((nI 1).toUInt32 &&& Int32.toUInt32 31)).toInt32) &&& (nI 1431655765))).toUInt32 >>> ((nI 2).toUInt32 &&& Int32.toUInt32 31)).toInt32) &&& (nI 858993459))) + (((((a0 - (((a0.toUInt32 >>> ((nI 1).toUInt32 &&& Int32.toUInt32 31)).toInt32) &&& (nI 1431655765))) &&& (nI 858993459)) + ((((a0 - (((a0.toUInt32 >>> ((nI 1).toUInt32 &&& Int32.toUInt32 31)).toInt32) &&& (nI 1431655765))).toUInt32 >>> ((nI 2).toUInt32 &&& Int32.toUInt32 31)).toInt32) &&& (nI 858993459))).toUInt32 >>> ((nI 4).toUInt32 &&& Int32.toUInt32 31)).toInt32)) &&& (nI 252645135)).toUInt32 >>> ((nI 8).toUInt32 &&& Int32.toUInt32 31)).toInt32)) + ((((((((a0 - (((a0.toUInt32 >>> ((nI 1).toUInt32 &&& Int32.toUInt32 31)).toInt32) &&& (nI 1431655765))) &&& (nI 858993459)) + ((((a0 - (((a0.toUInt32 >>> ((nI 1).toUInt32 &&& Int32.toUInt32 31)).toInt32) &&& (nI 1431655765))).toUInt32 >>> ((nI 2).toUInt32 &&& Int32.toUInt32 31)).toInt32) &&& (nI 858993459))) + (((((a0 - (((a0.toUInt32 >>> ((nI 1).toUInt32 &&& Int32.toUInt32 31)).toInt32) &&& (nI 1431655765))) &&& (nI 858993459)) + ((((a0 - (((a0.toUInt32 >>> ((nI 1).toUInt32 &&& Int32.toUInt32 31)).toInt32) &&& (nI 1431655765))).toUInt32 >>> ((nI 2).toUInt32 &&& Int32.toUInt32 31)).toInt32) &&& (nI 858993459))).toUInt32 >>> ((nI 4).toUInt32 &&& Int32.toUInt32 31)).toInt32)) &&& (nI 252645135)) + (((((((a0 - (((a0.toUInt32 >>> ((nI 1).toUInt32 &&& Int32.toUInt32 31)).toInt32) &&& (nI 1431655765))) &&& (nI 858993459)) + ((((a0 - (((a0.toUInt32 >>> ((nI 1).toUInt32 &&& Int32.toUInt32 31)).toInt32) &&& (nI 1431655765))).toUInt32 >>> ((nI 2).toUInt32 &&& Int32.toUInt32 31)).toInt32) &&& (nI 858993459))) + (((((a0 - (((a0.toUInt32 >>> ((nI 1).toUInt32 &&& Int32.toUInt32 31)).toInt32) &&& (nI 1431655765))) &&& (nI 858993459)) + ((((a0 - (((a0.toUInt32 >>> ((nI 1).toUInt32 &&& Int32.toUInt32 31)).toInt32) &&& (nI 1431655765))).toUInt32 >>> ((nI 2).toUInt32 &&& Int32.toUInt32 31)).toInt32) &&& (nI 858993459))).toUInt32 >>> ((nI 4).toUInt32 &&& Int32.toUInt32 31)).toInt32)) &&& (nI 252645135)).toUInt32 >>> ((nI 8).toUInt32 &&& Int32.toUInt32 31)).toInt32)).toUInt32 >>> ((nI 16).toUInt32 &&& Int32.toUInt32 31)).toInt32)) &&& (nI 63))]) (sg := [(.iand, 0), (.istore_n 0, 0), (.iload_n 0, 0), (.iload_n 0, 0), (.bipush 8, nI 8), (.iushr, 0), (.iadd, 0), (.istore_n 0, 0), (.iload_n 0, 0), (.iload_n 0, 0), (.bipush 16, nI 16), (.iushr, 0), (.iadd, 0), (.istore_n 0, 0), (.iload_n 0, 0), (.bipush 63, nI 63), (.iand, 0)]) (by decide +kernel) rfl ?_
  exact Y.iret rfl (by decide +kernel) h
end
section
def f_I_isOrdering_L23 (K62 : gH → gR) (K79 : gH → gR) (K87 : gH → Int32 → Int32 → gR) : Nat → gH → Nat → Int32 → Int32 → Int32 → Int32 → Int32 → gR
  | 0, _, _, _, _, _, _, _ => none
  | n + 1, G, x0, x1, x2, x3, x4, x5 =>
    if x3 ≤ x5 then K87 G x3 x4
    else gOb G x0 1 fun o15 => bI (f_I_placeInSpare G x0 x5) fun v18 G17 => gOb G17 x0 1 fun o20 => bI (f_I_thingInSpare G17 x0 x5) fun v23 G22 => gOb G22 x0 1 fun o25 => bI (f_I_thingAt G22 x0 x1 v18) fun v28 G27 => if v23 = v28 then (if x5 ≤ 0 then f_I_isOrdering_L23 K62 K79 K87 n G27 x0 x1 x2 x3 (x4 ||| ((nI 1) <<< (v18 &&& 31))) (x5 + (nI 1))
        else gOb G27 x0 1 fun o30 => bI (f_I_mayFollow G27 x0 x5 x2) fun v33 G32 => if v33 = 0 then K79 G32
          else f_I_isOrdering_L23 K62 K79 K87 n G32 x0 x1 x2 x3 (x4 ||| ((nI 1) <<< (v18 &&& 31))) (x5 + (nI 1)))
      else K62 G27
def f_I_isOrdering (G : gH) (a0 : Nat) (a1 : Int32) (a2 : Int32) : gR :=
  gOb G a0 1 fun o2 => bI (f_I_lengthOf G a0 a1) fun v5 G4 => gOb G4 a0 1 fun o7 => bV (f_I_copyToSpare G4 a0 a1) fun G9 => gOb G9 a0 1 fun o11 => bV (f_I_arrangeSpare G9 a0 v5 a2) fun G13 => f_I_isOrdering_L23 (fun G38 => rZ (nI 0) G38) (fun G39 => rZ (nI 0) G39) (fun G42 x40 x41 => bI (f_IN_bitCount G42 x41) fun v45 G44 => if v45 = x40 then rZ (nI 1) G44
    else rZ (nI 0) G44) zFu G13 a0 a1 a2 v5 (nI 0) (nI 0)
theorem k_I_isOrdering_L23 {l : Launch} {D : va_G} {B : Nat} {O : State → Heap → Prop} (hV : zG l D B O) {o : gO} {Gf : gH} (K62 : gH → gR) (K79 : gH → gR) (K87 : gH → Int32 → Int32 → gR) (hK62 : ∀ (G : gH), K62 G  = some (o, Gf) → Y (zVm l D B O) m_I_isOrdering 5 o Gf 62 [none, none, none, none, none, none, none] [] G) (hK79 : ∀ (G : gH), K79 G  = some (o, Gf) → Y (zVm l D B O) m_I_isOrdering 5 o Gf 79 [none, none, none, none, none, none, none] [] G) (hK87 : ∀ (G : gH) (x3 : Int32) (x4 : Int32), K87 G x3 x4 = some (o, Gf) → Y (zVm l D B O) m_I_isOrdering 5 o Gf 87 [none, none, none, some (.int x3), some (.int x4), none, none] [] G) : ∀ (n : Nat) (G : gH) (x0 : Nat) (x1 : Int32) (x2 : Int32) (x3 : Int32) (x4 : Int32) (x5 : Int32), f_I_isOrdering_L23 K62 K79 K87 n G x0 x1 x2 x3 x4 x5 = some (o, Gf) → Y (zVm l D B O) m_I_isOrdering 5 o Gf 23 [some (.ref x0), some (.int x1), some (.int x2), some (.int x3), some (.int x4), some (.int x5), none] [] G := by
  intro n
  induction n with
  | zero => intro G x0 x1 x2 x3 x4 x5 h; cases h
  | succ n ih =>
    intro G x0 x1 x2 x3 x4 x5 h
    unfold f_I_isOrdering_L23 at h
    refine Y.blk (pc' := 26) (L' := [some (.ref x0), some (.int x1), some (.int x2), some (.int x3), some (.int x4), some (.int x5), none]) (st' := [.int x3, .int x5]) (sg := [(.iload 5, 0), (.iload_n 3, 0)]) (by decide +kernel) rfl ?_
    refine Y.ic_ge (off := 61) (tgt := 87) (by decide +kernel) (by decide) h (fun c37 h => ?_) (fun c37 h => ?_)
    · refine Y.less (L' := [none, none, none, some (.int x3), some (.int x4), none, none]) (zLe_none (zLe_none (zLe_none (zLe_some (zLe_some (zLe_none (zLe_some (zLe_nil)))))))) ?_
      exact hK87 G x3 x4 h
    · refine Y.blk (pc' := 32) (L' := [some (.ref x0), some (.int x1), some (.int x2), some (.int x3), some (.int x4), some (.int x5), none]) (st' := [.int x5, .ref x0]) (sg := [(.aload_n 0, 0), (.iload 5, 0)]) (by decide +kernel) rfl ?_
      obtain ⟨_, o15, e14, m16, h⟩ := gOb_inv h
      refine Y.callI (yC.Vi (b := x0) (As := [.int x5]) (st := []) (r := ("Partlister$Lists", T_I, 7)) hV.1 cb_I_placeInSpare lk_I_122 in_I_placeInSpare rfl se_I_placeInSpare (by decide +kernel) rfl rfl (Nat.le_of_ble_eq_true rfl) (by decide) e14 m16) (k_I_placeInSpare hV G x0 x5) h (fun v18 G17 _ h => ?_)
      refine Y.blk (pc' := 49) (L' := [some (.ref x0), some (.int x1), some (.int x2), some (.int x3), some (.int (x4 ||| ((nI 1) <<< (v18 &&& 31)))), some (.int x5), some (.int v18)]) (st' := [.int x5, .ref x0]) (sg := [(.istore 6, 0), (.iload 4, 0), (.iconst 1, nI 1), (.iload 6, 0), (.ishl, 0), (.ior, 0), (.istore 4, 0), (.aload_n 0, 0), (.iload 5, 0)]) (by decide +kernel) rfl ?_
      obtain ⟨_, o20, e19, m21, h⟩ := gOb_inv h
      refine Y.callI (yC.Vi (b := x0) (As := [.int x5]) (st := []) (r := ("Partlister$Lists", T_I, 7)) hV.1 cb_I_thingInSpare lk_I_73 in_I_thingInSpare rfl se_I_thingInSpare (by decide +kernel) rfl rfl (Nat.le_of_ble_eq_true rfl) (by decide) e19 m21) (k_I_thingInSpare hV G17 x0 x5) h (fun v23 G22 _ h => ?_)
      refine Y.blk (pc' := 56) (L' := [some (.ref x0), some (.int x1), some (.int x2), some (.int x3), some (.int (x4 ||| ((nI 1) <<< (v18 &&& 31)))), some (.int x5), some (.int v18)]) (st' := [.int v18, .int x1, .ref x0, .int v23]) (sg := [(.aload_n 0, 0), (.iload_n 1, 0), (.iload 6, 0)]) (by decide +kernel) rfl ?_
      obtain ⟨_, o25, e24, m26, h⟩ := gOb_inv h
      refine Y.callI (yC.Vi (b := x0) (As := [.int x1, .int v18]) (st := [.int v23]) (r := ("Partlister$Lists", T_I, 7)) hV.1 cb_I_thingAt lk_I_50 in_I_thingAt rfl se_I_thingAt (by decide +kernel) rfl rfl (Nat.le_of_ble_eq_true rfl) (by decide) e24 m26) (k_I_thingAt hV G22 x0 x1 v18) h (fun v28 G27 _ h => ?_)
      refine Y.ic_eq (off := 5) (tgt := 64) (by decide +kernel) (by decide) h (fun c36 h => ?_) (fun c36 h => ?_)
      · refine Y.blk (pc' := 66) (L' := [some (.ref x0), some (.int x1), some (.int x2), some (.int x3), some (.int (x4 ||| ((nI 1) <<< (v18 &&& 31)))), some (.int x5), some (.int v18)]) (st' := [.int x5]) (sg := [(.iload 5, 0)]) (by decide +kernel) rfl ?_
        refine Y.if_le (off := 15) (tgt := 81) (by decide +kernel) (by decide) h (fun c35 h => ?_) (fun c35 h => ?_)
        · refine Y.blk (pc' := 84) (L' := [some (.ref x0), some (.int x1), some (.int x2), some (.int x3), some (.int (x4 ||| ((nI 1) <<< (v18 &&& 31)))), some (.int (x5 + (nI 1))), some (.int v18)]) (st' := []) (sg := [(.iinc 5 1, nI 1)]) (by decide +kernel) rfl ?_
          refine Y.goto (off := -61) (tgt := 23) (by decide +kernel) (by decide) ?_
          refine Y.less (L' := [some (.ref x0), some (.int x1), some (.int x2), some (.int x3), some (.int (x4 ||| ((nI 1) <<< (v18 &&& 31)))), some (.int (x5 + (nI 1))), none]) (zLe_some (zLe_some (zLe_some (zLe_some (zLe_some (zLe_some (zLe_none (zLe_nil)))))))) ?_
          exact ih G27 x0 x1 x2 x3 (x4 ||| ((nI 1) <<< (v18 &&& 31))) (x5 + (nI 1)) h
        · refine Y.blk (pc' := 73) (L' := [some (.ref x0), some (.int x1), some (.int x2), some (.int x3), some (.int (x4 ||| ((nI 1) <<< (v18 &&& 31)))), some (.int x5), some (.int v18)]) (st' := [.int x2, .int x5, .ref x0]) (sg := [(.aload_n 0, 0), (.iload 5, 0), (.iload_n 2, 0)]) (by decide +kernel) rfl ?_
          obtain ⟨_, o30, e29, m31, h⟩ := gOb_inv h
          refine Y.callI (yC.Vi (b := x0) (As := [.int x5, .int x2]) (st := []) (r := ("Partlister$Lists", T_I, 7)) hV.1 cb_I_mayFollow lk_I_131 in_I_mayFollow rfl se_I_mayFollow (by decide +kernel) rfl rfl (Nat.le_of_ble_eq_true rfl) (by decide) e29 m31) (k_I_mayFollow hV G27 x0 x5 x2) h (fun v33 G32 _ h => ?_)
          refine Y.if_ne (off := 5) (tgt := 81) (by decide +kernel) (by decide) h (fun c34 h => ?_) (fun c34 h => ?_)
          · refine Y.less (L' := [none, none, none, none, none, none, none]) (zLe_none (zLe_none (zLe_none (zLe_none (zLe_none (zLe_none (zLe_none (zLe_nil)))))))) ?_
            exact hK79 G32  h
          · refine Y.blk (pc' := 84) (L' := [some (.ref x0), some (.int x1), some (.int x2), some (.int x3), some (.int (x4 ||| ((nI 1) <<< (v18 &&& 31)))), some (.int (x5 + (nI 1))), some (.int v18)]) (st' := []) (sg := [(.iinc 5 1, nI 1)]) (by decide +kernel) rfl ?_
            refine Y.goto (off := -61) (tgt := 23) (by decide +kernel) (by decide) ?_
            refine Y.less (L' := [some (.ref x0), some (.int x1), some (.int x2), some (.int x3), some (.int (x4 ||| ((nI 1) <<< (v18 &&& 31)))), some (.int (x5 + (nI 1))), none]) (zLe_some (zLe_some (zLe_some (zLe_some (zLe_some (zLe_some (zLe_none (zLe_nil)))))))) ?_
            exact ih G32 x0 x1 x2 x3 (x4 ||| ((nI 1) <<< (v18 &&& 31))) (x5 + (nI 1)) h
      · refine Y.less (L' := [none, none, none, none, none, none, none]) (zLe_none (zLe_none (zLe_none (zLe_none (zLe_none (zLe_none (zLe_none (zLe_nil)))))))) ?_
        exact hK62 G27  h
theorem k_I_isOrdering {l : Launch} {D : va_G} {B : Nat} {O : State → Heap → Prop} (hV : zG l D B O) (G : gH) (a0 : Nat) (a1 : Int32) (a2 : Int32) : gMet (zVm l D B O) m_I_isOrdering 5 [.ref a0, .int a1, .int a2] G (f_I_isOrdering G a0 a1 a2) := by
  refine gMet.of (by decide +kernel) (Nat.le_of_ble_eq_true rfl) [some (.ref a0), some (.int a1), some (.int a2), none, none, none, none] (fun ls h => zEn_ok (n := 7) h) ?_
  intro o Gf h
  unfold f_I_isOrdering at h
  refine Y.blk (pc' := 2) (L' := [some (.ref a0), some (.int a1), some (.int a2), none, none, none, none]) (st' := [.int a1, .ref a0]) (sg := [(.aload_n 0, 0), (.iload_n 1, 0)]) (by decide +kernel) rfl ?_
  obtain ⟨_, o2, e1, m3, h⟩ := gOb_inv h
  refine Y.callI (yC.Vi (b := a0) (As := [.int a1]) (st := []) (r := ("Partlister$Lists", T_I, 7)) hV.1 cb_I_lengthOf lk_I_59 in_I_lengthOf rfl se_I_lengthOf (by decide +kernel) rfl rfl (Nat.le_of_ble_eq_true rfl) (by decide) e1 m3) (k_I_lengthOf hV G a0 a1) h (fun v5 G4 _ h => ?_)
  refine Y.blk (pc' := 8) (L' := [some (.ref a0), some (.int a1), some (.int a2), some (.int v5), none, none, none]) (st' := [.int a1, .ref a0]) (sg := [(.istore_n 3, 0), (.aload_n 0, 0), (.iload_n 1, 0)]) (by decide +kernel) rfl ?_
  obtain ⟨_, o7, e6, m8, h⟩ := gOb_inv h
  refine Y.callN (yC.Vi (b := a0) (As := [.int a1]) (st := []) (r := ("Partlister$Lists", T_I, 7)) hV.1 cb_I_copyToSpare lk_I_65 in_I_copyToSpare rfl se_I_copyToSpare (by decide +kernel) rfl rfl (Nat.le_of_ble_eq_true rfl) (by decide) e6 m8) (k_I_copyToSpare hV G4 a0 a1) h (fun G9 _ h => ?_)
  refine Y.blk (pc' := 14) (L' := [some (.ref a0), some (.int a1), some (.int a2), some (.int v5), none, none, none]) (st' := [.int a2, .int v5, .ref a0]) (sg := [(.aload_n 0, 0), (.iload_n 3, 0), (.iload_n 2, 0)]) (by decide +kernel) rfl ?_
  obtain ⟨_, o11, e10, m12, h⟩ := gOb_inv h
  refine Y.callN (yC.Vi (b := a0) (As := [.int v5, .int a2]) (st := []) (r := ("Partlister$Lists", T_I, 7)) hV.1 cb_I_arrangeSpare lk_I_76 in_I_arrangeSpare rfl se_I_arrangeSpare (by decide +kernel) rfl rfl (Nat.le_of_ble_eq_true rfl) (by decide) e10 m12) (k_I_arrangeSpare hV G9 a0 v5 a2) h (fun G13 _ h => ?_)
  refine Y.blk (pc' := 23) (L' := [some (.ref a0), some (.int a1), some (.int a2), some (.int v5), some (.int (nI 0)), some (.int (nI 0)), none]) (st' := []) (sg := [(.iconst 0, nI 0), (.istore 4, 0), (.iconst 0, nI 0), (.istore 5, 0)]) (by decide +kernel) rfl ?_
  refine k_I_isOrdering_L23 hV _ _ _ ?_ ?_ ?_  zFu G13 a0 a1 a2 v5 (nI 0) (nI 0) h
  · intro G38 h
    refine Y.blk (pc' := 63) (L' := [none, none, none, none, none, none, none]) (st' := [.int (nI 0)]) (sg := [(.iconst 0, nI 0)]) (by decide +kernel) rfl ?_
    exact Y.zret rfl (by decide +kernel) h
  · intro G39 h
    refine Y.blk (pc' := 80) (L' := [none, none, none, none, none, none, none]) (st' := [.int (nI 0)]) (sg := [(.iconst 0, nI 0)]) (by decide +kernel) rfl ?_
    exact Y.zret rfl (by decide +kernel) h
  · intro G42 x40 x41 h
    refine Y.blk (pc' := 89) (L' := [none, none, none, some (.int x40), some (.int x41), none, none]) (st' := [.int x41]) (sg := [(.iload 4, 0)]) (by decide +kernel) rfl ?_
    refine Y.callI (yC.S (As := [.int x41]) (st := []) hV.1 cb_IN_bitCount lk_I_134 st_IN_bitCount (by decide +kernel) rfl rfl (Nat.le_of_ble_eq_true rfl) (by decide)) (k_IN_bitCount hV G42 x41) h (fun v45 G44 _ h => ?_)
    refine Y.blk (pc' := 93) (L' := [none, none, none, some (.int x40), some (.int x41), none, none]) (st' := [.int x40, .int v45]) (sg := [(.iload_n 3, 0)]) (by decide +kernel) rfl ?_
    refine Y.ic_ne (off := 7) (tgt := 100) (by decide +kernel) (by decide) h (fun c46 h => ?_) (fun c46 h => ?_)
    · refine Y.blk (pc' := 97) (L' := [none, none, none, some (.int x40), some (.int x41), none, none]) (st' := [.int (nI 1)]) (sg := [(.iconst 1, nI 1)]) (by decide +kernel) rfl ?_
      refine Y.goto (off := 4) (tgt := 101) (by decide +kernel) (by decide) ?_
      exact Y.zret rfl (by decide +kernel) h
    · refine Y.blk (pc' := 101) (L' := [none, none, none, some (.int x40), some (.int x41), none, none]) (st' := [.int (nI 0)]) (sg := [(.iconst 0, nI 0)]) (by decide +kernel) rfl ?_
      exact Y.zret rfl (by decide +kernel) h

def f_I_isSameBackward_L13 (K40 : gH → gR) (K48 : gH → gR) : Nat → gH → Nat → Int32 → Int32 → gR
  | 0, _, _, _, _ => none
  | n + 1, G, x0, x1, x2 =>
    if x2 < 0 then K48 G
    else gOb G x0 1 fun o11 => bI (f_I_thingInSpare G x0 x2) fun v14 G13 => gOb G13 x0 1 fun o16 => bI (f_I_thingAt G13 x0 x1 x2) fun v19 G18 => if v14 = v19 then (gOb G18 x0 1 fun o21 => bI (f_I_placeInSpare G18 x0 x2) fun v24 G23 => if v24 = x2 then f_I_isSameBackward_L13 K40 K48 n G23 x0 x1 (x2 + (-1))
        else K40 G23)
      else K40 G18
def f_I_isSameBackward (G : gH) (a0 : Nat) (a1 : Int32) : gR :=
  gOb G a0 1 fun o2 => bV (f_I_copyToSpare G a0 a1) fun G4 => gOb G4 a0 1 fun o6 => bI (f_I_lengthOf G4 a0 a1) fun v9 G8 => f_I_isSameBackward_L13 (fun G28 => rZ (nI 0) G28) (fun G29 => rZ (nI 1) G29) zFu G8 a0 a1 (v9 - (nI 1))
theorem k_I_isSameBackward_L13 {l : Launch} {D : va_G} {B : Nat} {O : State → Heap → Prop} (hV : zG l D B O) {o : gO} {Gf : gH} (K40 : gH → gR) (K48 : gH → gR) (hK40 : ∀ (G : gH), K40 G  = some (o, Gf) → Y (zVm l D B O) m_I_isSameBackward 5 o Gf 40 [none, none, none] [] G) (hK48 : ∀ (G : gH), K48 G  = some (o, Gf) → Y (zVm l D B O) m_I_isSameBackward 5 o Gf 48 [none, none, none] [] G) : ∀ (n : Nat) (G : gH) (x0 : Nat) (x1 : Int32) (x2 : Int32), f_I_isSameBackward_L13 K40 K48 n G x0 x1 x2 = some (o, Gf) → Y (zVm l D B O) m_I_isSameBackward 5 o Gf 13 [some (.ref x0), some (.int x1), some (.int x2)] [] G := by
  intro n
  induction n with
  | zero => intro G x0 x1 x2 h; cases h
  | succ n ih =>
    intro G x0 x1 x2 h
    unfold f_I_isSameBackward_L13 at h
    refine Y.blk (pc' := 14) (L' := [some (.ref x0), some (.int x1), some (.int x2)]) (st' := [.int x2]) (sg := [(.iload_n 2, 0)]) (by decide +kernel) rfl ?_
    refine Y.if_lt (off := 34) (tgt := 48) (by decide +kernel) (by decide) h (fun c27 h => ?_) (fun c27 h => ?_)
    · refine Y.less (L' := [none, none, none]) (zLe_none (zLe_none (zLe_none (zLe_nil)))) ?_
      exact hK48 G  h
    · refine Y.blk (pc' := 19) (L' := [some (.ref x0), some (.int x1), some (.int x2)]) (st' := [.int x2, .ref x0]) (sg := [(.aload_n 0, 0), (.iload_n 2, 0)]) (by decide +kernel) rfl ?_
      obtain ⟨_, o11, e10, m12, h⟩ := gOb_inv h
      refine Y.callI (yC.Vi (b := x0) (As := [.int x2]) (st := []) (r := ("Partlister$Lists", T_I, 7)) hV.1 cb_I_thingInSpare lk_I_73 in_I_thingInSpare rfl se_I_thingInSpare (by decide +kernel) rfl rfl (Nat.le_of_ble_eq_true rfl) (by decide) e10 m12) (k_I_thingInSpare hV G x0 x2) h (fun v14 G13 _ h => ?_)
      refine Y.blk (pc' := 25) (L' := [some (.ref x0), some (.int x1), some (.int x2)]) (st' := [.int x2, .int x1, .ref x0, .int v14]) (sg := [(.aload_n 0, 0), (.iload_n 1, 0), (.iload_n 2, 0)]) (by decide +kernel) rfl ?_
      obtain ⟨_, o16, e15, m17, h⟩ := gOb_inv h
      refine Y.callI (yC.Vi (b := x0) (As := [.int x1, .int x2]) (st := [.int v14]) (r := ("Partlister$Lists", T_I, 7)) hV.1 cb_I_thingAt lk_I_50 in_I_thingAt rfl se_I_thingAt (by decide +kernel) rfl rfl (Nat.le_of_ble_eq_true rfl) (by decide) e15 m17) (k_I_thingAt hV G13 x0 x1 x2) h (fun v19 G18 _ h => ?_)
      refine Y.ic_ne (off := 12) (tgt := 40) (by decide +kernel) (by decide) h (fun c26 h => ?_) (fun c26 h => ?_)
      · refine Y.blk (pc' := 33) (L' := [some (.ref x0), some (.int x1), some (.int x2)]) (st' := [.int x2, .ref x0]) (sg := [(.aload_n 0, 0), (.iload_n 2, 0)]) (by decide +kernel) rfl ?_
        obtain ⟨_, o21, e20, m22, h⟩ := gOb_inv h
        refine Y.callI (yC.Vi (b := x0) (As := [.int x2]) (st := []) (r := ("Partlister$Lists", T_I, 7)) hV.1 cb_I_placeInSpare lk_I_122 in_I_placeInSpare rfl se_I_placeInSpare (by decide +kernel) rfl rfl (Nat.le_of_ble_eq_true rfl) (by decide) e20 m22) (k_I_placeInSpare hV G18 x0 x2) h (fun v24 G23 _ h => ?_)
        refine Y.blk (pc' := 37) (L' := [some (.ref x0), some (.int x1), some (.int x2)]) (st' := [.int x2, .int v24]) (sg := [(.iload_n 2, 0)]) (by decide +kernel) rfl ?_
        refine Y.ic_eq (off := 5) (tgt := 42) (by decide +kernel) (by decide) h (fun c25 h => ?_) (fun c25 h => ?_)
        · refine Y.blk (pc' := 45) (L' := [some (.ref x0), some (.int x1), some (.int (x2 + (-1)))]) (st' := []) (sg := [(.iinc 2 (-1), -1)]) (by decide +kernel) rfl ?_
          refine Y.goto (off := -32) (tgt := 13) (by decide +kernel) (by decide) ?_
          exact ih G23 x0 x1 (x2 + (-1)) h
        · refine Y.less (L' := [none, none, none]) (zLe_none (zLe_none (zLe_none (zLe_nil)))) ?_
          exact hK40 G23  h
      · refine Y.less (L' := [none, none, none]) (zLe_none (zLe_none (zLe_none (zLe_nil)))) ?_
        exact hK40 G18  h
theorem k_I_isSameBackward {l : Launch} {D : va_G} {B : Nat} {O : State → Heap → Prop} (hV : zG l D B O) (G : gH) (a0 : Nat) (a1 : Int32) : gMet (zVm l D B O) m_I_isSameBackward 5 [.ref a0, .int a1] G (f_I_isSameBackward G a0 a1) := by
  refine gMet.of (by decide +kernel) (Nat.le_of_ble_eq_true rfl) [some (.ref a0), some (.int a1), none] (fun ls h => zEn_ok (n := 3) h) ?_
  intro o Gf h
  unfold f_I_isSameBackward at h
  refine Y.blk (pc' := 2) (L' := [some (.ref a0), some (.int a1), none]) (st' := [.int a1, .ref a0]) (sg := [(.aload_n 0, 0), (.iload_n 1, 0)]) (by decide +kernel) rfl ?_
  obtain ⟨_, o2, e1, m3, h⟩ := gOb_inv h
  refine Y.callN (yC.Vi (b := a0) (As := [.int a1]) (st := []) (r := ("Partlister$Lists", T_I, 7)) hV.1 cb_I_copyToSpare lk_I_65 in_I_copyToSpare rfl se_I_copyToSpare (by decide +kernel) rfl rfl (Nat.le_of_ble_eq_true rfl) (by decide) e1 m3) (k_I_copyToSpare hV G a0 a1) h (fun G4 _ h => ?_)
  refine Y.blk (pc' := 7) (L' := [some (.ref a0), some (.int a1), none]) (st' := [.int a1, .ref a0]) (sg := [(.aload_n 0, 0), (.iload_n 1, 0)]) (by decide +kernel) rfl ?_
  obtain ⟨_, o6, e5, m7, h⟩ := gOb_inv h
  refine Y.callI (yC.Vi (b := a0) (As := [.int a1]) (st := []) (r := ("Partlister$Lists", T_I, 7)) hV.1 cb_I_lengthOf lk_I_59 in_I_lengthOf rfl se_I_lengthOf (by decide +kernel) rfl rfl (Nat.le_of_ble_eq_true rfl) (by decide) e5 m7) (k_I_lengthOf hV G4 a0 a1) h (fun v9 G8 _ h => ?_)
  refine Y.blk (pc' := 13) (L' := [some (.ref a0), some (.int a1), some (.int (v9 - (nI 1)))]) (st' := []) (sg := [(.iconst 1, nI 1), (.isub, 0), (.istore_n 2, 0)]) (by decide +kernel) rfl ?_
  refine k_I_isSameBackward_L13 hV _ _ ?_ ?_  zFu G8 a0 a1 (v9 - (nI 1)) h
  · intro G28 h
    refine Y.blk (pc' := 41) (L' := [none, none, none]) (st' := [.int (nI 0)]) (sg := [(.iconst 0, nI 0)]) (by decide +kernel) rfl ?_
    exact Y.zret rfl (by decide +kernel) h
  · intro G29 h
    refine Y.blk (pc' := 49) (L' := [none, none, none]) (st' := [.int (nI 1)]) (sg := [(.iconst 1, nI 1)]) (by decide +kernel) rfl ?_
    exact Y.zret rfl (by decide +kernel) h

def f_I_liesInAbove_L71 (K97 : gH → gR) (K105 : gH → gR) : Nat → gH → Nat → Int32 → Int32 → Int32 → Int32 → Int32 → gR
  | 0, _, _, _, _, _, _, _ => none
  | n + 1, G, x0, x1, x2, x3, x4, x5 =>
    if x4 ≤ x5 then K105 G
    else gOb G x0 1 fun o31 => bI (f_I_thingAt G x0 x1 x5) fun v34 G33 => gOb G33 x0 1 fun o36 => bI (f_I_thingAt G33 x0 x2 (x3 + x5)) fun v39 G38 => if v34 = v39 then f_I_liesInAbove_L71 K97 K105 n G38 x0 x1 x2 x3 x4 (x5 + (nI 1))
      else K97 G38
def f_I_liesInAbove (G : gH) (a0 : Nat) (a1 : Int32) : gR :=
  gFA G a0 1 2 fun v1 => gOb G v1 2 fun o3 => bI (f_N_read G v1 a1) fun v6 G5 => if v6 = (-1) then (if (nI 2) ≤ a1 then rZ (nI 0) G5
    else rZ (nI 1) G5)
  else gFA G5 a0 1 4 fun v8 => gOb G5 v8 2 fun o10 => bI (f_N_read G5 v8 a1) fun v13 G12 => gFA G12 a0 1 4 fun v14 => gOb G12 v14 2 fun o16 => bI (f_N_read G12 v14 v6) fun v19 G18 => gOb G18 a0 1 fun o21 => bI (f_I_lengthOf G18 a0 a1) fun v24 G23 => if (v13 - v19) < 0 then rZ (nI 0) G23
    else gOb G23 a0 1 fun o26 => bI (f_I_lengthOf G23 a0 v6) fun v29 G28 => if ((v13 - v19) + v24) ≤ v29 then f_I_liesInAbove_L71 (fun G42 => rZ (nI 0) G42) (fun G43 => rZ (nI 1) G43) zFu G28 a0 a1 v6 (v13 - v19) v24 (nI 0)
      else rZ (nI 0) G28
theorem k_I_liesInAbove_L71 {l : Launch} {D : va_G} {B : Nat} {O : State → Heap → Prop} (hV : zG l D B O) {o : gO} {Gf : gH} (K97 : gH → gR) (K105 : gH → gR) (hK97 : ∀ (G : gH), K97 G  = some (o, Gf) → Y (zVm l D B O) m_I_liesInAbove 4 o Gf 97 [none, none, none, none, none, none] [] G) (hK105 : ∀ (G : gH), K105 G  = some (o, Gf) → Y (zVm l D B O) m_I_liesInAbove 4 o Gf 105 [none, none, none, none, none, none] [] G) : ∀ (n : Nat) (G : gH) (x0 : Nat) (x1 : Int32) (x2 : Int32) (x3 : Int32) (x4 : Int32) (x5 : Int32), f_I_liesInAbove_L71 K97 K105 n G x0 x1 x2 x3 x4 x5 = some (o, Gf) → Y (zVm l D B O) m_I_liesInAbove 4 o Gf 71 [some (.ref x0), some (.int x1), some (.int x2), some (.int x3), some (.int x4), some (.int x5)] [] G := by
  intro n
  induction n with
  | zero => intro G x0 x1 x2 x3 x4 x5 h; cases h
  | succ n ih =>
    intro G x0 x1 x2 x3 x4 x5 h
    unfold f_I_liesInAbove_L71 at h
    refine Y.blk (pc' := 75) (L' := [some (.ref x0), some (.int x1), some (.int x2), some (.int x3), some (.int x4), some (.int x5)]) (st' := [.int x4, .int x5]) (sg := [(.iload 5, 0), (.iload 4, 0)]) (by decide +kernel) rfl ?_
    refine Y.ic_ge (off := 30) (tgt := 105) (by decide +kernel) (by decide) h (fun c41 h => ?_) (fun c41 h => ?_)
    · refine Y.less (L' := [none, none, none, none, none, none]) (zLe_none (zLe_none (zLe_none (zLe_none (zLe_none (zLe_none (zLe_nil))))))) ?_
      exact hK105 G  h
    · refine Y.blk (pc' := 82) (L' := [some (.ref x0), some (.int x1), some (.int x2), some (.int x3), some (.int x4), some (.int x5)]) (st' := [.int x5, .int x1, .ref x0]) (sg := [(.aload_n 0, 0), (.iload_n 1, 0), (.iload 5, 0)]) (by decide +kernel) rfl ?_
      obtain ⟨_, o31, e30, m32, h⟩ := gOb_inv h
      refine Y.callI (yC.Vi (b := x0) (As := [.int x1, .int x5]) (st := []) (r := ("Partlister$Lists", T_I, 7)) hV.1 cb_I_thingAt lk_I_50 in_I_thingAt rfl se_I_thingAt (by decide +kernel) rfl rfl (Nat.le_of_ble_eq_true rfl) (by decide) e30 m32) (k_I_thingAt hV G x0 x1 x5) h (fun v34 G33 _ h => ?_)
      refine Y.blk (pc' := 91) (L' := [some (.ref x0), some (.int x1), some (.int x2), some (.int x3), some (.int x4), some (.int x5)]) (st' := [.int (x3 + x5), .int x2, .ref x0, .int v34]) (sg := [(.aload_n 0, 0), (.iload_n 2, 0), (.iload_n 3, 0), (.iload 5, 0), (.iadd, 0)]) (by decide +kernel) rfl ?_
      obtain ⟨_, o36, e35, m37, h⟩ := gOb_inv h
      refine Y.callI (yC.Vi (b := x0) (As := [.int x2, .int (x3 + x5)]) (st := [.int v34]) (r := ("Partlister$Lists", T_I, 7)) hV.1 cb_I_thingAt lk_I_50 in_I_thingAt rfl se_I_thingAt (by decide +kernel) rfl rfl (Nat.le_of_ble_eq_true rfl) (by decide) e35 m37) (k_I_thingAt hV G33 x0 x2 (x3 + x5)) h (fun v39 G38 _ h => ?_)
      refine Y.ic_eq (off := 5) (tgt := 99) (by decide +kernel) (by decide) h (fun c40 h => ?_) (fun c40 h => ?_)
      · refine Y.blk (pc' := 102) (L' := [some (.ref x0), some (.int x1), some (.int x2), some (.int x3), some (.int x4), some (.int (x5 + (nI 1)))]) (st' := []) (sg := [(.iinc 5 1, nI 1)]) (by decide +kernel) rfl ?_
        refine Y.goto (off := -31) (tgt := 71) (by decide +kernel) (by decide) ?_
        exact ih G38 x0 x1 x2 x3 x4 (x5 + (nI 1)) h
      · refine Y.less (L' := [none, none, none, none, none, none]) (zLe_none (zLe_none (zLe_none (zLe_none (zLe_none (zLe_none (zLe_nil))))))) ?_
        exact hK97 G38  h
theorem k_I_liesInAbove {l : Launch} {D : va_G} {B : Nat} {O : State → Heap → Prop} (hV : zG l D B O) (G : gH) (a0 : Nat) (a1 : Int32) : gMet (zVm l D B O) m_I_liesInAbove 4 [.ref a0, .int a1] G (f_I_liesInAbove G a0 a1) := by
  refine gMet.of (by decide +kernel) (Nat.le_of_ble_eq_true rfl) [some (.ref a0), some (.int a1), none, none, none, none] (fun ls h => zEn_ok (n := 6) h) ?_
  intro o Gf h
  unfold f_I_liesInAbove at h
  refine Y.blk (pc' := 1) (L' := [some (.ref a0), some (.int a1), none, none, none, none]) (st' := [.ref a0]) (sg := [(.aload_n 0, 0)]) (by decide +kernel) rfl ?_
  refine Y.getA fl_I_23 (by decide +kernel) h (fun v1 h => ?_)
  refine Y.blk (pc' := 5) (L' := [some (.ref a0), some (.int a1), none, none, none, none]) (st' := [.int a1, .ref v1]) (sg := [(.iload_n 1, 0)]) (by decide +kernel) rfl ?_
  obtain ⟨_, o3, e2, m4, h⟩ := gOb_inv h
  refine Y.callI (yC.Vi (b := v1) (As := [.int a1]) (st := []) (r := ("Partlister$Numbers", T_N, 1)) hV.1 cb_N_read lk_I_39 in_N_read rfl se_N_read (by decide +kernel) rfl rfl (Nat.le_of_ble_eq_true rfl) (by decide) e2 m4) (k_N_read hV G v1 a1) h (fun v6 G5 _ h => ?_)
  refine Y.blk (pc' := 11) (L' := [some (.ref a0), some (.int a1), some (.int v6), none, none, none]) (st' := [.int (-1), .int v6]) (sg := [(.istore_n 2, 0), (.iload_n 2, 0), (.iconst (-1), -1)]) (by decide +kernel) rfl ?_
  refine Y.ic_ne (off := 14) (tgt := 25) (by decide +kernel) (by decide) h (fun c46 h => ?_) (fun c46 h => ?_)
  · refine Y.blk (pc' := 16) (L' := [some (.ref a0), some (.int a1), some (.int v6), none, none, none]) (st' := [.int (nI 2), .int a1]) (sg := [(.iload_n 1, 0), (.iconst 2, nI 2)]) (by decide +kernel) rfl ?_
    refine Y.ic_ge (off := 7) (tgt := 23) (by decide +kernel) (by decide) h (fun c7 h => ?_) (fun c7 h => ?_)
    · refine Y.blk (pc' := 24) (L' := [some (.ref a0), some (.int a1), some (.int v6), none, none, none]) (st' := [.int (nI 0)]) (sg := [(.iconst 0, nI 0)]) (by decide +kernel) rfl ?_
      exact Y.zret rfl (by decide +kernel) h
    · refine Y.blk (pc' := 20) (L' := [some (.ref a0), some (.int a1), some (.int v6), none, none, none]) (st' := [.int (nI 1)]) (sg := [(.iconst 1, nI 1)]) (by decide +kernel) rfl ?_
      refine Y.goto (off := 4) (tgt := 24) (by decide +kernel) (by decide) ?_
      exact Y.zret rfl (by decide +kernel) h
  · refine Y.blk (pc' := 26) (L' := [some (.ref a0), some (.int a1), some (.int v6), none, none, none]) (st' := [.ref a0]) (sg := [(.aload_n 0, 0)]) (by decide +kernel) rfl ?_
    refine Y.getA fl_I_29 (by decide +kernel) h (fun v8 h => ?_)
    refine Y.blk (pc' := 30) (L' := [some (.ref a0), some (.int a1), some (.int v6), none, none, none]) (st' := [.int a1, .ref v8]) (sg := [(.iload_n 1, 0)]) (by decide +kernel) rfl ?_
    obtain ⟨_, o10, e9, m11, h⟩ := gOb_inv h
    refine Y.callI (yC.Vi (b := v8) (As := [.int a1]) (st := []) (r := ("Partlister$Numbers", T_N, 1)) hV.1 cb_N_read lk_I_39 in_N_read rfl se_N_read (by decide +kernel) rfl rfl (Nat.le_of_ble_eq_true rfl) (by decide) e9 m11) (k_N_read hV G5 v8 a1) h (fun v13 G12 _ h => ?_)
    refine Y.blk (pc' := 34) (L' := [some (.ref a0), some (.int a1), some (.int v6), none, none, none]) (st' := [.ref a0, .int v13]) (sg := [(.aload_n 0, 0)]) (by decide +kernel) rfl ?_
    refine Y.getA fl_I_29 (by decide +kernel) h (fun v14 h => ?_)
    refine Y.blk (pc' := 38) (L' := [some (.ref a0), some (.int a1), some (.int v6), none, none, none]) (st' := [.int v6, .ref v14, .int v13]) (sg := [(.iload_n 2, 0)]) (by decide +kernel) rfl ?_
    obtain ⟨_, o16, e15, m17, h⟩ := gOb_inv h
    refine Y.callI (yC.Vi (b := v14) (As := [.int v6]) (st := [.int v13]) (r := ("Partlister$Numbers", T_N, 1)) hV.1 cb_N_read lk_I_39 in_N_read rfl se_N_read (by decide +kernel) rfl rfl (Nat.le_of_ble_eq_true rfl) (by decide) e15 m17) (k_N_read hV G12 v14 v6) h (fun v19 G18 _ h => ?_)
    refine Y.blk (pc' := 45) (L' := [some (.ref a0), some (.int a1), some (.int v6), some (.int (v13 - v19)), none, none]) (st' := [.int a1, .ref a0]) (sg := [(.isub, 0), (.istore_n 3, 0), (.aload_n 0, 0), (.iload_n 1, 0)]) (by decide +kernel) rfl ?_
    obtain ⟨_, o21, e20, m22, h⟩ := gOb_inv h
    refine Y.callI (yC.Vi (b := a0) (As := [.int a1]) (st := []) (r := ("Partlister$Lists", T_I, 7)) hV.1 cb_I_lengthOf lk_I_59 in_I_lengthOf rfl se_I_lengthOf (by decide +kernel) rfl rfl (Nat.le_of_ble_eq_true rfl) (by decide) e20 m22) (k_I_lengthOf hV G18 a0 a1) h (fun v24 G23 _ h => ?_)
    refine Y.blk (pc' := 51) (L' := [some (.ref a0), some (.int a1), some (.int v6), some (.int (v13 - v19)), some (.int v24), none]) (st' := [.int (v13 - v19)]) (sg := [(.istore 4, 0), (.iload_n 3, 0)]) (by decide +kernel) rfl ?_
    refine Y.if_lt (off := 15) (tgt := 66) (by decide +kernel) (by decide) h (fun c45 h => ?_) (fun c45 h => ?_)
    · refine Y.blk (pc' := 67) (L' := [some (.ref a0), some (.int a1), some (.int v6), some (.int (v13 - v19)), some (.int v24), none]) (st' := [.int (nI 0)]) (sg := [(.iconst 0, nI 0)]) (by decide +kernel) rfl ?_
      exact Y.zret rfl (by decide +kernel) h
    · refine Y.blk (pc' := 60) (L' := [some (.ref a0), some (.int a1), some (.int v6), some (.int (v13 - v19)), some (.int v24), none]) (st' := [.int v6, .ref a0, .int ((v13 - v19) + v24)]) (sg := [(.iload_n 3, 0), (.iload 4, 0), (.iadd, 0), (.aload_n 0, 0), (.iload_n 2, 0)]) (by decide +kernel) rfl ?_
      obtain ⟨_, o26, e25, m27, h⟩ := gOb_inv h
      refine Y.callI (yC.Vi (b := a0) (As := [.int v6]) (st := [.int ((v13 - v19) + v24)]) (r := ("Partlister$Lists", T_I, 7)) hV.1 cb_I_lengthOf lk_I_59 in_I_lengthOf rfl se_I_lengthOf (by decide +kernel) rfl rfl (Nat.le_of_ble_eq_true rfl) (by decide) e25 m27) (k_I_lengthOf hV G23 a0 v6) h (fun v29 G28 _ h => ?_)
      refine Y.ic_le (off := 5) (tgt := 68) (by decide +kernel) (by decide) h (fun c44 h => ?_) (fun c44 h => ?_)
      · refine Y.blk (pc' := 71) (L' := [some (.ref a0), some (.int a1), some (.int v6), some (.int (v13 - v19)), some (.int v24), some (.int (nI 0))]) (st' := []) (sg := [(.iconst 0, nI 0), (.istore 5, 0)]) (by decide +kernel) rfl ?_
        refine k_I_liesInAbove_L71 hV _ _ ?_ ?_  zFu G28 a0 a1 v6 (v13 - v19) v24 (nI 0) h
        · intro G42 h
          refine Y.blk (pc' := 98) (L' := [none, none, none, none, none, none]) (st' := [.int (nI 0)]) (sg := [(.iconst 0, nI 0)]) (by decide +kernel) rfl ?_
          exact Y.zret rfl (by decide +kernel) h
        · intro G43 h
          refine Y.blk (pc' := 106) (L' := [none, none, none, none, none, none]) (st' := [.int (nI 1)]) (sg := [(.iconst 1, nI 1)]) (by decide +kernel) rfl ?_
          exact Y.zret rfl (by decide +kernel) h
      · refine Y.blk (pc' := 67) (L' := [some (.ref a0), some (.int a1), some (.int v6), some (.int (v13 - v19)), some (.int v24), none]) (st' := [.int (nI 0)]) (sg := [(.iconst 0, nI 0)]) (by decide +kernel) rfl ?_
        exact Y.zret rfl (by decide +kernel) h

def f_I_areSound_L44 (K66 : gH → gR) (K74 : gH → Nat → Int32 → gR) : Nat → gH → Nat → Int32 → Int32 → gR
  | 0, _, _, _, _ => none
  | n + 1, G, x0, x1, x2 =>
    if (nI 5) ≤ x2 then K74 G x0 x1
    else gOb G x0 1 fun o7 => bI (f_I_isThere G x0 x1) fun v10 G9 => if v10 = 0 then f_I_areSound_L44 K66 K74 n G9 x0 x1 (x2 + (nI 1))
      else gOb G9 x0 1 fun o12 => bI (f_I_isOrdering G9 x0 x1 x2) fun v15 G14 => if v15 = 0 then K66 G14
        else f_I_areSound_L44 K66 K74 n G14 x0 x1 (x2 + (nI 1))
def f_I_areSound_L2 (K40 : gH → gR) (K66 : gH → gR) (K80 : gH → gR) : Nat → gH → Nat → Int32 → gR
  | 0, _, _, _ => none
  | n + 1, G, x0, x1 =>
    if (nI 6) ≤ x1 then K80 G
    else gOb G x0 1 fun o2 => bI (f_I_isThere G x0 x1) fun v5 G4 => if v5 = 0 then f_I_areSound_L44 (fun G19 => K66 G19) (fun G22 x20 x21 => f_I_areSound_L2 K40 K66 K80 n G22 x20 (x21 + (nI 1))) zFu G4 x0 x1 (nI 0)
      else gOb G4 x0 1 fun o24 => bI (f_I_liesInAbove G4 x0 x1) fun v27 G26 => if v27 = 0 then K40 G26
        else gOb G26 x0 1 fun o29 => bI (f_I_isSameBackward G26 x0 x1) fun v32 G31 => if v32 = 0 then K40 G31
          else gOb G31 x0 1 fun o34 => bI (f_I_areKeysFound G31 x0 x1) fun v37 G36 => if v37 = 0 then K40 G36
            else f_I_areSound_L44 (fun G38 => K66 G38) (fun G41 x39 x40 => f_I_areSound_L2 K40 K66 K80 n G41 x39 (x40 + (nI 1))) zFu G36 x0 x1 (nI 0)
def f_I_areSound (G : gH) (a0 : Nat) : gR :=
  f_I_areSound_L2 (fun G47 => rZ (nI 0) G47) (fun G48 => rZ (nI 0) G48) (fun G49 => rZ (nI 1) G49) zFu G a0 (nI 0)
theorem k_I_areSound_L44 {l : Launch} {D : va_G} {B : Nat} {O : State → Heap → Prop} (hV : zG l D B O) {o : gO} {Gf : gH} (K66 : gH → gR) (K74 : gH → Nat → Int32 → gR) (hK66 : ∀ (G : gH), K66 G  = some (o, Gf) → Y (zVm l D B O) m_I_areSound 6 o Gf 66 [none, none, none] [] G) (hK74 : ∀ (G : gH) (x0 : Nat) (x1 : Int32), K74 G x0 x1 = some (o, Gf) → Y (zVm l D B O) m_I_areSound 6 o Gf 74 [some (.ref x0), some (.int x1), none] [] G) : ∀ (n : Nat) (G : gH) (x0 : Nat) (x1 : Int32) (x2 : Int32), f_I_areSound_L44 K66 K74 n G x0 x1 x2 = some (o, Gf) → Y (zVm l D B O) m_I_areSound 6 o Gf 44 [some (.ref x0), some (.int x1), some (.int x2)] [] G := by
  intro n
  induction n with
  | zero => intro G x0 x1 x2 h; cases h
  | succ n ih =>
    intro G x0 x1 x2 h
    unfold f_I_areSound_L44 at h
    refine Y.blk (pc' := 46) (L' := [some (.ref x0), some (.int x1), some (.int x2)]) (st' := [.int (nI 5), .int x2]) (sg := [(.iload_n 2, 0), (.iconst 5, nI 5)]) (by decide +kernel) rfl ?_
    refine Y.ic_ge (off := 28) (tgt := 74) (by decide +kernel) (by decide) h (fun c18 h => ?_) (fun c18 h => ?_)
    · refine Y.less (L' := [some (.ref x0), some (.int x1), none]) (zLe_some (zLe_some (zLe_none (zLe_nil)))) ?_
      exact hK74 G x0 x1 h
    · refine Y.blk (pc' := 51) (L' := [some (.ref x0), some (.int x1), some (.int x2)]) (st' := [.int x1, .ref x0]) (sg := [(.aload_n 0, 0), (.iload_n 1, 0)]) (by decide +kernel) rfl ?_
      obtain ⟨_, o7, e6, m8, h⟩ := gOb_inv h
      refine Y.callI (yC.Vi (b := x0) (As := [.int x1]) (st := []) (r := ("Partlister$Lists", T_I, 7)) hV.1 cb_I_isThere lk_I_86 in_I_isThere rfl se_I_isThere (by decide +kernel) rfl rfl (Nat.le_of_ble_eq_true rfl) (by decide) e6 m8) (k_I_isThere hV G x0 x1) h (fun v10 G9 _ h => ?_)
      refine Y.if_eq (off := 14) (tgt := 68) (by decide +kernel) (by decide) h (fun c17 h => ?_) (fun c17 h => ?_)
      · refine Y.blk (pc' := 71) (L' := [some (.ref x0), some (.int x1), some (.int (x2 + (nI 1)))]) (st' := []) (sg := [(.iinc 2 1, nI 1)]) (by decide +kernel) rfl ?_
        refine Y.goto (off := -27) (tgt := 44) (by decide +kernel) (by decide) ?_
        exact ih G9 x0 x1 (x2 + (nI 1)) h
      · refine Y.blk (pc' := 60) (L' := [some (.ref x0), some (.int x1), some (.int x2)]) (st' := [.int x2, .int x1, .ref x0]) (sg := [(.aload_n 0, 0), (.iload_n 1, 0), (.iload_n 2, 0)]) (by decide +kernel) rfl ?_
        obtain ⟨_, o12, e11, m13, h⟩ := gOb_inv h
        refine Y.callI (yC.Vi (b := x0) (As := [.int x1, .int x2]) (st := []) (r := ("Partlister$Lists", T_I, 7)) hV.1 cb_I_isOrdering lk_I_119 in_I_isOrdering rfl se_I_isOrdering (by decide +kernel) rfl rfl (Nat.le_of_ble_eq_true rfl) (by decide) e11 m13) (k_I_isOrdering hV G9 x0 x1 x2) h (fun v15 G14 _ h => ?_)
        refine Y.if_ne (off := 5) (tgt := 68) (by decide +kernel) (by decide) h (fun c16 h => ?_) (fun c16 h => ?_)
        · refine Y.less (L' := [none, none, none]) (zLe_none (zLe_none (zLe_none (zLe_nil)))) ?_
          exact hK66 G14  h
        · refine Y.blk (pc' := 71) (L' := [some (.ref x0), some (.int x1), some (.int (x2 + (nI 1)))]) (st' := []) (sg := [(.iinc 2 1, nI 1)]) (by decide +kernel) rfl ?_
          refine Y.goto (off := -27) (tgt := 44) (by decide +kernel) (by decide) ?_
          exact ih G14 x0 x1 (x2 + (nI 1)) h
theorem k_I_areSound_L2 {l : Launch} {D : va_G} {B : Nat} {O : State → Heap → Prop} (hV : zG l D B O) {o : gO} {Gf : gH} (K40 : gH → gR) (K66 : gH → gR) (K80 : gH → gR) (hK40 : ∀ (G : gH), K40 G  = some (o, Gf) → Y (zVm l D B O) m_I_areSound 6 o Gf 40 [none, none, none] [] G) (hK66 : ∀ (G : gH), K66 G  = some (o, Gf) → Y (zVm l D B O) m_I_areSound 6 o Gf 66 [none, none, none] [] G) (hK80 : ∀ (G : gH), K80 G  = some (o, Gf) → Y (zVm l D B O) m_I_areSound 6 o Gf 80 [none, none, none] [] G) : ∀ (n : Nat) (G : gH) (x0 : Nat) (x1 : Int32), f_I_areSound_L2 K40 K66 K80 n G x0 x1 = some (o, Gf) → Y (zVm l D B O) m_I_areSound 6 o Gf 2 [some (.ref x0), some (.int x1), none] [] G := by
  intro n
  induction n with
  | zero => intro G x0 x1 h; cases h
  | succ n ih =>
    intro G x0 x1 h
    unfold f_I_areSound_L2 at h
    refine Y.blk (pc' := 5) (L' := [some (.ref x0), some (.int x1), none]) (st' := [.int (nI 6), .int x1]) (sg := [(.iload_n 1, 0), (.bipush 6, nI 6)]) (by decide +kernel) rfl ?_
    refine Y.ic_ge (off := 75) (tgt := 80) (by decide +kernel) (by decide) h (fun c46 h => ?_) (fun c46 h => ?_)
    · refine Y.less (L' := [none, none, none]) (zLe_none (zLe_none (zLe_some (zLe_nil)))) ?_
      exact hK80 G  h
    · refine Y.blk (pc' := 10) (L' := [some (.ref x0), some (.int x1), none]) (st' := [.int x1, .ref x0]) (sg := [(.aload_n 0, 0), (.iload_n 1, 0)]) (by decide +kernel) rfl ?_
      obtain ⟨_, o2, e1, m3, h⟩ := gOb_inv h
      refine Y.callI (yC.Vi (b := x0) (As := [.int x1]) (st := []) (r := ("Partlister$Lists", T_I, 7)) hV.1 cb_I_isThere lk_I_86 in_I_isThere rfl se_I_isThere (by decide +kernel) rfl rfl (Nat.le_of_ble_eq_true rfl) (by decide) e1 m3) (k_I_isThere hV G x0 x1) h (fun v5 G4 _ h => ?_)
      refine Y.if_eq (off := 29) (tgt := 42) (by decide +kernel) (by decide) h (fun c45 h => ?_) (fun c45 h => ?_)
      · refine Y.blk (pc' := 44) (L' := [some (.ref x0), some (.int x1), some (.int (nI 0))]) (st' := []) (sg := [(.iconst 0, nI 0), (.istore_n 2, 0)]) (by decide +kernel) rfl ?_
        refine k_I_areSound_L44 hV _ _ ?_ ?_  zFu G4 x0 x1 (nI 0) h
        · intro G19 h
          exact hK66 G19  h
        · intro G22 x20 x21 h
          refine Y.blk (pc' := 77) (L' := [some (.ref x20), some (.int (x21 + (nI 1))), none]) (st' := []) (sg := [(.iinc 1 1, nI 1)]) (by decide +kernel) rfl ?_
          refine Y.goto (off := -75) (tgt := 2) (by decide +kernel) (by decide) ?_
          exact ih G22 x20 (x21 + (nI 1)) h
      · refine Y.blk (pc' := 18) (L' := [some (.ref x0), some (.int x1), none]) (st' := [.int x1, .ref x0]) (sg := [(.aload_n 0, 0), (.iload_n 1, 0)]) (by decide +kernel) rfl ?_
        obtain ⟨_, o24, e23, m25, h⟩ := gOb_inv h
        refine Y.callI (yC.Vi (b := x0) (As := [.int x1]) (st := []) (r := ("Partlister$Lists", T_I, 7)) hV.1 cb_I_liesInAbove lk_I_110 in_I_liesInAbove rfl se_I_liesInAbove (by decide +kernel) rfl rfl (Nat.le_of_ble_eq_true rfl) (by decide) e23 m25) (k_I_liesInAbove hV G4 x0 x1) h (fun v27 G26 _ h => ?_)
        refine Y.if_eq (off := 19) (tgt := 40) (by decide +kernel) (by decide) h (fun c44 h => ?_) (fun c44 h => ?_)
        · refine Y.less (L' := [none, none, none]) (zLe_none (zLe_none (zLe_some (zLe_nil)))) ?_
          exact hK40 G26  h
        · refine Y.blk (pc' := 26) (L' := [some (.ref x0), some (.int x1), none]) (st' := [.int x1, .ref x0]) (sg := [(.aload_n 0, 0), (.iload_n 1, 0)]) (by decide +kernel) rfl ?_
          obtain ⟨_, o29, e28, m30, h⟩ := gOb_inv h
          refine Y.callI (yC.Vi (b := x0) (As := [.int x1]) (st := []) (r := ("Partlister$Lists", T_I, 7)) hV.1 cb_I_isSameBackward lk_I_113 in_I_isSameBackward rfl se_I_isSameBackward (by decide +kernel) rfl rfl (Nat.le_of_ble_eq_true rfl) (by decide) e28 m30) (k_I_isSameBackward hV G26 x0 x1) h (fun v32 G31 _ h => ?_)
          refine Y.if_eq (off := 11) (tgt := 40) (by decide +kernel) (by decide) h (fun c43 h => ?_) (fun c43 h => ?_)
          · refine Y.less (L' := [none, none, none]) (zLe_none (zLe_none (zLe_some (zLe_nil)))) ?_
            exact hK40 G31  h
          · refine Y.blk (pc' := 34) (L' := [some (.ref x0), some (.int x1), none]) (st' := [.int x1, .ref x0]) (sg := [(.aload_n 0, 0), (.iload_n 1, 0)]) (by decide +kernel) rfl ?_
            obtain ⟨_, o34, e33, m35, h⟩ := gOb_inv h
            refine Y.callI (yC.Vi (b := x0) (As := [.int x1]) (st := []) (r := ("Partlister$Lists", T_I, 7)) hV.1 cb_I_areKeysFound lk_I_116 in_I_areKeysFound rfl se_I_areKeysFound (by decide +kernel) rfl rfl (Nat.le_of_ble_eq_true rfl) (by decide) e33 m35) (k_I_areKeysFound hV G31 x0 x1) h (fun v37 G36 _ h => ?_)
            refine Y.if_ne (off := 5) (tgt := 42) (by decide +kernel) (by decide) h (fun c42 h => ?_) (fun c42 h => ?_)
            · refine Y.less (L' := [none, none, none]) (zLe_none (zLe_none (zLe_some (zLe_nil)))) ?_
              exact hK40 G36  h
            · refine Y.blk (pc' := 44) (L' := [some (.ref x0), some (.int x1), some (.int (nI 0))]) (st' := []) (sg := [(.iconst 0, nI 0), (.istore_n 2, 0)]) (by decide +kernel) rfl ?_
              refine k_I_areSound_L44 hV _ _ ?_ ?_  zFu G36 x0 x1 (nI 0) h
              · intro G38 h
                exact hK66 G38  h
              · intro G41 x39 x40 h
                refine Y.blk (pc' := 77) (L' := [some (.ref x39), some (.int (x40 + (nI 1))), none]) (st' := []) (sg := [(.iinc 1 1, nI 1)]) (by decide +kernel) rfl ?_
                refine Y.goto (off := -75) (tgt := 2) (by decide +kernel) (by decide) ?_
                exact ih G41 x39 (x40 + (nI 1)) h
theorem k_I_areSound {l : Launch} {D : va_G} {B : Nat} {O : State → Heap → Prop} (hV : zG l D B O) (G : gH) (a0 : Nat) : gMet (zVm l D B O) m_I_areSound 6 [.ref a0] G (f_I_areSound G a0) := by
  refine gMet.of (by decide +kernel) (Nat.le_of_ble_eq_true rfl) [some (.ref a0), none, none] (fun ls h => zEn_ok (n := 3) h) ?_
  intro o Gf h
  unfold f_I_areSound at h
  refine Y.blk (pc' := 2) (L' := [some (.ref a0), some (.int (nI 0)), none]) (st' := []) (sg := [(.iconst 0, nI 0), (.istore_n 1, 0)]) (by decide +kernel) rfl ?_
  refine k_I_areSound_L2 hV _ _ _ ?_ ?_ ?_  zFu G a0 (nI 0) h
  · intro G47 h
    refine Y.blk (pc' := 41) (L' := [none, none, none]) (st' := [.int (nI 0)]) (sg := [(.iconst 0, nI 0)]) (by decide +kernel) rfl ?_
    exact Y.zret rfl (by decide +kernel) h
  · intro G48 h
    refine Y.blk (pc' := 67) (L' := [none, none, none]) (st' := [.int (nI 0)]) (sg := [(.iconst 0, nI 0)]) (by decide +kernel) rfl ?_
    exact Y.zret rfl (by decide +kernel) h
  · intro G49 h
    refine Y.blk (pc' := 81) (L' := [none, none, none]) (st' := [.int (nI 1)]) (sg := [(.iconst 1, nI 1)]) (by decide +kernel) rfl ?_
    exact Y.zret rfl (by decide +kernel) h

def f_X_digest_L6 (K29 : gH → Nat → Int64 → gR) : Nat → gH → Nat → Int64 → Int32 → gR
  | 0, _, _, _, _ => none
  | n + 1, G, x0, x1, x3 =>
    if (nI 8) ≤ x3 then K29 G x0 x1
    else gOb G x0 3 fun o2 => bI (f_X_worthOfHouse G x0 x3) fun v5 G4 => bL (f_X_mix G4 x1 v5.toInt64) fun v8 G7 => f_X_digest_L6 K29 n G7 x0 v8 (x3 + (nI 1))
def f_X_digest_L31 (K75 : gH → Nat → Int64 → gR) : Nat → gH → Nat → Int64 → Int32 → gR
  | 0, _, _, _, _ => none
  | n + 1, G, x0, x1, x3 =>
    if (nI 6) ≤ x3 then K75 G x0 x1
    else gFA G x0 3 0 fun v13 => gOb G v13 1 fun o15 => bI (f_I_lengthOf G v13 x3) fun v18 G17 => bL (f_X_mix G17 x1 v18.toInt64) fun v21 G20 => gFA G20 x0 3 0 fun v22 => gOb G20 v22 1 fun o24 => bI (f_I_isThere G20 v22 x3) fun v27 G26 => if v27 = 0 then f_X_digest_L31 K75 n G26 x0 v21 (x3 + (nI 1))
      else gOb G26 x0 3 fun o29 => bL (f_X_mixList G26 x0 v21 x3) fun v32 G31 => f_X_digest_L31 K75 n G31 x0 v32 (x3 + (nI 1))
def f_X_digest_L86 (K131 : gH → Nat → Int64 → Int32 → gR) : Nat → gH → Nat → Int64 → Int32 → Int32 → gR
  | 0, _, _, _, _, _ => none
  | n + 1, G, x0, x1, x3, x4 =>
    if (nI 6) ≤ x4 then K131 G x0 x1 x3
    else gFA G x0 3 0 fun v38 => gOb G v38 1 fun o40 => bI (f_I_isThere G v38 x3) fun v43 G42 => if v43 = 0 then f_X_digest_L86 K131 n G42 x0 x1 x3 (x4 + (nI 1))
      else gFA G42 x0 3 0 fun v44 => gOb G42 v44 1 fun o46 => bI (f_I_isThere G42 v44 x4) fun v49 G48 => if v49 = 0 then f_X_digest_L86 K131 n G48 x0 x1 x3 (x4 + (nI 1))
        else gOb G48 x0 3 fun o51 => bL (f_X_mixPair G48 x0 x1 x3 x4) fun v54 G53 => f_X_digest_L86 K131 n G53 x0 v54 x3 (x4 + (nI 1))
def f_X_digest_L77 (K137 : gH → Nat → Int64 → gR) : Nat → gH → Nat → Int64 → Int32 → gR
  | 0, _, _, _, _ => none
  | n + 1, G, x0, x1, x3 =>
    if (nI 6) ≤ x3 then K137 G x0 x1
    else f_X_digest_L86 (fun G61 x58 x59 x60 => f_X_digest_L77 K137 n G61 x58 x59 (x60 + (nI 1))) zFu G x0 x1 x3 (nI 0)
def f_X_digest_L147 (K173 : gH → Nat → Int64 → Int32 → gR) : Nat → gH → Nat → Int64 → Int32 → Int32 → gR
  | 0, _, _, _, _, _ => none
  | n + 1, G, x0, x1, x3, x4 =>
    if (nI 7) ≤ x4 then K173 G x0 x1 x3
    else gOb G x0 3 fun o67 => bI (f_X_worthOfCursor G x0 x3 x4) fun v70 G69 => bL (f_X_mix G69 x1 v70.toInt64) fun v73 G72 => f_X_digest_L147 K173 n G72 x0 v73 x3 (x4 + (nI 1))
def f_X_digest_L139 (K179 : gH → Nat → Int64 → gR) : Nat → gH → Nat → Int64 → Int32 → gR
  | 0, _, _, _, _ => none
  | n + 1, G, x0, x1, x3 =>
    if (nI 3) ≤ x3 then K179 G x0 x1
    else f_X_digest_L147 (fun G78 x75 x76 x77 => f_X_digest_L139 K179 n G78 x75 x76 (x77 + (nI 1))) zFu G x0 x1 x3 (nI 0)
def f_X_digest (G : gH) (a0 : Nat) : gR :=
  f_X_digest_L6 (fun G12 x10 x11 => f_X_digest_L31 (fun G37 x35 x36 => f_X_digest_L77 (fun G65 x63 x64 => f_X_digest_L139 (fun G82 x80 x81 => gFA G82 x80 3 0 fun v83 => gOb G82 v83 1 fun o85 => bI (f_I_areSound G82 v83) fun v88 G87 => if v88 = 0 then bL (f_X_mix G87 x81 (lN 0)) fun v91 G90 => rL v91 G90
          else bL (f_X_mix G87 x81 (lN 1)) fun v94 G93 => rL v94 G93) zFu G65 x63 x64 (nI 0)) zFu G37 x35 x36 (nI 0)) zFu G12 x10 x11 (nI 0)) zFu G a0 (lN 2203) (nI 0)
theorem k_X_digest_L6 {l : Launch} {D : va_G} {B : Nat} {O : State → Heap → Prop} (hV : zG l D B O) {o : gO} {Gf : gH} (K29 : gH → Nat → Int64 → gR) (hK29 : ∀ (G : gH) (x0 : Nat) (x1 : Int64), K29 G x0 x1 = some (o, Gf) → Y (zVm l D B O) m_X_digest 7 o Gf 29 [some (.ref x0), some (.long x1), none, none, none] [] G) : ∀ (n : Nat) (G : gH) (x0 : Nat) (x1 : Int64) (x3 : Int32), f_X_digest_L6 K29 n G x0 x1 x3 = some (o, Gf) → Y (zVm l D B O) m_X_digest 7 o Gf 6 [some (.ref x0), some (.long x1), none, some (.int x3), none] [] G := by
  intro n
  induction n with
  | zero => intro G x0 x1 x3 h; cases h
  | succ n ih =>
    intro G x0 x1 x3 h
    unfold f_X_digest_L6 at h
    refine Y.blk (pc' := 9) (L' := [some (.ref x0), some (.long x1), none, some (.int x3), none]) (st' := [.int (nI 8), .int x3]) (sg := [(.iload_n 3, 0), (.bipush 8, nI 8)]) (by decide +kernel) rfl ?_
    refine Y.ic_ge (off := 20) (tgt := 29) (by decide +kernel) (by decide) h (fun c9 h => ?_) (fun c9 h => ?_)
    · refine Y.less (L' := [some (.ref x0), some (.long x1), none, none, none]) (zLe_some (zLe_some (zLe_some (zLe_none (zLe_some (zLe_nil)))))) ?_
      exact hK29 G x0 x1 h
    · refine Y.blk (pc' := 15) (L' := [some (.ref x0), some (.long x1), none, some (.int x3), none]) (st' := [.int x3, .ref x0, .long x1]) (sg := [(.lload_n 1, 0), (.aload_n 0, 0), (.iload_n 3, 0)]) (by decide +kernel) rfl ?_
      obtain ⟨_, o2, e1, m3, h⟩ := gOb_inv h
      refine Y.callI (yC.Vi (b := x0) (As := [.int x3]) (st := [.long x1]) (r := ("Partlister", T_X, 5)) hV.1 cb_X_worthOfHouse lk_X_250 in_X_worthOfHouse rfl se_X_worthOfHouse (by decide +kernel) rfl rfl (Nat.le_of_ble_eq_true rfl) (by decide) e1 m3) (k_X_worthOfHouse hV G x0 x3) h (fun v5 G4 _ h => ?_)
      refine Y.blk (pc' := 19) (L' := [some (.ref x0), some (.long x1), none, some (.int x3), none]) (st' := [.long v5.toInt64, .long x1]) (sg := [(.i2l, 0)]) (by decide +kernel) rfl ?_
      refine Y.callL (yC.S (As := [.long x1, .long v5.toInt64]) (st := []) hV.1 cb_X_mix lk_X_263 st_X_mix (by decide +kernel) rfl rfl (Nat.le_of_ble_eq_true rfl) (by decide)) (k_X_mix hV G4 x1 v5.toInt64) h (fun v8 G7 _ h => ?_)
      refine Y.blk (pc' := 26) (L' := [some (.ref x0), some (.long v8), none, some (.int (x3 + (nI 1))), none]) (st' := []) (sg := [(.lstore_n 1, 0), (.iinc 3 1, nI 1)]) (by decide +kernel) rfl ?_
      refine Y.goto (off := -20) (tgt := 6) (by decide +kernel) (by decide) ?_
      exact ih G7 x0 v8 (x3 + (nI 1)) h
theorem k_X_digest_L31 {l : Launch} {D : va_G} {B : Nat} {O : State → Heap → Prop} (hV : zG l D B O) {o : gO} {Gf : gH} (K75 : gH → Nat → Int64 → gR) (hK75 : ∀ (G : gH) (x0 : Nat) (x1 : Int64), K75 G x0 x1 = some (o, Gf) → Y (zVm l D B O) m_X_digest 7 o Gf 75 [some (.ref x0), some (.long x1), none, none, none] [] G) : ∀ (n : Nat) (G : gH) (x0 : Nat) (x1 : Int64) (x3 : Int32), f_X_digest_L31 K75 n G x0 x1 x3 = some (o, Gf) → Y (zVm l D B O) m_X_digest 7 o Gf 31 [some (.ref x0), some (.long x1), none, some (.int x3), none] [] G := by
  intro n
  induction n with
  | zero => intro G x0 x1 x3 h; cases h
  | succ n ih =>
    intro G x0 x1 x3 h
    unfold f_X_digest_L31 at h
    refine Y.blk (pc' := 34) (L' := [some (.ref x0), some (.long x1), none, some (.int x3), none]) (st' := [.int (nI 6), .int x3]) (sg := [(.iload_n 3, 0), (.bipush 6, nI 6)]) (by decide +kernel) rfl ?_
    refine Y.ic_ge (off := 41) (tgt := 75) (by decide +kernel) (by decide) h (fun c34 h => ?_) (fun c34 h => ?_)
    · refine Y.less (L' := [some (.ref x0), some (.long x1), none, none, none]) (zLe_some (zLe_some (zLe_some (zLe_none (zLe_some (zLe_nil)))))) ?_
      exact hK75 G x0 x1 h
    · refine Y.blk (pc' := 39) (L' := [some (.ref x0), some (.long x1), none, some (.int x3), none]) (st' := [.ref x0, .long x1]) (sg := [(.lload_n 1, 0), (.aload_n 0, 0)]) (by decide +kernel) rfl ?_
      refine Y.getA fl_X_10 (by decide +kernel) h (fun v13 h => ?_)
      refine Y.blk (pc' := 43) (L' := [some (.ref x0), some (.long x1), none, some (.int x3), none]) (st' := [.int x3, .ref v13, .long x1]) (sg := [(.iload_n 3, 0)]) (by decide +kernel) rfl ?_
      obtain ⟨_, o15, e14, m16, h⟩ := gOb_inv h
      refine Y.callI (yC.Vi (b := v13) (As := [.int x3]) (st := [.long x1]) (r := ("Partlister$Lists", T_I, 7)) hV.1 cb_I_lengthOf lk_X_34 in_I_lengthOf rfl se_I_lengthOf (by decide +kernel) rfl rfl (Nat.le_of_ble_eq_true rfl) (by decide) e14 m16) (k_I_lengthOf hV G v13 x3) h (fun v18 G17 _ h => ?_)
      refine Y.blk (pc' := 47) (L' := [some (.ref x0), some (.long x1), none, some (.int x3), none]) (st' := [.long v18.toInt64, .long x1]) (sg := [(.i2l, 0)]) (by decide +kernel) rfl ?_
      refine Y.callL (yC.S (As := [.long x1, .long v18.toInt64]) (st := []) hV.1 cb_X_mix lk_X_263 st_X_mix (by decide +kernel) rfl rfl (Nat.le_of_ble_eq_true rfl) (by decide)) (k_X_mix hV G17 x1 v18.toInt64) h (fun v21 G20 _ h => ?_)
      refine Y.blk (pc' := 52) (L' := [some (.ref x0), some (.long v21), none, some (.int x3), none]) (st' := [.ref x0]) (sg := [(.lstore_n 1, 0), (.aload_n 0, 0)]) (by decide +kernel) rfl ?_
      refine Y.getA fl_X_10 (by decide +kernel) h (fun v22 h => ?_)
      refine Y.blk (pc' := 56) (L' := [some (.ref x0), some (.long v21), none, some (.int x3), none]) (st' := [.int x3, .ref v22]) (sg := [(.iload_n 3, 0)]) (by decide +kernel) rfl ?_
      obtain ⟨_, o24, e23, m25, h⟩ := gOb_inv h
      refine Y.callI (yC.Vi (b := v22) (As := [.int x3]) (st := []) (r := ("Partlister$Lists", T_I, 7)) hV.1 cb_I_isThere lk_X_155 in_I_isThere rfl se_I_isThere (by decide +kernel) rfl rfl (Nat.le_of_ble_eq_true rfl) (by decide) e23 m25) (k_I_isThere hV G20 v22 x3) h (fun v27 G26 _ h => ?_)
      refine Y.if_eq (off := 10) (tgt := 69) (by decide +kernel) (by decide) h (fun c33 h => ?_) (fun c33 h => ?_)
      · refine Y.blk (pc' := 72) (L' := [some (.ref x0), some (.long v21), none, some (.int (x3 + (nI 1))), none]) (st' := []) (sg := [(.iinc 3 1, nI 1)]) (by decide +kernel) rfl ?_
        refine Y.goto (off := -41) (tgt := 31) (by decide +kernel) (by decide) ?_
        exact ih G26 x0 v21 (x3 + (nI 1)) h
      · refine Y.blk (pc' := 65) (L' := [some (.ref x0), some (.long v21), none, some (.int x3), none]) (st' := [.int x3, .long v21, .ref x0]) (sg := [(.aload_n 0, 0), (.lload_n 1, 0), (.iload_n 3, 0)]) (by decide +kernel) rfl ?_
        obtain ⟨_, o29, e28, m30, h⟩ := gOb_inv h
        refine Y.callL (yC.Vi (b := x0) (As := [.long v21, .int x3]) (st := []) (r := ("Partlister", T_X, 5)) hV.1 cb_X_mixList lk_X_267 in_X_mixList rfl se_X_mixList (by decide +kernel) rfl rfl (Nat.le_of_ble_eq_true rfl) (by decide) e28 m30) (k_X_mixList hV G26 x0 v21 x3) h (fun v32 G31 _ h => ?_)
        refine Y.blk (pc' := 72) (L' := [some (.ref x0), some (.long v32), none, some (.int (x3 + (nI 1))), none]) (st' := []) (sg := [(.lstore_n 1, 0), (.iinc 3 1, nI 1)]) (by decide +kernel) rfl ?_
        refine Y.goto (off := -41) (tgt := 31) (by decide +kernel) (by decide) ?_
        exact ih G31 x0 v32 (x3 + (nI 1)) h
theorem k_X_digest_L86 {l : Launch} {D : va_G} {B : Nat} {O : State → Heap → Prop} (hV : zG l D B O) {o : gO} {Gf : gH} (K131 : gH → Nat → Int64 → Int32 → gR) (hK131 : ∀ (G : gH) (x0 : Nat) (x1 : Int64) (x3 : Int32), K131 G x0 x1 x3 = some (o, Gf) → Y (zVm l D B O) m_X_digest 7 o Gf 131 [some (.ref x0), some (.long x1), none, some (.int x3), none] [] G) : ∀ (n : Nat) (G : gH) (x0 : Nat) (x1 : Int64) (x3 : Int32) (x4 : Int32), f_X_digest_L86 K131 n G x0 x1 x3 x4 = some (o, Gf) → Y (zVm l D B O) m_X_digest 7 o Gf 86 [some (.ref x0), some (.long x1), none, some (.int x3), some (.int x4)] [] G := by
  intro n
  induction n with
  | zero => intro G x0 x1 x3 x4 h; cases h
  | succ n ih =>
    intro G x0 x1 x3 x4 h
    unfold f_X_digest_L86 at h
    refine Y.blk (pc' := 90) (L' := [some (.ref x0), some (.long x1), none, some (.int x3), some (.int x4)]) (st' := [.int (nI 6), .int x4]) (sg := [(.iload 4, 0), (.bipush 6, nI 6)]) (by decide +kernel) rfl ?_
    refine Y.ic_ge (off := 41) (tgt := 131) (by decide +kernel) (by decide) h (fun c57 h => ?_) (fun c57 h => ?_)
    · refine Y.less (L' := [some (.ref x0), some (.long x1), none, some (.int x3), none]) (zLe_some (zLe_some (zLe_some (zLe_some (zLe_none (zLe_nil)))))) ?_
      exact hK131 G x0 x1 x3 h
    · refine Y.blk (pc' := 94) (L' := [some (.ref x0), some (.long x1), none, some (.int x3), some (.int x4)]) (st' := [.ref x0]) (sg := [(.aload_n 0, 0)]) (by decide +kernel) rfl ?_
      refine Y.getA fl_X_10 (by decide +kernel) h (fun v38 h => ?_)
      refine Y.blk (pc' := 98) (L' := [some (.ref x0), some (.long x1), none, some (.int x3), some (.int x4)]) (st' := [.int x3, .ref v38]) (sg := [(.iload_n 3, 0)]) (by decide +kernel) rfl ?_
      obtain ⟨_, o40, e39, m41, h⟩ := gOb_inv h
      refine Y.callI (yC.Vi (b := v38) (As := [.int x3]) (st := []) (r := ("Partlister$Lists", T_I, 7)) hV.1 cb_I_isThere lk_X_155 in_I_isThere rfl se_I_isThere (by decide +kernel) rfl rfl (Nat.le_of_ble_eq_true rfl) (by decide) e39 m41) (k_I_isThere hV G v38 x3) h (fun v43 G42 _ h => ?_)
      refine Y.if_eq (off := 24) (tgt := 125) (by decide +kernel) (by decide) h (fun c56 h => ?_) (fun c56 h => ?_)
      · refine Y.blk (pc' := 128) (L' := [some (.ref x0), some (.long x1), none, some (.int x3), some (.int (x4 + (nI 1)))]) (st' := []) (sg := [(.iinc 4 1, nI 1)]) (by decide +kernel) rfl ?_
        refine Y.goto (off := -42) (tgt := 86) (by decide +kernel) (by decide) ?_
        exact ih G42 x0 x1 x3 (x4 + (nI 1)) h
      · refine Y.blk (pc' := 105) (L' := [some (.ref x0), some (.long x1), none, some (.int x3), some (.int x4)]) (st' := [.ref x0]) (sg := [(.aload_n 0, 0)]) (by decide +kernel) rfl ?_
        refine Y.getA fl_X_10 (by decide +kernel) h (fun v44 h => ?_)
        refine Y.blk (pc' := 110) (L' := [some (.ref x0), some (.long x1), none, some (.int x3), some (.int x4)]) (st' := [.int x4, .ref v44]) (sg := [(.iload 4, 0)]) (by decide +kernel) rfl ?_
        obtain ⟨_, o46, e45, m47, h⟩ := gOb_inv h
        refine Y.callI (yC.Vi (b := v44) (As := [.int x4]) (st := []) (r := ("Partlister$Lists", T_I, 7)) hV.1 cb_I_isThere lk_X_155 in_I_isThere rfl se_I_isThere (by decide +kernel) rfl rfl (Nat.le_of_ble_eq_true rfl) (by decide) e45 m47) (k_I_isThere hV G42 v44 x4) h (fun v49 G48 _ h => ?_)
        refine Y.if_eq (off := 12) (tgt := 125) (by decide +kernel) (by decide) h (fun c55 h => ?_) (fun c55 h => ?_)
        · refine Y.blk (pc' := 128) (L' := [some (.ref x0), some (.long x1), none, some (.int x3), some (.int (x4 + (nI 1)))]) (st' := []) (sg := [(.iinc 4 1, nI 1)]) (by decide +kernel) rfl ?_
          refine Y.goto (off := -42) (tgt := 86) (by decide +kernel) (by decide) ?_
          exact ih G48 x0 x1 x3 (x4 + (nI 1)) h
        · refine Y.blk (pc' := 121) (L' := [some (.ref x0), some (.long x1), none, some (.int x3), some (.int x4)]) (st' := [.int x4, .int x3, .long x1, .ref x0]) (sg := [(.aload_n 0, 0), (.lload_n 1, 0), (.iload_n 3, 0), (.iload 4, 0)]) (by decide +kernel) rfl ?_
          obtain ⟨_, o51, e50, m52, h⟩ := gOb_inv h
          refine Y.callL (yC.Vi (b := x0) (As := [.long x1, .int x3, .int x4]) (st := []) (r := ("Partlister", T_X, 5)) hV.1 cb_X_mixPair lk_X_271 in_X_mixPair rfl se_X_mixPair (by decide +kernel) rfl rfl (Nat.le_of_ble_eq_true rfl) (by decide) e50 m52) (k_X_mixPair hV G48 x0 x1 x3 x4) h (fun v54 G53 _ h => ?_)
          refine Y.blk (pc' := 128) (L' := [some (.ref x0), some (.long v54), none, some (.int x3), some (.int (x4 + (nI 1)))]) (st' := []) (sg := [(.lstore_n 1, 0), (.iinc 4 1, nI 1)]) (by decide +kernel) rfl ?_
          refine Y.goto (off := -42) (tgt := 86) (by decide +kernel) (by decide) ?_
          exact ih G53 x0 v54 x3 (x4 + (nI 1)) h
theorem k_X_digest_L77 {l : Launch} {D : va_G} {B : Nat} {O : State → Heap → Prop} (hV : zG l D B O) {o : gO} {Gf : gH} (K137 : gH → Nat → Int64 → gR) (hK137 : ∀ (G : gH) (x0 : Nat) (x1 : Int64), K137 G x0 x1 = some (o, Gf) → Y (zVm l D B O) m_X_digest 7 o Gf 137 [some (.ref x0), some (.long x1), none, none, none] [] G) : ∀ (n : Nat) (G : gH) (x0 : Nat) (x1 : Int64) (x3 : Int32), f_X_digest_L77 K137 n G x0 x1 x3 = some (o, Gf) → Y (zVm l D B O) m_X_digest 7 o Gf 77 [some (.ref x0), some (.long x1), none, some (.int x3), none] [] G := by
  intro n
  induction n with
  | zero => intro G x0 x1 x3 h; cases h
  | succ n ih =>
    intro G x0 x1 x3 h
    unfold f_X_digest_L77 at h
    refine Y.blk (pc' := 80) (L' := [some (.ref x0), some (.long x1), none, some (.int x3), none]) (st' := [.int (nI 6), .int x3]) (sg := [(.iload_n 3, 0), (.bipush 6, nI 6)]) (by decide +kernel) rfl ?_
    refine Y.ic_ge (off := 57) (tgt := 137) (by decide +kernel) (by decide) h (fun c62 h => ?_) (fun c62 h => ?_)
    · refine Y.less (L' := [some (.ref x0), some (.long x1), none, none, none]) (zLe_some (zLe_some (zLe_some (zLe_none (zLe_some (zLe_nil)))))) ?_
      exact hK137 G x0 x1 h
    · refine Y.blk (pc' := 86) (L' := [some (.ref x0), some (.long x1), none, some (.int x3), some (.int (nI 0))]) (st' := []) (sg := [(.iconst 0, nI 0), (.istore 4, 0)]) (by decide +kernel) rfl ?_
      refine k_X_digest_L86 hV _ ?_  zFu G x0 x1 x3 (nI 0) h
      · intro G61 x58 x59 x60 h
        refine Y.blk (pc' := 134) (L' := [some (.ref x58), some (.long x59), none, some (.int (x60 + (nI 1))), none]) (st' := []) (sg := [(.iinc 3 1, nI 1)]) (by decide +kernel) rfl ?_
        refine Y.goto (off := -57) (tgt := 77) (by decide +kernel) (by decide) ?_
        exact ih G61 x58 x59 (x60 + (nI 1)) h
theorem k_X_digest_L147 {l : Launch} {D : va_G} {B : Nat} {O : State → Heap → Prop} (hV : zG l D B O) {o : gO} {Gf : gH} (K173 : gH → Nat → Int64 → Int32 → gR) (hK173 : ∀ (G : gH) (x0 : Nat) (x1 : Int64) (x3 : Int32), K173 G x0 x1 x3 = some (o, Gf) → Y (zVm l D B O) m_X_digest 7 o Gf 173 [some (.ref x0), some (.long x1), none, some (.int x3), none] [] G) : ∀ (n : Nat) (G : gH) (x0 : Nat) (x1 : Int64) (x3 : Int32) (x4 : Int32), f_X_digest_L147 K173 n G x0 x1 x3 x4 = some (o, Gf) → Y (zVm l D B O) m_X_digest 7 o Gf 147 [some (.ref x0), some (.long x1), none, some (.int x3), some (.int x4)] [] G := by
  intro n
  induction n with
  | zero => intro G x0 x1 x3 x4 h; cases h
  | succ n ih =>
    intro G x0 x1 x3 x4 h
    unfold f_X_digest_L147 at h
    refine Y.blk (pc' := 151) (L' := [some (.ref x0), some (.long x1), none, some (.int x3), some (.int x4)]) (st' := [.int (nI 7), .int x4]) (sg := [(.iload 4, 0), (.bipush 7, nI 7)]) (by decide +kernel) rfl ?_
    refine Y.ic_ge (off := 22) (tgt := 173) (by decide +kernel) (by decide) h (fun c74 h => ?_) (fun c74 h => ?_)
    · refine Y.less (L' := [some (.ref x0), some (.long x1), none, some (.int x3), none]) (zLe_some (zLe_some (zLe_some (zLe_some (zLe_none (zLe_nil)))))) ?_
      exact hK173 G x0 x1 x3 h
    · refine Y.blk (pc' := 159) (L' := [some (.ref x0), some (.long x1), none, some (.int x3), some (.int x4)]) (st' := [.int x4, .int x3, .ref x0, .long x1]) (sg := [(.lload_n 1, 0), (.aload_n 0, 0), (.iload_n 3, 0), (.iload 4, 0)]) (by decide +kernel) rfl ?_
      obtain ⟨_, o67, e66, m68, h⟩ := gOb_inv h
      refine Y.callI (yC.Vi (b := x0) (As := [.int x3, .int x4]) (st := [.long x1]) (r := ("Partlister", T_X, 5)) hV.1 cb_X_worthOfCursor lk_X_245 in_X_worthOfCursor rfl se_X_worthOfCursor (by decide +kernel) rfl rfl (Nat.le_of_ble_eq_true rfl) (by decide) e66 m68) (k_X_worthOfCursor hV G x0 x3 x4) h (fun v70 G69 _ h => ?_)
      refine Y.blk (pc' := 163) (L' := [some (.ref x0), some (.long x1), none, some (.int x3), some (.int x4)]) (st' := [.long v70.toInt64, .long x1]) (sg := [(.i2l, 0)]) (by decide +kernel) rfl ?_
      refine Y.callL (yC.S (As := [.long x1, .long v70.toInt64]) (st := []) hV.1 cb_X_mix lk_X_263 st_X_mix (by decide +kernel) rfl rfl (Nat.le_of_ble_eq_true rfl) (by decide)) (k_X_mix hV G69 x1 v70.toInt64) h (fun v73 G72 _ h => ?_)
      refine Y.blk (pc' := 170) (L' := [some (.ref x0), some (.long v73), none, some (.int x3), some (.int (x4 + (nI 1)))]) (st' := []) (sg := [(.lstore_n 1, 0), (.iinc 4 1, nI 1)]) (by decide +kernel) rfl ?_
      refine Y.goto (off := -23) (tgt := 147) (by decide +kernel) (by decide) ?_
      exact ih G72 x0 v73 x3 (x4 + (nI 1)) h
theorem k_X_digest_L139 {l : Launch} {D : va_G} {B : Nat} {O : State → Heap → Prop} (hV : zG l D B O) {o : gO} {Gf : gH} (K179 : gH → Nat → Int64 → gR) (hK179 : ∀ (G : gH) (x0 : Nat) (x1 : Int64), K179 G x0 x1 = some (o, Gf) → Y (zVm l D B O) m_X_digest 7 o Gf 179 [some (.ref x0), some (.long x1), none, none, none] [] G) : ∀ (n : Nat) (G : gH) (x0 : Nat) (x1 : Int64) (x3 : Int32), f_X_digest_L139 K179 n G x0 x1 x3 = some (o, Gf) → Y (zVm l D B O) m_X_digest 7 o Gf 139 [some (.ref x0), some (.long x1), none, some (.int x3), none] [] G := by
  intro n
  induction n with
  | zero => intro G x0 x1 x3 h; cases h
  | succ n ih =>
    intro G x0 x1 x3 h
    unfold f_X_digest_L139 at h
    refine Y.blk (pc' := 141) (L' := [some (.ref x0), some (.long x1), none, some (.int x3), none]) (st' := [.int (nI 3), .int x3]) (sg := [(.iload_n 3, 0), (.iconst 3, nI 3)]) (by decide +kernel) rfl ?_
    refine Y.ic_ge (off := 38) (tgt := 179) (by decide +kernel) (by decide) h (fun c79 h => ?_) (fun c79 h => ?_)
    · refine Y.less (L' := [some (.ref x0), some (.long x1), none, none, none]) (zLe_some (zLe_some (zLe_some (zLe_none (zLe_some (zLe_nil)))))) ?_
      exact hK179 G x0 x1 h
    · refine Y.blk (pc' := 147) (L' := [some (.ref x0), some (.long x1), none, some (.int x3), some (.int (nI 0))]) (st' := []) (sg := [(.iconst 0, nI 0), (.istore 4, 0)]) (by decide +kernel) rfl ?_
      refine k_X_digest_L147 hV _ ?_  zFu G x0 x1 x3 (nI 0) h
      · intro G78 x75 x76 x77 h
        refine Y.blk (pc' := 176) (L' := [some (.ref x75), some (.long x76), none, some (.int (x77 + (nI 1))), none]) (st' := []) (sg := [(.iinc 3 1, nI 1)]) (by decide +kernel) rfl ?_
        refine Y.goto (off := -37) (tgt := 139) (by decide +kernel) (by decide) ?_
        exact ih G78 x75 x76 (x77 + (nI 1)) h
theorem k_X_digest {l : Launch} {D : va_G} {B : Nat} {O : State → Heap → Prop} (hV : zG l D B O) (G : gH) (a0 : Nat) : gMet (zVm l D B O) m_X_digest 7 [.ref a0] G (f_X_digest G a0) := by
  refine gMet.of (by decide +kernel) (Nat.le_of_ble_eq_true rfl) [some (.ref a0), none, none, none, none] (fun ls h => zEn_ok (n := 5) h) ?_
  intro o Gf h
  unfold f_X_digest at h
  refine Y.ldc2 (v := lN 2203) co_X_261 (by decide +kernel) ?_
  refine Y.blk (pc' := 6) (L' := [some (.ref a0), some (.long (lN 2203)), none, some (.int (nI 0)), none]) (st' := []) (sg := [(.lstore_n 1, 0), (.iconst 0, nI 0), (.istore_n 3, 0)]) (by decide +kernel) rfl ?_
  refine k_X_digest_L6 hV _ ?_  zFu G a0 (lN 2203) (nI 0) h
  · intro G12 x10 x11 h
    refine Y.blk (pc' := 31) (L' := [some (.ref x10), some (.long x11), none, some (.int (nI 0)), none]) (st' := []) (sg := [(.iconst 0, nI 0), (.istore_n 3, 0)]) (by decide +kernel) rfl ?_
    refine k_X_digest_L31 hV _ ?_  zFu G12 x10 x11 (nI 0) h
    · intro G37 x35 x36 h
      refine Y.blk (pc' := 77) (L' := [some (.ref x35), some (.long x36), none, some (.int (nI 0)), none]) (st' := []) (sg := [(.iconst 0, nI 0), (.istore_n 3, 0)]) (by decide +kernel) rfl ?_
      refine k_X_digest_L77 hV _ ?_  zFu G37 x35 x36 (nI 0) h
      · intro G65 x63 x64 h
        refine Y.blk (pc' := 139) (L' := [some (.ref x63), some (.long x64), none, some (.int (nI 0)), none]) (st' := []) (sg := [(.iconst 0, nI 0), (.istore_n 3, 0)]) (by decide +kernel) rfl ?_
        refine k_X_digest_L139 hV _ ?_  zFu G65 x63 x64 (nI 0) h
        · intro G82 x80 x81 h
          refine Y.blk (pc' := 181) (L' := [some (.ref x80), some (.long x81), none, none, none]) (st' := [.ref x80, .long x81]) (sg := [(.lload_n 1, 0), (.aload_n 0, 0)]) (by decide +kernel) rfl ?_
          refine Y.getA fl_X_10 (by decide +kernel) h (fun v83 h => ?_)
          obtain ⟨_, o85, e84, m86, h⟩ := gOb_inv h
          refine Y.callI (yC.Vi (b := v83) (As := []) (st := [.long x81]) (r := ("Partlister$Lists", T_I, 7)) hV.1 cb_I_areSound lk_X_253 in_I_areSound rfl se_I_areSound (by decide +kernel) rfl rfl (Nat.le_of_ble_eq_true rfl) (by decide) e84 m86) (k_I_areSound hV G82 v83) h (fun v88 G87 _ h => ?_)
          refine Y.if_eq (off := 7) (tgt := 194) (by decide +kernel) (by decide) h (fun c95 h => ?_) (fun c95 h => ?_)
          · refine Y.blk (pc' := 195) (L' := [some (.ref x80), some (.long x81), none, none, none]) (st' := [.long (lN 0), .long x81]) (sg := [(.lconst 0, 0)]) (by decide +kernel) rfl ?_
            refine Y.callL (yC.S (As := [.long x81, .long (lN 0)]) (st := []) hV.1 cb_X_mix lk_X_263 st_X_mix (by decide +kernel) rfl rfl (Nat.le_of_ble_eq_true rfl) (by decide)) (k_X_mix hV G87 x81 (lN 0)) h (fun v91 G90 _ h => ?_)
            exact Y.lret rfl (by decide +kernel) h
          · refine Y.blk (pc' := 191) (L' := [some (.ref x80), some (.long x81), none, none, none]) (st' := [.long (lN 1), .long x81]) (sg := [(.lconst 1, 0)]) (by decide +kernel) rfl ?_
            refine Y.goto (off := 4) (tgt := 195) (by decide +kernel) (by decide) ?_
            refine Y.callL (yC.S (As := [.long x81, .long (lN 1)]) (st := []) hV.1 cb_X_mix lk_X_263 st_X_mix (by decide +kernel) rfl rfl (Nat.le_of_ble_eq_true rfl) (by decide)) (k_X_mix hV G87 x81 (lN 1)) h (fun v94 G93 _ h => ?_)
            exact Y.lret rfl (by decide +kernel) h

def f_X_failWith (G : gH) (a0 : Nat) (a1 : Int32) : gR :=
  gFI G a0 3 3 fun v1 => gPut G a0 3 3 (.int (v1 + (nI 1))) fun G2 => rI a1 G2
theorem k_X_failWith {l : Launch} {D : va_G} {B : Nat} {O : State → Heap → Prop} (hV : zG l D B O) (G : gH) (a0 : Nat) (a1 : Int32) : gMet (zVm l D B O) m_X_failWith 1 [.ref a0, .int a1] G (f_X_failWith G a0 a1) := by
  refine gMet.of (by decide +kernel) (Nat.le_of_ble_eq_true rfl) [some (.ref a0), some (.int a1)] (fun ls h => zEn_ok (n := 2) h) ?_
  intro o Gf h
  unfold f_X_failWith at h
  refine Y.blk (pc' := 2) (L' := [some (.ref a0), some (.int a1)]) (st' := [.ref a0, .ref a0]) (sg := [(.aload_n 0, 0), (.dup, 0)]) (by decide +kernel) rfl ?_
  refine Y.getI fl_X_302 (by decide +kernel) h (fun v1 h => ?_)
  refine Y.blk (pc' := 7) (L' := [some (.ref a0), some (.int a1)]) (st' := [.int (v1 + (nI 1)), .ref a0]) (sg := [(.iconst 1, nI 1), (.iadd, 0)]) (by decide +kernel) rfl ?_
  refine Y.putf fl_X_302 (by decide) rfl rfl (by decide +kernel) h (fun G2 _ _ h => ?_)
  refine Y.blk (pc' := 11) (L' := [some (.ref a0), some (.int a1)]) (st' := [.int a1]) (sg := [(.iload_n 1, 0)]) (by decide +kernel) rfl ?_
  exact Y.iret rfl (by decide +kernel) h

def f_X_needCursor (G : gH) (a0 : Nat) (a1 : Int32) : gR :=
  gFA G a0 3 1 fun v1 => gOb G v1 0 fun o3 => bI (f_U_isThere G v1 a1) fun v6 G5 => if v6 = 0 then gThrow "java/lang/IndexOutOfBoundsException" G5
  else rV G5
theorem k_X_needCursor {l : Launch} {D : va_G} {B : Nat} {O : State → Heap → Prop} (hV : zG l D B O) (G : gH) (a0 : Nat) (a1 : Int32) : gMet (zVm l D B O) m_X_needCursor 6 [.ref a0, .int a1] G (f_X_needCursor G a0 a1) := by
  refine gMet.of (by decide +kernel) (Nat.le_of_ble_eq_true rfl) [some (.ref a0), some (.int a1)] (fun ls h => zEn_ok (n := 2) h) ?_
  intro o Gf h
  unfold f_X_needCursor at h
  refine Y.blk (pc' := 1) (L' := [some (.ref a0), some (.int a1)]) (st' := [.ref a0]) (sg := [(.aload_n 0, 0)]) (by decide +kernel) rfl ?_
  refine Y.getA fl_X_19 (by decide +kernel) h (fun v1 h => ?_)
  refine Y.blk (pc' := 5) (L' := [some (.ref a0), some (.int a1)]) (st' := [.int a1, .ref v1]) (sg := [(.iload_n 1, 0)]) (by decide +kernel) rfl ?_
  obtain ⟨_, o3, e2, m4, h⟩ := gOb_inv h
  refine Y.callI (yC.Vi (b := v1) (As := [.int a1]) (st := []) (r := ("Partlister$Cursors", T_U, 5)) hV.1 cb_U_isThere lk_X_148 in_U_isThere rfl se_U_isThere (by decide +kernel) rfl rfl (Nat.le_of_ble_eq_true rfl) (by decide) e2 m4) (k_U_isThere hV G v1 a1) h (fun v6 G5 _ h => ?_)
  refine Y.if_ne (off := 14) (tgt := 22) (by decide +kernel) (by decide) h (fun c7 h => ?_) (fun c7 h => ?_)
  · exact Y.throwSW (is := 335) (text := "there is no such CURSOR") (names := zNm) hV.1 (hV.2 _ _ _ (by decide +kernel)) (by decide +kernel) (by decide +kernel) ck_X_125 ini_IOE tw_X_129 tg_X_129 (by decide) (by decide) rfl (Nat.le_of_ble_eq_true rfl) (by decide +kernel) (by decide +kernel) (by decide +kernel) (by decide +kernel) (by decide +kernel) h
  · exact Y.vret rfl (by decide +kernel) h

def f_I_closeGap_L27 (K56 : gH → Nat → Int32 → gR) : Nat → gH → Nat → Int32 → Int32 → Int32 → Int32 → gR
  | 0, _, _, _, _, _, _ => none
  | n + 1, G, x0, x1, x3, x4, x5 =>
    if x4 ≤ x5 then K56 G x0 x1
    else gOb G x0 1 fun o18 => bI (f_I_thingAt G x0 x3 x5) fun v21 G20 => gOb G20 x0 1 fun o23 => bV (f_I_write G20 x0 x3 (x5 - (nI 1)) v21) fun G25 => f_I_closeGap_L27 K56 n G25 x0 x1 x3 x4 (x5 + (nI 1))
def f_I_closeGap (G : gH) (a0 : Nat) (a1 : Int32) (a2 : Int32) : gR :=
  gOb G a0 1 fun o2 => bI (f_I_rowOf G a0 a1) fun v5 G4 => gOb G4 a0 1 fun o7 => bI (f_I_lengthOf G4 a0 v5) fun v10 G9 => gFA G9 a0 1 4 fun v11 => gOb G9 v11 2 fun o13 => bI (f_N_read G9 v11 a1) fun v16 G15 => f_I_closeGap_L27 (fun G29 x27 x28 => gOb G29 x27 1 fun o31 => bV (f_I_lengthen G29 x27 x28 (-1)) fun G33 => rV G33) zFu G15 a0 a1 v5 v10 ((v16 + a2) + (nI 1))
theorem k_I_closeGap_L27 {l : Launch} {D : va_G} {B : Nat} {O : State → Heap → Prop} (hV : zG l D B O) {o : gO} {Gf : gH} (K56 : gH → Nat → Int32 → gR) (hK56 : ∀ (G : gH) (x0 : Nat) (x1 : Int32), K56 G x0 x1 = some (o, Gf) → Y (zVm l D B O) m_I_closeGap 4 o Gf 56 [some (.ref x0), some (.int x1), none, none, none, none] [] G) : ∀ (n : Nat) (G : gH) (x0 : Nat) (x1 : Int32) (x3 : Int32) (x4 : Int32) (x5 : Int32), f_I_closeGap_L27 K56 n G x0 x1 x3 x4 x5 = some (o, Gf) → Y (zVm l D B O) m_I_closeGap 4 o Gf 27 [some (.ref x0), some (.int x1), none, some (.int x3), some (.int x4), some (.int x5)] [] G := by
  intro n
  induction n with
  | zero => intro G x0 x1 x3 x4 x5 h; cases h
  | succ n ih =>
    intro G x0 x1 x3 x4 x5 h
    unfold f_I_closeGap_L27 at h
    refine Y.blk (pc' := 31) (L' := [some (.ref x0), some (.int x1), none, some (.int x3), some (.int x4), some (.int x5)]) (st' := [.int x4, .int x5]) (sg := [(.iload 5, 0), (.iload 4, 0)]) (by decide +kernel) rfl ?_
    refine Y.ic_ge (off := 25) (tgt := 56) (by decide +kernel) (by decide) h (fun c26 h => ?_) (fun c26 h => ?_)
    · refine Y.less (L' := [some (.ref x0), some (.int x1), none, none, none, none]) (zLe_some (zLe_some (zLe_some (zLe_none (zLe_none (zLe_none (zLe_nil))))))) ?_
      exact hK56 G x0 x1 h
    · refine Y.blk (pc' := 44) (L' := [some (.ref x0), some (.int x1), none, some (.int x3), some (.int x4), some (.int x5)]) (st' := [.int x5, .int x3, .ref x0, .int (x5 - (nI 1)), .int x3, .ref x0]) (sg := [(.aload_n 0, 0), (.iload_n 3, 0), (.iload 5, 0), (.iconst 1, nI 1), (.isub, 0), (.aload_n 0, 0), (.iload_n 3, 0), (.iload 5, 0)]) (by decide +kernel) rfl ?_
      obtain ⟨_, o18, e17, m19, h⟩ := gOb_inv h
      refine Y.callI (yC.Vi (b := x0) (As := [.int x3, .int x5]) (st := [.int (x5 - (nI 1)), .int x3, .ref x0]) (r := ("Partlister$Lists", T_I, 7)) hV.1 cb_I_thingAt lk_I_50 in_I_thingAt rfl se_I_thingAt (by decide +kernel) rfl rfl (Nat.le_of_ble_eq_true rfl) (by decide) e17 m19) (k_I_thingAt hV G x0 x3 x5) h (fun v21 G20 _ h => ?_)
      obtain ⟨_, o23, e22, m24, h⟩ := gOb_inv h
      refine Y.callN (yC.Vi (b := x0) (As := [.int x3, .int (x5 - (nI 1)), .int v21]) (st := []) (r := ("Partlister$Lists", T_I, 7)) hV.1 cb_I_write lk_I_53 in_I_write rfl se_I_write (by decide +kernel) rfl rfl (Nat.le_of_ble_eq_true rfl) (by decide) e22 m24) (k_I_write hV G20 x0 x3 (x5 - (nI 1)) v21) h (fun G25 _ h => ?_)
      refine Y.blk (pc' := 53) (L' := [some (.ref x0), some (.int x1), none, some (.int x3), some (.int x4), some (.int (x5 + (nI 1)))]) (st' := []) (sg := [(.iinc 5 1, nI 1)]) (by decide +kernel) rfl ?_
      refine Y.goto (off := -26) (tgt := 27) (by decide +kernel) (by decide) ?_
      exact ih G25 x0 x1 x3 x4 (x5 + (nI 1)) h
theorem k_I_closeGap {l : Launch} {D : va_G} {B : Nat} {O : State → Heap → Prop} (hV : zG l D B O) (G : gH) (a0 : Nat) (a1 : Int32) (a2 : Int32) : gMet (zVm l D B O) m_I_closeGap 4 [.ref a0, .int a1, .int a2] G (f_I_closeGap G a0 a1 a2) := by
  refine gMet.of (by decide +kernel) (Nat.le_of_ble_eq_true rfl) [some (.ref a0), some (.int a1), some (.int a2), none, none, none] (fun ls h => zEn_ok (n := 6) h) ?_
  intro o Gf h
  unfold f_I_closeGap at h
  refine Y.blk (pc' := 2) (L' := [some (.ref a0), some (.int a1), some (.int a2), none, none, none]) (st' := [.int a1, .ref a0]) (sg := [(.aload_n 0, 0), (.iload_n 1, 0)]) (by decide +kernel) rfl ?_
  obtain ⟨_, o2, e1, m3, h⟩ := gOb_inv h
  refine Y.callI (yC.Vi (b := a0) (As := [.int a1]) (st := []) (r := ("Partlister$Lists", T_I, 7)) hV.1 cb_I_rowOf lk_I_56 in_I_rowOf rfl se_I_rowOf (by decide +kernel) rfl rfl (Nat.le_of_ble_eq_true rfl) (by decide) e1 m3) (k_I_rowOf hV G a0 a1) h (fun v5 G4 _ h => ?_)
  refine Y.blk (pc' := 8) (L' := [some (.ref a0), some (.int a1), some (.int a2), some (.int v5), none, none]) (st' := [.int v5, .ref a0]) (sg := [(.istore_n 3, 0), (.aload_n 0, 0), (.iload_n 3, 0)]) (by decide +kernel) rfl ?_
  obtain ⟨_, o7, e6, m8, h⟩ := gOb_inv h
  refine Y.callI (yC.Vi (b := a0) (As := [.int v5]) (st := []) (r := ("Partlister$Lists", T_I, 7)) hV.1 cb_I_lengthOf lk_I_59 in_I_lengthOf rfl se_I_lengthOf (by decide +kernel) rfl rfl (Nat.le_of_ble_eq_true rfl) (by decide) e6 m8) (k_I_lengthOf hV G4 a0 v5) h (fun v10 G9 _ h => ?_)
  refine Y.blk (pc' := 14) (L' := [some (.ref a0), some (.int a1), some (.int a2), some (.int v5), some (.int v10), none]) (st' := [.ref a0]) (sg := [(.istore 4, 0), (.aload_n 0, 0)]) (by decide +kernel) rfl ?_
  refine Y.getA fl_I_29 (by decide +kernel) h (fun v11 h => ?_)
  refine Y.blk (pc' := 18) (L' := [some (.ref a0), some (.int a1), some (.int a2), some (.int v5), some (.int v10), none]) (st' := [.int a1, .ref v11]) (sg := [(.iload_n 1, 0)]) (by decide +kernel) rfl ?_
  obtain ⟨_, o13, e12, m14, h⟩ := gOb_inv h
  refine Y.callI (yC.Vi (b := v11) (As := [.int a1]) (st := []) (r := ("Partlister$Numbers", T_N, 1)) hV.1 cb_N_read lk_I_39 in_N_read rfl se_N_read (by decide +kernel) rfl rfl (Nat.le_of_ble_eq_true rfl) (by decide) e12 m14) (k_N_read hV G9 v11 a1) h (fun v16 G15 _ h => ?_)
  refine Y.blk (pc' := 27) (L' := [some (.ref a0), some (.int a1), some (.int a2), some (.int v5), some (.int v10), some (.int ((v16 + a2) + (nI 1)))]) (st' := []) (sg := [(.iload_n 2, 0), (.iadd, 0), (.iconst 1, nI 1), (.iadd, 0), (.istore 5, 0)]) (by decide +kernel) rfl ?_
  refine Y.less (L' := [some (.ref a0), some (.int a1), none, some (.int v5), some (.int v10), some (.int ((v16 + a2) + (nI 1)))]) (zLe_some (zLe_some (zLe_none (zLe_some (zLe_some (zLe_some (zLe_nil))))))) ?_
  refine k_I_closeGap_L27 hV _ ?_  zFu G15 a0 a1 v5 v10 ((v16 + a2) + (nI 1)) h
  · intro G29 x27 x28 h
    refine Y.blk (pc' := 59) (L' := [some (.ref x27), some (.int x28), none, none, none, none]) (st' := [.int (-1), .int x28, .ref x27]) (sg := [(.aload_n 0, 0), (.iload_n 1, 0), (.iconst (-1), -1)]) (by decide +kernel) rfl ?_
    obtain ⟨_, o31, e30, m32, h⟩ := gOb_inv h
    refine Y.callN (yC.Vi (b := x27) (As := [.int x28, .int (-1)]) (st := []) (r := ("Partlister$Lists", T_I, 7)) hV.1 cb_I_lengthen lk_I_62 in_I_lengthen rfl se_I_lengthen (by decide +kernel) rfl rfl (Nat.le_of_ble_eq_true rfl) (by decide) e30 m32) (k_I_lengthen hV G29 x27 x28 (-1)) h (fun G33 _ h => ?_)
    exact Y.vret rfl (by decide +kernel) h
end
section
def f_X_takeOut (G : gH) (a0 : Nat) (a1 : Int32) (a2 : Int32) (a3 : Int32) : gR :=
  gFA G a0 3 0 fun v1 => gOb G v1 1 fun o3 => bI (f_I_thingAt G v1 a1 a2) fun v6 G5 => gFA G5 a0 3 0 fun v7 => gOb G5 v7 1 fun o9 => bV (f_I_closeGap G5 v7 a1 a2) fun G11 => gOb G11 a0 3 fun o13 => bV (f_X_endByLength G11 a0 a1 a3) fun G15 => rI v6 G15
theorem k_X_takeOut {l : Launch} {D : va_G} {B : Nat} {O : State → Heap → Prop} (hV : zG l D B O) (G : gH) (a0 : Nat) (a1 : Int32) (a2 : Int32) (a3 : Int32) : gMet (zVm l D B O) m_X_takeOut 6 [.ref a0, .int a1, .int a2, .int a3] G (f_X_takeOut G a0 a1 a2 a3) := by
  refine gMet.of (by decide +kernel) (Nat.le_of_ble_eq_true rfl) [some (.ref a0), some (.int a1), some (.int a2), some (.int a3), none] (fun ls h => zEn_ok (n := 5) h) ?_
  intro o Gf h
  unfold f_X_takeOut at h
  refine Y.blk (pc' := 1) (L' := [some (.ref a0), some (.int a1), some (.int a2), some (.int a3), none]) (st' := [.ref a0]) (sg := [(.aload_n 0, 0)]) (by decide +kernel) rfl ?_
  refine Y.getA fl_X_10 (by decide +kernel) h (fun v1 h => ?_)
  refine Y.blk (pc' := 6) (L' := [some (.ref a0), some (.int a1), some (.int a2), some (.int a3), none]) (st' := [.int a2, .int a1, .ref v1]) (sg := [(.iload_n 1, 0), (.iload_n 2, 0)]) (by decide +kernel) rfl ?_
  obtain ⟨_, o3, e2, m4, h⟩ := gOb_inv h
  refine Y.callI (yC.Vi (b := v1) (As := [.int a1, .int a2]) (st := []) (r := ("Partlister$Lists", T_I, 7)) hV.1 cb_I_thingAt lk_X_94 in_I_thingAt rfl se_I_thingAt (by decide +kernel) rfl rfl (Nat.le_of_ble_eq_true rfl) (by decide) e2 m4) (k_I_thingAt hV G v1 a1 a2) h (fun v6 G5 _ h => ?_)
  refine Y.blk (pc' := 12) (L' := [some (.ref a0), some (.int a1), some (.int a2), some (.int a3), some (.int v6)]) (st' := [.ref a0]) (sg := [(.istore 4, 0), (.aload_n 0, 0)]) (by decide +kernel) rfl ?_
  refine Y.getA fl_X_10 (by decide +kernel) h (fun v7 h => ?_)
  refine Y.blk (pc' := 17) (L' := [some (.ref a0), some (.int a1), some (.int a2), some (.int a3), some (.int v6)]) (st' := [.int a2, .int a1, .ref v7]) (sg := [(.iload_n 1, 0), (.iload_n 2, 0)]) (by decide +kernel) rfl ?_
  obtain ⟨_, o9, e8, m10, h⟩ := gOb_inv h
  refine Y.callN (yC.Vi (b := v7) (As := [.int a1, .int a2]) (st := []) (r := ("Partlister$Lists", T_I, 7)) hV.1 cb_I_closeGap lk_X_284 in_I_closeGap rfl se_I_closeGap (by decide +kernel) rfl rfl (Nat.le_of_ble_eq_true rfl) (by decide) e8 m10) (k_I_closeGap hV G5 v7 a1 a2) h (fun G11 _ h => ?_)
  refine Y.blk (pc' := 23) (L' := [some (.ref a0), some (.int a1), some (.int a2), some (.int a3), some (.int v6)]) (st' := [.int a3, .int a1, .ref a0]) (sg := [(.aload_n 0, 0), (.iload_n 1, 0), (.iload_n 3, 0)]) (by decide +kernel) rfl ?_
  obtain ⟨_, o13, e12, m14, h⟩ := gOb_inv h
  refine Y.callN (yC.Vi (b := a0) (As := [.int a1, .int a3]) (st := []) (r := ("Partlister", T_X, 5)) hV.1 cb_X_endByLength lk_X_281 in_X_endByLength rfl se_X_endByLength (by decide +kernel) rfl rfl (Nat.le_of_ble_eq_true rfl) (by decide) e12 m14) (k_X_endByLength hV G11 a0 a1 a3) h (fun G15 _ h => ?_)
  refine Y.blk (pc' := 28) (L' := [some (.ref a0), some (.int a1), some (.int a2), some (.int a3), some (.int v6)]) (st' := [.int v6]) (sg := [(.iload 4, 0)]) (by decide +kernel) rfl ?_
  exact Y.iret rfl (by decide +kernel) h

def f_X_drop (G : gH) (a0 : Nat) (a1 : Int32) : gR :=
  gOb G a0 3 fun o2 => bV (f_X_needCursor G a0 a1) fun G4 => gFA G4 a0 3 1 fun v5 => gOb G4 v5 0 fun o7 => bI (f_U_isStale G4 v5 a1) fun v10 G9 => if v10 = 0 then (gFA G9 a0 3 1 fun v11 => gOb G9 v11 0 fun o13 => bI (f_U_lastOf G9 v11 a1) fun v16 G15 => if v16 = (-1) then gOb G15 a0 3 fun o18 => bI (f_X_failWith G15 a0 (-7)) fun v21 G20 => rI v21 G20
    else gFA G15 a0 3 1 fun v22 => gOb G15 v22 0 fun o24 => bI (f_U_listOf G15 v22 a1) fun v27 G26 => gOb G26 a0 3 fun o29 => bI (f_X_takeOut G26 a0 v27 v16 a1) fun v32 G31 => gFA G31 a0 3 1 fun v33 => gOb G31 v33 0 fun o35 => bV (f_U_stand G31 v33 a1 v16 (-1)) fun G37 => gFA G37 a0 3 0 fun v38 => gOb G37 v38 1 fun o40 => bI (f_I_lengthOf G37 v38 v27) fun v43 G42 => rI v43 G42)
  else gOb G9 a0 3 fun o46 => bI (f_X_failWith G9 a0 (-9)) fun v49 G48 => rI v49 G48
theorem k_X_drop {l : Launch} {D : va_G} {B : Nat} {O : State → Heap → Prop} (hV : zG l D B O) (G : gH) (a0 : Nat) (a1 : Int32) : gMet (zVm l D B O) m_X_drop 7 [.ref a0, .int a1] G (f_X_drop G a0 a1) := by
  refine gMet.of (by decide +kernel) (Nat.le_of_ble_eq_true rfl) [some (.ref a0), some (.int a1), none, none] (fun ls h => zEn_ok (n := 4) h) ?_
  intro o Gf h
  unfold f_X_drop at h
  refine Y.blk (pc' := 2) (L' := [some (.ref a0), some (.int a1), none, none]) (st' := [.int a1, .ref a0]) (sg := [(.aload_n 0, 0), (.iload_n 1, 0)]) (by decide +kernel) rfl ?_
  obtain ⟨_, o2, e1, m3, h⟩ := gOb_inv h
  refine Y.callN (yC.Vi (b := a0) (As := [.int a1]) (st := []) (r := ("Partlister", T_X, 5)) hV.1 cb_X_needCursor lk_X_167 in_X_needCursor rfl se_X_needCursor (by decide +kernel) rfl rfl (Nat.le_of_ble_eq_true rfl) (by decide) e1 m3) (k_X_needCursor hV G a0 a1) h (fun G4 _ h => ?_)
  refine Y.blk (pc' := 6) (L' := [some (.ref a0), some (.int a1), none, none]) (st' := [.ref a0]) (sg := [(.aload_n 0, 0)]) (by decide +kernel) rfl ?_
  refine Y.getA fl_X_19 (by decide +kernel) h (fun v5 h => ?_)
  refine Y.blk (pc' := 10) (L' := [some (.ref a0), some (.int a1), none, none]) (st' := [.int a1, .ref v5]) (sg := [(.iload_n 1, 0)]) (by decide +kernel) rfl ?_
  obtain ⟨_, o7, e6, m8, h⟩ := gOb_inv h
  refine Y.callI (yC.Vi (b := v5) (As := [.int a1]) (st := []) (r := ("Partlister$Cursors", T_U, 5)) hV.1 cb_U_isStale lk_X_170 in_U_isStale rfl se_U_isStale (by decide +kernel) rfl rfl (Nat.le_of_ble_eq_true rfl) (by decide) e6 m8) (k_U_isStale hV G4 v5 a1) h (fun v10 G9 _ h => ?_)
  refine Y.if_eq (off := 10) (tgt := 23) (by decide +kernel) (by decide) h (fun c50 h => ?_) (fun c50 h => ?_)
  · refine Y.blk (pc' := 24) (L' := [some (.ref a0), some (.int a1), none, none]) (st' := [.ref a0]) (sg := [(.aload_n 0, 0)]) (by decide +kernel) rfl ?_
    refine Y.getA fl_X_19 (by decide +kernel) h (fun v11 h => ?_)
    refine Y.blk (pc' := 28) (L' := [some (.ref a0), some (.int a1), none, none]) (st' := [.int a1, .ref v11]) (sg := [(.iload_n 1, 0)]) (by decide +kernel) rfl ?_
    obtain ⟨_, o13, e12, m14, h⟩ := gOb_inv h
    refine Y.callI (yC.Vi (b := v11) (As := [.int a1]) (st := []) (r := ("Partlister$Cursors", T_U, 5)) hV.1 cb_U_lastOf lk_X_182 in_U_lastOf rfl se_U_lastOf (by decide +kernel) rfl rfl (Nat.le_of_ble_eq_true rfl) (by decide) e12 m14) (k_U_lastOf hV G9 v11 a1) h (fun v16 G15 _ h => ?_)
    refine Y.blk (pc' := 34) (L' := [some (.ref a0), some (.int a1), some (.int v16), none]) (st' := [.int (-1), .int v16]) (sg := [(.istore_n 2, 0), (.iload_n 2, 0), (.iconst (-1), -1)]) (by decide +kernel) rfl ?_
    refine Y.ic_ne (off := 10) (tgt := 44) (by decide +kernel) (by decide) h (fun c44 h => ?_) (fun c44 h => ?_)
    · refine Y.blk (pc' := 40) (L' := [some (.ref a0), some (.int a1), some (.int v16), none]) (st' := [.int (-7), .ref a0]) (sg := [(.aload_n 0, 0), (.bipush (-7), -7)]) (by decide +kernel) rfl ?_
      obtain ⟨_, o18, e17, m19, h⟩ := gOb_inv h
      refine Y.callI (yC.Vi (b := a0) (As := [.int (-7)]) (st := []) (r := ("Partlister", T_X, 5)) hV.1 cb_X_failWith lk_X_173 in_X_failWith rfl se_X_failWith (by decide +kernel) rfl rfl (Nat.le_of_ble_eq_true rfl) (by decide) e17 m19) (k_X_failWith hV G15 a0 (-7)) h (fun v21 G20 _ h => ?_)
      exact Y.iret rfl (by decide +kernel) h
    · refine Y.blk (pc' := 45) (L' := [some (.ref a0), some (.int a1), some (.int v16), none]) (st' := [.ref a0]) (sg := [(.aload_n 0, 0)]) (by decide +kernel) rfl ?_
      refine Y.getA fl_X_19 (by decide +kernel) h (fun v22 h => ?_)
      refine Y.blk (pc' := 49) (L' := [some (.ref a0), some (.int a1), some (.int v16), none]) (st' := [.int a1, .ref v22]) (sg := [(.iload_n 1, 0)]) (by decide +kernel) rfl ?_
      obtain ⟨_, o24, e23, m25, h⟩ := gOb_inv h
      refine Y.callI (yC.Vi (b := v22) (As := [.int a1]) (st := []) (r := ("Partlister$Cursors", T_U, 5)) hV.1 cb_U_listOf lk_X_152 in_U_listOf rfl se_U_listOf (by decide +kernel) rfl rfl (Nat.le_of_ble_eq_true rfl) (by decide) e23 m25) (k_U_listOf hV G15 v22 a1) h (fun v27 G26 _ h => ?_)
      refine Y.blk (pc' := 57) (L' := [some (.ref a0), some (.int a1), some (.int v16), some (.int v27)]) (st' := [.int a1, .int v16, .int v27, .ref a0]) (sg := [(.istore_n 3, 0), (.aload_n 0, 0), (.iload_n 3, 0), (.iload_n 2, 0), (.iload_n 1, 0)]) (by decide +kernel) rfl ?_
      obtain ⟨_, o29, e28, m30, h⟩ := gOb_inv h
      refine Y.callI (yC.Vi (b := a0) (As := [.int v27, .int v16, .int a1]) (st := []) (r := ("Partlister", T_X, 5)) hV.1 cb_X_takeOut lk_X_69 in_X_takeOut rfl se_X_takeOut (by decide +kernel) rfl rfl (Nat.le_of_ble_eq_true rfl) (by decide) e28 m30) (k_X_takeOut hV G26 a0 v27 v16 a1) h (fun v32 G31 _ h => ?_)
      refine Y.blk (pc' := 62) (L' := [some (.ref a0), some (.int a1), some (.int v16), some (.int v27)]) (st' := [.ref a0]) (sg := [(.pop, 0), (.aload_n 0, 0)]) (by decide +kernel) rfl ?_
      refine Y.getA fl_X_19 (by decide +kernel) h (fun v33 h => ?_)
      refine Y.blk (pc' := 68) (L' := [some (.ref a0), some (.int a1), some (.int v16), some (.int v27)]) (st' := [.int (-1), .int v16, .int a1, .ref v33]) (sg := [(.iload_n 1, 0), (.iload_n 2, 0), (.iconst (-1), -1)]) (by decide +kernel) rfl ?_
      obtain ⟨_, o35, e34, m36, h⟩ := gOb_inv h
      refine Y.callN (yC.Vi (b := v33) (As := [.int a1, .int v16, .int (-1)]) (st := []) (r := ("Partlister$Cursors", T_U, 5)) hV.1 cb_U_stand lk_X_179 in_U_stand rfl se_U_stand (by decide +kernel) rfl rfl (Nat.le_of_ble_eq_true rfl) (by decide) e34 m36) (k_U_stand hV G31 v33 a1 v16 (-1)) h (fun G37 _ h => ?_)
      refine Y.blk (pc' := 72) (L' := [some (.ref a0), some (.int a1), some (.int v16), some (.int v27)]) (st' := [.ref a0]) (sg := [(.aload_n 0, 0)]) (by decide +kernel) rfl ?_
      refine Y.getA fl_X_10 (by decide +kernel) h (fun v38 h => ?_)
      refine Y.blk (pc' := 76) (L' := [some (.ref a0), some (.int a1), some (.int v16), some (.int v27)]) (st' := [.int v27, .ref v38]) (sg := [(.iload_n 3, 0)]) (by decide +kernel) rfl ?_
      obtain ⟨_, o40, e39, m41, h⟩ := gOb_inv h
      refine Y.callI (yC.Vi (b := v38) (As := [.int v27]) (st := []) (r := ("Partlister$Lists", T_I, 7)) hV.1 cb_I_lengthOf lk_X_34 in_I_lengthOf rfl se_I_lengthOf (by decide +kernel) rfl rfl (Nat.le_of_ble_eq_true rfl) (by decide) e39 m41) (k_I_lengthOf hV G37 v38 v27) h (fun v43 G42 _ h => ?_)
      exact Y.iret rfl (by decide +kernel) h
  · refine Y.blk (pc' := 19) (L' := [some (.ref a0), some (.int a1), none, none]) (st' := [.int (-9), .ref a0]) (sg := [(.aload_n 0, 0), (.bipush (-9), -9)]) (by decide +kernel) rfl ?_
    obtain ⟨_, o46, e45, m47, h⟩ := gOb_inv h
    refine Y.callI (yC.Vi (b := a0) (As := [.int (-9)]) (st := []) (r := ("Partlister", T_X, 5)) hV.1 cb_X_failWith lk_X_173 in_X_failWith rfl se_X_failWith (by decide +kernel) rfl rfl (Nat.le_of_ble_eq_true rfl) (by decide) e45 m47) (k_X_failWith hV G9 a0 (-9)) h (fun v49 G48 _ h => ?_)
    exact Y.iret rfl (by decide +kernel) h

def f_X_end (G : gH) (a0 : Nat) (a1 : Int32) : gR :=
  gOb G a0 3 fun o2 => bV (f_X_needCursor G a0 a1) fun G4 => gFA G4 a0 3 1 fun v5 => gOb G4 v5 0 fun o7 => bI (f_U_isStale G4 v5 a1) fun v10 G9 => gFA G9 a0 3 1 fun v11 => gOb G9 v11 0 fun o13 => bV (f_U_finish G9 v11 a1) fun G15 => rZ v10 G15
theorem k_X_end {l : Launch} {D : va_G} {B : Nat} {O : State → Heap → Prop} (hV : zG l D B O) (G : gH) (a0 : Nat) (a1 : Int32) : gMet (zVm l D B O) m_X_end 7 [.ref a0, .int a1] G (f_X_end G a0 a1) := by
  refine gMet.of (by decide +kernel) (Nat.le_of_ble_eq_true rfl) [some (.ref a0), some (.int a1), none] (fun ls h => zEn_ok (n := 3) h) ?_
  intro o Gf h
  unfold f_X_end at h
  refine Y.blk (pc' := 2) (L' := [some (.ref a0), some (.int a1), none]) (st' := [.int a1, .ref a0]) (sg := [(.aload_n 0, 0), (.iload_n 1, 0)]) (by decide +kernel) rfl ?_
  obtain ⟨_, o2, e1, m3, h⟩ := gOb_inv h
  refine Y.callN (yC.Vi (b := a0) (As := [.int a1]) (st := []) (r := ("Partlister", T_X, 5)) hV.1 cb_X_needCursor lk_X_167 in_X_needCursor rfl se_X_needCursor (by decide +kernel) rfl rfl (Nat.le_of_ble_eq_true rfl) (by decide) e1 m3) (k_X_needCursor hV G a0 a1) h (fun G4 _ h => ?_)
  refine Y.blk (pc' := 6) (L' := [some (.ref a0), some (.int a1), none]) (st' := [.ref a0]) (sg := [(.aload_n 0, 0)]) (by decide +kernel) rfl ?_
  refine Y.getA fl_X_19 (by decide +kernel) h (fun v5 h => ?_)
  refine Y.blk (pc' := 10) (L' := [some (.ref a0), some (.int a1), none]) (st' := [.int a1, .ref v5]) (sg := [(.iload_n 1, 0)]) (by decide +kernel) rfl ?_
  obtain ⟨_, o7, e6, m8, h⟩ := gOb_inv h
  refine Y.callI (yC.Vi (b := v5) (As := [.int a1]) (st := []) (r := ("Partlister$Cursors", T_U, 5)) hV.1 cb_U_isStale lk_X_170 in_U_isStale rfl se_U_isStale (by decide +kernel) rfl rfl (Nat.le_of_ble_eq_true rfl) (by decide) e6 m8) (k_U_isStale hV G4 v5 a1) h (fun v10 G9 _ h => ?_)
  refine Y.blk (pc' := 15) (L' := [some (.ref a0), some (.int a1), some (.int v10)]) (st' := [.ref a0]) (sg := [(.istore_n 2, 0), (.aload_n 0, 0)]) (by decide +kernel) rfl ?_
  refine Y.getA fl_X_19 (by decide +kernel) h (fun v11 h => ?_)
  refine Y.blk (pc' := 19) (L' := [some (.ref a0), some (.int a1), some (.int v10)]) (st' := [.int a1, .ref v11]) (sg := [(.iload_n 1, 0)]) (by decide +kernel) rfl ?_
  obtain ⟨_, o13, e12, m14, h⟩ := gOb_inv h
  refine Y.callN (yC.Vi (b := v11) (As := [.int a1]) (st := []) (r := ("Partlister$Cursors", T_U, 5)) hV.1 cb_U_finish lk_X_156 in_U_finish rfl se_U_finish (by decide +kernel) rfl rfl (Nat.le_of_ble_eq_true rfl) (by decide) e12 m14) (k_U_finish hV G9 v11 a1) h (fun G15 _ h => ?_)
  refine Y.blk (pc' := 23) (L' := [some (.ref a0), some (.int a1), some (.int v10)]) (st' := [.int v10]) (sg := [(.iload_n 2, 0)]) (by decide +kernel) rfl ?_
  exact Y.zret rfl (by decide +kernel) h

def f_X_needPlace (G : gH) (a0 : Nat) (a1 : Int32) (a2 : Int32) : gR :=
  if a2 < 0 then gThrow "java/lang/IndexOutOfBoundsException" G
  else gFA G a0 3 0 fun v1 => gOb G v1 1 fun o3 => bI (f_I_lengthOf G v1 a1) fun v6 G5 => if a2 < v6 then rV G5
    else gThrow "java/lang/IndexOutOfBoundsException" G5
theorem k_X_needPlace {l : Launch} {D : va_G} {B : Nat} {O : State → Heap → Prop} (hV : zG l D B O) (G : gH) (a0 : Nat) (a1 : Int32) (a2 : Int32) : gMet (zVm l D B O) m_X_needPlace 6 [.ref a0, .int a1, .int a2] G (f_X_needPlace G a0 a1 a2) := by
  refine gMet.of (by decide +kernel) (Nat.le_of_ble_eq_true rfl) [some (.ref a0), some (.int a1), some (.int a2)] (fun ls h => zEn_ok (n := 3) h) ?_
  intro o Gf h
  unfold f_X_needPlace at h
  refine Y.blk (pc' := 1) (L' := [some (.ref a0), some (.int a1), some (.int a2)]) (st' := [.int a2]) (sg := [(.iload_n 2, 0)]) (by decide +kernel) rfl ?_
  refine Y.if_lt (off := 15) (tgt := 16) (by decide +kernel) (by decide) h (fun c8 h => ?_) (fun c8 h => ?_)
  · exact Y.throwSW (is := 337) (text := "there is no such PLACE") (names := zNm) hV.1 (hV.2 _ _ _ (by decide +kernel)) (by decide +kernel) (by decide +kernel) ck_X_125 ini_IOE tw_X_129 tg_X_129 (by decide) (by decide) rfl (Nat.le_of_ble_eq_true rfl) (by decide +kernel) (by decide +kernel) (by decide +kernel) (by decide +kernel) (by decide +kernel) h
  · refine Y.blk (pc' := 6) (L' := [some (.ref a0), some (.int a1), some (.int a2)]) (st' := [.ref a0, .int a2]) (sg := [(.iload_n 2, 0), (.aload_n 0, 0)]) (by decide +kernel) rfl ?_
    refine Y.getA fl_X_10 (by decide +kernel) h (fun v1 h => ?_)
    refine Y.blk (pc' := 10) (L' := [some (.ref a0), some (.int a1), some (.int a2)]) (st' := [.int a1, .ref v1, .int a2]) (sg := [(.iload_n 1, 0)]) (by decide +kernel) rfl ?_
    obtain ⟨_, o3, e2, m4, h⟩ := gOb_inv h
    refine Y.callI (yC.Vi (b := v1) (As := [.int a1]) (st := [.int a2]) (r := ("Partlister$Lists", T_I, 7)) hV.1 cb_I_lengthOf lk_X_34 in_I_lengthOf rfl se_I_lengthOf (by decide +kernel) rfl rfl (Nat.le_of_ble_eq_true rfl) (by decide) e2 m4) (k_I_lengthOf hV G v1 a1) h (fun v6 G5 _ h => ?_)
    refine Y.ic_lt (off := 14) (tgt := 27) (by decide +kernel) (by decide) h (fun c7 h => ?_) (fun c7 h => ?_)
    · exact Y.vret rfl (by decide +kernel) h
    · exact Y.throwSW (is := 337) (text := "there is no such PLACE") (names := zNm) hV.1 (hV.2 _ _ _ (by decide +kernel)) (by decide +kernel) (by decide +kernel) ck_X_125 ini_IOE tw_X_129 tg_X_129 (by decide) (by decide) rfl (Nat.le_of_ble_eq_true rfl) (by decide +kernel) (by decide +kernel) (by decide +kernel) (by decide +kernel) (by decide +kernel) h

def f_I_swap (G : gH) (a0 : Nat) (a1 : Int32) (a2 : Int32) (a3 : Int32) : gR :=
  gOb G a0 1 fun o2 => bI (f_I_thingAt G a0 a1 a2) fun v5 G4 => gOb G4 a0 1 fun o7 => bI (f_I_thingAt G4 a0 a1 a3) fun v10 G9 => gOb G9 a0 1 fun o12 => bV (f_I_write G9 a0 a1 a2 v10) fun G14 => gOb G14 a0 1 fun o16 => bV (f_I_write G14 a0 a1 a3 v5) fun G18 => rV G18
theorem k_I_swap {l : Launch} {D : va_G} {B : Nat} {O : State → Heap → Prop} (hV : zG l D B O) (G : gH) (a0 : Nat) (a1 : Int32) (a2 : Int32) (a3 : Int32) : gMet (zVm l D B O) m_I_swap 4 [.ref a0, .int a1, .int a2, .int a3] G (f_I_swap G a0 a1 a2 a3) := by
  refine gMet.of (by decide +kernel) (Nat.le_of_ble_eq_true rfl) [some (.ref a0), some (.int a1), some (.int a2), some (.int a3), none] (fun ls h => zEn_ok (n := 5) h) ?_
  intro o Gf h
  unfold f_I_swap at h
  refine Y.blk (pc' := 3) (L' := [some (.ref a0), some (.int a1), some (.int a2), some (.int a3), none]) (st' := [.int a2, .int a1, .ref a0]) (sg := [(.aload_n 0, 0), (.iload_n 1, 0), (.iload_n 2, 0)]) (by decide +kernel) rfl ?_
  obtain ⟨_, o2, e1, m3, h⟩ := gOb_inv h
  refine Y.callI (yC.Vi (b := a0) (As := [.int a1, .int a2]) (st := []) (r := ("Partlister$Lists", T_I, 7)) hV.1 cb_I_thingAt lk_I_50 in_I_thingAt rfl se_I_thingAt (by decide +kernel) rfl rfl (Nat.le_of_ble_eq_true rfl) (by decide) e1 m3) (k_I_thingAt hV G a0 a1 a2) h (fun v5 G4 _ h => ?_)
  refine Y.blk (pc' := 14) (L' := [some (.ref a0), some (.int a1), some (.int a2), some (.int a3), some (.int v5)]) (st' := [.int a3, .int a1, .ref a0, .int a2, .int a1, .ref a0]) (sg := [(.istore 4, 0), (.aload_n 0, 0), (.iload_n 1, 0), (.iload_n 2, 0), (.aload_n 0, 0), (.iload_n 1, 0), (.iload_n 3, 0)]) (by decide +kernel) rfl ?_
  obtain ⟨_, o7, e6, m8, h⟩ := gOb_inv h
  refine Y.callI (yC.Vi (b := a0) (As := [.int a1, .int a3]) (st := [.int a2, .int a1, .ref a0]) (r := ("Partlister$Lists", T_I, 7)) hV.1 cb_I_thingAt lk_I_50 in_I_thingAt rfl se_I_thingAt (by decide +kernel) rfl rfl (Nat.le_of_ble_eq_true rfl) (by decide) e6 m8) (k_I_thingAt hV G4 a0 a1 a3) h (fun v10 G9 _ h => ?_)
  obtain ⟨_, o12, e11, m13, h⟩ := gOb_inv h
  refine Y.callN (yC.Vi (b := a0) (As := [.int a1, .int a2, .int v10]) (st := []) (r := ("Partlister$Lists", T_I, 7)) hV.1 cb_I_write lk_I_53 in_I_write rfl se_I_write (by decide +kernel) rfl rfl (Nat.le_of_ble_eq_true rfl) (by decide) e11 m13) (k_I_write hV G9 a0 a1 a2 v10) h (fun G14 _ h => ?_)
  refine Y.blk (pc' := 25) (L' := [some (.ref a0), some (.int a1), some (.int a2), some (.int a3), some (.int v5)]) (st' := [.int v5, .int a3, .int a1, .ref a0]) (sg := [(.aload_n 0, 0), (.iload_n 1, 0), (.iload_n 3, 0), (.iload 4, 0)]) (by decide +kernel) rfl ?_
  obtain ⟨_, o16, e15, m17, h⟩ := gOb_inv h
  refine Y.callN (yC.Vi (b := a0) (As := [.int a1, .int a3, .int v5]) (st := []) (r := ("Partlister$Lists", T_I, 7)) hV.1 cb_I_write lk_I_53 in_I_write rfl se_I_write (by decide +kernel) rfl rfl (Nat.le_of_ble_eq_true rfl) (by decide) e15 m17) (k_I_write hV G14 a0 a1 a3 v5) h (fun G18 _ h => ?_)
  exact Y.vret rfl (by decide +kernel) h

def f_X_exchange (G : gH) (a0 : Nat) (a1 : Int32) (a2 : Int32) (a3 : Int32) : gR :=
  gOb G a0 3 fun o2 => bV (f_X_needList G a0 a1) fun G4 => gOb G4 a0 3 fun o6 => bV (f_X_needPlace G4 a0 a1 a2) fun G8 => gOb G8 a0 3 fun o10 => bV (f_X_needPlace G8 a0 a1 a3) fun G12 => gFA G12 a0 3 0 fun v13 => gOb G12 v13 1 fun o15 => bV (f_I_swap G12 v13 a1 a2 a3) fun G17 => gFA G17 a0 3 0 fun v18 => gOb G17 v18 1 fun o20 => bI (f_I_keyAt G17 v18 a1 a2) fun v23 G22 => gFA G22 a0 3 0 fun v24 => gOb G22 v24 1 fun o26 => bI (f_I_keyAt G22 v24 a1 a3) fun v29 G28 => if v23 = v29 then rZ (nI 1) G28
  else rZ (nI 0) G28
theorem k_X_exchange {l : Launch} {D : va_G} {B : Nat} {O : State → Heap → Prop} (hV : zG l D B O) (G : gH) (a0 : Nat) (a1 : Int32) (a2 : Int32) (a3 : Int32) : gMet (zVm l D B O) m_X_exchange 7 [.ref a0, .int a1, .int a2, .int a3] G (f_X_exchange G a0 a1 a2 a3) := by
  refine gMet.of (by decide +kernel) (Nat.le_of_ble_eq_true rfl) [some (.ref a0), some (.int a1), some (.int a2), some (.int a3)] (fun ls h => zEn_ok (n := 4) h) ?_
  intro o Gf h
  unfold f_X_exchange at h
  refine Y.blk (pc' := 2) (L' := [some (.ref a0), some (.int a1), some (.int a2), some (.int a3)]) (st' := [.int a1, .ref a0]) (sg := [(.aload_n 0, 0), (.iload_n 1, 0)]) (by decide +kernel) rfl ?_
  obtain ⟨_, o2, e1, m3, h⟩ := gOb_inv h
  refine Y.callN (yC.Vi (b := a0) (As := [.int a1]) (st := []) (r := ("Partlister", T_X, 5)) hV.1 cb_X_needList lk_X_23 in_X_needList rfl se_X_needList (by decide +kernel) rfl rfl (Nat.le_of_ble_eq_true rfl) (by decide) e1 m3) (k_X_needList hV G a0 a1) h (fun G4 _ h => ?_)
  refine Y.blk (pc' := 8) (L' := [some (.ref a0), some (.int a1), some (.int a2), some (.int a3)]) (st' := [.int a2, .int a1, .ref a0]) (sg := [(.aload_n 0, 0), (.iload_n 1, 0), (.iload_n 2, 0)]) (by decide +kernel) rfl ?_
  obtain ⟨_, o6, e5, m7, h⟩ := gOb_inv h
  refine Y.callN (yC.Vi (b := a0) (As := [.int a1, .int a2]) (st := []) (r := ("Partlister", T_X, 5)) hV.1 cb_X_needPlace lk_X_58 in_X_needPlace rfl se_X_needPlace (by decide +kernel) rfl rfl (Nat.le_of_ble_eq_true rfl) (by decide) e5 m7) (k_X_needPlace hV G4 a0 a1 a2) h (fun G8 _ h => ?_)
  refine Y.blk (pc' := 14) (L' := [some (.ref a0), some (.int a1), some (.int a2), some (.int a3)]) (st' := [.int a3, .int a1, .ref a0]) (sg := [(.aload_n 0, 0), (.iload_n 1, 0), (.iload_n 3, 0)]) (by decide +kernel) rfl ?_
  obtain ⟨_, o10, e9, m11, h⟩ := gOb_inv h
  refine Y.callN (yC.Vi (b := a0) (As := [.int a1, .int a3]) (st := []) (r := ("Partlister", T_X, 5)) hV.1 cb_X_needPlace lk_X_58 in_X_needPlace rfl se_X_needPlace (by decide +kernel) rfl rfl (Nat.le_of_ble_eq_true rfl) (by decide) e9 m11) (k_X_needPlace hV G8 a0 a1 a3) h (fun G12 _ h => ?_)
  refine Y.blk (pc' := 18) (L' := [some (.ref a0), some (.int a1), some (.int a2), some (.int a3)]) (st' := [.ref a0]) (sg := [(.aload_n 0, 0)]) (by decide +kernel) rfl ?_
  refine Y.getA fl_X_10 (by decide +kernel) h (fun v13 h => ?_)
  refine Y.blk (pc' := 24) (L' := [some (.ref a0), some (.int a1), some (.int a2), some (.int a3)]) (st' := [.int a3, .int a2, .int a1, .ref v13]) (sg := [(.iload_n 1, 0), (.iload_n 2, 0), (.iload_n 3, 0)]) (by decide +kernel) rfl ?_
  obtain ⟨_, o15, e14, m16, h⟩ := gOb_inv h
  refine Y.callN (yC.Vi (b := v13) (As := [.int a1, .int a2, .int a3]) (st := []) (r := ("Partlister$Lists", T_I, 7)) hV.1 cb_I_swap lk_X_117 in_I_swap rfl se_I_swap (by decide +kernel) rfl rfl (Nat.le_of_ble_eq_true rfl) (by decide) e14 m16) (k_I_swap hV G12 v13 a1 a2 a3) h (fun G17 _ h => ?_)
  refine Y.blk (pc' := 28) (L' := [some (.ref a0), some (.int a1), some (.int a2), some (.int a3)]) (st' := [.ref a0]) (sg := [(.aload_n 0, 0)]) (by decide +kernel) rfl ?_
  refine Y.getA fl_X_10 (by decide +kernel) h (fun v18 h => ?_)
  refine Y.blk (pc' := 33) (L' := [some (.ref a0), some (.int a1), some (.int a2), some (.int a3)]) (st' := [.int a2, .int a1, .ref v18]) (sg := [(.iload_n 1, 0), (.iload_n 2, 0)]) (by decide +kernel) rfl ?_
  obtain ⟨_, o20, e19, m21, h⟩ := gOb_inv h
  refine Y.callI (yC.Vi (b := v18) (As := [.int a1, .int a2]) (st := []) (r := ("Partlister$Lists", T_I, 7)) hV.1 cb_I_keyAt lk_X_61 in_I_keyAt rfl se_I_keyAt (by decide +kernel) rfl rfl (Nat.le_of_ble_eq_true rfl) (by decide) e19 m21) (k_I_keyAt hV G17 v18 a1 a2) h (fun v23 G22 _ h => ?_)
  refine Y.blk (pc' := 37) (L' := [some (.ref a0), some (.int a1), some (.int a2), some (.int a3)]) (st' := [.ref a0, .int v23]) (sg := [(.aload_n 0, 0)]) (by decide +kernel) rfl ?_
  refine Y.getA fl_X_10 (by decide +kernel) h (fun v24 h => ?_)
  refine Y.blk (pc' := 42) (L' := [some (.ref a0), some (.int a1), some (.int a2), some (.int a3)]) (st' := [.int a3, .int a1, .ref v24, .int v23]) (sg := [(.iload_n 1, 0), (.iload_n 3, 0)]) (by decide +kernel) rfl ?_
  obtain ⟨_, o26, e25, m27, h⟩ := gOb_inv h
  refine Y.callI (yC.Vi (b := v24) (As := [.int a1, .int a3]) (st := [.int v23]) (r := ("Partlister$Lists", T_I, 7)) hV.1 cb_I_keyAt lk_X_61 in_I_keyAt rfl se_I_keyAt (by decide +kernel) rfl rfl (Nat.le_of_ble_eq_true rfl) (by decide) e25 m27) (k_I_keyAt hV G22 v24 a1 a3) h (fun v29 G28 _ h => ?_)
  refine Y.ic_ne (off := 7) (tgt := 52) (by decide +kernel) (by decide) h (fun c30 h => ?_) (fun c30 h => ?_)
  · refine Y.blk (pc' := 49) (L' := [some (.ref a0), some (.int a1), some (.int a2), some (.int a3)]) (st' := [.int (nI 1)]) (sg := [(.iconst 1, nI 1)]) (by decide +kernel) rfl ?_
    refine Y.goto (off := 4) (tgt := 53) (by decide +kernel) (by decide) ?_
    exact Y.zret rfl (by decide +kernel) h
  · refine Y.blk (pc' := 53) (L' := [some (.ref a0), some (.int a1), some (.int a2), some (.int a3)]) (st' := [.int (nI 0)]) (sg := [(.iconst 0, nI 0)]) (by decide +kernel) rfl ?_
    exact Y.zret rfl (by decide +kernel) h

def f_X_extreme (G : gH) (a0 : Nat) (a1 : Int32) (a2 : Int32) : gR :=
  gOb G a0 3 fun o2 => bV (f_X_needList G a0 a1) fun G4 => gFA G4 a0 3 0 fun v5 => gOb G4 v5 1 fun o7 => bI (f_I_extremeKey G4 v5 a1 a2) fun v10 G9 => rI v10 G9
theorem k_X_extreme {l : Launch} {D : va_G} {B : Nat} {O : State → Heap → Prop} (hV : zG l D B O) (G : gH) (a0 : Nat) (a1 : Int32) (a2 : Int32) : gMet (zVm l D B O) m_X_extreme 7 [.ref a0, .int a1, .int a2] G (f_X_extreme G a0 a1 a2) := by
  refine gMet.of (by decide +kernel) (Nat.le_of_ble_eq_true rfl) [some (.ref a0), some (.int a1), some (.int a2)] (fun ls h => zEn_ok (n := 3) h) ?_
  intro o Gf h
  unfold f_X_extreme at h
  refine Y.blk (pc' := 2) (L' := [some (.ref a0), some (.int a1), some (.int a2)]) (st' := [.int a1, .ref a0]) (sg := [(.aload_n 0, 0), (.iload_n 1, 0)]) (by decide +kernel) rfl ?_
  obtain ⟨_, o2, e1, m3, h⟩ := gOb_inv h
  refine Y.callN (yC.Vi (b := a0) (As := [.int a1]) (st := []) (r := ("Partlister", T_X, 5)) hV.1 cb_X_needList lk_X_23 in_X_needList rfl se_X_needList (by decide +kernel) rfl rfl (Nat.le_of_ble_eq_true rfl) (by decide) e1 m3) (k_X_needList hV G a0 a1) h (fun G4 _ h => ?_)
  refine Y.blk (pc' := 6) (L' := [some (.ref a0), some (.int a1), some (.int a2)]) (st' := [.ref a0]) (sg := [(.aload_n 0, 0)]) (by decide +kernel) rfl ?_
  refine Y.getA fl_X_10 (by decide +kernel) h (fun v5 h => ?_)
  refine Y.blk (pc' := 11) (L' := [some (.ref a0), some (.int a1), some (.int a2)]) (st' := [.int a2, .int a1, .ref v5]) (sg := [(.iload_n 1, 0), (.iload_n 2, 0)]) (by decide +kernel) rfl ?_
  obtain ⟨_, o7, e6, m8, h⟩ := gOb_inv h
  refine Y.callI (yC.Vi (b := v5) (As := [.int a1, .int a2]) (st := []) (r := ("Partlister$Lists", T_I, 7)) hV.1 cb_I_extremeKey lk_X_213 in_I_extremeKey rfl se_I_extremeKey (by decide +kernel) rfl rfl (Nat.le_of_ble_eq_true rfl) (by decide) e6 m8) (k_I_extremeKey hV G4 v5 a1 a2) h (fun v10 G9 _ h => ?_)
  exact Y.iret rfl (by decide +kernel) h

def f_X_find (G : gH) (a0 : Nat) (a1 : Int32) (a2 : Int32) : gR :=
  gOb G a0 3 fun o2 => bV (f_X_needList G a0 a1) fun G4 => gOb G4 a0 3 fun o6 => bV (f_X_needList G4 a0 a2) fun G8 => gFA G8 a0 3 0 fun v9 => gOb G8 v9 1 fun o11 => bI (f_I_placeOf G8 v9 a1 a2) fun v14 G13 => rI v14 G13
theorem k_X_find {l : Launch} {D : va_G} {B : Nat} {O : State → Heap → Prop} (hV : zG l D B O) (G : gH) (a0 : Nat) (a1 : Int32) (a2 : Int32) : gMet (zVm l D B O) m_X_find 7 [.ref a0, .int a1, .int a2] G (f_X_find G a0 a1 a2) := by
  refine gMet.of (by decide +kernel) (Nat.le_of_ble_eq_true rfl) [some (.ref a0), some (.int a1), some (.int a2)] (fun ls h => zEn_ok (n := 3) h) ?_
  intro o Gf h
  unfold f_X_find at h
  refine Y.blk (pc' := 2) (L' := [some (.ref a0), some (.int a1), some (.int a2)]) (st' := [.int a1, .ref a0]) (sg := [(.aload_n 0, 0), (.iload_n 1, 0)]) (by decide +kernel) rfl ?_
  obtain ⟨_, o2, e1, m3, h⟩ := gOb_inv h
  refine Y.callN (yC.Vi (b := a0) (As := [.int a1]) (st := []) (r := ("Partlister", T_X, 5)) hV.1 cb_X_needList lk_X_23 in_X_needList rfl se_X_needList (by decide +kernel) rfl rfl (Nat.le_of_ble_eq_true rfl) (by decide) e1 m3) (k_X_needList hV G a0 a1) h (fun G4 _ h => ?_)
  refine Y.blk (pc' := 7) (L' := [some (.ref a0), some (.int a1), some (.int a2)]) (st' := [.int a2, .ref a0]) (sg := [(.aload_n 0, 0), (.iload_n 2, 0)]) (by decide +kernel) rfl ?_
  obtain ⟨_, o6, e5, m7, h⟩ := gOb_inv h
  refine Y.callN (yC.Vi (b := a0) (As := [.int a2]) (st := []) (r := ("Partlister", T_X, 5)) hV.1 cb_X_needList lk_X_23 in_X_needList rfl se_X_needList (by decide +kernel) rfl rfl (Nat.le_of_ble_eq_true rfl) (by decide) e5 m7) (k_X_needList hV G4 a0 a2) h (fun G8 _ h => ?_)
  refine Y.blk (pc' := 11) (L' := [some (.ref a0), some (.int a1), some (.int a2)]) (st' := [.ref a0]) (sg := [(.aload_n 0, 0)]) (by decide +kernel) rfl ?_
  refine Y.getA fl_X_10 (by decide +kernel) h (fun v9 h => ?_)
  refine Y.blk (pc' := 16) (L' := [some (.ref a0), some (.int a1), some (.int a2)]) (st' := [.int a2, .int a1, .ref v9]) (sg := [(.iload_n 1, 0), (.iload_n 2, 0)]) (by decide +kernel) rfl ?_
  obtain ⟨_, o11, e10, m12, h⟩ := gOb_inv h
  refine Y.callI (yC.Vi (b := v9) (As := [.int a1, .int a2]) (st := []) (r := ("Partlister$Lists", T_I, 7)) hV.1 cb_I_placeOf lk_X_202 in_I_placeOf rfl se_I_placeOf (by decide +kernel) rfl rfl (Nat.le_of_ble_eq_true rfl) (by decide) e10 m12) (k_I_placeOf hV G8 v9 a1 a2) h (fun v14 G13 _ h => ?_)
  exact Y.iret rfl (by decide +kernel) h

def f_X_first (G : gH) (a0 : Nat) (a1 : Int32) (a2 : Int32) : gR :=
  gOb G a0 3 fun o2 => bV (f_X_needList G a0 a1) fun G4 => gOb G4 a0 3 fun o6 => bV (f_X_needKey G4 a0 a2) fun G8 => gFA G8 a0 3 0 fun v9 => gOb G8 v9 1 fun o11 => bI (f_I_firstOf G8 v9 a1 a2) fun v14 G13 => rI v14 G13
theorem k_X_first {l : Launch} {D : va_G} {B : Nat} {O : State → Heap → Prop} (hV : zG l D B O) (G : gH) (a0 : Nat) (a1 : Int32) (a2 : Int32) : gMet (zVm l D B O) m_X_first 7 [.ref a0, .int a1, .int a2] G (f_X_first G a0 a1 a2) := by
  refine gMet.of (by decide +kernel) (Nat.le_of_ble_eq_true rfl) [some (.ref a0), some (.int a1), some (.int a2)] (fun ls h => zEn_ok (n := 3) h) ?_
  intro o Gf h
  unfold f_X_first at h
  refine Y.blk (pc' := 2) (L' := [some (.ref a0), some (.int a1), some (.int a2)]) (st' := [.int a1, .ref a0]) (sg := [(.aload_n 0, 0), (.iload_n 1, 0)]) (by decide +kernel) rfl ?_
  obtain ⟨_, o2, e1, m3, h⟩ := gOb_inv h
  refine Y.callN (yC.Vi (b := a0) (As := [.int a1]) (st := []) (r := ("Partlister", T_X, 5)) hV.1 cb_X_needList lk_X_23 in_X_needList rfl se_X_needList (by decide +kernel) rfl rfl (Nat.le_of_ble_eq_true rfl) (by decide) e1 m3) (k_X_needList hV G a0 a1) h (fun G4 _ h => ?_)
  refine Y.blk (pc' := 7) (L' := [some (.ref a0), some (.int a1), some (.int a2)]) (st' := [.int a2, .ref a0]) (sg := [(.aload_n 0, 0), (.iload_n 2, 0)]) (by decide +kernel) rfl ?_
  obtain ⟨_, o6, e5, m7, h⟩ := gOb_inv h
  refine Y.callN (yC.Vi (b := a0) (As := [.int a2]) (st := []) (r := ("Partlister", T_X, 5)) hV.1 cb_X_needKey lk_X_27 in_X_needKey rfl se_X_needKey (by decide +kernel) rfl rfl (Nat.le_of_ble_eq_true rfl) (by decide) e5 m7) (k_X_needKey hV G4 a0 a2) h (fun G8 _ h => ?_)
  refine Y.blk (pc' := 11) (L' := [some (.ref a0), some (.int a1), some (.int a2)]) (st' := [.ref a0]) (sg := [(.aload_n 0, 0)]) (by decide +kernel) rfl ?_
  refine Y.getA fl_X_10 (by decide +kernel) h (fun v9 h => ?_)
  refine Y.blk (pc' := 16) (L' := [some (.ref a0), some (.int a1), some (.int a2)]) (st' := [.int a2, .int a1, .ref v9]) (sg := [(.iload_n 1, 0), (.iload_n 2, 0)]) (by decide +kernel) rfl ?_
  obtain ⟨_, o11, e10, m12, h⟩ := gOb_inv h
  refine Y.callI (yC.Vi (b := v9) (As := [.int a1, .int a2]) (st := []) (r := ("Partlister$Lists", T_I, 7)) hV.1 cb_I_firstOf lk_X_72 in_I_firstOf rfl se_I_firstOf (by decide +kernel) rfl rfl (Nat.le_of_ble_eq_true rfl) (by decide) e10 m12) (k_I_firstOf hV G8 v9 a1 a2) h (fun v14 G13 _ h => ?_)
  exact Y.iret rfl (by decide +kernel) h

def f_X_hasAll (G : gH) (a0 : Nat) (a1 : Int32) (a2 : Int32) : gR :=
  gOb G a0 3 fun o2 => bV (f_X_needList G a0 a1) fun G4 => gOb G4 a0 3 fun o6 => bV (f_X_needList G4 a0 a2) fun G8 => gFA G8 a0 3 0 fun v9 => gOb G8 v9 1 fun o11 => bI (f_I_holdsKeys G8 v9 a1 a2) fun v14 G13 => rZ v14 G13
theorem k_X_hasAll {l : Launch} {D : va_G} {B : Nat} {O : State → Heap → Prop} (hV : zG l D B O) (G : gH) (a0 : Nat) (a1 : Int32) (a2 : Int32) : gMet (zVm l D B O) m_X_hasAll 7 [.ref a0, .int a1, .int a2] G (f_X_hasAll G a0 a1 a2) := by
  refine gMet.of (by decide +kernel) (Nat.le_of_ble_eq_true rfl) [some (.ref a0), some (.int a1), some (.int a2)] (fun ls h => zEn_ok (n := 3) h) ?_
  intro o Gf h
  unfold f_X_hasAll at h
  refine Y.blk (pc' := 2) (L' := [some (.ref a0), some (.int a1), some (.int a2)]) (st' := [.int a1, .ref a0]) (sg := [(.aload_n 0, 0), (.iload_n 1, 0)]) (by decide +kernel) rfl ?_
  obtain ⟨_, o2, e1, m3, h⟩ := gOb_inv h
  refine Y.callN (yC.Vi (b := a0) (As := [.int a1]) (st := []) (r := ("Partlister", T_X, 5)) hV.1 cb_X_needList lk_X_23 in_X_needList rfl se_X_needList (by decide +kernel) rfl rfl (Nat.le_of_ble_eq_true rfl) (by decide) e1 m3) (k_X_needList hV G a0 a1) h (fun G4 _ h => ?_)
  refine Y.blk (pc' := 7) (L' := [some (.ref a0), some (.int a1), some (.int a2)]) (st' := [.int a2, .ref a0]) (sg := [(.aload_n 0, 0), (.iload_n 2, 0)]) (by decide +kernel) rfl ?_
  obtain ⟨_, o6, e5, m7, h⟩ := gOb_inv h
  refine Y.callN (yC.Vi (b := a0) (As := [.int a2]) (st := []) (r := ("Partlister", T_X, 5)) hV.1 cb_X_needList lk_X_23 in_X_needList rfl se_X_needList (by decide +kernel) rfl rfl (Nat.le_of_ble_eq_true rfl) (by decide) e5 m7) (k_X_needList hV G4 a0 a2) h (fun G8 _ h => ?_)
  refine Y.blk (pc' := 11) (L' := [some (.ref a0), some (.int a1), some (.int a2)]) (st' := [.ref a0]) (sg := [(.aload_n 0, 0)]) (by decide +kernel) rfl ?_
  refine Y.getA fl_X_10 (by decide +kernel) h (fun v9 h => ?_)
  refine Y.blk (pc' := 16) (L' := [some (.ref a0), some (.int a1), some (.int a2)]) (st' := [.int a2, .int a1, .ref v9]) (sg := [(.iload_n 1, 0), (.iload_n 2, 0)]) (by decide +kernel) rfl ?_
  obtain ⟨_, o11, e10, m12, h⟩ := gOb_inv h
  refine Y.callI (yC.Vi (b := v9) (As := [.int a1, .int a2]) (st := []) (r := ("Partlister$Lists", T_I, 7)) hV.1 cb_I_holdsKeys lk_X_192 in_I_holdsKeys rfl se_I_holdsKeys (by decide +kernel) rfl rfl (Nat.le_of_ble_eq_true rfl) (by decide) e10 m12) (k_I_holdsKeys hV G8 v9 a1 a2) h (fun v14 G13 _ h => ?_)
  exact Y.zret rfl (by decide +kernel) h

def f_X_hash (G : gH) (a0 : Nat) (a1 : Int32) : gR :=
  gOb G a0 3 fun o2 => bV (f_X_needList G a0 a1) fun G4 => gFA G4 a0 3 0 fun v5 => gOb G4 v5 1 fun o7 => bI (f_I_hashOf G4 v5 a1) fun v10 G9 => rI v10 G9
theorem k_X_hash {l : Launch} {D : va_G} {B : Nat} {O : State → Heap → Prop} (hV : zG l D B O) (G : gH) (a0 : Nat) (a1 : Int32) : gMet (zVm l D B O) m_X_hash 7 [.ref a0, .int a1] G (f_X_hash G a0 a1) := by
  refine gMet.of (by decide +kernel) (Nat.le_of_ble_eq_true rfl) [some (.ref a0), some (.int a1)] (fun ls h => zEn_ok (n := 2) h) ?_
  intro o Gf h
  unfold f_X_hash at h
  refine Y.blk (pc' := 2) (L' := [some (.ref a0), some (.int a1)]) (st' := [.int a1, .ref a0]) (sg := [(.aload_n 0, 0), (.iload_n 1, 0)]) (by decide +kernel) rfl ?_
  obtain ⟨_, o2, e1, m3, h⟩ := gOb_inv h
  refine Y.callN (yC.Vi (b := a0) (As := [.int a1]) (st := []) (r := ("Partlister", T_X, 5)) hV.1 cb_X_needList lk_X_23 in_X_needList rfl se_X_needList (by decide +kernel) rfl rfl (Nat.le_of_ble_eq_true rfl) (by decide) e1 m3) (k_X_needList hV G a0 a1) h (fun G4 _ h => ?_)
  refine Y.blk (pc' := 6) (L' := [some (.ref a0), some (.int a1)]) (st' := [.ref a0]) (sg := [(.aload_n 0, 0)]) (by decide +kernel) rfl ?_
  refine Y.getA fl_X_10 (by decide +kernel) h (fun v5 h => ?_)
  refine Y.blk (pc' := 10) (L' := [some (.ref a0), some (.int a1)]) (st' := [.int a1, .ref v5]) (sg := [(.iload_n 1, 0)]) (by decide +kernel) rfl ?_
  obtain ⟨_, o7, e6, m8, h⟩ := gOb_inv h
  refine Y.callI (yC.Vi (b := v5) (As := [.int a1]) (st := []) (r := ("Partlister$Lists", T_I, 7)) hV.1 cb_I_hashOf lk_X_217 in_I_hashOf rfl se_I_hashOf (by decide +kernel) rfl rfl (Nat.le_of_ble_eq_true rfl) (by decide) e6 m8) (k_I_hashOf hV G4 v5 a1) h (fun v10 G9 _ h => ?_)
  exact Y.iret rfl (by decide +kernel) h

def f_X_house (G : gH) (a0 : Nat) (a1 : Int32) : gR :=
  if a1 < 0 then gThrow "java/lang/IllegalArgumentException" G
  else if a1 < (nI 8) then gOb G a0 3 fun o2 => bI (f_X_worthOfHouse G a0 a1) fun v5 G4 => rI v5 G4
    else gThrow "java/lang/IllegalArgumentException" G
theorem k_X_house {l : Launch} {D : va_G} {B : Nat} {O : State → Heap → Prop} (hV : zG l D B O) (G : gH) (a0 : Nat) (a1 : Int32) : gMet (zVm l D B O) m_X_house 6 [.ref a0, .int a1] G (f_X_house G a0 a1) := by
  refine gMet.of (by decide +kernel) (Nat.le_of_ble_eq_true rfl) [some (.ref a0), some (.int a1)] (fun ls h => zEn_ok (n := 2) h) ?_
  intro o Gf h
  unfold f_X_house at h
  refine Y.blk (pc' := 1) (L' := [some (.ref a0), some (.int a1)]) (st' := [.int a1]) (sg := [(.iload_n 1, 0)]) (by decide +kernel) rfl ?_
  refine Y.if_lt (off := 9) (tgt := 10) (by decide +kernel) (by decide) h (fun c7 h => ?_) (fun c7 h => ?_)
  · exact Y.throwS (is := 248) (text := "what is not 0 to 7") (names := zNm) hV.1 (hV.2 _ _ _ (by decide +kernel)) (by decide +kernel) (by decide +kernel) ck_X_81 ini_IAE tw_X_85 tg_X_85 (by decide) (by decide) rfl (Nat.le_of_ble_eq_true rfl) (by decide +kernel) (by decide +kernel) (by decide +kernel) (by decide +kernel) (by decide +kernel) h
  · refine Y.blk (pc' := 7) (L' := [some (.ref a0), some (.int a1)]) (st' := [.int (nI 8), .int a1]) (sg := [(.iload_n 1, 0), (.bipush 8, nI 8)]) (by decide +kernel) rfl ?_
    refine Y.ic_lt (off := 13) (tgt := 20) (by decide +kernel) (by decide) h (fun c6 h => ?_) (fun c6 h => ?_)
    · refine Y.blk (pc' := 22) (L' := [some (.ref a0), some (.int a1)]) (st' := [.int a1, .ref a0]) (sg := [(.aload_n 0, 0), (.iload_n 1, 0)]) (by decide +kernel) rfl ?_
      obtain ⟨_, o2, e1, m3, h⟩ := gOb_inv h
      refine Y.callI (yC.Vi (b := a0) (As := [.int a1]) (st := []) (r := ("Partlister", T_X, 5)) hV.1 cb_X_worthOfHouse lk_X_250 in_X_worthOfHouse rfl se_X_worthOfHouse (by decide +kernel) rfl rfl (Nat.le_of_ble_eq_true rfl) (by decide) e1 m3) (k_X_worthOfHouse hV G a0 a1) h (fun v5 G4 _ h => ?_)
      exact Y.iret rfl (by decide +kernel) h
    · exact Y.throwS (is := 248) (text := "what is not 0 to 7") (names := zNm) hV.1 (hV.2 _ _ _ (by decide +kernel)) (by decide +kernel) (by decide +kernel) ck_X_81 ini_IAE tw_X_85 tg_X_85 (by decide) (by decide) rfl (Nat.le_of_ble_eq_true rfl) (by decide +kernel) (by decide +kernel) (by decide +kernel) (by decide +kernel) (by decide +kernel) h

def f_X_insert (G : gH) (a0 : Nat) (a1 : Int32) (a2 : Int32) : gR :=
  gOb G a0 3 fun o2 => bV (f_X_needCursor G a0 a1) fun G4 => gOb G4 a0 3 fun o6 => bV (f_X_needKey G4 a0 a2) fun G8 => gFA G8 a0 3 1 fun v9 => gOb G8 v9 0 fun o11 => bI (f_U_listOf G8 v9 a1) fun v14 G13 => gOb G13 a0 3 fun o16 => bV (f_X_needRoom G13 a0 v14 (nI 1)) fun G18 => gFA G18 a0 3 1 fun v19 => gOb G18 v19 0 fun o21 => bI (f_U_isStale G18 v19 a1) fun v24 G23 => if v24 = 0 then gFA G23 a0 3 1 fun v25 => gOb G23 v25 0 fun o27 => bI (f_U_nextOf G23 v25 a1) fun v30 G29 => gOb G29 a0 3 fun o32 => bI (f_X_make G29 a0 a2) fun v35 G34 => gOb G34 a0 3 fun o37 => bV (f_X_bringIn G34 a0 v14 v30 v35 a1) fun G39 => gFA G39 a0 3 1 fun v40 => gOb G39 v40 0 fun o42 => bV (f_U_stand G39 v40 a1 (v30 + (nI 1)) (-1)) fun G44 => bI (f_X_tagOf G44 v35) fun v47 G46 => rI v47 G46
  else gOb G23 a0 3 fun o49 => bI (f_X_failWith G23 a0 (-9)) fun v52 G51 => rI v52 G51
theorem k_X_insert {l : Launch} {D : va_G} {B : Nat} {O : State → Heap → Prop} (hV : zG l D B O) (G : gH) (a0 : Nat) (a1 : Int32) (a2 : Int32) : gMet (zVm l D B O) m_X_insert 7 [.ref a0, .int a1, .int a2] G (f_X_insert G a0 a1 a2) := by
  refine gMet.of (by decide +kernel) (Nat.le_of_ble_eq_true rfl) [some (.ref a0), some (.int a1), some (.int a2), none, none, none] (fun ls h => zEn_ok (n := 6) h) ?_
  intro o Gf h
  unfold f_X_insert at h
  refine Y.blk (pc' := 2) (L' := [some (.ref a0), some (.int a1), some (.int a2), none, none, none]) (st' := [.int a1, .ref a0]) (sg := [(.aload_n 0, 0), (.iload_n 1, 0)]) (by decide +kernel) rfl ?_
  obtain ⟨_, o2, e1, m3, h⟩ := gOb_inv h
  refine Y.callN (yC.Vi (b := a0) (As := [.int a1]) (st := []) (r := ("Partlister", T_X, 5)) hV.1 cb_X_needCursor lk_X_167 in_X_needCursor rfl se_X_needCursor (by decide +kernel) rfl rfl (Nat.le_of_ble_eq_true rfl) (by decide) e1 m3) (k_X_needCursor hV G a0 a1) h (fun G4 _ h => ?_)
  refine Y.blk (pc' := 7) (L' := [some (.ref a0), some (.int a1), some (.int a2), none, none, none]) (st' := [.int a2, .ref a0]) (sg := [(.aload_n 0, 0), (.iload_n 2, 0)]) (by decide +kernel) rfl ?_
  obtain ⟨_, o6, e5, m7, h⟩ := gOb_inv h
  refine Y.callN (yC.Vi (b := a0) (As := [.int a2]) (st := []) (r := ("Partlister", T_X, 5)) hV.1 cb_X_needKey lk_X_27 in_X_needKey rfl se_X_needKey (by decide +kernel) rfl rfl (Nat.le_of_ble_eq_true rfl) (by decide) e5 m7) (k_X_needKey hV G4 a0 a2) h (fun G8 _ h => ?_)
  refine Y.blk (pc' := 11) (L' := [some (.ref a0), some (.int a1), some (.int a2), none, none, none]) (st' := [.ref a0]) (sg := [(.aload_n 0, 0)]) (by decide +kernel) rfl ?_
  refine Y.getA fl_X_19 (by decide +kernel) h (fun v9 h => ?_)
  refine Y.blk (pc' := 15) (L' := [some (.ref a0), some (.int a1), some (.int a2), none, none, none]) (st' := [.int a1, .ref v9]) (sg := [(.iload_n 1, 0)]) (by decide +kernel) rfl ?_
  obtain ⟨_, o11, e10, m12, h⟩ := gOb_inv h
  refine Y.callI (yC.Vi (b := v9) (As := [.int a1]) (st := []) (r := ("Partlister$Cursors", T_U, 5)) hV.1 cb_U_listOf lk_X_152 in_U_listOf rfl se_U_listOf (by decide +kernel) rfl rfl (Nat.le_of_ble_eq_true rfl) (by decide) e10 m12) (k_U_listOf hV G8 v9 a1) h (fun v14 G13 _ h => ?_)
  refine Y.blk (pc' := 22) (L' := [some (.ref a0), some (.int a1), some (.int a2), some (.int v14), none, none]) (st' := [.int (nI 1), .int v14, .ref a0]) (sg := [(.istore_n 3, 0), (.aload_n 0, 0), (.iload_n 3, 0), (.iconst 1, nI 1)]) (by decide +kernel) rfl ?_
  obtain ⟨_, o16, e15, m17, h⟩ := gOb_inv h
  refine Y.callN (yC.Vi (b := a0) (As := [.int v14, .int (nI 1)]) (st := []) (r := ("Partlister", T_X, 5)) hV.1 cb_X_needRoom lk_X_30 in_X_needRoom rfl se_X_needRoom (by decide +kernel) rfl rfl (Nat.le_of_ble_eq_true rfl) (by decide) e15 m17) (k_X_needRoom hV G13 a0 v14 (nI 1)) h (fun G18 _ h => ?_)
  refine Y.blk (pc' := 26) (L' := [some (.ref a0), some (.int a1), some (.int a2), some (.int v14), none, none]) (st' := [.ref a0]) (sg := [(.aload_n 0, 0)]) (by decide +kernel) rfl ?_
  refine Y.getA fl_X_19 (by decide +kernel) h (fun v19 h => ?_)
  refine Y.blk (pc' := 30) (L' := [some (.ref a0), some (.int a1), some (.int a2), some (.int v14), none, none]) (st' := [.int a1, .ref v19]) (sg := [(.iload_n 1, 0)]) (by decide +kernel) rfl ?_
  obtain ⟨_, o21, e20, m22, h⟩ := gOb_inv h
  refine Y.callI (yC.Vi (b := v19) (As := [.int a1]) (st := []) (r := ("Partlister$Cursors", T_U, 5)) hV.1 cb_U_isStale lk_X_170 in_U_isStale rfl se_U_isStale (by decide +kernel) rfl rfl (Nat.le_of_ble_eq_true rfl) (by decide) e20 m22) (k_U_isStale hV G18 v19 a1) h (fun v24 G23 _ h => ?_)
  refine Y.if_eq (off := 10) (tgt := 43) (by decide +kernel) (by decide) h (fun c53 h => ?_) (fun c53 h => ?_)
  · refine Y.blk (pc' := 44) (L' := [some (.ref a0), some (.int a1), some (.int a2), some (.int v14), none, none]) (st' := [.ref a0]) (sg := [(.aload_n 0, 0)]) (by decide +kernel) rfl ?_
    refine Y.getA fl_X_19 (by decide +kernel) h (fun v25 h => ?_)
    refine Y.blk (pc' := 48) (L' := [some (.ref a0), some (.int a1), some (.int a2), some (.int v14), none, none]) (st' := [.int a1, .ref v25]) (sg := [(.iload_n 1, 0)]) (by decide +kernel) rfl ?_
    obtain ⟨_, o27, e26, m28, h⟩ := gOb_inv h
    refine Y.callI (yC.Vi (b := v25) (As := [.int a1]) (st := []) (r := ("Partlister$Cursors", T_U, 5)) hV.1 cb_U_nextOf lk_X_176 in_U_nextOf rfl se_U_nextOf (by decide +kernel) rfl rfl (Nat.le_of_ble_eq_true rfl) (by decide) e26 m28) (k_U_nextOf hV G23 v25 a1) h (fun v30 G29 _ h => ?_)
    refine Y.blk (pc' := 55) (L' := [some (.ref a0), some (.int a1), some (.int a2), some (.int v14), some (.int v30), none]) (st' := [.int a2, .ref a0]) (sg := [(.istore 4, 0), (.aload_n 0, 0), (.iload_n 2, 0)]) (by decide +kernel) rfl ?_
    obtain ⟨_, o32, e31, m33, h⟩ := gOb_inv h
    refine Y.callI (yC.Vi (b := a0) (As := [.int a2]) (st := []) (r := ("Partlister", T_X, 5)) hV.1 cb_X_make lk_X_38 in_X_make rfl se_X_make (by decide +kernel) rfl rfl (Nat.le_of_ble_eq_true rfl) (by decide) e31 m33) (k_X_make hV G29 a0 a2) h (fun v35 G34 _ h => ?_)
    refine Y.blk (pc' := 67) (L' := [some (.ref a0), some (.int a1), some (.int a2), some (.int v14), some (.int v30), some (.int v35)]) (st' := [.int a1, .int v35, .int v30, .int v14, .ref a0]) (sg := [(.istore 5, 0), (.aload_n 0, 0), (.iload_n 3, 0), (.iload 4, 0), (.iload 5, 0), (.iload_n 1, 0)]) (by decide +kernel) rfl ?_
    obtain ⟨_, o37, e36, m38, h⟩ := gOb_inv h
    refine Y.callN (yC.Vi (b := a0) (As := [.int v14, .int v30, .int v35, .int a1]) (st := []) (r := ("Partlister", T_X, 5)) hV.1 cb_X_bringIn lk_X_41 in_X_bringIn rfl se_X_bringIn (by decide +kernel) rfl rfl (Nat.le_of_ble_eq_true rfl) (by decide) e36 m38) (k_X_bringIn hV G34 a0 v14 v30 v35 a1) h (fun G39 _ h => ?_)
    refine Y.blk (pc' := 71) (L' := [some (.ref a0), some (.int a1), some (.int a2), some (.int v14), some (.int v30), some (.int v35)]) (st' := [.ref a0]) (sg := [(.aload_n 0, 0)]) (by decide +kernel) rfl ?_
    refine Y.getA fl_X_19 (by decide +kernel) h (fun v40 h => ?_)
    refine Y.blk (pc' := 80) (L' := [some (.ref a0), some (.int a1), some (.int a2), some (.int v14), some (.int v30), some (.int v35)]) (st' := [.int (-1), .int (v30 + (nI 1)), .int a1, .ref v40]) (sg := [(.iload_n 1, 0), (.iload 4, 0), (.iconst 1, nI 1), (.iadd, 0), (.iconst (-1), -1)]) (by decide +kernel) rfl ?_
    obtain ⟨_, o42, e41, m43, h⟩ := gOb_inv h
    refine Y.callN (yC.Vi (b := v40) (As := [.int a1, .int (v30 + (nI 1)), .int (-1)]) (st := []) (r := ("Partlister$Cursors", T_U, 5)) hV.1 cb_U_stand lk_X_179 in_U_stand rfl se_U_stand (by decide +kernel) rfl rfl (Nat.le_of_ble_eq_true rfl) (by decide) e41 m43) (k_U_stand hV G39 v40 a1 (v30 + (nI 1)) (-1)) h (fun G44 _ h => ?_)
    refine Y.blk (pc' := 85) (L' := [some (.ref a0), some (.int a1), some (.int a2), some (.int v14), some (.int v30), some (.int v35)]) (st' := [.int v35]) (sg := [(.iload 5, 0)]) (by decide +kernel) rfl ?_
    refine Y.callI (yC.S (As := [.int v35]) (st := []) hV.1 cb_X_tagOf lk_X_48 st_X_tagOf (by decide +kernel) rfl rfl (Nat.le_of_ble_eq_true rfl) (by decide)) (k_X_tagOf hV G44 v35) h (fun v47 G46 _ h => ?_)
    exact Y.iret rfl (by decide +kernel) h
  · refine Y.blk (pc' := 39) (L' := [some (.ref a0), some (.int a1), some (.int a2), some (.int v14), none, none]) (st' := [.int (-9), .ref a0]) (sg := [(.aload_n 0, 0), (.bipush (-9), -9)]) (by decide +kernel) rfl ?_
    obtain ⟨_, o49, e48, m50, h⟩ := gOb_inv h
    refine Y.callI (yC.Vi (b := a0) (As := [.int (-9)]) (st := []) (r := ("Partlister", T_X, 5)) hV.1 cb_X_failWith lk_X_173 in_X_failWith rfl se_X_failWith (by decide +kernel) rfl rfl (Nat.le_of_ble_eq_true rfl) (by decide) e48 m50) (k_X_failWith hV G23 a0 (-9)) h (fun v52 G51 _ h => ?_)
    exact Y.iret rfl (by decide +kernel) h

def f_X_isSame (G : gH) (a0 : Nat) (a1 : Int32) (a2 : Int32) : gR :=
  gOb G a0 3 fun o2 => bV (f_X_needList G a0 a1) fun G4 => gOb G4 a0 3 fun o6 => bV (f_X_needList G4 a0 a2) fun G8 => gFA G8 a0 3 0 fun v9 => gOb G8 v9 1 fun o11 => bI (f_I_matchWholly G8 v9 a1 a2) fun v14 G13 => rZ v14 G13
theorem k_X_isSame {l : Launch} {D : va_G} {B : Nat} {O : State → Heap → Prop} (hV : zG l D B O) (G : gH) (a0 : Nat) (a1 : Int32) (a2 : Int32) : gMet (zVm l D B O) m_X_isSame 7 [.ref a0, .int a1, .int a2] G (f_X_isSame G a0 a1 a2) := by
  refine gMet.of (by decide +kernel) (Nat.le_of_ble_eq_true rfl) [some (.ref a0), some (.int a1), some (.int a2)] (fun ls h => zEn_ok (n := 3) h) ?_
  intro o Gf h
  unfold f_X_isSame at h
  refine Y.blk (pc' := 2) (L' := [some (.ref a0), some (.int a1), some (.int a2)]) (st' := [.int a1, .ref a0]) (sg := [(.aload_n 0, 0), (.iload_n 1, 0)]) (by decide +kernel) rfl ?_
  obtain ⟨_, o2, e1, m3, h⟩ := gOb_inv h
  refine Y.callN (yC.Vi (b := a0) (As := [.int a1]) (st := []) (r := ("Partlister", T_X, 5)) hV.1 cb_X_needList lk_X_23 in_X_needList rfl se_X_needList (by decide +kernel) rfl rfl (Nat.le_of_ble_eq_true rfl) (by decide) e1 m3) (k_X_needList hV G a0 a1) h (fun G4 _ h => ?_)
  refine Y.blk (pc' := 7) (L' := [some (.ref a0), some (.int a1), some (.int a2)]) (st' := [.int a2, .ref a0]) (sg := [(.aload_n 0, 0), (.iload_n 2, 0)]) (by decide +kernel) rfl ?_
  obtain ⟨_, o6, e5, m7, h⟩ := gOb_inv h
  refine Y.callN (yC.Vi (b := a0) (As := [.int a2]) (st := []) (r := ("Partlister", T_X, 5)) hV.1 cb_X_needList lk_X_23 in_X_needList rfl se_X_needList (by decide +kernel) rfl rfl (Nat.le_of_ble_eq_true rfl) (by decide) e5 m7) (k_X_needList hV G4 a0 a2) h (fun G8 _ h => ?_)
  refine Y.blk (pc' := 11) (L' := [some (.ref a0), some (.int a1), some (.int a2)]) (st' := [.ref a0]) (sg := [(.aload_n 0, 0)]) (by decide +kernel) rfl ?_
  refine Y.getA fl_X_10 (by decide +kernel) h (fun v9 h => ?_)
  refine Y.blk (pc' := 16) (L' := [some (.ref a0), some (.int a1), some (.int a2)]) (st' := [.int a2, .int a1, .ref v9]) (sg := [(.iload_n 1, 0), (.iload_n 2, 0)]) (by decide +kernel) rfl ?_
  obtain ⟨_, o11, e10, m12, h⟩ := gOb_inv h
  refine Y.callI (yC.Vi (b := v9) (As := [.int a1, .int a2]) (st := []) (r := ("Partlister$Lists", T_I, 7)) hV.1 cb_I_matchWholly lk_X_199 in_I_matchWholly rfl se_I_matchWholly (by decide +kernel) rfl rfl (Nat.le_of_ble_eq_true rfl) (by decide) e10 m12) (k_I_matchWholly hV G8 v9 a1 a2) h (fun v14 G13 _ h => ?_)
  exact Y.zret rfl (by decide +kernel) h

def f_X_isSound (G : gH) (a0 : Nat) : gR :=
  gFA G a0 3 0 fun v1 => gOb G v1 1 fun o3 => bI (f_I_areSound G v1) fun v6 G5 => rZ v6 G5
theorem k_X_isSound {l : Launch} {D : va_G} {B : Nat} {O : State → Heap → Prop} (hV : zG l D B O) (G : gH) (a0 : Nat) : gMet (zVm l D B O) m_X_isSound 7 [.ref a0] G (f_X_isSound G a0) := by
  refine gMet.of (by decide +kernel) (Nat.le_of_ble_eq_true rfl) [some (.ref a0)] (fun ls h => zEn_ok (n := 1) h) ?_
  intro o Gf h
  unfold f_X_isSound at h
  refine Y.blk (pc' := 1) (L' := [some (.ref a0)]) (st' := [.ref a0]) (sg := [(.aload_n 0, 0)]) (by decide +kernel) rfl ?_
  refine Y.getA fl_X_10 (by decide +kernel) h (fun v1 h => ?_)
  obtain ⟨_, o3, e2, m4, h⟩ := gOb_inv h
  refine Y.callI (yC.Vi (b := v1) (As := []) (st := []) (r := ("Partlister$Lists", T_I, 7)) hV.1 cb_I_areSound lk_X_253 in_I_areSound rfl se_I_areSound (by decide +kernel) rfl rfl (Nat.le_of_ble_eq_true rfl) (by decide) e2 m4) (k_I_areSound hV G v1) h (fun v6 G5 _ h => ?_)
  exact Y.zret rfl (by decide +kernel) h

def f_X_key (G : gH) (a0 : Nat) (a1 : Int32) (a2 : Int32) : gR :=
  gOb G a0 3 fun o2 => bV (f_X_needList G a0 a1) fun G4 => gOb G4 a0 3 fun o6 => bV (f_X_needPlace G4 a0 a1 a2) fun G8 => gFA G8 a0 3 0 fun v9 => gOb G8 v9 1 fun o11 => bI (f_I_keyAt G8 v9 a1 a2) fun v14 G13 => rI v14 G13
theorem k_X_key {l : Launch} {D : va_G} {B : Nat} {O : State → Heap → Prop} (hV : zG l D B O) (G : gH) (a0 : Nat) (a1 : Int32) (a2 : Int32) : gMet (zVm l D B O) m_X_key 7 [.ref a0, .int a1, .int a2] G (f_X_key G a0 a1 a2) := by
  refine gMet.of (by decide +kernel) (Nat.le_of_ble_eq_true rfl) [some (.ref a0), some (.int a1), some (.int a2)] (fun ls h => zEn_ok (n := 3) h) ?_
  intro o Gf h
  unfold f_X_key at h
  refine Y.blk (pc' := 2) (L' := [some (.ref a0), some (.int a1), some (.int a2)]) (st' := [.int a1, .ref a0]) (sg := [(.aload_n 0, 0), (.iload_n 1, 0)]) (by decide +kernel) rfl ?_
  obtain ⟨_, o2, e1, m3, h⟩ := gOb_inv h
  refine Y.callN (yC.Vi (b := a0) (As := [.int a1]) (st := []) (r := ("Partlister", T_X, 5)) hV.1 cb_X_needList lk_X_23 in_X_needList rfl se_X_needList (by decide +kernel) rfl rfl (Nat.le_of_ble_eq_true rfl) (by decide) e1 m3) (k_X_needList hV G a0 a1) h (fun G4 _ h => ?_)
  refine Y.blk (pc' := 8) (L' := [some (.ref a0), some (.int a1), some (.int a2)]) (st' := [.int a2, .int a1, .ref a0]) (sg := [(.aload_n 0, 0), (.iload_n 1, 0), (.iload_n 2, 0)]) (by decide +kernel) rfl ?_
  obtain ⟨_, o6, e5, m7, h⟩ := gOb_inv h
  refine Y.callN (yC.Vi (b := a0) (As := [.int a1, .int a2]) (st := []) (r := ("Partlister", T_X, 5)) hV.1 cb_X_needPlace lk_X_58 in_X_needPlace rfl se_X_needPlace (by decide +kernel) rfl rfl (Nat.le_of_ble_eq_true rfl) (by decide) e5 m7) (k_X_needPlace hV G4 a0 a1 a2) h (fun G8 _ h => ?_)
  refine Y.blk (pc' := 12) (L' := [some (.ref a0), some (.int a1), some (.int a2)]) (st' := [.ref a0]) (sg := [(.aload_n 0, 0)]) (by decide +kernel) rfl ?_
  refine Y.getA fl_X_10 (by decide +kernel) h (fun v9 h => ?_)
  refine Y.blk (pc' := 17) (L' := [some (.ref a0), some (.int a1), some (.int a2)]) (st' := [.int a2, .int a1, .ref v9]) (sg := [(.iload_n 1, 0), (.iload_n 2, 0)]) (by decide +kernel) rfl ?_
  obtain ⟨_, o11, e10, m12, h⟩ := gOb_inv h
  refine Y.callI (yC.Vi (b := v9) (As := [.int a1, .int a2]) (st := []) (r := ("Partlister$Lists", T_I, 7)) hV.1 cb_I_keyAt lk_X_61 in_I_keyAt rfl se_I_keyAt (by decide +kernel) rfl rfl (Nat.le_of_ble_eq_true rfl) (by decide) e10 m12) (k_I_keyAt hV G8 v9 a1 a2) h (fun v14 G13 _ h => ?_)
  exact Y.iret rfl (by decide +kernel) h

def f_X_knock (G : gH) (a0 : Nat) : gR :=
  gFI G a0 3 4 fun v1 => gPut G a0 3 4 (.int (v1 + (nI 1))) fun G2 => gFI G2 a0 3 4 fun v3 => rI v3 G2
theorem k_X_knock {l : Launch} {D : va_G} {B : Nat} {O : State → Heap → Prop} (hV : zG l D B O) (G : gH) (a0 : Nat) : gMet (zVm l D B O) m_X_knock 1 [.ref a0] G (f_X_knock G a0) := by
  refine gMet.of (by decide +kernel) (Nat.le_of_ble_eq_true rfl) [some (.ref a0)] (fun ls h => zEn_ok (n := 1) h) ?_
  intro o Gf h
  unfold f_X_knock at h
  refine Y.blk (pc' := 2) (L' := [some (.ref a0)]) (st' := [.ref a0, .ref a0]) (sg := [(.aload_n 0, 0), (.dup, 0)]) (by decide +kernel) rfl ?_
  refine Y.getI fl_X_257 (by decide +kernel) h (fun v1 h => ?_)
  refine Y.blk (pc' := 7) (L' := [some (.ref a0)]) (st' := [.int (v1 + (nI 1)), .ref a0]) (sg := [(.iconst 1, nI 1), (.iadd, 0)]) (by decide +kernel) rfl ?_
  refine Y.putf fl_X_257 (by decide) rfl rfl (by decide +kernel) h (fun G2 _ _ h => ?_)
  refine Y.blk (pc' := 11) (L' := [some (.ref a0)]) (st' := [.ref a0]) (sg := [(.aload_n 0, 0)]) (by decide +kernel) rfl ?_
  refine Y.getI fl_X_257 (by decide +kernel) h (fun v3 h => ?_)
  exact Y.iret rfl (by decide +kernel) h

def f_X_last (G : gH) (a0 : Nat) (a1 : Int32) (a2 : Int32) : gR :=
  gOb G a0 3 fun o2 => bV (f_X_needList G a0 a1) fun G4 => gOb G4 a0 3 fun o6 => bV (f_X_needKey G4 a0 a2) fun G8 => gFA G8 a0 3 0 fun v9 => gOb G8 v9 1 fun o11 => bI (f_I_lastOf G8 v9 a1 a2) fun v14 G13 => rI v14 G13
theorem k_X_last {l : Launch} {D : va_G} {B : Nat} {O : State → Heap → Prop} (hV : zG l D B O) (G : gH) (a0 : Nat) (a1 : Int32) (a2 : Int32) : gMet (zVm l D B O) m_X_last 7 [.ref a0, .int a1, .int a2] G (f_X_last G a0 a1 a2) := by
  refine gMet.of (by decide +kernel) (Nat.le_of_ble_eq_true rfl) [some (.ref a0), some (.int a1), some (.int a2)] (fun ls h => zEn_ok (n := 3) h) ?_
  intro o Gf h
  unfold f_X_last at h
  refine Y.blk (pc' := 2) (L' := [some (.ref a0), some (.int a1), some (.int a2)]) (st' := [.int a1, .ref a0]) (sg := [(.aload_n 0, 0), (.iload_n 1, 0)]) (by decide +kernel) rfl ?_
  obtain ⟨_, o2, e1, m3, h⟩ := gOb_inv h
  refine Y.callN (yC.Vi (b := a0) (As := [.int a1]) (st := []) (r := ("Partlister", T_X, 5)) hV.1 cb_X_needList lk_X_23 in_X_needList rfl se_X_needList (by decide +kernel) rfl rfl (Nat.le_of_ble_eq_true rfl) (by decide) e1 m3) (k_X_needList hV G a0 a1) h (fun G4 _ h => ?_)
  refine Y.blk (pc' := 7) (L' := [some (.ref a0), some (.int a1), some (.int a2)]) (st' := [.int a2, .ref a0]) (sg := [(.aload_n 0, 0), (.iload_n 2, 0)]) (by decide +kernel) rfl ?_
  obtain ⟨_, o6, e5, m7, h⟩ := gOb_inv h
  refine Y.callN (yC.Vi (b := a0) (As := [.int a2]) (st := []) (r := ("Partlister", T_X, 5)) hV.1 cb_X_needKey lk_X_27 in_X_needKey rfl se_X_needKey (by decide +kernel) rfl rfl (Nat.le_of_ble_eq_true rfl) (by decide) e5 m7) (k_X_needKey hV G4 a0 a2) h (fun G8 _ h => ?_)
  refine Y.blk (pc' := 11) (L' := [some (.ref a0), some (.int a1), some (.int a2)]) (st' := [.ref a0]) (sg := [(.aload_n 0, 0)]) (by decide +kernel) rfl ?_
  refine Y.getA fl_X_10 (by decide +kernel) h (fun v9 h => ?_)
  refine Y.blk (pc' := 16) (L' := [some (.ref a0), some (.int a1), some (.int a2)]) (st' := [.int a2, .int a1, .ref v9]) (sg := [(.iload_n 1, 0), (.iload_n 2, 0)]) (by decide +kernel) rfl ?_
  obtain ⟨_, o11, e10, m12, h⟩ := gOb_inv h
  refine Y.callI (yC.Vi (b := v9) (As := [.int a1, .int a2]) (st := []) (r := ("Partlister$Lists", T_I, 7)) hV.1 cb_I_lastOf lk_X_187 in_I_lastOf rfl se_I_lastOf (by decide +kernel) rfl rfl (Nat.le_of_ble_eq_true rfl) (by decide) e10 m12) (k_I_lastOf hV G8 v9 a1 a2) h (fun v14 G13 _ h => ?_)
  exact Y.iret rfl (by decide +kernel) h

def f_X_many (G : gH) (a0 : Nat) (a1 : Int32) (a2 : Int32) : gR :=
  gOb G a0 3 fun o2 => bV (f_X_needList G a0 a1) fun G4 => gOb G4 a0 3 fun o6 => bV (f_X_needKey G4 a0 a2) fun G8 => gFA G8 a0 3 0 fun v9 => gOb G8 v9 1 fun o11 => bI (f_I_countOf G8 v9 a1 a2) fun v14 G13 => rI v14 G13
theorem k_X_many {l : Launch} {D : va_G} {B : Nat} {O : State → Heap → Prop} (hV : zG l D B O) (G : gH) (a0 : Nat) (a1 : Int32) (a2 : Int32) : gMet (zVm l D B O) m_X_many 7 [.ref a0, .int a1, .int a2] G (f_X_many G a0 a1 a2) := by
  refine gMet.of (by decide +kernel) (Nat.le_of_ble_eq_true rfl) [some (.ref a0), some (.int a1), some (.int a2)] (fun ls h => zEn_ok (n := 3) h) ?_
  intro o Gf h
  unfold f_X_many at h
  refine Y.blk (pc' := 2) (L' := [some (.ref a0), some (.int a1), some (.int a2)]) (st' := [.int a1, .ref a0]) (sg := [(.aload_n 0, 0), (.iload_n 1, 0)]) (by decide +kernel) rfl ?_
  obtain ⟨_, o2, e1, m3, h⟩ := gOb_inv h
  refine Y.callN (yC.Vi (b := a0) (As := [.int a1]) (st := []) (r := ("Partlister", T_X, 5)) hV.1 cb_X_needList lk_X_23 in_X_needList rfl se_X_needList (by decide +kernel) rfl rfl (Nat.le_of_ble_eq_true rfl) (by decide) e1 m3) (k_X_needList hV G a0 a1) h (fun G4 _ h => ?_)
  refine Y.blk (pc' := 7) (L' := [some (.ref a0), some (.int a1), some (.int a2)]) (st' := [.int a2, .ref a0]) (sg := [(.aload_n 0, 0), (.iload_n 2, 0)]) (by decide +kernel) rfl ?_
  obtain ⟨_, o6, e5, m7, h⟩ := gOb_inv h
  refine Y.callN (yC.Vi (b := a0) (As := [.int a2]) (st := []) (r := ("Partlister", T_X, 5)) hV.1 cb_X_needKey lk_X_27 in_X_needKey rfl se_X_needKey (by decide +kernel) rfl rfl (Nat.le_of_ble_eq_true rfl) (by decide) e5 m7) (k_X_needKey hV G4 a0 a2) h (fun G8 _ h => ?_)
  refine Y.blk (pc' := 11) (L' := [some (.ref a0), some (.int a1), some (.int a2)]) (st' := [.ref a0]) (sg := [(.aload_n 0, 0)]) (by decide +kernel) rfl ?_
  refine Y.getA fl_X_10 (by decide +kernel) h (fun v9 h => ?_)
  refine Y.blk (pc' := 16) (L' := [some (.ref a0), some (.int a1), some (.int a2)]) (st' := [.int a2, .int a1, .ref v9]) (sg := [(.iload_n 1, 0), (.iload_n 2, 0)]) (by decide +kernel) rfl ?_
  obtain ⟨_, o11, e10, m12, h⟩ := gOb_inv h
  refine Y.callI (yC.Vi (b := v9) (As := [.int a1, .int a2]) (st := []) (r := ("Partlister$Lists", T_I, 7)) hV.1 cb_I_countOf lk_X_189 in_I_countOf rfl se_I_countOf (by decide +kernel) rfl rfl (Nat.le_of_ble_eq_true rfl) (by decide) e10 m12) (k_I_countOf hV G8 v9 a1 a2) h (fun v14 G13 _ h => ?_)
  exact Y.iret rfl (by decide +kernel) h

def f_MA_floorMod (G : gH) (a0 : Int32) (a1 : Int32) : gR :=
  gRem a0 a1 fun v1 => if 0 ≤ (a0 ^^^ a1) then rI v1 G
  else if v1 = 0 then rI v1 G
    else rI (v1 + a1) G
theorem k_MA_floorMod {l : Launch} {D : va_G} {B : Nat} {O : State → Heap → Prop} (hV : zG l D B O) (G : gH) (a0 : Int32) (a1 : Int32) : gMet (zVm l D B O) m_MA_floorMod 1 [.int a0, .int a1] G (f_MA_floorMod G a0 a1) := by
  refine gMet.of (by decide +kernel) (Nat.le_of_ble_eq_true rfl) [some (.int a0), some (.int a1), none] (fun ls h => zEn_ok (n := 3) h) ?_
  intro o Gf h
  unfold f_MA_floorMod at h
  refine Y.blk (pc' := 2) (L' := [some (.int a0), some (.int a1), none]) (st' := [.int a1, .int a0]) (sg := [(.iload_n 0, 0), (.iload_n 1, 0)]) (by decide +kernel) rfl ?_
  refine Y.irem (by decide +kernel) h (fun v1 h => ?_)
  refine Y.blk (pc' := 7) (L' := [some (.int a0), some (.int a1), some (.int v1)]) (st' := [.int (a0 ^^^ a1)]) (sg := [(.istore_n 2, 0), (.iload_n 0, 0), (.iload_n 1, 0), (.ixor, 0)]) (by decide +kernel) rfl ?_
  refine Y.if_ge (off := 11) (tgt := 18) (by decide +kernel) (by decide) h (fun c3 h => ?_) (fun c3 h => ?_)
  · refine Y.blk (pc' := 19) (L' := [some (.int a0), some (.int a1), some (.int v1)]) (st' := [.int v1]) (sg := [(.iload_n 2, 0)]) (by decide +kernel) rfl ?_
    exact Y.iret rfl (by decide +kernel) h
  · refine Y.blk (pc' := 11) (L' := [some (.int a0), some (.int a1), some (.int v1)]) (st' := [.int v1]) (sg := [(.iload_n 2, 0)]) (by decide +kernel) rfl ?_
    refine Y.if_eq (off := 7) (tgt := 18) (by decide +kernel) (by decide) h (fun c2 h => ?_) (fun c2 h => ?_)
    · refine Y.blk (pc' := 19) (L' := [some (.int a0), some (.int a1), some (.int v1)]) (st' := [.int v1]) (sg := [(.iload_n 2, 0)]) (by decide +kernel) rfl ?_
      exact Y.iret rfl (by decide +kernel) h
    · refine Y.blk (pc' := 17) (L' := [some (.int a0), some (.int a1), some (.int v1)]) (st' := [.int (v1 + a1)]) (sg := [(.iload_n 2, 0), (.iload_n 1, 0), (.iadd, 0)]) (by decide +kernel) rfl ?_
      exact Y.iret rfl (by decide +kernel) h

def f_I_moveOn_L20 (K51 : gH → gR) : Nat → gH → Nat → Int32 → Int32 → Int32 → Int32 → gR
  | 0, _, _, _, _, _, _ => none
  | n + 1, G, x0, x1, x2, x3, x4 =>
    if x3 ≤ x4 then K51 G
    else bI (f_MA_floorMod G (x4 + x2) x3) fun v12 G11 => gOb G11 x0 1 fun o14 => bI (f_I_thingInSpare G11 x0 x4) fun v17 G16 => gOb G16 x0 1 fun o19 => bV (f_I_write G16 x0 x1 v12 v17) fun G21 => f_I_moveOn_L20 K51 n G21 x0 x1 x2 x3 (x4 + (nI 1))
def f_I_moveOn (G : gH) (a0 : Nat) (a1 : Int32) (a2 : Int32) : gR :=
  gOb G a0 1 fun o2 => bI (f_I_lengthOf G a0 a1) fun v5 G4 => if (nI 1) ≤ v5 then gOb G4 a0 1 fun o7 => bV (f_I_copyToSpare G4 a0 a1) fun G9 => f_I_moveOn_L20 (fun G23 => rV G23) zFu G9 a0 a1 a2 v5 (nI 0)
  else rV G4
theorem k_I_moveOn_L20 {l : Launch} {D : va_G} {B : Nat} {O : State → Heap → Prop} (hV : zG l D B O) {o : gO} {Gf : gH} (K51 : gH → gR) (hK51 : ∀ (G : gH), K51 G  = some (o, Gf) → Y (zVm l D B O) m_I_moveOn 5 o Gf 51 [none, none, none, none, none] [] G) : ∀ (n : Nat) (G : gH) (x0 : Nat) (x1 : Int32) (x2 : Int32) (x3 : Int32) (x4 : Int32), f_I_moveOn_L20 K51 n G x0 x1 x2 x3 x4 = some (o, Gf) → Y (zVm l D B O) m_I_moveOn 5 o Gf 20 [some (.ref x0), some (.int x1), some (.int x2), some (.int x3), some (.int x4)] [] G := by
  intro n
  induction n with
  | zero => intro G x0 x1 x2 x3 x4 h; cases h
  | succ n ih =>
    intro G x0 x1 x2 x3 x4 h
    unfold f_I_moveOn_L20 at h
    refine Y.blk (pc' := 23) (L' := [some (.ref x0), some (.int x1), some (.int x2), some (.int x3), some (.int x4)]) (st' := [.int x3, .int x4]) (sg := [(.iload 4, 0), (.iload_n 3, 0)]) (by decide +kernel) rfl ?_
    refine Y.ic_ge (off := 28) (tgt := 51) (by decide +kernel) (by decide) h (fun c22 h => ?_) (fun c22 h => ?_)
    · refine Y.less (L' := [none, none, none, none, none]) (zLe_none (zLe_none (zLe_none (zLe_none (zLe_none (zLe_nil)))))) ?_
      exact hK51 G  h
    · refine Y.blk (pc' := 33) (L' := [some (.ref x0), some (.int x1), some (.int x2), some (.int x3), some (.int x4)]) (st' := [.int x3, .int (x4 + x2), .int x1, .ref x0]) (sg := [(.aload_n 0, 0), (.iload_n 1, 0), (.iload 4, 0), (.iload_n 2, 0), (.iadd, 0), (.iload_n 3, 0)]) (by decide +kernel) rfl ?_
      refine Y.callI (yC.S (As := [.int (x4 + x2), .int x3]) (st := [.int x1, .ref x0]) hV.1 cb_MA_floorMod lk_I_68 st_MA_floorMod (by decide +kernel) rfl rfl (Nat.le_of_ble_eq_true rfl) (by decide)) (k_MA_floorMod hV G (x4 + x2) x3) h (fun v12 G11 _ h => ?_)
      refine Y.blk (pc' := 39) (L' := [some (.ref x0), some (.int x1), some (.int x2), some (.int x3), some (.int x4)]) (st' := [.int x4, .ref x0, .int v12, .int x1, .ref x0]) (sg := [(.aload_n 0, 0), (.iload 4, 0)]) (by decide +kernel) rfl ?_
      obtain ⟨_, o14, e13, m15, h⟩ := gOb_inv h
      refine Y.callI (yC.Vi (b := x0) (As := [.int x4]) (st := [.int v12, .int x1, .ref x0]) (r := ("Partlister$Lists", T_I, 7)) hV.1 cb_I_thingInSpare lk_I_73 in_I_thingInSpare rfl se_I_thingInSpare (by decide +kernel) rfl rfl (Nat.le_of_ble_eq_true rfl) (by decide) e13 m15) (k_I_thingInSpare hV G11 x0 x4) h (fun v17 G16 _ h => ?_)
      obtain ⟨_, o19, e18, m20, h⟩ := gOb_inv h
      refine Y.callN (yC.Vi (b := x0) (As := [.int x1, .int v12, .int v17]) (st := []) (r := ("Partlister$Lists", T_I, 7)) hV.1 cb_I_write lk_I_53 in_I_write rfl se_I_write (by decide +kernel) rfl rfl (Nat.le_of_ble_eq_true rfl) (by decide) e18 m20) (k_I_write hV G16 x0 x1 v12 v17) h (fun G21 _ h => ?_)
      refine Y.blk (pc' := 48) (L' := [some (.ref x0), some (.int x1), some (.int x2), some (.int x3), some (.int (x4 + (nI 1)))]) (st' := []) (sg := [(.iinc 4 1, nI 1)]) (by decide +kernel) rfl ?_
      refine Y.goto (off := -28) (tgt := 20) (by decide +kernel) (by decide) ?_
      exact ih G21 x0 x1 x2 x3 (x4 + (nI 1)) h
theorem k_I_moveOn {l : Launch} {D : va_G} {B : Nat} {O : State → Heap → Prop} (hV : zG l D B O) (G : gH) (a0 : Nat) (a1 : Int32) (a2 : Int32) : gMet (zVm l D B O) m_I_moveOn 5 [.ref a0, .int a1, .int a2] G (f_I_moveOn G a0 a1 a2) := by
  refine gMet.of (by decide +kernel) (Nat.le_of_ble_eq_true rfl) [some (.ref a0), some (.int a1), some (.int a2), none, none] (fun ls h => zEn_ok (n := 5) h) ?_
  intro o Gf h
  unfold f_I_moveOn at h
  refine Y.blk (pc' := 2) (L' := [some (.ref a0), some (.int a1), some (.int a2), none, none]) (st' := [.int a1, .ref a0]) (sg := [(.aload_n 0, 0), (.iload_n 1, 0)]) (by decide +kernel) rfl ?_
  obtain ⟨_, o2, e1, m3, h⟩ := gOb_inv h
  refine Y.callI (yC.Vi (b := a0) (As := [.int a1]) (st := []) (r := ("Partlister$Lists", T_I, 7)) hV.1 cb_I_lengthOf lk_I_59 in_I_lengthOf rfl se_I_lengthOf (by decide +kernel) rfl rfl (Nat.le_of_ble_eq_true rfl) (by decide) e1 m3) (k_I_lengthOf hV G a0 a1) h (fun v5 G4 _ h => ?_)
  refine Y.blk (pc' := 8) (L' := [some (.ref a0), some (.int a1), some (.int a2), some (.int v5), none]) (st' := [.int (nI 1), .int v5]) (sg := [(.istore_n 3, 0), (.iload_n 3, 0), (.iconst 1, nI 1)]) (by decide +kernel) rfl ?_
  refine Y.ic_ge (off := 4) (tgt := 12) (by decide +kernel) (by decide) h (fun c24 h => ?_) (fun c24 h => ?_)
  · refine Y.blk (pc' := 14) (L' := [some (.ref a0), some (.int a1), some (.int a2), some (.int v5), none]) (st' := [.int a1, .ref a0]) (sg := [(.aload_n 0, 0), (.iload_n 1, 0)]) (by decide +kernel) rfl ?_
    obtain ⟨_, o7, e6, m8, h⟩ := gOb_inv h
    refine Y.callN (yC.Vi (b := a0) (As := [.int a1]) (st := []) (r := ("Partlister$Lists", T_I, 7)) hV.1 cb_I_copyToSpare lk_I_65 in_I_copyToSpare rfl se_I_copyToSpare (by decide +kernel) rfl rfl (Nat.le_of_ble_eq_true rfl) (by decide) e6 m8) (k_I_copyToSpare hV G4 a0 a1) h (fun G9 _ h => ?_)
    refine Y.blk (pc' := 20) (L' := [some (.ref a0), some (.int a1), some (.int a2), some (.int v5), some (.int (nI 0))]) (st' := []) (sg := [(.iconst 0, nI 0), (.istore 4, 0)]) (by decide +kernel) rfl ?_
    refine k_I_moveOn_L20 hV _ ?_  zFu G9 a0 a1 a2 v5 (nI 0) h
    · intro G23 h
      exact Y.vret rfl (by decide +kernel) h
  · exact Y.vret rfl (by decide +kernel) h

def f_X_move (G : gH) (a0 : Nat) (a1 : Int32) (a2 : Int32) : gR :=
  gOb G a0 3 fun o2 => bV (f_X_needList G a0 a1) fun G4 => if a2 < (-40) then gThrow "java/lang/IllegalArgumentException" G4
  else if a2 ≤ (nI 40) then (gFA G4 a0 3 0 fun v5 => gOb G4 v5 1 fun o7 => bI (f_I_lengthOf G4 v5 a1) fun v10 G9 => if v10 = 0 then rI (-1) G9
      else gFA G9 a0 3 0 fun v11 => gOb G9 v11 1 fun o13 => bV (f_I_moveOn G9 v11 a1 a2) fun G15 => gFA G15 a0 3 0 fun v16 => gOb G15 v16 1 fun o18 => bI (f_I_thingAt G15 v16 a1 (nI 0)) fun v21 G20 => bI (f_X_tagOf G20 v21) fun v24 G23 => rI v24 G23)
    else gThrow "java/lang/IllegalArgumentException" G4
theorem k_X_move {l : Launch} {D : va_G} {B : Nat} {O : State → Heap → Prop} (hV : zG l D B O) (G : gH) (a0 : Nat) (a1 : Int32) (a2 : Int32) : gMet (zVm l D B O) m_X_move 7 [.ref a0, .int a1, .int a2] G (f_X_move G a0 a1 a2) := by
  refine gMet.of (by decide +kernel) (Nat.le_of_ble_eq_true rfl) [some (.ref a0), some (.int a1), some (.int a2)] (fun ls h => zEn_ok (n := 3) h) ?_
  intro o Gf h
  unfold f_X_move at h
  refine Y.blk (pc' := 2) (L' := [some (.ref a0), some (.int a1), some (.int a2)]) (st' := [.int a1, .ref a0]) (sg := [(.aload_n 0, 0), (.iload_n 1, 0)]) (by decide +kernel) rfl ?_
  obtain ⟨_, o2, e1, m3, h⟩ := gOb_inv h
  refine Y.callN (yC.Vi (b := a0) (As := [.int a1]) (st := []) (r := ("Partlister", T_X, 5)) hV.1 cb_X_needList lk_X_23 in_X_needList rfl se_X_needList (by decide +kernel) rfl rfl (Nat.le_of_ble_eq_true rfl) (by decide) e1 m3) (k_X_needList hV G a0 a1) h (fun G4 _ h => ?_)
  refine Y.blk (pc' := 8) (L' := [some (.ref a0), some (.int a1), some (.int a2)]) (st' := [.int (-40), .int a2]) (sg := [(.iload_n 2, 0), (.bipush (-40), -40)]) (by decide +kernel) rfl ?_
  refine Y.ic_lt (off := 9) (tgt := 17) (by decide +kernel) (by decide) h (fun c27 h => ?_) (fun c27 h => ?_)
  · exact Y.throwS (is := 120) (text := "by is not -40 to 40") (names := zNm) hV.1 (hV.2 _ _ _ (by decide +kernel)) (by decide +kernel) (by decide +kernel) ck_X_81 ini_IAE tw_X_85 tg_X_85 (by decide) (by decide) rfl (Nat.le_of_ble_eq_true rfl) (by decide +kernel) (by decide +kernel) (by decide +kernel) (by decide +kernel) (by decide +kernel) h
  · refine Y.blk (pc' := 14) (L' := [some (.ref a0), some (.int a1), some (.int a2)]) (st' := [.int (nI 40), .int a2]) (sg := [(.iload_n 2, 0), (.bipush 40, nI 40)]) (by decide +kernel) rfl ?_
    refine Y.ic_le (off := 13) (tgt := 27) (by decide +kernel) (by decide) h (fun c26 h => ?_) (fun c26 h => ?_)
    · refine Y.blk (pc' := 28) (L' := [some (.ref a0), some (.int a1), some (.int a2)]) (st' := [.ref a0]) (sg := [(.aload_n 0, 0)]) (by decide +kernel) rfl ?_
      refine Y.getA fl_X_10 (by decide +kernel) h (fun v5 h => ?_)
      refine Y.blk (pc' := 32) (L' := [some (.ref a0), some (.int a1), some (.int a2)]) (st' := [.int a1, .ref v5]) (sg := [(.iload_n 1, 0)]) (by decide +kernel) rfl ?_
      obtain ⟨_, o7, e6, m8, h⟩ := gOb_inv h
      refine Y.callI (yC.Vi (b := v5) (As := [.int a1]) (st := []) (r := ("Partlister$Lists", T_I, 7)) hV.1 cb_I_lengthOf lk_X_34 in_I_lengthOf rfl se_I_lengthOf (by decide +kernel) rfl rfl (Nat.le_of_ble_eq_true rfl) (by decide) e6 m8) (k_I_lengthOf hV G4 v5 a1) h (fun v10 G9 _ h => ?_)
      refine Y.if_ne (off := 5) (tgt := 40) (by decide +kernel) (by decide) h (fun c25 h => ?_) (fun c25 h => ?_)
      · refine Y.blk (pc' := 39) (L' := [some (.ref a0), some (.int a1), some (.int a2)]) (st' := [.int (-1)]) (sg := [(.iconst (-1), -1)]) (by decide +kernel) rfl ?_
        exact Y.iret rfl (by decide +kernel) h
      · refine Y.blk (pc' := 41) (L' := [some (.ref a0), some (.int a1), some (.int a2)]) (st' := [.ref a0]) (sg := [(.aload_n 0, 0)]) (by decide +kernel) rfl ?_
        refine Y.getA fl_X_10 (by decide +kernel) h (fun v11 h => ?_)
        refine Y.blk (pc' := 46) (L' := [some (.ref a0), some (.int a1), some (.int a2)]) (st' := [.int a2, .int a1, .ref v11]) (sg := [(.iload_n 1, 0), (.iload_n 2, 0)]) (by decide +kernel) rfl ?_
        obtain ⟨_, o13, e12, m14, h⟩ := gOb_inv h
        refine Y.callN (yC.Vi (b := v11) (As := [.int a1, .int a2]) (st := []) (r := ("Partlister$Lists", T_I, 7)) hV.1 cb_I_moveOn lk_X_122 in_I_moveOn rfl se_I_moveOn (by decide +kernel) rfl rfl (Nat.le_of_ble_eq_true rfl) (by decide) e12 m14) (k_I_moveOn hV G9 v11 a1 a2) h (fun G15 _ h => ?_)
        refine Y.blk (pc' := 50) (L' := [some (.ref a0), some (.int a1), some (.int a2)]) (st' := [.ref a0]) (sg := [(.aload_n 0, 0)]) (by decide +kernel) rfl ?_
        refine Y.getA fl_X_10 (by decide +kernel) h (fun v16 h => ?_)
        refine Y.blk (pc' := 55) (L' := [some (.ref a0), some (.int a1), some (.int a2)]) (st' := [.int (nI 0), .int a1, .ref v16]) (sg := [(.iload_n 1, 0), (.iconst 0, nI 0)]) (by decide +kernel) rfl ?_
        obtain ⟨_, o18, e17, m19, h⟩ := gOb_inv h
        refine Y.callI (yC.Vi (b := v16) (As := [.int a1, .int (nI 0)]) (st := []) (r := ("Partlister$Lists", T_I, 7)) hV.1 cb_I_thingAt lk_X_94 in_I_thingAt rfl se_I_thingAt (by decide +kernel) rfl rfl (Nat.le_of_ble_eq_true rfl) (by decide) e17 m19) (k_I_thingAt hV G15 v16 a1 (nI 0)) h (fun v21 G20 _ h => ?_)
        refine Y.callI (yC.S (As := [.int v21]) (st := []) hV.1 cb_X_tagOf lk_X_48 st_X_tagOf (by decide +kernel) rfl rfl (Nat.le_of_ble_eq_true rfl) (by decide)) (k_X_tagOf hV G20 v21) h (fun v24 G23 _ h => ?_)
        exact Y.iret rfl (by decide +kernel) h
    · exact Y.throwS (is := 120) (text := "by is not -40 to 40") (names := zNm) hV.1 (hV.2 _ _ _ (by decide +kernel)) (by decide +kernel) (by decide +kernel) ck_X_81 ini_IAE tw_X_85 tg_X_85 (by decide) (by decide) rfl (Nat.le_of_ble_eq_true rfl) (by decide +kernel) (by decide +kernel) (by decide +kernel) (by decide +kernel) (by decide +kernel) h
end
section
def f_X_next (G : gH) (a0 : Nat) (a1 : Int32) : gR :=
  gOb G a0 3 fun o2 => bV (f_X_needCursor G a0 a1) fun G4 => gFA G4 a0 3 1 fun v5 => gOb G4 v5 0 fun o7 => bI (f_U_isStale G4 v5 a1) fun v10 G9 => if v10 = 0 then (gFA G9 a0 3 1 fun v11 => gOb G9 v11 0 fun o13 => bI (f_U_listOf G9 v11 a1) fun v16 G15 => gFA G15 a0 3 1 fun v17 => gOb G15 v17 0 fun o19 => bI (f_U_nextOf G15 v17 a1) fun v22 G21 => gFA G21 a0 3 0 fun v23 => gOb G21 v23 1 fun o25 => bI (f_I_lengthOf G21 v23 v16) fun v28 G27 => if v22 < v28 then gFA G27 a0 3 1 fun v29 => gOb G27 v29 0 fun o31 => bV (f_U_stand G27 v29 a1 (v22 + (nI 1)) v22) fun G33 => gFA G33 a0 3 0 fun v34 => gOb G33 v34 1 fun o36 => bI (f_I_thingAt G33 v34 v16 v22) fun v39 G38 => bI (f_X_tagOf G38 v39) fun v42 G41 => rI v42 G41
    else gOb G27 a0 3 fun o44 => bI (f_X_failWith G27 a0 (-8)) fun v47 G46 => rI v47 G46)
  else gOb G9 a0 3 fun o50 => bI (f_X_failWith G9 a0 (-9)) fun v53 G52 => rI v53 G52
theorem k_X_next {l : Launch} {D : va_G} {B : Nat} {O : State → Heap → Prop} (hV : zG l D B O) (G : gH) (a0 : Nat) (a1 : Int32) : gMet (zVm l D B O) m_X_next 7 [.ref a0, .int a1] G (f_X_next G a0 a1) := by
  refine gMet.of (by decide +kernel) (Nat.le_of_ble_eq_true rfl) [some (.ref a0), some (.int a1), none, none] (fun ls h => zEn_ok (n := 4) h) ?_
  intro o Gf h
  unfold f_X_next at h
  refine Y.blk (pc' := 2) (L' := [some (.ref a0), some (.int a1), none, none]) (st' := [.int a1, .ref a0]) (sg := [(.aload_n 0, 0), (.iload_n 1, 0)]) (by decide +kernel) rfl ?_
  obtain ⟨_, o2, e1, m3, h⟩ := gOb_inv h
  refine Y.callN (yC.Vi (b := a0) (As := [.int a1]) (st := []) (r := ("Partlister", T_X, 5)) hV.1 cb_X_needCursor lk_X_167 in_X_needCursor rfl se_X_needCursor (by decide +kernel) rfl rfl (Nat.le_of_ble_eq_true rfl) (by decide) e1 m3) (k_X_needCursor hV G a0 a1) h (fun G4 _ h => ?_)
  refine Y.blk (pc' := 6) (L' := [some (.ref a0), some (.int a1), none, none]) (st' := [.ref a0]) (sg := [(.aload_n 0, 0)]) (by decide +kernel) rfl ?_
  refine Y.getA fl_X_19 (by decide +kernel) h (fun v5 h => ?_)
  refine Y.blk (pc' := 10) (L' := [some (.ref a0), some (.int a1), none, none]) (st' := [.int a1, .ref v5]) (sg := [(.iload_n 1, 0)]) (by decide +kernel) rfl ?_
  obtain ⟨_, o7, e6, m8, h⟩ := gOb_inv h
  refine Y.callI (yC.Vi (b := v5) (As := [.int a1]) (st := []) (r := ("Partlister$Cursors", T_U, 5)) hV.1 cb_U_isStale lk_X_170 in_U_isStale rfl se_U_isStale (by decide +kernel) rfl rfl (Nat.le_of_ble_eq_true rfl) (by decide) e6 m8) (k_U_isStale hV G4 v5 a1) h (fun v10 G9 _ h => ?_)
  refine Y.if_eq (off := 10) (tgt := 23) (by decide +kernel) (by decide) h (fun c54 h => ?_) (fun c54 h => ?_)
  · refine Y.blk (pc' := 24) (L' := [some (.ref a0), some (.int a1), none, none]) (st' := [.ref a0]) (sg := [(.aload_n 0, 0)]) (by decide +kernel) rfl ?_
    refine Y.getA fl_X_19 (by decide +kernel) h (fun v11 h => ?_)
    refine Y.blk (pc' := 28) (L' := [some (.ref a0), some (.int a1), none, none]) (st' := [.int a1, .ref v11]) (sg := [(.iload_n 1, 0)]) (by decide +kernel) rfl ?_
    obtain ⟨_, o13, e12, m14, h⟩ := gOb_inv h
    refine Y.callI (yC.Vi (b := v11) (As := [.int a1]) (st := []) (r := ("Partlister$Cursors", T_U, 5)) hV.1 cb_U_listOf lk_X_152 in_U_listOf rfl se_U_listOf (by decide +kernel) rfl rfl (Nat.le_of_ble_eq_true rfl) (by decide) e12 m14) (k_U_listOf hV G9 v11 a1) h (fun v16 G15 _ h => ?_)
    refine Y.blk (pc' := 33) (L' := [some (.ref a0), some (.int a1), some (.int v16), none]) (st' := [.ref a0]) (sg := [(.istore_n 2, 0), (.aload_n 0, 0)]) (by decide +kernel) rfl ?_
    refine Y.getA fl_X_19 (by decide +kernel) h (fun v17 h => ?_)
    refine Y.blk (pc' := 37) (L' := [some (.ref a0), some (.int a1), some (.int v16), none]) (st' := [.int a1, .ref v17]) (sg := [(.iload_n 1, 0)]) (by decide +kernel) rfl ?_
    obtain ⟨_, o19, e18, m20, h⟩ := gOb_inv h
    refine Y.callI (yC.Vi (b := v17) (As := [.int a1]) (st := []) (r := ("Partlister$Cursors", T_U, 5)) hV.1 cb_U_nextOf lk_X_176 in_U_nextOf rfl se_U_nextOf (by decide +kernel) rfl rfl (Nat.le_of_ble_eq_true rfl) (by decide) e18 m20) (k_U_nextOf hV G15 v17 a1) h (fun v22 G21 _ h => ?_)
    refine Y.blk (pc' := 43) (L' := [some (.ref a0), some (.int a1), some (.int v16), some (.int v22)]) (st' := [.ref a0, .int v22]) (sg := [(.istore_n 3, 0), (.iload_n 3, 0), (.aload_n 0, 0)]) (by decide +kernel) rfl ?_
    refine Y.getA fl_X_10 (by decide +kernel) h (fun v23 h => ?_)
    refine Y.blk (pc' := 47) (L' := [some (.ref a0), some (.int a1), some (.int v16), some (.int v22)]) (st' := [.int v16, .ref v23, .int v22]) (sg := [(.iload_n 2, 0)]) (by decide +kernel) rfl ?_
    obtain ⟨_, o25, e24, m26, h⟩ := gOb_inv h
    refine Y.callI (yC.Vi (b := v23) (As := [.int v16]) (st := [.int v22]) (r := ("Partlister$Lists", T_I, 7)) hV.1 cb_I_lengthOf lk_X_34 in_I_lengthOf rfl se_I_lengthOf (by decide +kernel) rfl rfl (Nat.le_of_ble_eq_true rfl) (by decide) e24 m26) (k_I_lengthOf hV G21 v23 v16) h (fun v28 G27 _ h => ?_)
    refine Y.ic_lt (off := 10) (tgt := 60) (by decide +kernel) (by decide) h (fun c48 h => ?_) (fun c48 h => ?_)
    · refine Y.blk (pc' := 61) (L' := [some (.ref a0), some (.int a1), some (.int v16), some (.int v22)]) (st' := [.ref a0]) (sg := [(.aload_n 0, 0)]) (by decide +kernel) rfl ?_
      refine Y.getA fl_X_19 (by decide +kernel) h (fun v29 h => ?_)
      refine Y.blk (pc' := 69) (L' := [some (.ref a0), some (.int a1), some (.int v16), some (.int v22)]) (st' := [.int v22, .int (v22 + (nI 1)), .int a1, .ref v29]) (sg := [(.iload_n 1, 0), (.iload_n 3, 0), (.iconst 1, nI 1), (.iadd, 0), (.iload_n 3, 0)]) (by decide +kernel) rfl ?_
      obtain ⟨_, o31, e30, m32, h⟩ := gOb_inv h
      refine Y.callN (yC.Vi (b := v29) (As := [.int a1, .int (v22 + (nI 1)), .int v22]) (st := []) (r := ("Partlister$Cursors", T_U, 5)) hV.1 cb_U_stand lk_X_179 in_U_stand rfl se_U_stand (by decide +kernel) rfl rfl (Nat.le_of_ble_eq_true rfl) (by decide) e30 m32) (k_U_stand hV G27 v29 a1 (v22 + (nI 1)) v22) h (fun G33 _ h => ?_)
      refine Y.blk (pc' := 73) (L' := [some (.ref a0), some (.int a1), some (.int v16), some (.int v22)]) (st' := [.ref a0]) (sg := [(.aload_n 0, 0)]) (by decide +kernel) rfl ?_
      refine Y.getA fl_X_10 (by decide +kernel) h (fun v34 h => ?_)
      refine Y.blk (pc' := 78) (L' := [some (.ref a0), some (.int a1), some (.int v16), some (.int v22)]) (st' := [.int v22, .int v16, .ref v34]) (sg := [(.iload_n 2, 0), (.iload_n 3, 0)]) (by decide +kernel) rfl ?_
      obtain ⟨_, o36, e35, m37, h⟩ := gOb_inv h
      refine Y.callI (yC.Vi (b := v34) (As := [.int v16, .int v22]) (st := []) (r := ("Partlister$Lists", T_I, 7)) hV.1 cb_I_thingAt lk_X_94 in_I_thingAt rfl se_I_thingAt (by decide +kernel) rfl rfl (Nat.le_of_ble_eq_true rfl) (by decide) e35 m37) (k_I_thingAt hV G33 v34 v16 v22) h (fun v39 G38 _ h => ?_)
      refine Y.callI (yC.S (As := [.int v39]) (st := []) hV.1 cb_X_tagOf lk_X_48 st_X_tagOf (by decide +kernel) rfl rfl (Nat.le_of_ble_eq_true rfl) (by decide)) (k_X_tagOf hV G38 v39) h (fun v42 G41 _ h => ?_)
      exact Y.iret rfl (by decide +kernel) h
    · refine Y.blk (pc' := 56) (L' := [some (.ref a0), some (.int a1), some (.int v16), some (.int v22)]) (st' := [.int (-8), .ref a0]) (sg := [(.aload_n 0, 0), (.bipush (-8), -8)]) (by decide +kernel) rfl ?_
      obtain ⟨_, o44, e43, m45, h⟩ := gOb_inv h
      refine Y.callI (yC.Vi (b := a0) (As := [.int (-8)]) (st := []) (r := ("Partlister", T_X, 5)) hV.1 cb_X_failWith lk_X_173 in_X_failWith rfl se_X_failWith (by decide +kernel) rfl rfl (Nat.le_of_ble_eq_true rfl) (by decide) e43 m45) (k_X_failWith hV G27 a0 (-8)) h (fun v47 G46 _ h => ?_)
      exact Y.iret rfl (by decide +kernel) h
  · refine Y.blk (pc' := 19) (L' := [some (.ref a0), some (.int a1), none, none]) (st' := [.int (-9), .ref a0]) (sg := [(.aload_n 0, 0), (.bipush (-9), -9)]) (by decide +kernel) rfl ?_
    obtain ⟨_, o50, e49, m51, h⟩ := gOb_inv h
    refine Y.callI (yC.Vi (b := a0) (As := [.int (-9)]) (st := []) (r := ("Partlister", T_X, 5)) hV.1 cb_X_failWith lk_X_173 in_X_failWith rfl se_X_failWith (by decide +kernel) rfl rfl (Nat.le_of_ble_eq_true rfl) (by decide) e49 m51) (k_X_failWith hV G9 a0 (-9)) h (fun v53 G52 _ h => ?_)
    exact Y.iret rfl (by decide +kernel) h

def f_X_ofCursor (G : gH) (a0 : Nat) (a1 : Int32) (a2 : Int32) : gR :=
  if a1 < 0 then gThrow "java/lang/IndexOutOfBoundsException" G
  else if a1 < (nI 3) then (if a2 < 0 then gThrow "java/lang/IllegalArgumentException" G
      else if a2 < (nI 7) then gOb G a0 3 fun o2 => bI (f_X_worthOfCursor G a0 a1 a2) fun v5 G4 => rI v5 G4
        else gThrow "java/lang/IllegalArgumentException" G)
    else gThrow "java/lang/IndexOutOfBoundsException" G
theorem k_X_ofCursor {l : Launch} {D : va_G} {B : Nat} {O : State → Heap → Prop} (hV : zG l D B O) (G : gH) (a0 : Nat) (a1 : Int32) (a2 : Int32) : gMet (zVm l D B O) m_X_ofCursor 6 [.ref a0, .int a1, .int a2] G (f_X_ofCursor G a0 a1 a2) := by
  refine gMet.of (by decide +kernel) (Nat.le_of_ble_eq_true rfl) [some (.ref a0), some (.int a1), some (.int a2)] (fun ls h => zEn_ok (n := 3) h) ?_
  intro o Gf h
  unfold f_X_ofCursor at h
  refine Y.blk (pc' := 1) (L' := [some (.ref a0), some (.int a1), some (.int a2)]) (st' := [.int a1]) (sg := [(.iload_n 1, 0)]) (by decide +kernel) rfl ?_
  refine Y.if_lt (off := 8) (tgt := 9) (by decide +kernel) (by decide) h (fun c9 h => ?_) (fun c9 h => ?_)
  · exact Y.throwS (is := 241) (text := "cursor is not 0 to 2") (names := zNm) hV.1 (hV.2 _ _ _ (by decide +kernel)) (by decide +kernel) (by decide +kernel) ck_X_125 ini_IOE tw_X_129 tg_X_129 (by decide) (by decide) rfl (Nat.le_of_ble_eq_true rfl) (by decide +kernel) (by decide +kernel) (by decide +kernel) (by decide +kernel) (by decide +kernel) h
  · refine Y.blk (pc' := 6) (L' := [some (.ref a0), some (.int a1), some (.int a2)]) (st' := [.int (nI 3), .int a1]) (sg := [(.iload_n 1, 0), (.iconst 3, nI 3)]) (by decide +kernel) rfl ?_
    refine Y.ic_lt (off := 13) (tgt := 19) (by decide +kernel) (by decide) h (fun c8 h => ?_) (fun c8 h => ?_)
    · refine Y.blk (pc' := 20) (L' := [some (.ref a0), some (.int a1), some (.int a2)]) (st' := [.int a2]) (sg := [(.iload_n 2, 0)]) (by decide +kernel) rfl ?_
      refine Y.if_lt (off := 9) (tgt := 29) (by decide +kernel) (by decide) h (fun c7 h => ?_) (fun c7 h => ?_)
      · exact Y.throwS (is := 243) (text := "what is not 0 to 6") (names := zNm) hV.1 (hV.2 _ _ _ (by decide +kernel)) (by decide +kernel) (by decide +kernel) ck_X_81 ini_IAE tw_X_85 tg_X_85 (by decide) (by decide) rfl (Nat.le_of_ble_eq_true rfl) (by decide +kernel) (by decide +kernel) (by decide +kernel) (by decide +kernel) (by decide +kernel) h
      · refine Y.blk (pc' := 26) (L' := [some (.ref a0), some (.int a1), some (.int a2)]) (st' := [.int (nI 7), .int a2]) (sg := [(.iload_n 2, 0), (.bipush 7, nI 7)]) (by decide +kernel) rfl ?_
        refine Y.ic_lt (off := 13) (tgt := 39) (by decide +kernel) (by decide) h (fun c6 h => ?_) (fun c6 h => ?_)
        · refine Y.blk (pc' := 42) (L' := [some (.ref a0), some (.int a1), some (.int a2)]) (st' := [.int a2, .int a1, .ref a0]) (sg := [(.aload_n 0, 0), (.iload_n 1, 0), (.iload_n 2, 0)]) (by decide +kernel) rfl ?_
          obtain ⟨_, o2, e1, m3, h⟩ := gOb_inv h
          refine Y.callI (yC.Vi (b := a0) (As := [.int a1, .int a2]) (st := []) (r := ("Partlister", T_X, 5)) hV.1 cb_X_worthOfCursor lk_X_245 in_X_worthOfCursor rfl se_X_worthOfCursor (by decide +kernel) rfl rfl (Nat.le_of_ble_eq_true rfl) (by decide) e1 m3) (k_X_worthOfCursor hV G a0 a1 a2) h (fun v5 G4 _ h => ?_)
          exact Y.iret rfl (by decide +kernel) h
        · exact Y.throwS (is := 243) (text := "what is not 0 to 6") (names := zNm) hV.1 (hV.2 _ _ _ (by decide +kernel)) (by decide +kernel) (by decide +kernel) ck_X_81 ini_IAE tw_X_85 tg_X_85 (by decide) (by decide) rfl (Nat.le_of_ble_eq_true rfl) (by decide +kernel) (by decide +kernel) (by decide +kernel) (by decide +kernel) (by decide +kernel) h
    · exact Y.throwS (is := 241) (text := "cursor is not 0 to 2") (names := zNm) hV.1 (hV.2 _ _ _ (by decide +kernel)) (by decide +kernel) (by decide +kernel) ck_X_125 ini_IOE tw_X_129 tg_X_129 (by decide) (by decide) rfl (Nat.le_of_ble_eq_true rfl) (by decide +kernel) (by decide +kernel) (by decide +kernel) (by decide +kernel) (by decide +kernel) h

def f_X_ofPart (G : gH) (a0 : Nat) (a1 : Int32) (a2 : Int32) : gR :=
  gOb G a0 3 fun o2 => bV (f_X_needPart G a0 a1) fun G4 => if a2 < 0 then gThrow "java/lang/IllegalArgumentException" G4
  else if a2 < (nI 4) then gFA G4 a0 3 0 fun v5 => gOb G4 v5 1 fun o7 => bI (f_I_worthOf G4 v5 a1 a2) fun v10 G9 => rI v10 G9
    else gThrow "java/lang/IllegalArgumentException" G4
theorem k_X_ofPart {l : Launch} {D : va_G} {B : Nat} {O : State → Heap → Prop} (hV : zG l D B O) (G : gH) (a0 : Nat) (a1 : Int32) (a2 : Int32) : gMet (zVm l D B O) m_X_ofPart 7 [.ref a0, .int a1, .int a2] G (f_X_ofPart G a0 a1 a2) := by
  refine gMet.of (by decide +kernel) (Nat.le_of_ble_eq_true rfl) [some (.ref a0), some (.int a1), some (.int a2)] (fun ls h => zEn_ok (n := 3) h) ?_
  intro o Gf h
  unfold f_X_ofPart at h
  refine Y.blk (pc' := 2) (L' := [some (.ref a0), some (.int a1), some (.int a2)]) (st' := [.int a1, .ref a0]) (sg := [(.aload_n 0, 0), (.iload_n 1, 0)]) (by decide +kernel) rfl ?_
  obtain ⟨_, o2, e1, m3, h⟩ := gOb_inv h
  refine Y.callN (yC.Vi (b := a0) (As := [.int a1]) (st := []) (r := ("Partlister", T_X, 5)) hV.1 cb_X_needPart lk_X_142 in_X_needPart rfl se_X_needPart (by decide +kernel) rfl rfl (Nat.le_of_ble_eq_true rfl) (by decide) e1 m3) (k_X_needPart hV G a0 a1) h (fun G4 _ h => ?_)
  refine Y.blk (pc' := 6) (L' := [some (.ref a0), some (.int a1), some (.int a2)]) (st' := [.int a2]) (sg := [(.iload_n 2, 0)]) (by decide +kernel) rfl ?_
  refine Y.if_lt (off := 8) (tgt := 14) (by decide +kernel) (by decide) h (fun c12 h => ?_) (fun c12 h => ?_)
  · exact Y.throwS (is := 236) (text := "what is not 0 to 3") (names := zNm) hV.1 (hV.2 _ _ _ (by decide +kernel)) (by decide +kernel) (by decide +kernel) ck_X_81 ini_IAE tw_X_85 tg_X_85 (by decide) (by decide) rfl (Nat.le_of_ble_eq_true rfl) (by decide +kernel) (by decide +kernel) (by decide +kernel) (by decide +kernel) (by decide +kernel) h
  · refine Y.blk (pc' := 11) (L' := [some (.ref a0), some (.int a1), some (.int a2)]) (st' := [.int (nI 4), .int a2]) (sg := [(.iload_n 2, 0), (.iconst 4, nI 4)]) (by decide +kernel) rfl ?_
    refine Y.ic_lt (off := 13) (tgt := 24) (by decide +kernel) (by decide) h (fun c11 h => ?_) (fun c11 h => ?_)
    · refine Y.blk (pc' := 25) (L' := [some (.ref a0), some (.int a1), some (.int a2)]) (st' := [.ref a0]) (sg := [(.aload_n 0, 0)]) (by decide +kernel) rfl ?_
      refine Y.getA fl_X_10 (by decide +kernel) h (fun v5 h => ?_)
      refine Y.blk (pc' := 30) (L' := [some (.ref a0), some (.int a1), some (.int a2)]) (st' := [.int a2, .int a1, .ref v5]) (sg := [(.iload_n 1, 0), (.iload_n 2, 0)]) (by decide +kernel) rfl ?_
      obtain ⟨_, o7, e6, m8, h⟩ := gOb_inv h
      refine Y.callI (yC.Vi (b := v5) (As := [.int a1, .int a2]) (st := []) (r := ("Partlister$Lists", T_I, 7)) hV.1 cb_I_worthOf lk_X_238 in_I_worthOf rfl se_I_worthOf (by decide +kernel) rfl rfl (Nat.le_of_ble_eq_true rfl) (by decide) e6 m8) (k_I_worthOf hV G4 v5 a1 a2) h (fun v10 G9 _ h => ?_)
      exact Y.iret rfl (by decide +kernel) h
    · exact Y.throwS (is := 236) (text := "what is not 0 to 3") (names := zNm) hV.1 (hV.2 _ _ _ (by decide +kernel)) (by decide +kernel) (by decide +kernel) ck_X_81 ini_IAE tw_X_85 tg_X_85 (by decide) (by decide) rfl (Nat.le_of_ble_eq_true rfl) (by decide +kernel) (by decide +kernel) (by decide +kernel) (by decide +kernel) (by decide +kernel) h

def f_X_pack (G : gH) (a0 : Nat) (a1 : Int32) (a2 : Int32) : gR :=
  gOb G a0 3 fun o2 => bV (f_X_needRow G a0 a1) fun G4 => gOb G4 a0 3 fun o6 => bI (f_X_endAround G4 a0 a1) fun v9 G8 => rI v9 G8
theorem k_X_pack {l : Launch} {D : va_G} {B : Nat} {O : State → Heap → Prop} (hV : zG l D B O) (G : gH) (a0 : Nat) (a1 : Int32) (a2 : Int32) : gMet (zVm l D B O) m_X_pack 7 [.ref a0, .int a1, .int a2] G (f_X_pack G a0 a1 a2) := by
  refine gMet.of (by decide +kernel) (Nat.le_of_ble_eq_true rfl) [some (.ref a0), some (.int a1), some (.int a2)] (fun ls h => zEn_ok (n := 3) h) ?_
  intro o Gf h
  unfold f_X_pack at h
  refine Y.blk (pc' := 2) (L' := [some (.ref a0), some (.int a1), some (.int a2)]) (st' := [.int a1, .ref a0]) (sg := [(.aload_n 0, 0), (.iload_n 1, 0)]) (by decide +kernel) rfl ?_
  obtain ⟨_, o2, e1, m3, h⟩ := gOb_inv h
  refine Y.callN (yC.Vi (b := a0) (As := [.int a1]) (st := []) (r := ("Partlister", T_X, 5)) hV.1 cb_X_needRow lk_X_106 in_X_needRow rfl se_X_needRow (by decide +kernel) rfl rfl (Nat.le_of_ble_eq_true rfl) (by decide) e1 m3) (k_X_needRow hV G a0 a1) h (fun G4 _ h => ?_)
  refine Y.blk (pc' := 7) (L' := [some (.ref a0), some (.int a1), some (.int a2)]) (st' := [.int a1, .ref a0]) (sg := [(.aload_n 0, 0), (.iload_n 1, 0)]) (by decide +kernel) rfl ?_
  obtain ⟨_, o6, e5, m7, h⟩ := gOb_inv h
  refine Y.callI (yC.Vi (b := a0) (As := [.int a1]) (st := []) (r := ("Partlister", T_X, 5)) hV.1 cb_X_endAround lk_X_103 in_X_endAround rfl se_X_endAround (by decide +kernel) rfl rfl (Nat.le_of_ble_eq_true rfl) (by decide) e5 m7) (k_X_endAround hV G4 a0 a1) h (fun v9 G8 _ h => ?_)
  exact Y.iret rfl (by decide +kernel) h

def f_I_freePart_L2 (K16 : gH → Int32 → gR) (K24 : gH → gR) : Nat → gH → Nat → Int32 → gR
  | 0, _, _, _ => none
  | n + 1, G, x0, x1 =>
    if (nI 6) ≤ x1 then K24 G
    else gOb G x0 1 fun o2 => bI (f_I_isThere G x0 x1) fun v5 G4 => if v5 = 0 then K16 G4 x1
      else f_I_freePart_L2 K16 K24 n G4 x0 (x1 + (nI 1))
def f_I_freePart (G : gH) (a0 : Nat) : gR :=
  f_I_freePart_L2 (fun G9 x8 => rI x8 G9) (fun G10 => rI (-1) G10) zFu G a0 (nI 2)
theorem k_I_freePart_L2 {l : Launch} {D : va_G} {B : Nat} {O : State → Heap → Prop} (hV : zG l D B O) {o : gO} {Gf : gH} (K16 : gH → Int32 → gR) (K24 : gH → gR) (hK16 : ∀ (G : gH) (x1 : Int32), K16 G x1 = some (o, Gf) → Y (zVm l D B O) m_I_freePart 3 o Gf 16 [none, some (.int x1)] [] G) (hK24 : ∀ (G : gH), K24 G  = some (o, Gf) → Y (zVm l D B O) m_I_freePart 3 o Gf 24 [none, none] [] G) : ∀ (n : Nat) (G : gH) (x0 : Nat) (x1 : Int32), f_I_freePart_L2 K16 K24 n G x0 x1 = some (o, Gf) → Y (zVm l D B O) m_I_freePart 3 o Gf 2 [some (.ref x0), some (.int x1)] [] G := by
  intro n
  induction n with
  | zero => intro G x0 x1 h; cases h
  | succ n ih =>
    intro G x0 x1 h
    unfold f_I_freePart_L2 at h
    refine Y.blk (pc' := 5) (L' := [some (.ref x0), some (.int x1)]) (st' := [.int (nI 6), .int x1]) (sg := [(.iload_n 1, 0), (.bipush 6, nI 6)]) (by decide +kernel) rfl ?_
    refine Y.ic_ge (off := 19) (tgt := 24) (by decide +kernel) (by decide) h (fun c7 h => ?_) (fun c7 h => ?_)
    · refine Y.less (L' := [none, none]) (zLe_none (zLe_none (zLe_nil))) ?_
      exact hK24 G  h
    · refine Y.blk (pc' := 10) (L' := [some (.ref x0), some (.int x1)]) (st' := [.int x1, .ref x0]) (sg := [(.aload_n 0, 0), (.iload_n 1, 0)]) (by decide +kernel) rfl ?_
      obtain ⟨_, o2, e1, m3, h⟩ := gOb_inv h
      refine Y.callI (yC.Vi (b := x0) (As := [.int x1]) (st := []) (r := ("Partlister$Lists", T_I, 7)) hV.1 cb_I_isThere lk_I_86 in_I_isThere rfl se_I_isThere (by decide +kernel) rfl rfl (Nat.le_of_ble_eq_true rfl) (by decide) e1 m3) (k_I_isThere hV G x0 x1) h (fun v5 G4 _ h => ?_)
      refine Y.if_ne (off := 5) (tgt := 18) (by decide +kernel) (by decide) h (fun c6 h => ?_) (fun c6 h => ?_)
      · refine Y.less (L' := [none, some (.int x1)]) (zLe_none (zLe_some (zLe_nil))) ?_
        exact hK16 G4 x1 h
      · refine Y.blk (pc' := 21) (L' := [some (.ref x0), some (.int (x1 + (nI 1)))]) (st' := []) (sg := [(.iinc 1 1, nI 1)]) (by decide +kernel) rfl ?_
        refine Y.goto (off := -19) (tgt := 2) (by decide +kernel) (by decide) ?_
        exact ih G4 x0 (x1 + (nI 1)) h
theorem k_I_freePart {l : Launch} {D : va_G} {B : Nat} {O : State → Heap → Prop} (hV : zG l D B O) (G : gH) (a0 : Nat) : gMet (zVm l D B O) m_I_freePart 3 [.ref a0] G (f_I_freePart G a0) := by
  refine gMet.of (by decide +kernel) (Nat.le_of_ble_eq_true rfl) [some (.ref a0), none] (fun ls h => zEn_ok (n := 2) h) ?_
  intro o Gf h
  unfold f_I_freePart at h
  refine Y.blk (pc' := 2) (L' := [some (.ref a0), some (.int (nI 2))]) (st' := []) (sg := [(.iconst 2, nI 2), (.istore_n 1, 0)]) (by decide +kernel) rfl ?_
  refine k_I_freePart_L2 hV _ _ ?_ ?_  zFu G a0 (nI 2) h
  · intro G9 x8 h
    refine Y.blk (pc' := 17) (L' := [none, some (.int x8)]) (st' := [.int x8]) (sg := [(.iload_n 1, 0)]) (by decide +kernel) rfl ?_
    exact Y.iret rfl (by decide +kernel) h
  · intro G10 h
    refine Y.blk (pc' := 25) (L' := [none, none]) (st' := [.int (-1)]) (sg := [(.iconst (-1), -1)]) (by decide +kernel) rfl ?_
    exact Y.iret rfl (by decide +kernel) h

def f_I_open (G : gH) (a0 : Nat) (a1 : Int32) (a2 : Int32) (a3 : Int32) (a4 : Int32) : gR :=
  gFA G a0 1 2 fun v1 => gOb G v1 2 fun o3 => bV (f_N_write G v1 a1 a2) fun G5 => gFA G5 a0 1 3 fun v6 => gOb G5 a0 1 fun o8 => bI (f_I_rowOf G5 a0 a2) fun v11 G10 => gOb G10 v6 2 fun o13 => bV (f_N_write G10 v6 a1 v11) fun G15 => gFA G15 a0 1 4 fun v16 => gFA G15 a0 1 4 fun v17 => gOb G15 v17 2 fun o19 => bI (f_N_read G15 v17 a2) fun v22 G21 => gOb G21 v16 2 fun o24 => bV (f_N_write G21 v16 a1 (v22 + a3)) fun G26 => gFA G26 a0 1 1 fun v27 => gOb G26 v27 2 fun o29 => bV (f_N_write G26 v27 a1 a4) fun G31 => rV G31
theorem k_I_open {l : Launch} {D : va_G} {B : Nat} {O : State → Heap → Prop} (hV : zG l D B O) (G : gH) (a0 : Nat) (a1 : Int32) (a2 : Int32) (a3 : Int32) (a4 : Int32) : gMet (zVm l D B O) m_I_open 3 [.ref a0, .int a1, .int a2, .int a3, .int a4] G (f_I_open G a0 a1 a2 a3 a4) := by
  refine gMet.of (by decide +kernel) (Nat.le_of_ble_eq_true rfl) [some (.ref a0), some (.int a1), some (.int a2), some (.int a3), some (.int a4)] (fun ls h => zEn_ok (n := 5) h) ?_
  intro o Gf h
  unfold f_I_open at h
  refine Y.blk (pc' := 1) (L' := [some (.ref a0), some (.int a1), some (.int a2), some (.int a3), some (.int a4)]) (st' := [.ref a0]) (sg := [(.aload_n 0, 0)]) (by decide +kernel) rfl ?_
  refine Y.getA fl_I_23 (by decide +kernel) h (fun v1 h => ?_)
  refine Y.blk (pc' := 6) (L' := [some (.ref a0), some (.int a1), some (.int a2), some (.int a3), some (.int a4)]) (st' := [.int a2, .int a1, .ref v1]) (sg := [(.iload_n 1, 0), (.iload_n 2, 0)]) (by decide +kernel) rfl ?_
  obtain ⟨_, o3, e2, m4, h⟩ := gOb_inv h
  refine Y.callN (yC.Vi (b := v1) (As := [.int a1, .int a2]) (st := []) (r := ("Partlister$Numbers", T_N, 1)) hV.1 cb_N_write lk_I_35 in_N_write rfl se_N_write (by decide +kernel) rfl rfl (Nat.le_of_ble_eq_true rfl) (by decide) e2 m4) (k_N_write hV G v1 a1 a2) h (fun G5 _ h => ?_)
  refine Y.blk (pc' := 10) (L' := [some (.ref a0), some (.int a1), some (.int a2), some (.int a3), some (.int a4)]) (st' := [.ref a0]) (sg := [(.aload_n 0, 0)]) (by decide +kernel) rfl ?_
  refine Y.getA fl_I_26 (by decide +kernel) h (fun v6 h => ?_)
  refine Y.blk (pc' := 16) (L' := [some (.ref a0), some (.int a1), some (.int a2), some (.int a3), some (.int a4)]) (st' := [.int a2, .ref a0, .int a1, .ref v6]) (sg := [(.iload_n 1, 0), (.aload_n 0, 0), (.iload_n 2, 0)]) (by decide +kernel) rfl ?_
  obtain ⟨_, o8, e7, m9, h⟩ := gOb_inv h
  refine Y.callI (yC.Vi (b := a0) (As := [.int a2]) (st := [.int a1, .ref v6]) (r := ("Partlister$Lists", T_I, 7)) hV.1 cb_I_rowOf lk_I_56 in_I_rowOf rfl se_I_rowOf (by decide +kernel) rfl rfl (Nat.le_of_ble_eq_true rfl) (by decide) e7 m9) (k_I_rowOf hV G5 a0 a2) h (fun v11 G10 _ h => ?_)
  obtain ⟨_, o13, e12, m14, h⟩ := gOb_inv h
  refine Y.callN (yC.Vi (b := v6) (As := [.int a1, .int v11]) (st := []) (r := ("Partlister$Numbers", T_N, 1)) hV.1 cb_N_write lk_I_35 in_N_write rfl se_N_write (by decide +kernel) rfl rfl (Nat.le_of_ble_eq_true rfl) (by decide) e12 m14) (k_N_write hV G10 v6 a1 v11) h (fun G15 _ h => ?_)
  refine Y.blk (pc' := 23) (L' := [some (.ref a0), some (.int a1), some (.int a2), some (.int a3), some (.int a4)]) (st' := [.ref a0]) (sg := [(.aload_n 0, 0)]) (by decide +kernel) rfl ?_
  refine Y.getA fl_I_29 (by decide +kernel) h (fun v16 h => ?_)
  refine Y.blk (pc' := 28) (L' := [some (.ref a0), some (.int a1), some (.int a2), some (.int a3), some (.int a4)]) (st' := [.ref a0, .int a1, .ref v16]) (sg := [(.iload_n 1, 0), (.aload_n 0, 0)]) (by decide +kernel) rfl ?_
  refine Y.getA fl_I_29 (by decide +kernel) h (fun v17 h => ?_)
  refine Y.blk (pc' := 32) (L' := [some (.ref a0), some (.int a1), some (.int a2), some (.int a3), some (.int a4)]) (st' := [.int a2, .ref v17, .int a1, .ref v16]) (sg := [(.iload_n 2, 0)]) (by decide +kernel) rfl ?_
  obtain ⟨_, o19, e18, m20, h⟩ := gOb_inv h
  refine Y.callI (yC.Vi (b := v17) (As := [.int a2]) (st := [.int a1, .ref v16]) (r := ("Partlister$Numbers", T_N, 1)) hV.1 cb_N_read lk_I_39 in_N_read rfl se_N_read (by decide +kernel) rfl rfl (Nat.le_of_ble_eq_true rfl) (by decide) e18 m20) (k_N_read hV G15 v17 a2) h (fun v22 G21 _ h => ?_)
  refine Y.blk (pc' := 37) (L' := [some (.ref a0), some (.int a1), some (.int a2), some (.int a3), some (.int a4)]) (st' := [.int (v22 + a3), .int a1, .ref v16]) (sg := [(.iload_n 3, 0), (.iadd, 0)]) (by decide +kernel) rfl ?_
  obtain ⟨_, o24, e23, m25, h⟩ := gOb_inv h
  refine Y.callN (yC.Vi (b := v16) (As := [.int a1, .int (v22 + a3)]) (st := []) (r := ("Partlister$Numbers", T_N, 1)) hV.1 cb_N_write lk_I_35 in_N_write rfl se_N_write (by decide +kernel) rfl rfl (Nat.le_of_ble_eq_true rfl) (by decide) e23 m25) (k_N_write hV G21 v16 a1 (v22 + a3)) h (fun G26 _ h => ?_)
  refine Y.blk (pc' := 41) (L' := [some (.ref a0), some (.int a1), some (.int a2), some (.int a3), some (.int a4)]) (st' := [.ref a0]) (sg := [(.aload_n 0, 0)]) (by decide +kernel) rfl ?_
  refine Y.getA fl_I_20 (by decide +kernel) h (fun v27 h => ?_)
  refine Y.blk (pc' := 47) (L' := [some (.ref a0), some (.int a1), some (.int a2), some (.int a3), some (.int a4)]) (st' := [.int a4, .int a1, .ref v27]) (sg := [(.iload_n 1, 0), (.iload 4, 0)]) (by decide +kernel) rfl ?_
  obtain ⟨_, o29, e28, m30, h⟩ := gOb_inv h
  refine Y.callN (yC.Vi (b := v27) (As := [.int a1, .int a4]) (st := []) (r := ("Partlister$Numbers", T_N, 1)) hV.1 cb_N_write lk_I_35 in_N_write rfl se_N_write (by decide +kernel) rfl rfl (Nat.le_of_ble_eq_true rfl) (by decide) e28 m30) (k_N_write hV G26 v27 a1 a4) h (fun G31 _ h => ?_)
  exact Y.vret rfl (by decide +kernel) h

def f_X_part (G : gH) (a0 : Nat) (a1 : Int32) (a2 : Int32) (a3 : Int32) : gR :=
  gOb G a0 3 fun o2 => bV (f_X_needList G a0 a1) fun G4 => gOb G4 a0 3 fun o6 => bV (f_X_needGap G4 a0 a1 a2) fun G8 => if a3 < a2 then gThrow "java/lang/IndexOutOfBoundsException" G8
  else gFA G8 a0 3 0 fun v9 => gOb G8 v9 1 fun o11 => bI (f_I_lengthOf G8 v9 a1) fun v14 G13 => if a3 ≤ v14 then (gFA G13 a0 3 0 fun v15 => gOb G13 v15 1 fun o17 => bI (f_I_freePart G13 v15) fun v20 G19 => if v20 = (-1) then gThrow "java/lang/IllegalStateException" G19
      else gFA G19 a0 3 0 fun v21 => gOb G19 v21 1 fun o23 => bV (f_I_open G19 v21 v20 a1 a2 (a3 - a2)) fun G25 => rI v20 G25)
    else gThrow "java/lang/IndexOutOfBoundsException" G13
theorem k_X_part {l : Launch} {D : va_G} {B : Nat} {O : State → Heap → Prop} (hV : zG l D B O) (G : gH) (a0 : Nat) (a1 : Int32) (a2 : Int32) (a3 : Int32) : gMet (zVm l D B O) m_X_part 7 [.ref a0, .int a1, .int a2, .int a3] G (f_X_part G a0 a1 a2 a3) := by
  refine gMet.of (by decide +kernel) (Nat.le_of_ble_eq_true rfl) [some (.ref a0), some (.int a1), some (.int a2), some (.int a3), none] (fun ls h => zEn_ok (n := 5) h) ?_
  intro o Gf h
  unfold f_X_part at h
  refine Y.blk (pc' := 2) (L' := [some (.ref a0), some (.int a1), some (.int a2), some (.int a3), none]) (st' := [.int a1, .ref a0]) (sg := [(.aload_n 0, 0), (.iload_n 1, 0)]) (by decide +kernel) rfl ?_
  obtain ⟨_, o2, e1, m3, h⟩ := gOb_inv h
  refine Y.callN (yC.Vi (b := a0) (As := [.int a1]) (st := []) (r := ("Partlister", T_X, 5)) hV.1 cb_X_needList lk_X_23 in_X_needList rfl se_X_needList (by decide +kernel) rfl rfl (Nat.le_of_ble_eq_true rfl) (by decide) e1 m3) (k_X_needList hV G a0 a1) h (fun G4 _ h => ?_)
  refine Y.blk (pc' := 8) (L' := [some (.ref a0), some (.int a1), some (.int a2), some (.int a3), none]) (st' := [.int a2, .int a1, .ref a0]) (sg := [(.aload_n 0, 0), (.iload_n 1, 0), (.iload_n 2, 0)]) (by decide +kernel) rfl ?_
  obtain ⟨_, o6, e5, m7, h⟩ := gOb_inv h
  refine Y.callN (yC.Vi (b := a0) (As := [.int a1, .int a2]) (st := []) (r := ("Partlister", T_X, 5)) hV.1 cb_X_needGap lk_X_45 in_X_needGap rfl se_X_needGap (by decide +kernel) rfl rfl (Nat.le_of_ble_eq_true rfl) (by decide) e5 m7) (k_X_needGap hV G4 a0 a1 a2) h (fun G8 _ h => ?_)
  refine Y.blk (pc' := 13) (L' := [some (.ref a0), some (.int a1), some (.int a2), some (.int a3), none]) (st' := [.int a2, .int a3]) (sg := [(.iload_n 3, 0), (.iload_n 2, 0)]) (by decide +kernel) rfl ?_
  refine Y.ic_lt (off := 15) (tgt := 28) (by decide +kernel) (by decide) h (fun c28 h => ?_) (fun c28 h => ?_)
  · exact Y.throwS (is := 127) (text := "to is not from to LENGTH") (names := zNm) hV.1 (hV.2 _ _ _ (by decide +kernel)) (by decide +kernel) (by decide +kernel) ck_X_125 ini_IOE tw_X_129 tg_X_129 (by decide) (by decide) rfl (Nat.le_of_ble_eq_true rfl) (by decide +kernel) (by decide +kernel) (by decide +kernel) (by decide +kernel) (by decide +kernel) h
  · refine Y.blk (pc' := 18) (L' := [some (.ref a0), some (.int a1), some (.int a2), some (.int a3), none]) (st' := [.ref a0, .int a3]) (sg := [(.iload_n 3, 0), (.aload_n 0, 0)]) (by decide +kernel) rfl ?_
    refine Y.getA fl_X_10 (by decide +kernel) h (fun v9 h => ?_)
    refine Y.blk (pc' := 22) (L' := [some (.ref a0), some (.int a1), some (.int a2), some (.int a3), none]) (st' := [.int a1, .ref v9, .int a3]) (sg := [(.iload_n 1, 0)]) (by decide +kernel) rfl ?_
    obtain ⟨_, o11, e10, m12, h⟩ := gOb_inv h
    refine Y.callI (yC.Vi (b := v9) (As := [.int a1]) (st := [.int a3]) (r := ("Partlister$Lists", T_I, 7)) hV.1 cb_I_lengthOf lk_X_34 in_I_lengthOf rfl se_I_lengthOf (by decide +kernel) rfl rfl (Nat.le_of_ble_eq_true rfl) (by decide) e10 m12) (k_I_lengthOf hV G8 v9 a1) h (fun v14 G13 _ h => ?_)
    refine Y.ic_le (off := 13) (tgt := 38) (by decide +kernel) (by decide) h (fun c27 h => ?_) (fun c27 h => ?_)
    · refine Y.blk (pc' := 39) (L' := [some (.ref a0), some (.int a1), some (.int a2), some (.int a3), none]) (st' := [.ref a0]) (sg := [(.aload_n 0, 0)]) (by decide +kernel) rfl ?_
      refine Y.getA fl_X_10 (by decide +kernel) h (fun v15 h => ?_)
      obtain ⟨_, o17, e16, m18, h⟩ := gOb_inv h
      refine Y.callI (yC.Vi (b := v15) (As := []) (st := []) (r := ("Partlister$Lists", T_I, 7)) hV.1 cb_I_freePart lk_X_130 in_I_freePart rfl se_I_freePart (by decide +kernel) rfl rfl (Nat.le_of_ble_eq_true rfl) (by decide) e16 m18) (k_I_freePart hV G13 v15) h (fun v20 G19 _ h => ?_)
      refine Y.blk (pc' := 50) (L' := [some (.ref a0), some (.int a1), some (.int a2), some (.int a3), some (.int v20)]) (st' := [.int (-1), .int v20]) (sg := [(.istore 4, 0), (.iload 4, 0), (.iconst (-1), -1)]) (by decide +kernel) rfl ?_
      refine Y.ic_ne (off := 13) (tgt := 63) (by decide +kernel) (by decide) h (fun c26 h => ?_) (fun c26 h => ?_)
      · exact Y.throwS (is := 136) (text := "there are four PARTS") (names := zNm) hV.1 (hV.2 _ _ _ (by decide +kernel)) (by decide +kernel) (by decide +kernel) ck_X_134 ini_ISE tw_X_138 tg_X_138 (by decide) (by decide) rfl (Nat.le_of_ble_eq_true rfl) (by decide +kernel) (by decide +kernel) (by decide +kernel) (by decide +kernel) (by decide +kernel) h
      · refine Y.blk (pc' := 64) (L' := [some (.ref a0), some (.int a1), some (.int a2), some (.int a3), some (.int v20)]) (st' := [.ref a0]) (sg := [(.aload_n 0, 0)]) (by decide +kernel) rfl ?_
        refine Y.getA fl_X_10 (by decide +kernel) h (fun v21 h => ?_)
        refine Y.blk (pc' := 74) (L' := [some (.ref a0), some (.int a1), some (.int a2), some (.int a3), some (.int v20)]) (st' := [.int (a3 - a2), .int a2, .int a1, .int v20, .ref v21]) (sg := [(.iload 4, 0), (.iload_n 1, 0), (.iload_n 2, 0), (.iload_n 3, 0), (.iload_n 2, 0), (.isub, 0)]) (by decide +kernel) rfl ?_
        obtain ⟨_, o23, e22, m24, h⟩ := gOb_inv h
        refine Y.callN (yC.Vi (b := v21) (As := [.int v20, .int a1, .int a2, .int (a3 - a2)]) (st := []) (r := ("Partlister$Lists", T_I, 7)) hV.1 cb_I_open lk_X_139 in_I_open rfl se_I_open (by decide +kernel) rfl rfl (Nat.le_of_ble_eq_true rfl) (by decide) e22 m24) (k_I_open hV G19 v21 v20 a1 a2 (a3 - a2)) h (fun G25 _ h => ?_)
        refine Y.blk (pc' := 79) (L' := [some (.ref a0), some (.int a1), some (.int a2), some (.int a3), some (.int v20)]) (st' := [.int v20]) (sg := [(.iload 4, 0)]) (by decide +kernel) rfl ?_
        exact Y.iret rfl (by decide +kernel) h
    · exact Y.throwS (is := 127) (text := "to is not from to LENGTH") (names := zNm) hV.1 (hV.2 _ _ _ (by decide +kernel)) (by decide +kernel) (by decide +kernel) ck_X_125 ini_IOE tw_X_129 tg_X_129 (by decide) (by decide) rfl (Nat.le_of_ble_eq_true rfl) (by decide +kernel) (by decide +kernel) (by decide +kernel) (by decide +kernel) (by decide +kernel) h

def f_X_previous (G : gH) (a0 : Nat) (a1 : Int32) : gR :=
  gOb G a0 3 fun o2 => bV (f_X_needCursor G a0 a1) fun G4 => gFA G4 a0 3 1 fun v5 => gOb G4 v5 0 fun o7 => bI (f_U_isStale G4 v5 a1) fun v10 G9 => if v10 = 0 then (gFA G9 a0 3 1 fun v11 => gOb G9 v11 0 fun o13 => bI (f_U_nextOf G9 v11 a1) fun v16 G15 => if 0 ≤ (v16 - (nI 1)) then gFA G15 a0 3 1 fun v17 => gOb G15 v17 0 fun o19 => bV (f_U_stand G15 v17 a1 (v16 - (nI 1)) (v16 - (nI 1))) fun G21 => gFA G21 a0 3 0 fun v22 => gFA G21 a0 3 1 fun v23 => gOb G21 v23 0 fun o25 => bI (f_U_listOf G21 v23 a1) fun v28 G27 => gOb G27 v22 1 fun o30 => bI (f_I_thingAt G27 v22 v28 (v16 - (nI 1))) fun v33 G32 => bI (f_X_tagOf G32 v33) fun v36 G35 => rI v36 G35
    else gOb G15 a0 3 fun o38 => bI (f_X_failWith G15 a0 (-8)) fun v41 G40 => rI v41 G40)
  else gOb G9 a0 3 fun o44 => bI (f_X_failWith G9 a0 (-9)) fun v47 G46 => rI v47 G46
theorem k_X_previous {l : Launch} {D : va_G} {B : Nat} {O : State → Heap → Prop} (hV : zG l D B O) (G : gH) (a0 : Nat) (a1 : Int32) : gMet (zVm l D B O) m_X_previous 7 [.ref a0, .int a1] G (f_X_previous G a0 a1) := by
  refine gMet.of (by decide +kernel) (Nat.le_of_ble_eq_true rfl) [some (.ref a0), some (.int a1), none] (fun ls h => zEn_ok (n := 3) h) ?_
  intro o Gf h
  unfold f_X_previous at h
  refine Y.blk (pc' := 2) (L' := [some (.ref a0), some (.int a1), none]) (st' := [.int a1, .ref a0]) (sg := [(.aload_n 0, 0), (.iload_n 1, 0)]) (by decide +kernel) rfl ?_
  obtain ⟨_, o2, e1, m3, h⟩ := gOb_inv h
  refine Y.callN (yC.Vi (b := a0) (As := [.int a1]) (st := []) (r := ("Partlister", T_X, 5)) hV.1 cb_X_needCursor lk_X_167 in_X_needCursor rfl se_X_needCursor (by decide +kernel) rfl rfl (Nat.le_of_ble_eq_true rfl) (by decide) e1 m3) (k_X_needCursor hV G a0 a1) h (fun G4 _ h => ?_)
  refine Y.blk (pc' := 6) (L' := [some (.ref a0), some (.int a1), none]) (st' := [.ref a0]) (sg := [(.aload_n 0, 0)]) (by decide +kernel) rfl ?_
  refine Y.getA fl_X_19 (by decide +kernel) h (fun v5 h => ?_)
  refine Y.blk (pc' := 10) (L' := [some (.ref a0), some (.int a1), none]) (st' := [.int a1, .ref v5]) (sg := [(.iload_n 1, 0)]) (by decide +kernel) rfl ?_
  obtain ⟨_, o7, e6, m8, h⟩ := gOb_inv h
  refine Y.callI (yC.Vi (b := v5) (As := [.int a1]) (st := []) (r := ("Partlister$Cursors", T_U, 5)) hV.1 cb_U_isStale lk_X_170 in_U_isStale rfl se_U_isStale (by decide +kernel) rfl rfl (Nat.le_of_ble_eq_true rfl) (by decide) e6 m8) (k_U_isStale hV G4 v5 a1) h (fun v10 G9 _ h => ?_)
  refine Y.if_eq (off := 10) (tgt := 23) (by decide +kernel) (by decide) h (fun c48 h => ?_) (fun c48 h => ?_)
  · refine Y.blk (pc' := 24) (L' := [some (.ref a0), some (.int a1), none]) (st' := [.ref a0]) (sg := [(.aload_n 0, 0)]) (by decide +kernel) rfl ?_
    refine Y.getA fl_X_19 (by decide +kernel) h (fun v11 h => ?_)
    refine Y.blk (pc' := 28) (L' := [some (.ref a0), some (.int a1), none]) (st' := [.int a1, .ref v11]) (sg := [(.iload_n 1, 0)]) (by decide +kernel) rfl ?_
    obtain ⟨_, o13, e12, m14, h⟩ := gOb_inv h
    refine Y.callI (yC.Vi (b := v11) (As := [.int a1]) (st := []) (r := ("Partlister$Cursors", T_U, 5)) hV.1 cb_U_nextOf lk_X_176 in_U_nextOf rfl se_U_nextOf (by decide +kernel) rfl rfl (Nat.le_of_ble_eq_true rfl) (by decide) e12 m14) (k_U_nextOf hV G9 v11 a1) h (fun v16 G15 _ h => ?_)
    refine Y.blk (pc' := 35) (L' := [some (.ref a0), some (.int a1), some (.int (v16 - (nI 1)))]) (st' := [.int (v16 - (nI 1))]) (sg := [(.iconst 1, nI 1), (.isub, 0), (.istore_n 2, 0), (.iload_n 2, 0)]) (by decide +kernel) rfl ?_
    refine Y.if_ge (off := 10) (tgt := 45) (by decide +kernel) (by decide) h (fun c42 h => ?_) (fun c42 h => ?_)
    · refine Y.blk (pc' := 46) (L' := [some (.ref a0), some (.int a1), some (.int (v16 - (nI 1)))]) (st' := [.ref a0]) (sg := [(.aload_n 0, 0)]) (by decide +kernel) rfl ?_
      refine Y.getA fl_X_19 (by decide +kernel) h (fun v17 h => ?_)
      refine Y.blk (pc' := 52) (L' := [some (.ref a0), some (.int a1), some (.int (v16 - (nI 1)))]) (st' := [.int (v16 - (nI 1)), .int (v16 - (nI 1)), .int a1, .ref v17]) (sg := [(.iload_n 1, 0), (.iload_n 2, 0), (.iload_n 2, 0)]) (by decide +kernel) rfl ?_
      obtain ⟨_, o19, e18, m20, h⟩ := gOb_inv h
      refine Y.callN (yC.Vi (b := v17) (As := [.int a1, .int (v16 - (nI 1)), .int (v16 - (nI 1))]) (st := []) (r := ("Partlister$Cursors", T_U, 5)) hV.1 cb_U_stand lk_X_179 in_U_stand rfl se_U_stand (by decide +kernel) rfl rfl (Nat.le_of_ble_eq_true rfl) (by decide) e18 m20) (k_U_stand hV G15 v17 a1 (v16 - (nI 1)) (v16 - (nI 1))) h (fun G21 _ h => ?_)
      refine Y.blk (pc' := 56) (L' := [some (.ref a0), some (.int a1), some (.int (v16 - (nI 1)))]) (st' := [.ref a0]) (sg := [(.aload_n 0, 0)]) (by decide +kernel) rfl ?_
      refine Y.getA fl_X_10 (by decide +kernel) h (fun v22 h => ?_)
      refine Y.blk (pc' := 60) (L' := [some (.ref a0), some (.int a1), some (.int (v16 - (nI 1)))]) (st' := [.ref a0, .ref v22]) (sg := [(.aload_n 0, 0)]) (by decide +kernel) rfl ?_
      refine Y.getA fl_X_19 (by decide +kernel) h (fun v23 h => ?_)
      refine Y.blk (pc' := 64) (L' := [some (.ref a0), some (.int a1), some (.int (v16 - (nI 1)))]) (st' := [.int a1, .ref v23, .ref v22]) (sg := [(.iload_n 1, 0)]) (by decide +kernel) rfl ?_
      obtain ⟨_, o25, e24, m26, h⟩ := gOb_inv h
      refine Y.callI (yC.Vi (b := v23) (As := [.int a1]) (st := [.ref v22]) (r := ("Partlister$Cursors", T_U, 5)) hV.1 cb_U_listOf lk_X_152 in_U_listOf rfl se_U_listOf (by decide +kernel) rfl rfl (Nat.le_of_ble_eq_true rfl) (by decide) e24 m26) (k_U_listOf hV G21 v23 a1) h (fun v28 G27 _ h => ?_)
      refine Y.blk (pc' := 68) (L' := [some (.ref a0), some (.int a1), some (.int (v16 - (nI 1)))]) (st' := [.int (v16 - (nI 1)), .int v28, .ref v22]) (sg := [(.iload_n 2, 0)]) (by decide +kernel) rfl ?_
      obtain ⟨_, o30, e29, m31, h⟩ := gOb_inv h
      refine Y.callI (yC.Vi (b := v22) (As := [.int v28, .int (v16 - (nI 1))]) (st := []) (r := ("Partlister$Lists", T_I, 7)) hV.1 cb_I_thingAt lk_X_94 in_I_thingAt rfl se_I_thingAt (by decide +kernel) rfl rfl (Nat.le_of_ble_eq_true rfl) (by decide) e29 m31) (k_I_thingAt hV G27 v22 v28 (v16 - (nI 1))) h (fun v33 G32 _ h => ?_)
      refine Y.callI (yC.S (As := [.int v33]) (st := []) hV.1 cb_X_tagOf lk_X_48 st_X_tagOf (by decide +kernel) rfl rfl (Nat.le_of_ble_eq_true rfl) (by decide)) (k_X_tagOf hV G32 v33) h (fun v36 G35 _ h => ?_)
      exact Y.iret rfl (by decide +kernel) h
    · refine Y.blk (pc' := 41) (L' := [some (.ref a0), some (.int a1), some (.int (v16 - (nI 1)))]) (st' := [.int (-8), .ref a0]) (sg := [(.aload_n 0, 0), (.bipush (-8), -8)]) (by decide +kernel) rfl ?_
      obtain ⟨_, o38, e37, m39, h⟩ := gOb_inv h
      refine Y.callI (yC.Vi (b := a0) (As := [.int (-8)]) (st := []) (r := ("Partlister", T_X, 5)) hV.1 cb_X_failWith lk_X_173 in_X_failWith rfl se_X_failWith (by decide +kernel) rfl rfl (Nat.le_of_ble_eq_true rfl) (by decide) e37 m39) (k_X_failWith hV G15 a0 (-8)) h (fun v41 G40 _ h => ?_)
      exact Y.iret rfl (by decide +kernel) h
  · refine Y.blk (pc' := 19) (L' := [some (.ref a0), some (.int a1), none]) (st' := [.int (-9), .ref a0]) (sg := [(.aload_n 0, 0), (.bipush (-9), -9)]) (by decide +kernel) rfl ?_
    obtain ⟨_, o44, e43, m45, h⟩ := gOb_inv h
    refine Y.callI (yC.Vi (b := a0) (As := [.int (-9)]) (st := []) (r := ("Partlister", T_X, 5)) hV.1 cb_X_failWith lk_X_173 in_X_failWith rfl se_X_failWith (by decide +kernel) rfl rfl (Nat.le_of_ble_eq_true rfl) (by decide) e43 m45) (k_X_failWith hV G9 a0 (-9)) h (fun v47 G46 _ h => ?_)
    exact Y.iret rfl (by decide +kernel) h

def f_X_put (G : gH) (a0 : Nat) (a1 : Int32) (a2 : Int32) : gR :=
  gOb G a0 3 fun o2 => bV (f_X_needCursor G a0 a1) fun G4 => gOb G4 a0 3 fun o6 => bV (f_X_needKey G4 a0 a2) fun G8 => gFA G8 a0 3 1 fun v9 => gOb G8 v9 0 fun o11 => bI (f_U_isStale G8 v9 a1) fun v14 G13 => if v14 = 0 then (gFA G13 a0 3 1 fun v15 => gOb G13 v15 0 fun o17 => bI (f_U_lastOf G13 v15 a1) fun v20 G19 => if v20 = (-1) then gOb G19 a0 3 fun o22 => bI (f_X_failWith G19 a0 (-7)) fun v25 G24 => rI v25 G24
    else gOb G19 a0 3 fun o27 => bI (f_X_make G19 a0 a2) fun v30 G29 => gFA G29 a0 3 0 fun v31 => gFA G29 a0 3 1 fun v32 => gOb G29 v32 0 fun o34 => bI (f_U_listOf G29 v32 a1) fun v37 G36 => gOb G36 v31 1 fun o39 => bV (f_I_write G36 v31 v37 v20 v30) fun G41 => bI (f_X_tagOf G41 v30) fun v44 G43 => rI v44 G43)
  else gOb G13 a0 3 fun o47 => bI (f_X_failWith G13 a0 (-9)) fun v50 G49 => rI v50 G49
theorem k_X_put {l : Launch} {D : va_G} {B : Nat} {O : State → Heap → Prop} (hV : zG l D B O) (G : gH) (a0 : Nat) (a1 : Int32) (a2 : Int32) : gMet (zVm l D B O) m_X_put 7 [.ref a0, .int a1, .int a2] G (f_X_put G a0 a1 a2) := by
  refine gMet.of (by decide +kernel) (Nat.le_of_ble_eq_true rfl) [some (.ref a0), some (.int a1), some (.int a2), none, none] (fun ls h => zEn_ok (n := 5) h) ?_
  intro o Gf h
  unfold f_X_put at h
  refine Y.blk (pc' := 2) (L' := [some (.ref a0), some (.int a1), some (.int a2), none, none]) (st' := [.int a1, .ref a0]) (sg := [(.aload_n 0, 0), (.iload_n 1, 0)]) (by decide +kernel) rfl ?_
  obtain ⟨_, o2, e1, m3, h⟩ := gOb_inv h
  refine Y.callN (yC.Vi (b := a0) (As := [.int a1]) (st := []) (r := ("Partlister", T_X, 5)) hV.1 cb_X_needCursor lk_X_167 in_X_needCursor rfl se_X_needCursor (by decide +kernel) rfl rfl (Nat.le_of_ble_eq_true rfl) (by decide) e1 m3) (k_X_needCursor hV G a0 a1) h (fun G4 _ h => ?_)
  refine Y.blk (pc' := 7) (L' := [some (.ref a0), some (.int a1), some (.int a2), none, none]) (st' := [.int a2, .ref a0]) (sg := [(.aload_n 0, 0), (.iload_n 2, 0)]) (by decide +kernel) rfl ?_
  obtain ⟨_, o6, e5, m7, h⟩ := gOb_inv h
  refine Y.callN (yC.Vi (b := a0) (As := [.int a2]) (st := []) (r := ("Partlister", T_X, 5)) hV.1 cb_X_needKey lk_X_27 in_X_needKey rfl se_X_needKey (by decide +kernel) rfl rfl (Nat.le_of_ble_eq_true rfl) (by decide) e5 m7) (k_X_needKey hV G4 a0 a2) h (fun G8 _ h => ?_)
  refine Y.blk (pc' := 11) (L' := [some (.ref a0), some (.int a1), some (.int a2), none, none]) (st' := [.ref a0]) (sg := [(.aload_n 0, 0)]) (by decide +kernel) rfl ?_
  refine Y.getA fl_X_19 (by decide +kernel) h (fun v9 h => ?_)
  refine Y.blk (pc' := 15) (L' := [some (.ref a0), some (.int a1), some (.int a2), none, none]) (st' := [.int a1, .ref v9]) (sg := [(.iload_n 1, 0)]) (by decide +kernel) rfl ?_
  obtain ⟨_, o11, e10, m12, h⟩ := gOb_inv h
  refine Y.callI (yC.Vi (b := v9) (As := [.int a1]) (st := []) (r := ("Partlister$Cursors", T_U, 5)) hV.1 cb_U_isStale lk_X_170 in_U_isStale rfl se_U_isStale (by decide +kernel) rfl rfl (Nat.le_of_ble_eq_true rfl) (by decide) e10 m12) (k_U_isStale hV G8 v9 a1) h (fun v14 G13 _ h => ?_)
  refine Y.if_eq (off := 10) (tgt := 28) (by decide +kernel) (by decide) h (fun c51 h => ?_) (fun c51 h => ?_)
  · refine Y.blk (pc' := 29) (L' := [some (.ref a0), some (.int a1), some (.int a2), none, none]) (st' := [.ref a0]) (sg := [(.aload_n 0, 0)]) (by decide +kernel) rfl ?_
    refine Y.getA fl_X_19 (by decide +kernel) h (fun v15 h => ?_)
    refine Y.blk (pc' := 33) (L' := [some (.ref a0), some (.int a1), some (.int a2), none, none]) (st' := [.int a1, .ref v15]) (sg := [(.iload_n 1, 0)]) (by decide +kernel) rfl ?_
    obtain ⟨_, o17, e16, m18, h⟩ := gOb_inv h
    refine Y.callI (yC.Vi (b := v15) (As := [.int a1]) (st := []) (r := ("Partlister$Cursors", T_U, 5)) hV.1 cb_U_lastOf lk_X_182 in_U_lastOf rfl se_U_lastOf (by decide +kernel) rfl rfl (Nat.le_of_ble_eq_true rfl) (by decide) e16 m18) (k_U_lastOf hV G13 v15 a1) h (fun v20 G19 _ h => ?_)
    refine Y.blk (pc' := 39) (L' := [some (.ref a0), some (.int a1), some (.int a2), some (.int v20), none]) (st' := [.int (-1), .int v20]) (sg := [(.istore_n 3, 0), (.iload_n 3, 0), (.iconst (-1), -1)]) (by decide +kernel) rfl ?_
    refine Y.ic_ne (off := 10) (tgt := 49) (by decide +kernel) (by decide) h (fun c45 h => ?_) (fun c45 h => ?_)
    · refine Y.blk (pc' := 45) (L' := [some (.ref a0), some (.int a1), some (.int a2), some (.int v20), none]) (st' := [.int (-7), .ref a0]) (sg := [(.aload_n 0, 0), (.bipush (-7), -7)]) (by decide +kernel) rfl ?_
      obtain ⟨_, o22, e21, m23, h⟩ := gOb_inv h
      refine Y.callI (yC.Vi (b := a0) (As := [.int (-7)]) (st := []) (r := ("Partlister", T_X, 5)) hV.1 cb_X_failWith lk_X_173 in_X_failWith rfl se_X_failWith (by decide +kernel) rfl rfl (Nat.le_of_ble_eq_true rfl) (by decide) e21 m23) (k_X_failWith hV G19 a0 (-7)) h (fun v25 G24 _ h => ?_)
      exact Y.iret rfl (by decide +kernel) h
    · refine Y.blk (pc' := 51) (L' := [some (.ref a0), some (.int a1), some (.int a2), some (.int v20), none]) (st' := [.int a2, .ref a0]) (sg := [(.aload_n 0, 0), (.iload_n 2, 0)]) (by decide +kernel) rfl ?_
      obtain ⟨_, o27, e26, m28, h⟩ := gOb_inv h
      refine Y.callI (yC.Vi (b := a0) (As := [.int a2]) (st := []) (r := ("Partlister", T_X, 5)) hV.1 cb_X_make lk_X_38 in_X_make rfl se_X_make (by decide +kernel) rfl rfl (Nat.le_of_ble_eq_true rfl) (by decide) e26 m28) (k_X_make hV G19 a0 a2) h (fun v30 G29 _ h => ?_)
      refine Y.blk (pc' := 57) (L' := [some (.ref a0), some (.int a1), some (.int a2), some (.int v20), some (.int v30)]) (st' := [.ref a0]) (sg := [(.istore 4, 0), (.aload_n 0, 0)]) (by decide +kernel) rfl ?_
      refine Y.getA fl_X_10 (by decide +kernel) h (fun v31 h => ?_)
      refine Y.blk (pc' := 61) (L' := [some (.ref a0), some (.int a1), some (.int a2), some (.int v20), some (.int v30)]) (st' := [.ref a0, .ref v31]) (sg := [(.aload_n 0, 0)]) (by decide +kernel) rfl ?_
      refine Y.getA fl_X_19 (by decide +kernel) h (fun v32 h => ?_)
      refine Y.blk (pc' := 65) (L' := [some (.ref a0), some (.int a1), some (.int a2), some (.int v20), some (.int v30)]) (st' := [.int a1, .ref v32, .ref v31]) (sg := [(.iload_n 1, 0)]) (by decide +kernel) rfl ?_
      obtain ⟨_, o34, e33, m35, h⟩ := gOb_inv h
      refine Y.callI (yC.Vi (b := v32) (As := [.int a1]) (st := [.ref v31]) (r := ("Partlister$Cursors", T_U, 5)) hV.1 cb_U_listOf lk_X_152 in_U_listOf rfl se_U_listOf (by decide +kernel) rfl rfl (Nat.le_of_ble_eq_true rfl) (by decide) e33 m35) (k_U_listOf hV G29 v32 a1) h (fun v37 G36 _ h => ?_)
      refine Y.blk (pc' := 71) (L' := [some (.ref a0), some (.int a1), some (.int a2), some (.int v20), some (.int v30)]) (st' := [.int v30, .int v20, .int v37, .ref v31]) (sg := [(.iload_n 3, 0), (.iload 4, 0)]) (by decide +kernel) rfl ?_
      obtain ⟨_, o39, e38, m40, h⟩ := gOb_inv h
      refine Y.callN (yC.Vi (b := v31) (As := [.int v37, .int v20, .int v30]) (st := []) (r := ("Partlister$Lists", T_I, 7)) hV.1 cb_I_write lk_X_65 in_I_write rfl se_I_write (by decide +kernel) rfl rfl (Nat.le_of_ble_eq_true rfl) (by decide) e38 m40) (k_I_write hV G36 v31 v37 v20 v30) h (fun G41 _ h => ?_)
      refine Y.blk (pc' := 76) (L' := [some (.ref a0), some (.int a1), some (.int a2), some (.int v20), some (.int v30)]) (st' := [.int v30]) (sg := [(.iload 4, 0)]) (by decide +kernel) rfl ?_
      refine Y.callI (yC.S (As := [.int v30]) (st := []) hV.1 cb_X_tagOf lk_X_48 st_X_tagOf (by decide +kernel) rfl rfl (Nat.le_of_ble_eq_true rfl) (by decide)) (k_X_tagOf hV G41 v30) h (fun v44 G43 _ h => ?_)
      exact Y.iret rfl (by decide +kernel) h
  · refine Y.blk (pc' := 24) (L' := [some (.ref a0), some (.int a1), some (.int a2), none, none]) (st' := [.int (-9), .ref a0]) (sg := [(.aload_n 0, 0), (.bipush (-9), -9)]) (by decide +kernel) rfl ?_
    obtain ⟨_, o47, e46, m48, h⟩ := gOb_inv h
    refine Y.callI (yC.Vi (b := a0) (As := [.int (-9)]) (st := []) (r := ("Partlister", T_X, 5)) hV.1 cb_X_failWith lk_X_173 in_X_failWith rfl se_X_failWith (by decide +kernel) rfl rfl (Nat.le_of_ble_eq_true rfl) (by decide) e46 m48) (k_X_failWith hV G13 a0 (-9)) h (fun v50 G49 _ h => ?_)
    exact Y.iret rfl (by decide +kernel) h

def f_X_remove (G : gH) (a0 : Nat) (a1 : Int32) (a2 : Int32) : gR :=
  gOb G a0 3 fun o2 => bV (f_X_needList G a0 a1) fun G4 => gOb G4 a0 3 fun o6 => bV (f_X_needKey G4 a0 a2) fun G8 => gFA G8 a0 3 0 fun v9 => gOb G8 v9 1 fun o11 => bI (f_I_firstOf G8 v9 a1 a2) fun v14 G13 => if v14 = (-1) then rZ (nI 0) G13
  else gOb G13 a0 3 fun o16 => bI (f_X_takeOut G13 a0 a1 v14 (-1)) fun v19 G18 => rZ (nI 1) G18
theorem k_X_remove {l : Launch} {D : va_G} {B : Nat} {O : State → Heap → Prop} (hV : zG l D B O) (G : gH) (a0 : Nat) (a1 : Int32) (a2 : Int32) : gMet (zVm l D B O) m_X_remove 7 [.ref a0, .int a1, .int a2] G (f_X_remove G a0 a1 a2) := by
  refine gMet.of (by decide +kernel) (Nat.le_of_ble_eq_true rfl) [some (.ref a0), some (.int a1), some (.int a2), none] (fun ls h => zEn_ok (n := 4) h) ?_
  intro o Gf h
  unfold f_X_remove at h
  refine Y.blk (pc' := 2) (L' := [some (.ref a0), some (.int a1), some (.int a2), none]) (st' := [.int a1, .ref a0]) (sg := [(.aload_n 0, 0), (.iload_n 1, 0)]) (by decide +kernel) rfl ?_
  obtain ⟨_, o2, e1, m3, h⟩ := gOb_inv h
  refine Y.callN (yC.Vi (b := a0) (As := [.int a1]) (st := []) (r := ("Partlister", T_X, 5)) hV.1 cb_X_needList lk_X_23 in_X_needList rfl se_X_needList (by decide +kernel) rfl rfl (Nat.le_of_ble_eq_true rfl) (by decide) e1 m3) (k_X_needList hV G a0 a1) h (fun G4 _ h => ?_)
  refine Y.blk (pc' := 7) (L' := [some (.ref a0), some (.int a1), some (.int a2), none]) (st' := [.int a2, .ref a0]) (sg := [(.aload_n 0, 0), (.iload_n 2, 0)]) (by decide +kernel) rfl ?_
  obtain ⟨_, o6, e5, m7, h⟩ := gOb_inv h
  refine Y.callN (yC.Vi (b := a0) (As := [.int a2]) (st := []) (r := ("Partlister", T_X, 5)) hV.1 cb_X_needKey lk_X_27 in_X_needKey rfl se_X_needKey (by decide +kernel) rfl rfl (Nat.le_of_ble_eq_true rfl) (by decide) e5 m7) (k_X_needKey hV G4 a0 a2) h (fun G8 _ h => ?_)
  refine Y.blk (pc' := 11) (L' := [some (.ref a0), some (.int a1), some (.int a2), none]) (st' := [.ref a0]) (sg := [(.aload_n 0, 0)]) (by decide +kernel) rfl ?_
  refine Y.getA fl_X_10 (by decide +kernel) h (fun v9 h => ?_)
  refine Y.blk (pc' := 16) (L' := [some (.ref a0), some (.int a1), some (.int a2), none]) (st' := [.int a2, .int a1, .ref v9]) (sg := [(.iload_n 1, 0), (.iload_n 2, 0)]) (by decide +kernel) rfl ?_
  obtain ⟨_, o11, e10, m12, h⟩ := gOb_inv h
  refine Y.callI (yC.Vi (b := v9) (As := [.int a1, .int a2]) (st := []) (r := ("Partlister$Lists", T_I, 7)) hV.1 cb_I_firstOf lk_X_72 in_I_firstOf rfl se_I_firstOf (by decide +kernel) rfl rfl (Nat.le_of_ble_eq_true rfl) (by decide) e10 m12) (k_I_firstOf hV G8 v9 a1 a2) h (fun v14 G13 _ h => ?_)
  refine Y.blk (pc' := 22) (L' := [some (.ref a0), some (.int a1), some (.int a2), some (.int v14)]) (st' := [.int (-1), .int v14]) (sg := [(.istore_n 3, 0), (.iload_n 3, 0), (.iconst (-1), -1)]) (by decide +kernel) rfl ?_
  refine Y.ic_ne (off := 5) (tgt := 27) (by decide +kernel) (by decide) h (fun c20 h => ?_) (fun c20 h => ?_)
  · refine Y.blk (pc' := 26) (L' := [some (.ref a0), some (.int a1), some (.int a2), some (.int v14)]) (st' := [.int (nI 0)]) (sg := [(.iconst 0, nI 0)]) (by decide +kernel) rfl ?_
    exact Y.zret rfl (by decide +kernel) h
  · refine Y.blk (pc' := 31) (L' := [some (.ref a0), some (.int a1), some (.int a2), some (.int v14)]) (st' := [.int (-1), .int v14, .int a1, .ref a0]) (sg := [(.aload_n 0, 0), (.iload_n 1, 0), (.iload_n 3, 0), (.iconst (-1), -1)]) (by decide +kernel) rfl ?_
    obtain ⟨_, o16, e15, m17, h⟩ := gOb_inv h
    refine Y.callI (yC.Vi (b := a0) (As := [.int a1, .int v14, .int (-1)]) (st := []) (r := ("Partlister", T_X, 5)) hV.1 cb_X_takeOut lk_X_69 in_X_takeOut rfl se_X_takeOut (by decide +kernel) rfl rfl (Nat.le_of_ble_eq_true rfl) (by decide) e15 m17) (k_X_takeOut hV G13 a0 a1 v14 (-1)) h (fun v19 G18 _ h => ?_)
    refine Y.blk (pc' := 36) (L' := [some (.ref a0), some (.int a1), some (.int a2), some (.int v14)]) (st' := [.int (nI 1)]) (sg := [(.pop, 0), (.iconst 1, nI 1)]) (by decide +kernel) rfl ?_
    exact Y.zret rfl (by decide +kernel) h

def f_X_removeAll (G : gH) (a0 : Nat) (a1 : Int32) (a2 : Int32) : gR :=
  gOb G a0 3 fun o2 => bV (f_X_needList G a0 a1) fun G4 => gOb G4 a0 3 fun o6 => bV (f_X_needList G4 a0 a2) fun G8 => gOb G8 a0 3 fun o10 => bV (f_X_needOtherRow G8 a0 a1 a2) fun G12 => gFA G12 a0 3 0 fun v13 => gOb G12 v13 1 fun o15 => bI (f_I_keysOf G12 v13 a2) fun v18 G17 => gOb G17 a0 3 fun o20 => bI (f_X_takeOutAll G17 a0 a1 v18) fun v23 G22 => rI v23 G22
theorem k_X_removeAll {l : Launch} {D : va_G} {B : Nat} {O : State → Heap → Prop} (hV : zG l D B O) (G : gH) (a0 : Nat) (a1 : Int32) (a2 : Int32) : gMet (zVm l D B O) m_X_removeAll 7 [.ref a0, .int a1, .int a2] G (f_X_removeAll G a0 a1 a2) := by
  refine gMet.of (by decide +kernel) (Nat.le_of_ble_eq_true rfl) [some (.ref a0), some (.int a1), some (.int a2)] (fun ls h => zEn_ok (n := 3) h) ?_
  intro o Gf h
  unfold f_X_removeAll at h
  refine Y.blk (pc' := 2) (L' := [some (.ref a0), some (.int a1), some (.int a2)]) (st' := [.int a1, .ref a0]) (sg := [(.aload_n 0, 0), (.iload_n 1, 0)]) (by decide +kernel) rfl ?_
  obtain ⟨_, o2, e1, m3, h⟩ := gOb_inv h
  refine Y.callN (yC.Vi (b := a0) (As := [.int a1]) (st := []) (r := ("Partlister", T_X, 5)) hV.1 cb_X_needList lk_X_23 in_X_needList rfl se_X_needList (by decide +kernel) rfl rfl (Nat.le_of_ble_eq_true rfl) (by decide) e1 m3) (k_X_needList hV G a0 a1) h (fun G4 _ h => ?_)
  refine Y.blk (pc' := 7) (L' := [some (.ref a0), some (.int a1), some (.int a2)]) (st' := [.int a2, .ref a0]) (sg := [(.aload_n 0, 0), (.iload_n 2, 0)]) (by decide +kernel) rfl ?_
  obtain ⟨_, o6, e5, m7, h⟩ := gOb_inv h
  refine Y.callN (yC.Vi (b := a0) (As := [.int a2]) (st := []) (r := ("Partlister", T_X, 5)) hV.1 cb_X_needList lk_X_23 in_X_needList rfl se_X_needList (by decide +kernel) rfl rfl (Nat.le_of_ble_eq_true rfl) (by decide) e5 m7) (k_X_needList hV G4 a0 a2) h (fun G8 _ h => ?_)
  refine Y.blk (pc' := 13) (L' := [some (.ref a0), some (.int a1), some (.int a2)]) (st' := [.int a2, .int a1, .ref a0]) (sg := [(.aload_n 0, 0), (.iload_n 1, 0), (.iload_n 2, 0)]) (by decide +kernel) rfl ?_
  obtain ⟨_, o10, e9, m11, h⟩ := gOb_inv h
  refine Y.callN (yC.Vi (b := a0) (As := [.int a1, .int a2]) (st := []) (r := ("Partlister", T_X, 5)) hV.1 cb_X_needOtherRow lk_X_51 in_X_needOtherRow rfl se_X_needOtherRow (by decide +kernel) rfl rfl (Nat.le_of_ble_eq_true rfl) (by decide) e9 m11) (k_X_needOtherRow hV G8 a0 a1 a2) h (fun G12 _ h => ?_)
  refine Y.blk (pc' := 19) (L' := [some (.ref a0), some (.int a1), some (.int a2)]) (st' := [.ref a0, .int a1, .ref a0]) (sg := [(.aload_n 0, 0), (.iload_n 1, 0), (.aload_n 0, 0)]) (by decide +kernel) rfl ?_
  refine Y.getA fl_X_10 (by decide +kernel) h (fun v13 h => ?_)
  refine Y.blk (pc' := 23) (L' := [some (.ref a0), some (.int a1), some (.int a2)]) (st' := [.int a2, .ref v13, .int a1, .ref a0]) (sg := [(.iload_n 2, 0)]) (by decide +kernel) rfl ?_
  obtain ⟨_, o15, e14, m16, h⟩ := gOb_inv h
  refine Y.callI (yC.Vi (b := v13) (As := [.int a2]) (st := [.int a1, .ref a0]) (r := ("Partlister$Lists", T_I, 7)) hV.1 cb_I_keysOf lk_X_75 in_I_keysOf rfl se_I_keysOf (by decide +kernel) rfl rfl (Nat.le_of_ble_eq_true rfl) (by decide) e14 m16) (k_I_keysOf hV G12 v13 a2) h (fun v18 G17 _ h => ?_)
  obtain ⟨_, o20, e19, m21, h⟩ := gOb_inv h
  refine Y.callI (yC.Vi (b := a0) (As := [.int a1, .int v18]) (st := []) (r := ("Partlister", T_X, 5)) hV.1 cb_X_takeOutAll lk_X_78 in_X_takeOutAll rfl se_X_takeOutAll (by decide +kernel) rfl rfl (Nat.le_of_ble_eq_true rfl) (by decide) e19 m21) (k_X_takeOutAll hV G17 a0 a1 v18) h (fun v23 G22 _ h => ?_)
  exact Y.iret rfl (by decide +kernel) h

def f_X_removeAt (G : gH) (a0 : Nat) (a1 : Int32) (a2 : Int32) : gR :=
  gOb G a0 3 fun o2 => bV (f_X_needList G a0 a1) fun G4 => gOb G4 a0 3 fun o6 => bV (f_X_needPlace G4 a0 a1 a2) fun G8 => gOb G8 a0 3 fun o10 => bI (f_X_takeOut G8 a0 a1 a2 (-1)) fun v13 G12 => bI (f_X_tagOf G12 v13) fun v16 G15 => rI v16 G15
theorem k_X_removeAt {l : Launch} {D : va_G} {B : Nat} {O : State → Heap → Prop} (hV : zG l D B O) (G : gH) (a0 : Nat) (a1 : Int32) (a2 : Int32) : gMet (zVm l D B O) m_X_removeAt 7 [.ref a0, .int a1, .int a2] G (f_X_removeAt G a0 a1 a2) := by
  refine gMet.of (by decide +kernel) (Nat.le_of_ble_eq_true rfl) [some (.ref a0), some (.int a1), some (.int a2)] (fun ls h => zEn_ok (n := 3) h) ?_
  intro o Gf h
  unfold f_X_removeAt at h
  refine Y.blk (pc' := 2) (L' := [some (.ref a0), some (.int a1), some (.int a2)]) (st' := [.int a1, .ref a0]) (sg := [(.aload_n 0, 0), (.iload_n 1, 0)]) (by decide +kernel) rfl ?_
  obtain ⟨_, o2, e1, m3, h⟩ := gOb_inv h
  refine Y.callN (yC.Vi (b := a0) (As := [.int a1]) (st := []) (r := ("Partlister", T_X, 5)) hV.1 cb_X_needList lk_X_23 in_X_needList rfl se_X_needList (by decide +kernel) rfl rfl (Nat.le_of_ble_eq_true rfl) (by decide) e1 m3) (k_X_needList hV G a0 a1) h (fun G4 _ h => ?_)
  refine Y.blk (pc' := 8) (L' := [some (.ref a0), some (.int a1), some (.int a2)]) (st' := [.int a2, .int a1, .ref a0]) (sg := [(.aload_n 0, 0), (.iload_n 1, 0), (.iload_n 2, 0)]) (by decide +kernel) rfl ?_
  obtain ⟨_, o6, e5, m7, h⟩ := gOb_inv h
  refine Y.callN (yC.Vi (b := a0) (As := [.int a1, .int a2]) (st := []) (r := ("Partlister", T_X, 5)) hV.1 cb_X_needPlace lk_X_58 in_X_needPlace rfl se_X_needPlace (by decide +kernel) rfl rfl (Nat.le_of_ble_eq_true rfl) (by decide) e5 m7) (k_X_needPlace hV G4 a0 a1 a2) h (fun G8 _ h => ?_)
  refine Y.blk (pc' := 15) (L' := [some (.ref a0), some (.int a1), some (.int a2)]) (st' := [.int (-1), .int a2, .int a1, .ref a0]) (sg := [(.aload_n 0, 0), (.iload_n 1, 0), (.iload_n 2, 0), (.iconst (-1), -1)]) (by decide +kernel) rfl ?_
  obtain ⟨_, o10, e9, m11, h⟩ := gOb_inv h
  refine Y.callI (yC.Vi (b := a0) (As := [.int a1, .int a2, .int (-1)]) (st := []) (r := ("Partlister", T_X, 5)) hV.1 cb_X_takeOut lk_X_69 in_X_takeOut rfl se_X_takeOut (by decide +kernel) rfl rfl (Nat.le_of_ble_eq_true rfl) (by decide) e9 m11) (k_X_takeOut hV G8 a0 a1 a2 (-1)) h (fun v13 G12 _ h => ?_)
  refine Y.callI (yC.S (As := [.int v13]) (st := []) hV.1 cb_X_tagOf lk_X_48 st_X_tagOf (by decide +kernel) rfl rfl (Nat.le_of_ble_eq_true rfl) (by decide)) (k_X_tagOf hV G12 v13) h (fun v16 G15 _ h => ?_)
  exact Y.iret rfl (by decide +kernel) h

def f_X_removeIf_L51 (K85 : gH → Nat → Int32 → Int32 → gR) : Nat → gH → Nat → Int32 → Int32 → Int32 → Int32 → Int32 → gR
  | 0, _, _, _, _, _, _, _ => none
  | n + 1, G, x0, x1, x2, x3, x4, x5 =>
    if (nI 31) ≤ x5 then K85 G x0 x1 x4
    else gRem x5 x2 fun v5 => if v5 = x3 then f_X_removeIf_L51 K85 n G x0 x1 x2 x3 (x4 ||| ((nI 1) <<< (x5 &&& 31))) (x5 + (nI 1))
      else f_X_removeIf_L51 K85 n G x0 x1 x2 x3 (x4 ||| (nI 0)) (x5 + (nI 1))
def f_X_removeIf (G : gH) (a0 : Nat) (a1 : Int32) (a2 : Int32) (a3 : Int32) : gR :=
  gOb G a0 3 fun o2 => bV (f_X_needList G a0 a1) fun G4 => if a2 < (nI 1) then gThrow "java/lang/IllegalArgumentException" G4
  else if a2 ≤ (nI 9) then (if a3 < 0 then gThrow "java/lang/IllegalArgumentException" G4
      else if a3 < a2 then f_X_removeIf_L51 (fun G11 x8 x9 x10 => gOb G11 x8 3 fun o13 => bI (f_X_takeOutAll G11 x8 x9 x10) fun v16 G15 => rI v16 G15) zFu G4 a0 a1 a2 a3 (nI 0) (nI 0)
        else gThrow "java/lang/IllegalArgumentException" G4)
    else gThrow "java/lang/IllegalArgumentException" G4
theorem k_X_removeIf_L51 {l : Launch} {D : va_G} {B : Nat} {O : State → Heap → Prop} (hV : zG l D B O) {o : gO} {Gf : gH} (K85 : gH → Nat → Int32 → Int32 → gR) (hK85 : ∀ (G : gH) (x0 : Nat) (x1 : Int32) (x4 : Int32), K85 G x0 x1 x4 = some (o, Gf) → Y (zVm l D B O) m_X_removeIf 7 o Gf 85 [some (.ref x0), some (.int x1), none, none, some (.int x4), none] [] G) : ∀ (n : Nat) (G : gH) (x0 : Nat) (x1 : Int32) (x2 : Int32) (x3 : Int32) (x4 : Int32) (x5 : Int32), f_X_removeIf_L51 K85 n G x0 x1 x2 x3 x4 x5 = some (o, Gf) → Y (zVm l D B O) m_X_removeIf 7 o Gf 51 [some (.ref x0), some (.int x1), some (.int x2), some (.int x3), some (.int x4), some (.int x5)] [] G := by
  intro n
  induction n with
  | zero => intro G x0 x1 x2 x3 x4 x5 h; cases h
  | succ n ih =>
    intro G x0 x1 x2 x3 x4 x5 h
    unfold f_X_removeIf_L51 at h
    refine Y.blk (pc' := 55) (L' := [some (.ref x0), some (.int x1), some (.int x2), some (.int x3), some (.int x4), some (.int x5)]) (st' := [.int (nI 31), .int x5]) (sg := [(.iload 5, 0), (.bipush 31, nI 31)]) (by decide +kernel) rfl ?_
    refine Y.ic_ge (off := 30) (tgt := 85) (by decide +kernel) (by decide) h (fun c7 h => ?_) (fun c7 h => ?_)
    · refine Y.less (L' := [some (.ref x0), some (.int x1), none, none, some (.int x4), none]) (zLe_some (zLe_some (zLe_none (zLe_none (zLe_some (zLe_none (zLe_nil))))))) ?_
      exact hK85 G x0 x1 x4 h
    · refine Y.blk (pc' := 63) (L' := [some (.ref x0), some (.int x1), some (.int x2), some (.int x3), some (.int x4), some (.int x5)]) (st' := [.int x2, .int x5, .int x4]) (sg := [(.iload 4, 0), (.iload 5, 0), (.iload_n 2, 0)]) (by decide +kernel) rfl ?_
      refine Y.irem (by decide +kernel) h (fun v5 h => ?_)
      refine Y.blk (pc' := 65) (L' := [some (.ref x0), some (.int x1), some (.int x2), some (.int x3), some (.int x4), some (.int x5)]) (st' := [.int x3, .int v5, .int x4]) (sg := [(.iload_n 3, 0)]) (by decide +kernel) rfl ?_
      refine Y.ic_ne (off := 10) (tgt := 75) (by decide +kernel) (by decide) h (fun c6 h => ?_) (fun c6 h => ?_)
      · refine Y.blk (pc' := 72) (L' := [some (.ref x0), some (.int x1), some (.int x2), some (.int x3), some (.int x4), some (.int x5)]) (st' := [.int ((nI 1) <<< (x5 &&& 31)), .int x4]) (sg := [(.iconst 1, nI 1), (.iload 5, 0), (.ishl, 0)]) (by decide +kernel) rfl ?_
        refine Y.goto (off := 4) (tgt := 76) (by decide +kernel) (by decide) ?_
        refine Y.blk (pc' := 82) (L' := [some (.ref x0), some (.int x1), some (.int x2), some (.int x3), some (.int (x4 ||| ((nI 1) <<< (x5 &&& 31)))), some (.int (x5 + (nI 1)))]) (st' := []) (sg := [(.ior, 0), (.istore 4, 0), (.iinc 5 1, nI 1)]) (by decide +kernel) rfl ?_
        refine Y.goto (off := -31) (tgt := 51) (by decide +kernel) (by decide) ?_
        exact ih G x0 x1 x2 x3 (x4 ||| ((nI 1) <<< (x5 &&& 31))) (x5 + (nI 1)) h
      · refine Y.blk (pc' := 82) (L' := [some (.ref x0), some (.int x1), some (.int x2), some (.int x3), some (.int (x4 ||| (nI 0))), some (.int (x5 + (nI 1)))]) (st' := []) (sg := [(.iconst 0, nI 0), (.ior, 0), (.istore 4, 0), (.iinc 5 1, nI 1)]) (by decide +kernel) rfl ?_
        refine Y.goto (off := -31) (tgt := 51) (by decide +kernel) (by decide) ?_
        exact ih G x0 x1 x2 x3 (x4 ||| (nI 0)) (x5 + (nI 1)) h
theorem k_X_removeIf {l : Launch} {D : va_G} {B : Nat} {O : State → Heap → Prop} (hV : zG l D B O) (G : gH) (a0 : Nat) (a1 : Int32) (a2 : Int32) (a3 : Int32) : gMet (zVm l D B O) m_X_removeIf 7 [.ref a0, .int a1, .int a2, .int a3] G (f_X_removeIf G a0 a1 a2 a3) := by
  refine gMet.of (by decide +kernel) (Nat.le_of_ble_eq_true rfl) [some (.ref a0), some (.int a1), some (.int a2), some (.int a3), none, none] (fun ls h => zEn_ok (n := 6) h) ?_
  intro o Gf h
  unfold f_X_removeIf at h
  refine Y.blk (pc' := 2) (L' := [some (.ref a0), some (.int a1), some (.int a2), some (.int a3), none, none]) (st' := [.int a1, .ref a0]) (sg := [(.aload_n 0, 0), (.iload_n 1, 0)]) (by decide +kernel) rfl ?_
  obtain ⟨_, o2, e1, m3, h⟩ := gOb_inv h
  refine Y.callN (yC.Vi (b := a0) (As := [.int a1]) (st := []) (r := ("Partlister", T_X, 5)) hV.1 cb_X_needList lk_X_23 in_X_needList rfl se_X_needList (by decide +kernel) rfl rfl (Nat.le_of_ble_eq_true rfl) (by decide) e1 m3) (k_X_needList hV G a0 a1) h (fun G4 _ h => ?_)
  refine Y.blk (pc' := 7) (L' := [some (.ref a0), some (.int a1), some (.int a2), some (.int a3), none, none]) (st' := [.int (nI 1), .int a2]) (sg := [(.iload_n 2, 0), (.iconst 1, nI 1)]) (by decide +kernel) rfl ?_
  refine Y.ic_lt (off := 9) (tgt := 16) (by decide +kernel) (by decide) h (fun c20 h => ?_) (fun c20 h => ?_)
  · exact Y.throwS (is := 83) (text := "by is not 1 to 9") (names := zNm) hV.1 (hV.2 _ _ _ (by decide +kernel)) (by decide +kernel) (by decide +kernel) ck_X_81 ini_IAE tw_X_85 tg_X_85 (by decide) (by decide) rfl (Nat.le_of_ble_eq_true rfl) (by decide +kernel) (by decide +kernel) (by decide +kernel) (by decide +kernel) (by decide +kernel) h
  · refine Y.blk (pc' := 13) (L' := [some (.ref a0), some (.int a1), some (.int a2), some (.int a3), none, none]) (st' := [.int (nI 9), .int a2]) (sg := [(.iload_n 2, 0), (.bipush 9, nI 9)]) (by decide +kernel) rfl ?_
    refine Y.ic_le (off := 13) (tgt := 26) (by decide +kernel) (by decide) h (fun c19 h => ?_) (fun c19 h => ?_)
    · refine Y.blk (pc' := 27) (L' := [some (.ref a0), some (.int a1), some (.int a2), some (.int a3), none, none]) (st' := [.int a3]) (sg := [(.iload_n 3, 0)]) (by decide +kernel) rfl ?_
      refine Y.if_lt (off := 8) (tgt := 35) (by decide +kernel) (by decide) h (fun c18 h => ?_) (fun c18 h => ?_)
      · exact Y.throwS (is := 88) (text := "rest is not 0 to by - 1") (names := zNm) hV.1 (hV.2 _ _ _ (by decide +kernel)) (by decide +kernel) (by decide +kernel) ck_X_81 ini_IAE tw_X_85 tg_X_85 (by decide) (by decide) rfl (Nat.le_of_ble_eq_true rfl) (by decide +kernel) (by decide +kernel) (by decide +kernel) (by decide +kernel) (by decide +kernel) h
      · refine Y.blk (pc' := 32) (L' := [some (.ref a0), some (.int a1), some (.int a2), some (.int a3), none, none]) (st' := [.int a2, .int a3]) (sg := [(.iload_n 3, 0), (.iload_n 2, 0)]) (by decide +kernel) rfl ?_
        refine Y.ic_lt (off := 13) (tgt := 45) (by decide +kernel) (by decide) h (fun c17 h => ?_) (fun c17 h => ?_)
        · refine Y.blk (pc' := 51) (L' := [some (.ref a0), some (.int a1), some (.int a2), some (.int a3), some (.int (nI 0)), some (.int (nI 0))]) (st' := []) (sg := [(.iconst 0, nI 0), (.istore 4, 0), (.iconst 0, nI 0), (.istore 5, 0)]) (by decide +kernel) rfl ?_
          refine k_X_removeIf_L51 hV _ ?_  zFu G4 a0 a1 a2 a3 (nI 0) (nI 0) h
          · intro G11 x8 x9 x10 h
            refine Y.blk (pc' := 89) (L' := [some (.ref x8), some (.int x9), none, none, some (.int x10), none]) (st' := [.int x10, .int x9, .ref x8]) (sg := [(.aload_n 0, 0), (.iload_n 1, 0), (.iload 4, 0)]) (by decide +kernel) rfl ?_
            obtain ⟨_, o13, e12, m14, h⟩ := gOb_inv h
            refine Y.callI (yC.Vi (b := x8) (As := [.int x9, .int x10]) (st := []) (r := ("Partlister", T_X, 5)) hV.1 cb_X_takeOutAll lk_X_78 in_X_takeOutAll rfl se_X_takeOutAll (by decide +kernel) rfl rfl (Nat.le_of_ble_eq_true rfl) (by decide) e12 m14) (k_X_takeOutAll hV G11 x8 x9 x10) h (fun v16 G15 _ h => ?_)
            exact Y.iret rfl (by decide +kernel) h
        · exact Y.throwS (is := 88) (text := "rest is not 0 to by - 1") (names := zNm) hV.1 (hV.2 _ _ _ (by decide +kernel)) (by decide +kernel) (by decide +kernel) ck_X_81 ini_IAE tw_X_85 tg_X_85 (by decide) (by decide) rfl (Nat.le_of_ble_eq_true rfl) (by decide +kernel) (by decide +kernel) (by decide +kernel) (by decide +kernel) (by decide +kernel) h
    · exact Y.throwS (is := 83) (text := "by is not 1 to 9") (names := zNm) hV.1 (hV.2 _ _ _ (by decide +kernel)) (by decide +kernel) (by decide +kernel) ck_X_81 ini_IAE tw_X_85 tg_X_85 (by decide) (by decide) rfl (Nat.le_of_ble_eq_true rfl) (by decide +kernel) (by decide +kernel) (by decide +kernel) (by decide +kernel) (by decide +kernel) h

def f_X_replaceAll_L58 (K113 : gH → Nat → Int32 → Int32 → gR) : Nat → gH → Nat → Int32 → Int32 → Int32 → Int32 → Int32 → gR
  | 0, _, _, _, _, _, _, _ => none
  | n + 1, G, x0, x1, x2, x3, x4, x5 =>
    if x4 ≤ x5 then K113 G x0 x1 x4
    else gFA G x0 3 0 fun v11 => gOb G v11 1 fun o13 => bI (f_I_thingAt G v11 x1 x5) fun v16 G15 => gFA G15 x0 3 0 fun v17 => bI (f_X_tagOf G15 v16) fun v20 G19 => bI (f_X_keyOf G19 v16) fun v23 G22 => gRem ((v23 * x2) + x3) (nI 31) fun v24 => bI (f_X_thingOf G22 v20 v24) fun v27 G26 => gOb G26 v17 1 fun o29 => bV (f_I_write G26 v17 x1 x5 v27) fun G31 => f_X_replaceAll_L58 K113 n G31 x0 x1 x2 x3 x4 (x5 + (nI 1))
def f_X_replaceAll (G : gH) (a0 : Nat) (a1 : Int32) (a2 : Int32) (a3 : Int32) : gR :=
  gOb G a0 3 fun o2 => bV (f_X_needList G a0 a1) fun G4 => if a2 < 0 then gThrow "java/lang/IllegalArgumentException" G4
  else if a2 < (nI 31) then (if a3 < 0 then gThrow "java/lang/IllegalArgumentException" G4
      else if a3 < (nI 31) then gFA G4 a0 3 0 fun v5 => gOb G4 v5 1 fun o7 => bI (f_I_lengthOf G4 v5 a1) fun v10 G9 => f_X_replaceAll_L58 (fun G36 x33 x34 x35 => gOb G36 x33 3 fun o38 => bI (f_X_endAround G36 x33 x34) fun v41 G40 => rI x35 G40) zFu G9 a0 a1 a2 a3 v10 (nI 0)
        else gThrow "java/lang/IllegalArgumentException" G4)
    else gThrow "java/lang/IllegalArgumentException" G4
theorem k_X_replaceAll_L58 {l : Launch} {D : va_G} {B : Nat} {O : State → Heap → Prop} (hV : zG l D B O) {o : gO} {Gf : gH} (K113 : gH → Nat → Int32 → Int32 → gR) (hK113 : ∀ (G : gH) (x0 : Nat) (x1 : Int32) (x4 : Int32), K113 G x0 x1 x4 = some (o, Gf) → Y (zVm l D B O) m_X_replaceAll 7 o Gf 113 [some (.ref x0), some (.int x1), none, none, some (.int x4), none, none] [] G) : ∀ (n : Nat) (G : gH) (x0 : Nat) (x1 : Int32) (x2 : Int32) (x3 : Int32) (x4 : Int32) (x5 : Int32), f_X_replaceAll_L58 K113 n G x0 x1 x2 x3 x4 x5 = some (o, Gf) → Y (zVm l D B O) m_X_replaceAll 7 o Gf 58 [some (.ref x0), some (.int x1), some (.int x2), some (.int x3), some (.int x4), some (.int x5), none] [] G := by
  intro n
  induction n with
  | zero => intro G x0 x1 x2 x3 x4 x5 h; cases h
  | succ n ih =>
    intro G x0 x1 x2 x3 x4 x5 h
    unfold f_X_replaceAll_L58 at h
    refine Y.blk (pc' := 62) (L' := [some (.ref x0), some (.int x1), some (.int x2), some (.int x3), some (.int x4), some (.int x5), none]) (st' := [.int x4, .int x5]) (sg := [(.iload 5, 0), (.iload 4, 0)]) (by decide +kernel) rfl ?_
    refine Y.ic_ge (off := 51) (tgt := 113) (by decide +kernel) (by decide) h (fun c32 h => ?_) (fun c32 h => ?_)
    · refine Y.less (L' := [some (.ref x0), some (.int x1), none, none, some (.int x4), none, none]) (zLe_some (zLe_some (zLe_none (zLe_none (zLe_some (zLe_none (zLe_some (zLe_nil)))))))) ?_
      exact hK113 G x0 x1 x4 h
    · refine Y.blk (pc' := 66) (L' := [some (.ref x0), some (.int x1), some (.int x2), some (.int x3), some (.int x4), some (.int x5), none]) (st' := [.ref x0]) (sg := [(.aload_n 0, 0)]) (by decide +kernel) rfl ?_
      refine Y.getA fl_X_10 (by decide +kernel) h (fun v11 h => ?_)
      refine Y.blk (pc' := 72) (L' := [some (.ref x0), some (.int x1), some (.int x2), some (.int x3), some (.int x4), some (.int x5), none]) (st' := [.int x5, .int x1, .ref v11]) (sg := [(.iload_n 1, 0), (.iload 5, 0)]) (by decide +kernel) rfl ?_
      obtain ⟨_, o13, e12, m14, h⟩ := gOb_inv h
      refine Y.callI (yC.Vi (b := v11) (As := [.int x1, .int x5]) (st := []) (r := ("Partlister$Lists", T_I, 7)) hV.1 cb_I_thingAt lk_X_94 in_I_thingAt rfl se_I_thingAt (by decide +kernel) rfl rfl (Nat.le_of_ble_eq_true rfl) (by decide) e12 m14) (k_I_thingAt hV G v11 x1 x5) h (fun v16 G15 _ h => ?_)
      refine Y.blk (pc' := 78) (L' := [some (.ref x0), some (.int x1), some (.int x2), some (.int x3), some (.int x4), some (.int x5), some (.int v16)]) (st' := [.ref x0]) (sg := [(.istore 6, 0), (.aload_n 0, 0)]) (by decide +kernel) rfl ?_
      refine Y.getA fl_X_10 (by decide +kernel) h (fun v17 h => ?_)
      refine Y.blk (pc' := 86) (L' := [some (.ref x0), some (.int x1), some (.int x2), some (.int x3), some (.int x4), some (.int x5), some (.int v16)]) (st' := [.int v16, .int x5, .int x1, .ref v17]) (sg := [(.iload_n 1, 0), (.iload 5, 0), (.iload 6, 0)]) (by decide +kernel) rfl ?_
      refine Y.callI (yC.S (As := [.int v16]) (st := [.int x5, .int x1, .ref v17]) hV.1 cb_X_tagOf lk_X_48 st_X_tagOf (by decide +kernel) rfl rfl (Nat.le_of_ble_eq_true rfl) (by decide)) (k_X_tagOf hV G15 v16) h (fun v20 G19 _ h => ?_)
      refine Y.blk (pc' := 91) (L' := [some (.ref x0), some (.int x1), some (.int x2), some (.int x3), some (.int x4), some (.int x5), some (.int v16)]) (st' := [.int v16, .int v20, .int x5, .int x1, .ref v17]) (sg := [(.iload 6, 0)]) (by decide +kernel) rfl ?_
      refine Y.callI (yC.S (As := [.int v16]) (st := [.int v20, .int x5, .int x1, .ref v17]) hV.1 cb_X_keyOf lk_X_97 st_X_keyOf (by decide +kernel) rfl rfl (Nat.le_of_ble_eq_true rfl) (by decide)) (k_X_keyOf hV G19 v16) h (fun v23 G22 _ h => ?_)
      refine Y.blk (pc' := 100) (L' := [some (.ref x0), some (.int x1), some (.int x2), some (.int x3), some (.int x4), some (.int x5), some (.int v16)]) (st' := [.int (nI 31), .int ((v23 * x2) + x3), .int v20, .int x5, .int x1, .ref v17]) (sg := [(.iload_n 2, 0), (.imul, 0), (.iload_n 3, 0), (.iadd, 0), (.bipush 31, nI 31)]) (by decide +kernel) rfl ?_
      refine Y.irem (by decide +kernel) h (fun v24 h => ?_)
      refine Y.callI (yC.S (As := [.int v20, .int v24]) (st := [.int x5, .int x1, .ref v17]) hV.1 cb_X_thingOf lk_X_100 st_X_thingOf (by decide +kernel) rfl rfl (Nat.le_of_ble_eq_true rfl) (by decide)) (k_X_thingOf hV G22 v20 v24) h (fun v27 G26 _ h => ?_)
      obtain ⟨_, o29, e28, m30, h⟩ := gOb_inv h
      refine Y.callN (yC.Vi (b := v17) (As := [.int x1, .int x5, .int v27]) (st := []) (r := ("Partlister$Lists", T_I, 7)) hV.1 cb_I_write lk_X_65 in_I_write rfl se_I_write (by decide +kernel) rfl rfl (Nat.le_of_ble_eq_true rfl) (by decide) e28 m30) (k_I_write hV G26 v17 x1 x5 v27) h (fun G31 _ h => ?_)
      refine Y.blk (pc' := 110) (L' := [some (.ref x0), some (.int x1), some (.int x2), some (.int x3), some (.int x4), some (.int (x5 + (nI 1))), some (.int v16)]) (st' := []) (sg := [(.iinc 5 1, nI 1)]) (by decide +kernel) rfl ?_
      refine Y.goto (off := -52) (tgt := 58) (by decide +kernel) (by decide) ?_
      refine Y.less (L' := [some (.ref x0), some (.int x1), some (.int x2), some (.int x3), some (.int x4), some (.int (x5 + (nI 1))), none]) (zLe_some (zLe_some (zLe_some (zLe_some (zLe_some (zLe_some (zLe_none (zLe_nil)))))))) ?_
      exact ih G31 x0 x1 x2 x3 x4 (x5 + (nI 1)) h
theorem k_X_replaceAll {l : Launch} {D : va_G} {B : Nat} {O : State → Heap → Prop} (hV : zG l D B O) (G : gH) (a0 : Nat) (a1 : Int32) (a2 : Int32) (a3 : Int32) : gMet (zVm l D B O) m_X_replaceAll 7 [.ref a0, .int a1, .int a2, .int a3] G (f_X_replaceAll G a0 a1 a2 a3) := by
  refine gMet.of (by decide +kernel) (Nat.le_of_ble_eq_true rfl) [some (.ref a0), some (.int a1), some (.int a2), some (.int a3), none, none, none] (fun ls h => zEn_ok (n := 7) h) ?_
  intro o Gf h
  unfold f_X_replaceAll at h
  refine Y.blk (pc' := 2) (L' := [some (.ref a0), some (.int a1), some (.int a2), some (.int a3), none, none, none]) (st' := [.int a1, .ref a0]) (sg := [(.aload_n 0, 0), (.iload_n 1, 0)]) (by decide +kernel) rfl ?_
  obtain ⟨_, o2, e1, m3, h⟩ := gOb_inv h
  refine Y.callN (yC.Vi (b := a0) (As := [.int a1]) (st := []) (r := ("Partlister", T_X, 5)) hV.1 cb_X_needList lk_X_23 in_X_needList rfl se_X_needList (by decide +kernel) rfl rfl (Nat.le_of_ble_eq_true rfl) (by decide) e1 m3) (k_X_needList hV G a0 a1) h (fun G4 _ h => ?_)
  refine Y.blk (pc' := 6) (L' := [some (.ref a0), some (.int a1), some (.int a2), some (.int a3), none, none, none]) (st' := [.int a2]) (sg := [(.iload_n 2, 0)]) (by decide +kernel) rfl ?_
  refine Y.if_lt (off := 9) (tgt := 15) (by decide +kernel) (by decide) h (fun c45 h => ?_) (fun c45 h => ?_)
  · exact Y.throwS (is := 90) (text := "times is not 0 to 30") (names := zNm) hV.1 (hV.2 _ _ _ (by decide +kernel)) (by decide +kernel) (by decide +kernel) ck_X_81 ini_IAE tw_X_85 tg_X_85 (by decide) (by decide) rfl (Nat.le_of_ble_eq_true rfl) (by decide +kernel) (by decide +kernel) (by decide +kernel) (by decide +kernel) (by decide +kernel) h
  · refine Y.blk (pc' := 12) (L' := [some (.ref a0), some (.int a1), some (.int a2), some (.int a3), none, none, none]) (st' := [.int (nI 31), .int a2]) (sg := [(.iload_n 2, 0), (.bipush 31, nI 31)]) (by decide +kernel) rfl ?_
    refine Y.ic_lt (off := 13) (tgt := 25) (by decide +kernel) (by decide) h (fun c44 h => ?_) (fun c44 h => ?_)
    · refine Y.blk (pc' := 26) (L' := [some (.ref a0), some (.int a1), some (.int a2), some (.int a3), none, none, none]) (st' := [.int a3]) (sg := [(.iload_n 3, 0)]) (by decide +kernel) rfl ?_
      refine Y.if_lt (off := 9) (tgt := 35) (by decide +kernel) (by decide) h (fun c43 h => ?_) (fun c43 h => ?_)
      · exact Y.throwS (is := 92) (text := "more is not 0 to 30") (names := zNm) hV.1 (hV.2 _ _ _ (by decide +kernel)) (by decide +kernel) (by decide +kernel) ck_X_81 ini_IAE tw_X_85 tg_X_85 (by decide) (by decide) rfl (Nat.le_of_ble_eq_true rfl) (by decide +kernel) (by decide +kernel) (by decide +kernel) (by decide +kernel) (by decide +kernel) h
      · refine Y.blk (pc' := 32) (L' := [some (.ref a0), some (.int a1), some (.int a2), some (.int a3), none, none, none]) (st' := [.int (nI 31), .int a3]) (sg := [(.iload_n 3, 0), (.bipush 31, nI 31)]) (by decide +kernel) rfl ?_
        refine Y.ic_lt (off := 13) (tgt := 45) (by decide +kernel) (by decide) h (fun c42 h => ?_) (fun c42 h => ?_)
        · refine Y.blk (pc' := 46) (L' := [some (.ref a0), some (.int a1), some (.int a2), some (.int a3), none, none, none]) (st' := [.ref a0]) (sg := [(.aload_n 0, 0)]) (by decide +kernel) rfl ?_
          refine Y.getA fl_X_10 (by decide +kernel) h (fun v5 h => ?_)
          refine Y.blk (pc' := 50) (L' := [some (.ref a0), some (.int a1), some (.int a2), some (.int a3), none, none, none]) (st' := [.int a1, .ref v5]) (sg := [(.iload_n 1, 0)]) (by decide +kernel) rfl ?_
          obtain ⟨_, o7, e6, m8, h⟩ := gOb_inv h
          refine Y.callI (yC.Vi (b := v5) (As := [.int a1]) (st := []) (r := ("Partlister$Lists", T_I, 7)) hV.1 cb_I_lengthOf lk_X_34 in_I_lengthOf rfl se_I_lengthOf (by decide +kernel) rfl rfl (Nat.le_of_ble_eq_true rfl) (by decide) e6 m8) (k_I_lengthOf hV G4 v5 a1) h (fun v10 G9 _ h => ?_)
          refine Y.blk (pc' := 58) (L' := [some (.ref a0), some (.int a1), some (.int a2), some (.int a3), some (.int v10), some (.int (nI 0)), none]) (st' := []) (sg := [(.istore 4, 0), (.iconst 0, nI 0), (.istore 5, 0)]) (by decide +kernel) rfl ?_
          refine k_X_replaceAll_L58 hV _ ?_  zFu G9 a0 a1 a2 a3 v10 (nI 0) h
          · intro G36 x33 x34 x35 h
            refine Y.blk (pc' := 115) (L' := [some (.ref x33), some (.int x34), none, none, some (.int x35), none, none]) (st' := [.int x34, .ref x33]) (sg := [(.aload_n 0, 0), (.iload_n 1, 0)]) (by decide +kernel) rfl ?_
            obtain ⟨_, o38, e37, m39, h⟩ := gOb_inv h
            refine Y.callI (yC.Vi (b := x33) (As := [.int x34]) (st := []) (r := ("Partlister", T_X, 5)) hV.1 cb_X_endAround lk_X_103 in_X_endAround rfl se_X_endAround (by decide +kernel) rfl rfl (Nat.le_of_ble_eq_true rfl) (by decide) e37 m39) (k_X_endAround hV G36 x33 x34) h (fun v41 G40 _ h => ?_)
            refine Y.blk (pc' := 121) (L' := [some (.ref x33), some (.int x34), none, none, some (.int x35), none, none]) (st' := [.int x35]) (sg := [(.pop, 0), (.iload 4, 0)]) (by decide +kernel) rfl ?_
            exact Y.iret rfl (by decide +kernel) h
        · exact Y.throwS (is := 92) (text := "more is not 0 to 30") (names := zNm) hV.1 (hV.2 _ _ _ (by decide +kernel)) (by decide +kernel) (by decide +kernel) ck_X_81 ini_IAE tw_X_85 tg_X_85 (by decide) (by decide) rfl (Nat.le_of_ble_eq_true rfl) (by decide +kernel) (by decide +kernel) (by decide +kernel) (by decide +kernel) (by decide +kernel) h
    · exact Y.throwS (is := 90) (text := "times is not 0 to 30") (names := zNm) hV.1 (hV.2 _ _ _ (by decide +kernel)) (by decide +kernel) (by decide +kernel) ck_X_81 ini_IAE tw_X_85 tg_X_85 (by decide) (by decide) rfl (Nat.le_of_ble_eq_true rfl) (by decide +kernel) (by decide +kernel) (by decide +kernel) (by decide +kernel) (by decide +kernel) h
end
section
def f_X_retainAll (G : gH) (a0 : Nat) (a1 : Int32) (a2 : Int32) : gR :=
  gOb G a0 3 fun o2 => bV (f_X_needList G a0 a1) fun G4 => gOb G4 a0 3 fun o6 => bV (f_X_needList G4 a0 a2) fun G8 => gOb G8 a0 3 fun o10 => bV (f_X_needOtherRow G8 a0 a1 a2) fun G12 => gFA G12 a0 3 0 fun v13 => gOb G12 v13 1 fun o15 => bI (f_I_keysOf G12 v13 a2) fun v18 G17 => gOb G17 a0 3 fun o20 => bI (f_X_takeOutAll G17 a0 a1 (v18 ^^^ (-1))) fun v23 G22 => rI v23 G22
theorem k_X_retainAll {l : Launch} {D : va_G} {B : Nat} {O : State → Heap → Prop} (hV : zG l D B O) (G : gH) (a0 : Nat) (a1 : Int32) (a2 : Int32) : gMet (zVm l D B O) m_X_retainAll 7 [.ref a0, .int a1, .int a2] G (f_X_retainAll G a0 a1 a2) := by
  refine gMet.of (by decide +kernel) (Nat.le_of_ble_eq_true rfl) [some (.ref a0), some (.int a1), some (.int a2)] (fun ls h => zEn_ok (n := 3) h) ?_
  intro o Gf h
  unfold f_X_retainAll at h
  refine Y.blk (pc' := 2) (L' := [some (.ref a0), some (.int a1), some (.int a2)]) (st' := [.int a1, .ref a0]) (sg := [(.aload_n 0, 0), (.iload_n 1, 0)]) (by decide +kernel) rfl ?_
  obtain ⟨_, o2, e1, m3, h⟩ := gOb_inv h
  refine Y.callN (yC.Vi (b := a0) (As := [.int a1]) (st := []) (r := ("Partlister", T_X, 5)) hV.1 cb_X_needList lk_X_23 in_X_needList rfl se_X_needList (by decide +kernel) rfl rfl (Nat.le_of_ble_eq_true rfl) (by decide) e1 m3) (k_X_needList hV G a0 a1) h (fun G4 _ h => ?_)
  refine Y.blk (pc' := 7) (L' := [some (.ref a0), some (.int a1), some (.int a2)]) (st' := [.int a2, .ref a0]) (sg := [(.aload_n 0, 0), (.iload_n 2, 0)]) (by decide +kernel) rfl ?_
  obtain ⟨_, o6, e5, m7, h⟩ := gOb_inv h
  refine Y.callN (yC.Vi (b := a0) (As := [.int a2]) (st := []) (r := ("Partlister", T_X, 5)) hV.1 cb_X_needList lk_X_23 in_X_needList rfl se_X_needList (by decide +kernel) rfl rfl (Nat.le_of_ble_eq_true rfl) (by decide) e5 m7) (k_X_needList hV G4 a0 a2) h (fun G8 _ h => ?_)
  refine Y.blk (pc' := 13) (L' := [some (.ref a0), some (.int a1), some (.int a2)]) (st' := [.int a2, .int a1, .ref a0]) (sg := [(.aload_n 0, 0), (.iload_n 1, 0), (.iload_n 2, 0)]) (by decide +kernel) rfl ?_
  obtain ⟨_, o10, e9, m11, h⟩ := gOb_inv h
  refine Y.callN (yC.Vi (b := a0) (As := [.int a1, .int a2]) (st := []) (r := ("Partlister", T_X, 5)) hV.1 cb_X_needOtherRow lk_X_51 in_X_needOtherRow rfl se_X_needOtherRow (by decide +kernel) rfl rfl (Nat.le_of_ble_eq_true rfl) (by decide) e9 m11) (k_X_needOtherRow hV G8 a0 a1 a2) h (fun G12 _ h => ?_)
  refine Y.blk (pc' := 19) (L' := [some (.ref a0), some (.int a1), some (.int a2)]) (st' := [.ref a0, .int a1, .ref a0]) (sg := [(.aload_n 0, 0), (.iload_n 1, 0), (.aload_n 0, 0)]) (by decide +kernel) rfl ?_
  refine Y.getA fl_X_10 (by decide +kernel) h (fun v13 h => ?_)
  refine Y.blk (pc' := 23) (L' := [some (.ref a0), some (.int a1), some (.int a2)]) (st' := [.int a2, .ref v13, .int a1, .ref a0]) (sg := [(.iload_n 2, 0)]) (by decide +kernel) rfl ?_
  obtain ⟨_, o15, e14, m16, h⟩ := gOb_inv h
  refine Y.callI (yC.Vi (b := v13) (As := [.int a2]) (st := [.int a1, .ref a0]) (r := ("Partlister$Lists", T_I, 7)) hV.1 cb_I_keysOf lk_X_75 in_I_keysOf rfl se_I_keysOf (by decide +kernel) rfl rfl (Nat.le_of_ble_eq_true rfl) (by decide) e14 m16) (k_I_keysOf hV G12 v13 a2) h (fun v18 G17 _ h => ?_)
  refine Y.blk (pc' := 28) (L' := [some (.ref a0), some (.int a1), some (.int a2)]) (st' := [.int (v18 ^^^ (-1)), .int a1, .ref a0]) (sg := [(.iconst (-1), -1), (.ixor, 0)]) (by decide +kernel) rfl ?_
  obtain ⟨_, o20, e19, m21, h⟩ := gOb_inv h
  refine Y.callI (yC.Vi (b := a0) (As := [.int a1, .int (v18 ^^^ (-1))]) (st := []) (r := ("Partlister", T_X, 5)) hV.1 cb_X_takeOutAll lk_X_78 in_X_takeOutAll rfl se_X_takeOutAll (by decide +kernel) rfl rfl (Nat.le_of_ble_eq_true rfl) (by decide) e19 m21) (k_X_takeOutAll hV G17 a0 a1 (v18 ^^^ (-1))) h (fun v23 G22 _ h => ?_)
  exact Y.iret rfl (by decide +kernel) h

def f_X_run (G : gH) (a0 : Nat) (a1 : Int32) (a2 : Int32) : gR :=
  gOb G a0 3 fun o2 => bV (f_X_needCursor G a0 a1) fun G4 => gFA G4 a0 3 1 fun v5 => gOb G4 v5 0 fun o7 => bI (f_U_isStale G4 v5 a1) fun v10 G9 => if v10 = 0 then (gFA G9 a0 3 1 fun v11 => gOb G9 v11 0 fun o13 => bI (f_U_nextOf G9 v11 a1) fun v16 G15 => gFA G15 a0 3 0 fun v17 => gFA G15 a0 3 1 fun v18 => gOb G15 v18 0 fun o20 => bI (f_U_listOf G15 v18 a1) fun v23 G22 => gOb G22 v17 1 fun o25 => bI (f_I_lengthOf G22 v17 v23) fun v28 G27 => if a2 = 0 then (if (v28 - v16) ≤ 0 then (if (v28 - v16) ≤ 0 then rI (v28 - v16) G27
        else gFA G27 a0 3 1 fun v29 => gOb G27 v29 0 fun o31 => bV (f_U_stand G27 v29 a1 v28 (v28 - (nI 1))) fun G33 => rI (v28 - v16) G33)
      else if a2 = 0 then (if (v28 - v16) ≤ 0 then rI (v28 - v16) G27
          else gFA G27 a0 3 1 fun v35 => gOb G27 v35 0 fun o37 => bV (f_U_stand G27 v35 a1 v28 (v28 - (nI 1))) fun G39 => rI (v28 - v16) G39)
        else gFA G27 a0 3 1 fun v41 => gOb G27 v41 0 fun o43 => bV (f_U_stand G27 v41 a1 (nI 0) (nI 0)) fun G45 => rI (v28 - v16) G45)
    else if v16 ≤ 0 then (if v16 ≤ 0 then rI v16 G27
        else gFA G27 a0 3 1 fun v48 => gOb G27 v48 0 fun o50 => bV (f_U_stand G27 v48 a1 v28 (v28 - (nI 1))) fun G52 => rI v16 G52)
      else if a2 = 0 then (if v16 ≤ 0 then rI v16 G27
          else gFA G27 a0 3 1 fun v54 => gOb G27 v54 0 fun o56 => bV (f_U_stand G27 v54 a1 v28 (v28 - (nI 1))) fun G58 => rI v16 G58)
        else gFA G27 a0 3 1 fun v60 => gOb G27 v60 0 fun o62 => bV (f_U_stand G27 v60 a1 (nI 0) (nI 0)) fun G64 => rI v16 G64)
  else gOb G9 a0 3 fun o69 => bI (f_X_failWith G9 a0 (-9)) fun v72 G71 => rI v72 G71
theorem k_X_run {l : Launch} {D : va_G} {B : Nat} {O : State → Heap → Prop} (hV : zG l D B O) (G : gH) (a0 : Nat) (a1 : Int32) (a2 : Int32) : gMet (zVm l D B O) m_X_run 7 [.ref a0, .int a1, .int a2] G (f_X_run G a0 a1 a2) := by
  refine gMet.of (by decide +kernel) (Nat.le_of_ble_eq_true rfl) [some (.ref a0), some (.int a1), some (.int a2), none, none, none] (fun ls h => zEn_ok (n := 6) h) ?_
  intro o Gf h
  unfold f_X_run at h
  refine Y.blk (pc' := 2) (L' := [some (.ref a0), some (.int a1), some (.int a2), none, none, none]) (st' := [.int a1, .ref a0]) (sg := [(.aload_n 0, 0), (.iload_n 1, 0)]) (by decide +kernel) rfl ?_
  obtain ⟨_, o2, e1, m3, h⟩ := gOb_inv h
  refine Y.callN (yC.Vi (b := a0) (As := [.int a1]) (st := []) (r := ("Partlister", T_X, 5)) hV.1 cb_X_needCursor lk_X_167 in_X_needCursor rfl se_X_needCursor (by decide +kernel) rfl rfl (Nat.le_of_ble_eq_true rfl) (by decide) e1 m3) (k_X_needCursor hV G a0 a1) h (fun G4 _ h => ?_)
  refine Y.blk (pc' := 6) (L' := [some (.ref a0), some (.int a1), some (.int a2), none, none, none]) (st' := [.ref a0]) (sg := [(.aload_n 0, 0)]) (by decide +kernel) rfl ?_
  refine Y.getA fl_X_19 (by decide +kernel) h (fun v5 h => ?_)
  refine Y.blk (pc' := 10) (L' := [some (.ref a0), some (.int a1), some (.int a2), none, none, none]) (st' := [.int a1, .ref v5]) (sg := [(.iload_n 1, 0)]) (by decide +kernel) rfl ?_
  obtain ⟨_, o7, e6, m8, h⟩ := gOb_inv h
  refine Y.callI (yC.Vi (b := v5) (As := [.int a1]) (st := []) (r := ("Partlister$Cursors", T_U, 5)) hV.1 cb_U_isStale lk_X_170 in_U_isStale rfl se_U_isStale (by decide +kernel) rfl rfl (Nat.le_of_ble_eq_true rfl) (by decide) e6 m8) (k_U_isStale hV G4 v5 a1) h (fun v10 G9 _ h => ?_)
  refine Y.if_eq (off := 10) (tgt := 23) (by decide +kernel) (by decide) h (fun c73 h => ?_) (fun c73 h => ?_)
  · refine Y.blk (pc' := 24) (L' := [some (.ref a0), some (.int a1), some (.int a2), none, none, none]) (st' := [.ref a0]) (sg := [(.aload_n 0, 0)]) (by decide +kernel) rfl ?_
    refine Y.getA fl_X_19 (by decide +kernel) h (fun v11 h => ?_)
    refine Y.blk (pc' := 28) (L' := [some (.ref a0), some (.int a1), some (.int a2), none, none, none]) (st' := [.int a1, .ref v11]) (sg := [(.iload_n 1, 0)]) (by decide +kernel) rfl ?_
    obtain ⟨_, o13, e12, m14, h⟩ := gOb_inv h
    refine Y.callI (yC.Vi (b := v11) (As := [.int a1]) (st := []) (r := ("Partlister$Cursors", T_U, 5)) hV.1 cb_U_nextOf lk_X_176 in_U_nextOf rfl se_U_nextOf (by decide +kernel) rfl rfl (Nat.le_of_ble_eq_true rfl) (by decide) e12 m14) (k_U_nextOf hV G9 v11 a1) h (fun v16 G15 _ h => ?_)
    refine Y.blk (pc' := 33) (L' := [some (.ref a0), some (.int a1), some (.int a2), some (.int v16), none, none]) (st' := [.ref a0]) (sg := [(.istore_n 3, 0), (.aload_n 0, 0)]) (by decide +kernel) rfl ?_
    refine Y.getA fl_X_10 (by decide +kernel) h (fun v17 h => ?_)
    refine Y.blk (pc' := 37) (L' := [some (.ref a0), some (.int a1), some (.int a2), some (.int v16), none, none]) (st' := [.ref a0, .ref v17]) (sg := [(.aload_n 0, 0)]) (by decide +kernel) rfl ?_
    refine Y.getA fl_X_19 (by decide +kernel) h (fun v18 h => ?_)
    refine Y.blk (pc' := 41) (L' := [some (.ref a0), some (.int a1), some (.int a2), some (.int v16), none, none]) (st' := [.int a1, .ref v18, .ref v17]) (sg := [(.iload_n 1, 0)]) (by decide +kernel) rfl ?_
    obtain ⟨_, o20, e19, m21, h⟩ := gOb_inv h
    refine Y.callI (yC.Vi (b := v18) (As := [.int a1]) (st := [.ref v17]) (r := ("Partlister$Cursors", T_U, 5)) hV.1 cb_U_listOf lk_X_152 in_U_listOf rfl se_U_listOf (by decide +kernel) rfl rfl (Nat.le_of_ble_eq_true rfl) (by decide) e19 m21) (k_U_listOf hV G15 v18 a1) h (fun v23 G22 _ h => ?_)
    obtain ⟨_, o25, e24, m26, h⟩ := gOb_inv h
    refine Y.callI (yC.Vi (b := v17) (As := [.int v23]) (st := []) (r := ("Partlister$Lists", T_I, 7)) hV.1 cb_I_lengthOf lk_X_34 in_I_lengthOf rfl se_I_lengthOf (by decide +kernel) rfl rfl (Nat.le_of_ble_eq_true rfl) (by decide) e24 m26) (k_I_lengthOf hV G22 v17 v23) h (fun v28 G27 _ h => ?_)
    refine Y.blk (pc' := 50) (L' := [some (.ref a0), some (.int a1), some (.int a2), some (.int v16), some (.int v28), none]) (st' := [.int a2]) (sg := [(.istore 4, 0), (.iload_n 2, 0)]) (by decide +kernel) rfl ?_
    refine Y.if_eq (off := 7) (tgt := 57) (by decide +kernel) (by decide) h (fun c67 h => ?_) (fun c67 h => ?_)
    · refine Y.blk (pc' := 65) (L' := [some (.ref a0), some (.int a1), some (.int a2), some (.int v16), some (.int v28), some (.int (v28 - v16))]) (st' := [.int (v28 - v16)]) (sg := [(.iload 4, 0), (.iload_n 3, 0), (.isub, 0), (.istore 5, 0), (.iload 5, 0)]) (by decide +kernel) rfl ?_
      refine Y.if_le (off := 20) (tgt := 85) (by decide +kernel) (by decide) h (fun c47 h => ?_) (fun c47 h => ?_)
      · refine Y.blk (pc' := 87) (L' := [some (.ref a0), some (.int a1), some (.int a2), some (.int v16), some (.int v28), some (.int (v28 - v16))]) (st' := [.int (v28 - v16)]) (sg := [(.iload 5, 0)]) (by decide +kernel) rfl ?_
        refine Y.if_le (off := 17) (tgt := 104) (by decide +kernel) (by decide) h (fun c34 h => ?_) (fun c34 h => ?_)
        · refine Y.blk (pc' := 106) (L' := [some (.ref a0), some (.int a1), some (.int a2), some (.int v16), some (.int v28), some (.int (v28 - v16))]) (st' := [.int (v28 - v16)]) (sg := [(.iload 5, 0)]) (by decide +kernel) rfl ?_
          exact Y.iret rfl (by decide +kernel) h
        · refine Y.blk (pc' := 91) (L' := [some (.ref a0), some (.int a1), some (.int a2), some (.int v16), some (.int v28), some (.int (v28 - v16))]) (st' := [.ref a0]) (sg := [(.aload_n 0, 0)]) (by decide +kernel) rfl ?_
          refine Y.getA fl_X_19 (by decide +kernel) h (fun v29 h => ?_)
          refine Y.blk (pc' := 101) (L' := [some (.ref a0), some (.int a1), some (.int a2), some (.int v16), some (.int v28), some (.int (v28 - v16))]) (st' := [.int (v28 - (nI 1)), .int v28, .int a1, .ref v29]) (sg := [(.iload_n 1, 0), (.iload 4, 0), (.iload 4, 0), (.iconst 1, nI 1), (.isub, 0)]) (by decide +kernel) rfl ?_
          obtain ⟨_, o31, e30, m32, h⟩ := gOb_inv h
          refine Y.callN (yC.Vi (b := v29) (As := [.int a1, .int v28, .int (v28 - (nI 1))]) (st := []) (r := ("Partlister$Cursors", T_U, 5)) hV.1 cb_U_stand lk_X_179 in_U_stand rfl se_U_stand (by decide +kernel) rfl rfl (Nat.le_of_ble_eq_true rfl) (by decide) e30 m32) (k_U_stand hV G27 v29 a1 v28 (v28 - (nI 1))) h (fun G33 _ h => ?_)
          refine Y.blk (pc' := 106) (L' := [some (.ref a0), some (.int a1), some (.int a2), some (.int v16), some (.int v28), some (.int (v28 - v16))]) (st' := [.int (v28 - v16)]) (sg := [(.iload 5, 0)]) (by decide +kernel) rfl ?_
          exact Y.iret rfl (by decide +kernel) h
      · refine Y.blk (pc' := 69) (L' := [some (.ref a0), some (.int a1), some (.int a2), some (.int v16), some (.int v28), some (.int (v28 - v16))]) (st' := [.int a2]) (sg := [(.iload_n 2, 0)]) (by decide +kernel) rfl ?_
        refine Y.if_eq (off := 16) (tgt := 85) (by decide +kernel) (by decide) h (fun c46 h => ?_) (fun c46 h => ?_)
        · refine Y.blk (pc' := 87) (L' := [some (.ref a0), some (.int a1), some (.int a2), some (.int v16), some (.int v28), some (.int (v28 - v16))]) (st' := [.int (v28 - v16)]) (sg := [(.iload 5, 0)]) (by decide +kernel) rfl ?_
          refine Y.if_le (off := 17) (tgt := 104) (by decide +kernel) (by decide) h (fun c40 h => ?_) (fun c40 h => ?_)
          · refine Y.blk (pc' := 106) (L' := [some (.ref a0), some (.int a1), some (.int a2), some (.int v16), some (.int v28), some (.int (v28 - v16))]) (st' := [.int (v28 - v16)]) (sg := [(.iload 5, 0)]) (by decide +kernel) rfl ?_
            exact Y.iret rfl (by decide +kernel) h
          · refine Y.blk (pc' := 91) (L' := [some (.ref a0), some (.int a1), some (.int a2), some (.int v16), some (.int v28), some (.int (v28 - v16))]) (st' := [.ref a0]) (sg := [(.aload_n 0, 0)]) (by decide +kernel) rfl ?_
            refine Y.getA fl_X_19 (by decide +kernel) h (fun v35 h => ?_)
            refine Y.blk (pc' := 101) (L' := [some (.ref a0), some (.int a1), some (.int a2), some (.int v16), some (.int v28), some (.int (v28 - v16))]) (st' := [.int (v28 - (nI 1)), .int v28, .int a1, .ref v35]) (sg := [(.iload_n 1, 0), (.iload 4, 0), (.iload 4, 0), (.iconst 1, nI 1), (.isub, 0)]) (by decide +kernel) rfl ?_
            obtain ⟨_, o37, e36, m38, h⟩ := gOb_inv h
            refine Y.callN (yC.Vi (b := v35) (As := [.int a1, .int v28, .int (v28 - (nI 1))]) (st := []) (r := ("Partlister$Cursors", T_U, 5)) hV.1 cb_U_stand lk_X_179 in_U_stand rfl se_U_stand (by decide +kernel) rfl rfl (Nat.le_of_ble_eq_true rfl) (by decide) e36 m38) (k_U_stand hV G27 v35 a1 v28 (v28 - (nI 1))) h (fun G39 _ h => ?_)
            refine Y.blk (pc' := 106) (L' := [some (.ref a0), some (.int a1), some (.int a2), some (.int v16), some (.int v28), some (.int (v28 - v16))]) (st' := [.int (v28 - v16)]) (sg := [(.iload 5, 0)]) (by decide +kernel) rfl ?_
            exact Y.iret rfl (by decide +kernel) h
        · refine Y.blk (pc' := 73) (L' := [some (.ref a0), some (.int a1), some (.int a2), some (.int v16), some (.int v28), some (.int (v28 - v16))]) (st' := [.ref a0]) (sg := [(.aload_n 0, 0)]) (by decide +kernel) rfl ?_
          refine Y.getA fl_X_19 (by decide +kernel) h (fun v41 h => ?_)
          refine Y.blk (pc' := 79) (L' := [some (.ref a0), some (.int a1), some (.int a2), some (.int v16), some (.int v28), some (.int (v28 - v16))]) (st' := [.int (nI 0), .int (nI 0), .int a1, .ref v41]) (sg := [(.iload_n 1, 0), (.iconst 0, nI 0), (.iconst 0, nI 0)]) (by decide +kernel) rfl ?_
          obtain ⟨_, o43, e42, m44, h⟩ := gOb_inv h
          refine Y.callN (yC.Vi (b := v41) (As := [.int a1, .int (nI 0), .int (nI 0)]) (st := []) (r := ("Partlister$Cursors", T_U, 5)) hV.1 cb_U_stand lk_X_179 in_U_stand rfl se_U_stand (by decide +kernel) rfl rfl (Nat.le_of_ble_eq_true rfl) (by decide) e42 m44) (k_U_stand hV G27 v41 a1 (nI 0) (nI 0)) h (fun G45 _ h => ?_)
          refine Y.goto (off := 22) (tgt := 104) (by decide +kernel) (by decide) ?_
          refine Y.blk (pc' := 106) (L' := [some (.ref a0), some (.int a1), some (.int a2), some (.int v16), some (.int v28), some (.int (v28 - v16))]) (st' := [.int (v28 - v16)]) (sg := [(.iload 5, 0)]) (by decide +kernel) rfl ?_
          exact Y.iret rfl (by decide +kernel) h
    · refine Y.blk (pc' := 54) (L' := [some (.ref a0), some (.int a1), some (.int a2), some (.int v16), some (.int v28), none]) (st' := [.int v16]) (sg := [(.iload_n 3, 0)]) (by decide +kernel) rfl ?_
      refine Y.goto (off := 7) (tgt := 61) (by decide +kernel) (by decide) ?_
      refine Y.blk (pc' := 65) (L' := [some (.ref a0), some (.int a1), some (.int a2), some (.int v16), some (.int v28), some (.int v16)]) (st' := [.int v16]) (sg := [(.istore 5, 0), (.iload 5, 0)]) (by decide +kernel) rfl ?_
      refine Y.if_le (off := 20) (tgt := 85) (by decide +kernel) (by decide) h (fun c66 h => ?_) (fun c66 h => ?_)
      · refine Y.blk (pc' := 87) (L' := [some (.ref a0), some (.int a1), some (.int a2), some (.int v16), some (.int v28), some (.int v16)]) (st' := [.int v16]) (sg := [(.iload 5, 0)]) (by decide +kernel) rfl ?_
        refine Y.if_le (off := 17) (tgt := 104) (by decide +kernel) (by decide) h (fun c53 h => ?_) (fun c53 h => ?_)
        · refine Y.blk (pc' := 106) (L' := [some (.ref a0), some (.int a1), some (.int a2), some (.int v16), some (.int v28), some (.int v16)]) (st' := [.int v16]) (sg := [(.iload 5, 0)]) (by decide +kernel) rfl ?_
          exact Y.iret rfl (by decide +kernel) h
        · refine Y.blk (pc' := 91) (L' := [some (.ref a0), some (.int a1), some (.int a2), some (.int v16), some (.int v28), some (.int v16)]) (st' := [.ref a0]) (sg := [(.aload_n 0, 0)]) (by decide +kernel) rfl ?_
          refine Y.getA fl_X_19 (by decide +kernel) h (fun v48 h => ?_)
          refine Y.blk (pc' := 101) (L' := [some (.ref a0), some (.int a1), some (.int a2), some (.int v16), some (.int v28), some (.int v16)]) (st' := [.int (v28 - (nI 1)), .int v28, .int a1, .ref v48]) (sg := [(.iload_n 1, 0), (.iload 4, 0), (.iload 4, 0), (.iconst 1, nI 1), (.isub, 0)]) (by decide +kernel) rfl ?_
          obtain ⟨_, o50, e49, m51, h⟩ := gOb_inv h
          refine Y.callN (yC.Vi (b := v48) (As := [.int a1, .int v28, .int (v28 - (nI 1))]) (st := []) (r := ("Partlister$Cursors", T_U, 5)) hV.1 cb_U_stand lk_X_179 in_U_stand rfl se_U_stand (by decide +kernel) rfl rfl (Nat.le_of_ble_eq_true rfl) (by decide) e49 m51) (k_U_stand hV G27 v48 a1 v28 (v28 - (nI 1))) h (fun G52 _ h => ?_)
          refine Y.blk (pc' := 106) (L' := [some (.ref a0), some (.int a1), some (.int a2), some (.int v16), some (.int v28), some (.int v16)]) (st' := [.int v16]) (sg := [(.iload 5, 0)]) (by decide +kernel) rfl ?_
          exact Y.iret rfl (by decide +kernel) h
      · refine Y.blk (pc' := 69) (L' := [some (.ref a0), some (.int a1), some (.int a2), some (.int v16), some (.int v28), some (.int v16)]) (st' := [.int a2]) (sg := [(.iload_n 2, 0)]) (by decide +kernel) rfl ?_
        refine Y.if_eq (off := 16) (tgt := 85) (by decide +kernel) (by decide) h (fun c65 h => ?_) (fun c65 h => ?_)
        · refine Y.blk (pc' := 87) (L' := [some (.ref a0), some (.int a1), some (.int a2), some (.int v16), some (.int v28), some (.int v16)]) (st' := [.int v16]) (sg := [(.iload 5, 0)]) (by decide +kernel) rfl ?_
          refine Y.if_le (off := 17) (tgt := 104) (by decide +kernel) (by decide) h (fun c59 h => ?_) (fun c59 h => ?_)
          · refine Y.blk (pc' := 106) (L' := [some (.ref a0), some (.int a1), some (.int a2), some (.int v16), some (.int v28), some (.int v16)]) (st' := [.int v16]) (sg := [(.iload 5, 0)]) (by decide +kernel) rfl ?_
            exact Y.iret rfl (by decide +kernel) h
          · refine Y.blk (pc' := 91) (L' := [some (.ref a0), some (.int a1), some (.int a2), some (.int v16), some (.int v28), some (.int v16)]) (st' := [.ref a0]) (sg := [(.aload_n 0, 0)]) (by decide +kernel) rfl ?_
            refine Y.getA fl_X_19 (by decide +kernel) h (fun v54 h => ?_)
            refine Y.blk (pc' := 101) (L' := [some (.ref a0), some (.int a1), some (.int a2), some (.int v16), some (.int v28), some (.int v16)]) (st' := [.int (v28 - (nI 1)), .int v28, .int a1, .ref v54]) (sg := [(.iload_n 1, 0), (.iload 4, 0), (.iload 4, 0), (.iconst 1, nI 1), (.isub, 0)]) (by decide +kernel) rfl ?_
            obtain ⟨_, o56, e55, m57, h⟩ := gOb_inv h
            refine Y.callN (yC.Vi (b := v54) (As := [.int a1, .int v28, .int (v28 - (nI 1))]) (st := []) (r := ("Partlister$Cursors", T_U, 5)) hV.1 cb_U_stand lk_X_179 in_U_stand rfl se_U_stand (by decide +kernel) rfl rfl (Nat.le_of_ble_eq_true rfl) (by decide) e55 m57) (k_U_stand hV G27 v54 a1 v28 (v28 - (nI 1))) h (fun G58 _ h => ?_)
            refine Y.blk (pc' := 106) (L' := [some (.ref a0), some (.int a1), some (.int a2), some (.int v16), some (.int v28), some (.int v16)]) (st' := [.int v16]) (sg := [(.iload 5, 0)]) (by decide +kernel) rfl ?_
            exact Y.iret rfl (by decide +kernel) h
        · refine Y.blk (pc' := 73) (L' := [some (.ref a0), some (.int a1), some (.int a2), some (.int v16), some (.int v28), some (.int v16)]) (st' := [.ref a0]) (sg := [(.aload_n 0, 0)]) (by decide +kernel) rfl ?_
          refine Y.getA fl_X_19 (by decide +kernel) h (fun v60 h => ?_)
          refine Y.blk (pc' := 79) (L' := [some (.ref a0), some (.int a1), some (.int a2), some (.int v16), some (.int v28), some (.int v16)]) (st' := [.int (nI 0), .int (nI 0), .int a1, .ref v60]) (sg := [(.iload_n 1, 0), (.iconst 0, nI 0), (.iconst 0, nI 0)]) (by decide +kernel) rfl ?_
          obtain ⟨_, o62, e61, m63, h⟩ := gOb_inv h
          refine Y.callN (yC.Vi (b := v60) (As := [.int a1, .int (nI 0), .int (nI 0)]) (st := []) (r := ("Partlister$Cursors", T_U, 5)) hV.1 cb_U_stand lk_X_179 in_U_stand rfl se_U_stand (by decide +kernel) rfl rfl (Nat.le_of_ble_eq_true rfl) (by decide) e61 m63) (k_U_stand hV G27 v60 a1 (nI 0) (nI 0)) h (fun G64 _ h => ?_)
          refine Y.goto (off := 22) (tgt := 104) (by decide +kernel) (by decide) ?_
          refine Y.blk (pc' := 106) (L' := [some (.ref a0), some (.int a1), some (.int a2), some (.int v16), some (.int v28), some (.int v16)]) (st' := [.int v16]) (sg := [(.iload 5, 0)]) (by decide +kernel) rfl ?_
          exact Y.iret rfl (by decide +kernel) h
  · refine Y.blk (pc' := 19) (L' := [some (.ref a0), some (.int a1), some (.int a2), none, none, none]) (st' := [.int (-9), .ref a0]) (sg := [(.aload_n 0, 0), (.bipush (-9), -9)]) (by decide +kernel) rfl ?_
    obtain ⟨_, o69, e68, m70, h⟩ := gOb_inv h
    refine Y.callI (yC.Vi (b := a0) (As := [.int (-9)]) (st := []) (r := ("Partlister", T_X, 5)) hV.1 cb_X_failWith lk_X_173 in_X_failWith rfl se_X_failWith (by decide +kernel) rfl rfl (Nat.le_of_ble_eq_true rfl) (by decide) e68 m70) (k_X_failWith hV G9 a0 (-9)) h (fun v72 G71 _ h => ?_)
    exact Y.iret rfl (by decide +kernel) h

def f_X_set (G : gH) (a0 : Nat) (a1 : Int32) (a2 : Int32) (a3 : Int32) : gR :=
  gOb G a0 3 fun o2 => bV (f_X_needList G a0 a1) fun G4 => gOb G4 a0 3 fun o6 => bV (f_X_needPlace G4 a0 a1 a2) fun G8 => gOb G8 a0 3 fun o10 => bV (f_X_needKey G8 a0 a3) fun G12 => gFA G12 a0 3 0 fun v13 => gOb G12 v13 1 fun o15 => bI (f_I_keyAt G12 v13 a1 a2) fun v18 G17 => gFA G17 a0 3 0 fun v19 => gOb G17 a0 3 fun o21 => bI (f_X_make G17 a0 a3) fun v24 G23 => gOb G23 v19 1 fun o26 => bV (f_I_write G23 v19 a1 a2 v24) fun G28 => rI v18 G28
theorem k_X_set {l : Launch} {D : va_G} {B : Nat} {O : State → Heap → Prop} (hV : zG l D B O) (G : gH) (a0 : Nat) (a1 : Int32) (a2 : Int32) (a3 : Int32) : gMet (zVm l D B O) m_X_set 7 [.ref a0, .int a1, .int a2, .int a3] G (f_X_set G a0 a1 a2 a3) := by
  refine gMet.of (by decide +kernel) (Nat.le_of_ble_eq_true rfl) [some (.ref a0), some (.int a1), some (.int a2), some (.int a3), none] (fun ls h => zEn_ok (n := 5) h) ?_
  intro o Gf h
  unfold f_X_set at h
  refine Y.blk (pc' := 2) (L' := [some (.ref a0), some (.int a1), some (.int a2), some (.int a3), none]) (st' := [.int a1, .ref a0]) (sg := [(.aload_n 0, 0), (.iload_n 1, 0)]) (by decide +kernel) rfl ?_
  obtain ⟨_, o2, e1, m3, h⟩ := gOb_inv h
  refine Y.callN (yC.Vi (b := a0) (As := [.int a1]) (st := []) (r := ("Partlister", T_X, 5)) hV.1 cb_X_needList lk_X_23 in_X_needList rfl se_X_needList (by decide +kernel) rfl rfl (Nat.le_of_ble_eq_true rfl) (by decide) e1 m3) (k_X_needList hV G a0 a1) h (fun G4 _ h => ?_)
  refine Y.blk (pc' := 8) (L' := [some (.ref a0), some (.int a1), some (.int a2), some (.int a3), none]) (st' := [.int a2, .int a1, .ref a0]) (sg := [(.aload_n 0, 0), (.iload_n 1, 0), (.iload_n 2, 0)]) (by decide +kernel) rfl ?_
  obtain ⟨_, o6, e5, m7, h⟩ := gOb_inv h
  refine Y.callN (yC.Vi (b := a0) (As := [.int a1, .int a2]) (st := []) (r := ("Partlister", T_X, 5)) hV.1 cb_X_needPlace lk_X_58 in_X_needPlace rfl se_X_needPlace (by decide +kernel) rfl rfl (Nat.le_of_ble_eq_true rfl) (by decide) e5 m7) (k_X_needPlace hV G4 a0 a1 a2) h (fun G8 _ h => ?_)
  refine Y.blk (pc' := 13) (L' := [some (.ref a0), some (.int a1), some (.int a2), some (.int a3), none]) (st' := [.int a3, .ref a0]) (sg := [(.aload_n 0, 0), (.iload_n 3, 0)]) (by decide +kernel) rfl ?_
  obtain ⟨_, o10, e9, m11, h⟩ := gOb_inv h
  refine Y.callN (yC.Vi (b := a0) (As := [.int a3]) (st := []) (r := ("Partlister", T_X, 5)) hV.1 cb_X_needKey lk_X_27 in_X_needKey rfl se_X_needKey (by decide +kernel) rfl rfl (Nat.le_of_ble_eq_true rfl) (by decide) e9 m11) (k_X_needKey hV G8 a0 a3) h (fun G12 _ h => ?_)
  refine Y.blk (pc' := 17) (L' := [some (.ref a0), some (.int a1), some (.int a2), some (.int a3), none]) (st' := [.ref a0]) (sg := [(.aload_n 0, 0)]) (by decide +kernel) rfl ?_
  refine Y.getA fl_X_10 (by decide +kernel) h (fun v13 h => ?_)
  refine Y.blk (pc' := 22) (L' := [some (.ref a0), some (.int a1), some (.int a2), some (.int a3), none]) (st' := [.int a2, .int a1, .ref v13]) (sg := [(.iload_n 1, 0), (.iload_n 2, 0)]) (by decide +kernel) rfl ?_
  obtain ⟨_, o15, e14, m16, h⟩ := gOb_inv h
  refine Y.callI (yC.Vi (b := v13) (As := [.int a1, .int a2]) (st := []) (r := ("Partlister$Lists", T_I, 7)) hV.1 cb_I_keyAt lk_X_61 in_I_keyAt rfl se_I_keyAt (by decide +kernel) rfl rfl (Nat.le_of_ble_eq_true rfl) (by decide) e14 m16) (k_I_keyAt hV G12 v13 a1 a2) h (fun v18 G17 _ h => ?_)
  refine Y.blk (pc' := 28) (L' := [some (.ref a0), some (.int a1), some (.int a2), some (.int a3), some (.int v18)]) (st' := [.ref a0]) (sg := [(.istore 4, 0), (.aload_n 0, 0)]) (by decide +kernel) rfl ?_
  refine Y.getA fl_X_10 (by decide +kernel) h (fun v19 h => ?_)
  refine Y.blk (pc' := 35) (L' := [some (.ref a0), some (.int a1), some (.int a2), some (.int a3), some (.int v18)]) (st' := [.int a3, .ref a0, .int a2, .int a1, .ref v19]) (sg := [(.iload_n 1, 0), (.iload_n 2, 0), (.aload_n 0, 0), (.iload_n 3, 0)]) (by decide +kernel) rfl ?_
  obtain ⟨_, o21, e20, m22, h⟩ := gOb_inv h
  refine Y.callI (yC.Vi (b := a0) (As := [.int a3]) (st := [.int a2, .int a1, .ref v19]) (r := ("Partlister", T_X, 5)) hV.1 cb_X_make lk_X_38 in_X_make rfl se_X_make (by decide +kernel) rfl rfl (Nat.le_of_ble_eq_true rfl) (by decide) e20 m22) (k_X_make hV G17 a0 a3) h (fun v24 G23 _ h => ?_)
  obtain ⟨_, o26, e25, m27, h⟩ := gOb_inv h
  refine Y.callN (yC.Vi (b := v19) (As := [.int a1, .int a2, .int v24]) (st := []) (r := ("Partlister$Lists", T_I, 7)) hV.1 cb_I_write lk_X_65 in_I_write rfl se_I_write (by decide +kernel) rfl rfl (Nat.le_of_ble_eq_true rfl) (by decide) e25 m27) (k_I_write hV G23 v19 a1 a2 v24) h (fun G28 _ h => ?_)
  refine Y.blk (pc' := 43) (L' := [some (.ref a0), some (.int a1), some (.int a2), some (.int a3), some (.int v18)]) (st' := [.int v18]) (sg := [(.iload 4, 0)]) (by decide +kernel) rfl ?_
  exact Y.iret rfl (by decide +kernel) h

def f_X_size (G : gH) (a0 : Nat) (a1 : Int32) : gR :=
  if a1 < 0 then gThrow "java/lang/IndexOutOfBoundsException" G
  else if a1 < (nI 6) then gFA G a0 3 0 fun v1 => gOb G v1 1 fun o3 => bI (f_I_lengthOf G v1 a1) fun v6 G5 => rI v6 G5
    else gThrow "java/lang/IndexOutOfBoundsException" G
theorem k_X_size {l : Launch} {D : va_G} {B : Nat} {O : State → Heap → Prop} (hV : zG l D B O) (G : gH) (a0 : Nat) (a1 : Int32) : gMet (zVm l D B O) m_X_size 6 [.ref a0, .int a1] G (f_X_size G a0 a1) := by
  refine gMet.of (by decide +kernel) (Nat.le_of_ble_eq_true rfl) [some (.ref a0), some (.int a1)] (fun ls h => zEn_ok (n := 2) h) ?_
  intro o Gf h
  unfold f_X_size at h
  refine Y.blk (pc' := 1) (L' := [some (.ref a0), some (.int a1)]) (st' := [.int a1]) (sg := [(.iload_n 1, 0)]) (by decide +kernel) rfl ?_
  refine Y.if_lt (off := 9) (tgt := 10) (by decide +kernel) (by decide) h (fun c8 h => ?_) (fun c8 h => ?_)
  · exact Y.throwS (is := 185) (text := "list is not 0 to 5") (names := zNm) hV.1 (hV.2 _ _ _ (by decide +kernel)) (by decide +kernel) (by decide +kernel) ck_X_125 ini_IOE tw_X_129 tg_X_129 (by decide) (by decide) rfl (Nat.le_of_ble_eq_true rfl) (by decide +kernel) (by decide +kernel) (by decide +kernel) (by decide +kernel) (by decide +kernel) h
  · refine Y.blk (pc' := 7) (L' := [some (.ref a0), some (.int a1)]) (st' := [.int (nI 6), .int a1]) (sg := [(.iload_n 1, 0), (.bipush 6, nI 6)]) (by decide +kernel) rfl ?_
    refine Y.ic_lt (off := 13) (tgt := 20) (by decide +kernel) (by decide) h (fun c7 h => ?_) (fun c7 h => ?_)
    · refine Y.blk (pc' := 21) (L' := [some (.ref a0), some (.int a1)]) (st' := [.ref a0]) (sg := [(.aload_n 0, 0)]) (by decide +kernel) rfl ?_
      refine Y.getA fl_X_10 (by decide +kernel) h (fun v1 h => ?_)
      refine Y.blk (pc' := 25) (L' := [some (.ref a0), some (.int a1)]) (st' := [.int a1, .ref v1]) (sg := [(.iload_n 1, 0)]) (by decide +kernel) rfl ?_
      obtain ⟨_, o3, e2, m4, h⟩ := gOb_inv h
      refine Y.callI (yC.Vi (b := v1) (As := [.int a1]) (st := []) (r := ("Partlister$Lists", T_I, 7)) hV.1 cb_I_lengthOf lk_X_34 in_I_lengthOf rfl se_I_lengthOf (by decide +kernel) rfl rfl (Nat.le_of_ble_eq_true rfl) (by decide) e2 m4) (k_I_lengthOf hV G v1 a1) h (fun v6 G5 _ h => ?_)
      exact Y.iret rfl (by decide +kernel) h
    · exact Y.throwS (is := 185) (text := "list is not 0 to 5") (names := zNm) hV.1 (hV.2 _ _ _ (by decide +kernel)) (by decide +kernel) (by decide +kernel) ck_X_125 ini_IOE tw_X_129 tg_X_129 (by decide) (by decide) rfl (Nat.le_of_ble_eq_true rfl) (by decide +kernel) (by decide +kernel) (by decide +kernel) (by decide +kernel) (by decide +kernel) h

def f_I_arrange_L23 (K73 : gH → Int32 → gR) : Nat → gH → Nat → Int32 → Int32 → Int32 → Int32 → gR
  | 0, _, _, _, _, _, _ => none
  | n + 1, G, x0, x1, x3, x4, x5 =>
    if x3 ≤ x5 then K73 G x4
    else gOb G x0 1 fun o15 => bI (f_I_thingInSpare G x0 x5) fun v18 G17 => bI (f_X_tagOf G17 v18) fun v21 G20 => gOb G20 x0 1 fun o23 => bI (f_I_thingAt G20 x0 x1 x5) fun v26 G25 => bI (f_X_tagOf G25 v26) fun v29 G28 => if v21 = v29 then gOb G28 x0 1 fun o31 => bV (f_I_write G28 x0 x1 x5 v18) fun G33 => f_I_arrange_L23 K73 n G33 x0 x1 x3 x4 (x5 + (nI 1))
      else gOb G28 x0 1 fun o35 => bV (f_I_write G28 x0 x1 x5 v18) fun G37 => f_I_arrange_L23 K73 n G37 x0 x1 x3 (x4 + (nI 1)) (x5 + (nI 1))
def f_I_arrange (G : gH) (a0 : Nat) (a1 : Int32) (a2 : Int32) : gR :=
  gOb G a0 1 fun o2 => bI (f_I_lengthOf G a0 a1) fun v5 G4 => gOb G4 a0 1 fun o7 => bV (f_I_copyToSpare G4 a0 a1) fun G9 => gOb G9 a0 1 fun o11 => bV (f_I_arrangeSpare G9 a0 v5 a2) fun G13 => f_I_arrange_L23 (fun G41 x40 => rI x40 G41) zFu G13 a0 a1 v5 (nI 0) (nI 0)
theorem k_I_arrange_L23 {l : Launch} {D : va_G} {B : Nat} {O : State → Heap → Prop} (hV : zG l D B O) {o : gO} {Gf : gH} (K73 : gH → Int32 → gR) (hK73 : ∀ (G : gH) (x4 : Int32), K73 G x4 = some (o, Gf) → Y (zVm l D B O) m_I_arrange 5 o Gf 73 [none, none, none, none, some (.int x4), none, none] [] G) : ∀ (n : Nat) (G : gH) (x0 : Nat) (x1 : Int32) (x3 : Int32) (x4 : Int32) (x5 : Int32), f_I_arrange_L23 K73 n G x0 x1 x3 x4 x5 = some (o, Gf) → Y (zVm l D B O) m_I_arrange 5 o Gf 23 [some (.ref x0), some (.int x1), none, some (.int x3), some (.int x4), some (.int x5), none] [] G := by
  intro n
  induction n with
  | zero => intro G x0 x1 x3 x4 x5 h; cases h
  | succ n ih =>
    intro G x0 x1 x3 x4 x5 h
    unfold f_I_arrange_L23 at h
    refine Y.blk (pc' := 26) (L' := [some (.ref x0), some (.int x1), none, some (.int x3), some (.int x4), some (.int x5), none]) (st' := [.int x3, .int x5]) (sg := [(.iload 5, 0), (.iload_n 3, 0)]) (by decide +kernel) rfl ?_
    refine Y.ic_ge (off := 47) (tgt := 73) (by decide +kernel) (by decide) h (fun c39 h => ?_) (fun c39 h => ?_)
    · refine Y.less (L' := [none, none, none, none, some (.int x4), none, none]) (zLe_none (zLe_none (zLe_some (zLe_none (zLe_some (zLe_none (zLe_some (zLe_nil)))))))) ?_
      exact hK73 G x4 h
    · refine Y.blk (pc' := 32) (L' := [some (.ref x0), some (.int x1), none, some (.int x3), some (.int x4), some (.int x5), none]) (st' := [.int x5, .ref x0]) (sg := [(.aload_n 0, 0), (.iload 5, 0)]) (by decide +kernel) rfl ?_
      obtain ⟨_, o15, e14, m16, h⟩ := gOb_inv h
      refine Y.callI (yC.Vi (b := x0) (As := [.int x5]) (st := []) (r := ("Partlister$Lists", T_I, 7)) hV.1 cb_I_thingInSpare lk_I_73 in_I_thingInSpare rfl se_I_thingInSpare (by decide +kernel) rfl rfl (Nat.le_of_ble_eq_true rfl) (by decide) e14 m16) (k_I_thingInSpare hV G x0 x5) h (fun v18 G17 _ h => ?_)
      refine Y.blk (pc' := 39) (L' := [some (.ref x0), some (.int x1), none, some (.int x3), some (.int x4), some (.int x5), some (.int v18)]) (st' := [.int v18]) (sg := [(.istore 6, 0), (.iload 6, 0)]) (by decide +kernel) rfl ?_
      refine Y.callI (yC.SN (As := [.int v18]) (st := []) hV.1 cb_X_tagOf lk_I_79 st_X_tagOf (by decide +kernel) rfl rfl (Nat.le_of_ble_eq_true rfl) (by decide)) (k_X_tagOf hV G17 v18) h (fun v21 G20 _ h => ?_)
      refine Y.blk (pc' := 46) (L' := [some (.ref x0), some (.int x1), none, some (.int x3), some (.int x4), some (.int x5), some (.int v18)]) (st' := [.int x5, .int x1, .ref x0, .int v21]) (sg := [(.aload_n 0, 0), (.iload_n 1, 0), (.iload 5, 0)]) (by decide +kernel) rfl ?_
      obtain ⟨_, o23, e22, m24, h⟩ := gOb_inv h
      refine Y.callI (yC.Vi (b := x0) (As := [.int x1, .int x5]) (st := [.int v21]) (r := ("Partlister$Lists", T_I, 7)) hV.1 cb_I_thingAt lk_I_50 in_I_thingAt rfl se_I_thingAt (by decide +kernel) rfl rfl (Nat.le_of_ble_eq_true rfl) (by decide) e22 m24) (k_I_thingAt hV G20 x0 x1 x5) h (fun v26 G25 _ h => ?_)
      refine Y.callI (yC.SN (As := [.int v26]) (st := [.int v21]) hV.1 cb_X_tagOf lk_I_79 st_X_tagOf (by decide +kernel) rfl rfl (Nat.le_of_ble_eq_true rfl) (by decide)) (k_X_tagOf hV G25 v26) h (fun v29 G28 _ h => ?_)
      refine Y.ic_eq (off := 6) (tgt := 58) (by decide +kernel) (by decide) h (fun c38 h => ?_) (fun c38 h => ?_)
      · refine Y.blk (pc' := 64) (L' := [some (.ref x0), some (.int x1), none, some (.int x3), some (.int x4), some (.int x5), some (.int v18)]) (st' := [.int v18, .int x5, .int x1, .ref x0]) (sg := [(.aload_n 0, 0), (.iload_n 1, 0), (.iload 5, 0), (.iload 6, 0)]) (by decide +kernel) rfl ?_
        obtain ⟨_, o31, e30, m32, h⟩ := gOb_inv h
        refine Y.callN (yC.Vi (b := x0) (As := [.int x1, .int x5, .int v18]) (st := []) (r := ("Partlister$Lists", T_I, 7)) hV.1 cb_I_write lk_I_53 in_I_write rfl se_I_write (by decide +kernel) rfl rfl (Nat.le_of_ble_eq_true rfl) (by decide) e30 m32) (k_I_write hV G28 x0 x1 x5 v18) h (fun G33 _ h => ?_)
        refine Y.blk (pc' := 70) (L' := [some (.ref x0), some (.int x1), none, some (.int x3), some (.int x4), some (.int (x5 + (nI 1))), some (.int v18)]) (st' := []) (sg := [(.iinc 5 1, nI 1)]) (by decide +kernel) rfl ?_
        refine Y.goto (off := -47) (tgt := 23) (by decide +kernel) (by decide) ?_
        refine Y.less (L' := [some (.ref x0), some (.int x1), none, some (.int x3), some (.int x4), some (.int (x5 + (nI 1))), none]) (zLe_some (zLe_some (zLe_some (zLe_some (zLe_some (zLe_some (zLe_none (zLe_nil)))))))) ?_
        exact ih G33 x0 x1 x3 x4 (x5 + (nI 1)) h
      · refine Y.blk (pc' := 64) (L' := [some (.ref x0), some (.int x1), none, some (.int x3), some (.int (x4 + (nI 1))), some (.int x5), some (.int v18)]) (st' := [.int v18, .int x5, .int x1, .ref x0]) (sg := [(.iinc 4 1, nI 1), (.aload_n 0, 0), (.iload_n 1, 0), (.iload 5, 0), (.iload 6, 0)]) (by decide +kernel) rfl ?_
        obtain ⟨_, o35, e34, m36, h⟩ := gOb_inv h
        refine Y.callN (yC.Vi (b := x0) (As := [.int x1, .int x5, .int v18]) (st := []) (r := ("Partlister$Lists", T_I, 7)) hV.1 cb_I_write lk_I_53 in_I_write rfl se_I_write (by decide +kernel) rfl rfl (Nat.le_of_ble_eq_true rfl) (by decide) e34 m36) (k_I_write hV G28 x0 x1 x5 v18) h (fun G37 _ h => ?_)
        refine Y.blk (pc' := 70) (L' := [some (.ref x0), some (.int x1), none, some (.int x3), some (.int (x4 + (nI 1))), some (.int (x5 + (nI 1))), some (.int v18)]) (st' := []) (sg := [(.iinc 5 1, nI 1)]) (by decide +kernel) rfl ?_
        refine Y.goto (off := -47) (tgt := 23) (by decide +kernel) (by decide) ?_
        refine Y.less (L' := [some (.ref x0), some (.int x1), none, some (.int x3), some (.int (x4 + (nI 1))), some (.int (x5 + (nI 1))), none]) (zLe_some (zLe_some (zLe_some (zLe_some (zLe_some (zLe_some (zLe_none (zLe_nil)))))))) ?_
        exact ih G37 x0 x1 x3 (x4 + (nI 1)) (x5 + (nI 1)) h
theorem k_I_arrange {l : Launch} {D : va_G} {B : Nat} {O : State → Heap → Prop} (hV : zG l D B O) (G : gH) (a0 : Nat) (a1 : Int32) (a2 : Int32) : gMet (zVm l D B O) m_I_arrange 5 [.ref a0, .int a1, .int a2] G (f_I_arrange G a0 a1 a2) := by
  refine gMet.of (by decide +kernel) (Nat.le_of_ble_eq_true rfl) [some (.ref a0), some (.int a1), some (.int a2), none, none, none, none] (fun ls h => zEn_ok (n := 7) h) ?_
  intro o Gf h
  unfold f_I_arrange at h
  refine Y.blk (pc' := 2) (L' := [some (.ref a0), some (.int a1), some (.int a2), none, none, none, none]) (st' := [.int a1, .ref a0]) (sg := [(.aload_n 0, 0), (.iload_n 1, 0)]) (by decide +kernel) rfl ?_
  obtain ⟨_, o2, e1, m3, h⟩ := gOb_inv h
  refine Y.callI (yC.Vi (b := a0) (As := [.int a1]) (st := []) (r := ("Partlister$Lists", T_I, 7)) hV.1 cb_I_lengthOf lk_I_59 in_I_lengthOf rfl se_I_lengthOf (by decide +kernel) rfl rfl (Nat.le_of_ble_eq_true rfl) (by decide) e1 m3) (k_I_lengthOf hV G a0 a1) h (fun v5 G4 _ h => ?_)
  refine Y.blk (pc' := 8) (L' := [some (.ref a0), some (.int a1), some (.int a2), some (.int v5), none, none, none]) (st' := [.int a1, .ref a0]) (sg := [(.istore_n 3, 0), (.aload_n 0, 0), (.iload_n 1, 0)]) (by decide +kernel) rfl ?_
  obtain ⟨_, o7, e6, m8, h⟩ := gOb_inv h
  refine Y.callN (yC.Vi (b := a0) (As := [.int a1]) (st := []) (r := ("Partlister$Lists", T_I, 7)) hV.1 cb_I_copyToSpare lk_I_65 in_I_copyToSpare rfl se_I_copyToSpare (by decide +kernel) rfl rfl (Nat.le_of_ble_eq_true rfl) (by decide) e6 m8) (k_I_copyToSpare hV G4 a0 a1) h (fun G9 _ h => ?_)
  refine Y.blk (pc' := 14) (L' := [some (.ref a0), some (.int a1), some (.int a2), some (.int v5), none, none, none]) (st' := [.int a2, .int v5, .ref a0]) (sg := [(.aload_n 0, 0), (.iload_n 3, 0), (.iload_n 2, 0)]) (by decide +kernel) rfl ?_
  obtain ⟨_, o11, e10, m12, h⟩ := gOb_inv h
  refine Y.callN (yC.Vi (b := a0) (As := [.int v5, .int a2]) (st := []) (r := ("Partlister$Lists", T_I, 7)) hV.1 cb_I_arrangeSpare lk_I_76 in_I_arrangeSpare rfl se_I_arrangeSpare (by decide +kernel) rfl rfl (Nat.le_of_ble_eq_true rfl) (by decide) e10 m12) (k_I_arrangeSpare hV G9 a0 v5 a2) h (fun G13 _ h => ?_)
  refine Y.blk (pc' := 23) (L' := [some (.ref a0), some (.int a1), some (.int a2), some (.int v5), some (.int (nI 0)), some (.int (nI 0)), none]) (st' := []) (sg := [(.iconst 0, nI 0), (.istore 4, 0), (.iconst 0, nI 0), (.istore 5, 0)]) (by decide +kernel) rfl ?_
  refine Y.less (L' := [some (.ref a0), some (.int a1), none, some (.int v5), some (.int (nI 0)), some (.int (nI 0)), none]) (zLe_some (zLe_some (zLe_none (zLe_some (zLe_some (zLe_some (zLe_some (zLe_nil)))))))) ?_
  refine k_I_arrange_L23 hV _ ?_  zFu G13 a0 a1 v5 (nI 0) (nI 0) h
  · intro G41 x40 h
    refine Y.blk (pc' := 75) (L' := [none, none, none, none, some (.int x40), none, none]) (st' := [.int x40]) (sg := [(.iload 4, 0)]) (by decide +kernel) rfl ?_
    exact Y.iret rfl (by decide +kernel) h

def f_X_sort (G : gH) (a0 : Nat) (a1 : Int32) (a2 : Int32) : gR :=
  gOb G a0 3 fun o2 => bV (f_X_needList G a0 a1) fun G4 => if a2 < 0 then gThrow "java/lang/IllegalArgumentException" G4
  else if a2 < (nI 5) then gFA G4 a0 3 0 fun v5 => gOb G4 v5 1 fun o7 => bI (f_I_arrange G4 v5 a1 a2) fun v10 G9 => gOb G9 a0 3 fun o12 => bI (f_X_endAround G9 a0 a1) fun v15 G14 => rI v10 G14
    else gThrow "java/lang/IllegalArgumentException" G4
theorem k_X_sort {l : Launch} {D : va_G} {B : Nat} {O : State → Heap → Prop} (hV : zG l D B O) (G : gH) (a0 : Nat) (a1 : Int32) (a2 : Int32) : gMet (zVm l D B O) m_X_sort 7 [.ref a0, .int a1, .int a2] G (f_X_sort G a0 a1 a2) := by
  refine gMet.of (by decide +kernel) (Nat.le_of_ble_eq_true rfl) [some (.ref a0), some (.int a1), some (.int a2), none] (fun ls h => zEn_ok (n := 4) h) ?_
  intro o Gf h
  unfold f_X_sort at h
  refine Y.blk (pc' := 2) (L' := [some (.ref a0), some (.int a1), some (.int a2), none]) (st' := [.int a1, .ref a0]) (sg := [(.aload_n 0, 0), (.iload_n 1, 0)]) (by decide +kernel) rfl ?_
  obtain ⟨_, o2, e1, m3, h⟩ := gOb_inv h
  refine Y.callN (yC.Vi (b := a0) (As := [.int a1]) (st := []) (r := ("Partlister", T_X, 5)) hV.1 cb_X_needList lk_X_23 in_X_needList rfl se_X_needList (by decide +kernel) rfl rfl (Nat.le_of_ble_eq_true rfl) (by decide) e1 m3) (k_X_needList hV G a0 a1) h (fun G4 _ h => ?_)
  refine Y.blk (pc' := 6) (L' := [some (.ref a0), some (.int a1), some (.int a2), none]) (st' := [.int a2]) (sg := [(.iload_n 2, 0)]) (by decide +kernel) rfl ?_
  refine Y.if_lt (off := 8) (tgt := 14) (by decide +kernel) (by decide) h (fun c17 h => ?_) (fun c17 h => ?_)
  · exact Y.throwS (is := 112) (text := "order is not 0 to 4") (names := zNm) hV.1 (hV.2 _ _ _ (by decide +kernel)) (by decide +kernel) (by decide +kernel) ck_X_81 ini_IAE tw_X_85 tg_X_85 (by decide) (by decide) rfl (Nat.le_of_ble_eq_true rfl) (by decide +kernel) (by decide +kernel) (by decide +kernel) (by decide +kernel) (by decide +kernel) h
  · refine Y.blk (pc' := 11) (L' := [some (.ref a0), some (.int a1), some (.int a2), none]) (st' := [.int (nI 5), .int a2]) (sg := [(.iload_n 2, 0), (.iconst 5, nI 5)]) (by decide +kernel) rfl ?_
    refine Y.ic_lt (off := 13) (tgt := 24) (by decide +kernel) (by decide) h (fun c16 h => ?_) (fun c16 h => ?_)
    · refine Y.blk (pc' := 25) (L' := [some (.ref a0), some (.int a1), some (.int a2), none]) (st' := [.ref a0]) (sg := [(.aload_n 0, 0)]) (by decide +kernel) rfl ?_
      refine Y.getA fl_X_10 (by decide +kernel) h (fun v5 h => ?_)
      refine Y.blk (pc' := 30) (L' := [some (.ref a0), some (.int a1), some (.int a2), none]) (st' := [.int a2, .int a1, .ref v5]) (sg := [(.iload_n 1, 0), (.iload_n 2, 0)]) (by decide +kernel) rfl ?_
      obtain ⟨_, o7, e6, m8, h⟩ := gOb_inv h
      refine Y.callI (yC.Vi (b := v5) (As := [.int a1, .int a2]) (st := []) (r := ("Partlister$Lists", T_I, 7)) hV.1 cb_I_arrange lk_X_114 in_I_arrange rfl se_I_arrange (by decide +kernel) rfl rfl (Nat.le_of_ble_eq_true rfl) (by decide) e6 m8) (k_I_arrange hV G4 v5 a1 a2) h (fun v10 G9 _ h => ?_)
      refine Y.blk (pc' := 36) (L' := [some (.ref a0), some (.int a1), some (.int a2), some (.int v10)]) (st' := [.int a1, .ref a0]) (sg := [(.istore_n 3, 0), (.aload_n 0, 0), (.iload_n 1, 0)]) (by decide +kernel) rfl ?_
      obtain ⟨_, o12, e11, m13, h⟩ := gOb_inv h
      refine Y.callI (yC.Vi (b := a0) (As := [.int a1]) (st := []) (r := ("Partlister", T_X, 5)) hV.1 cb_X_endAround lk_X_103 in_X_endAround rfl se_X_endAround (by decide +kernel) rfl rfl (Nat.le_of_ble_eq_true rfl) (by decide) e11 m13) (k_X_endAround hV G9 a0 a1) h (fun v15 G14 _ h => ?_)
      refine Y.blk (pc' := 41) (L' := [some (.ref a0), some (.int a1), some (.int a2), some (.int v10)]) (st' := [.int v10]) (sg := [(.pop, 0), (.iload_n 3, 0)]) (by decide +kernel) rfl ?_
      exact Y.iret rfl (by decide +kernel) h
    · exact Y.throwS (is := 112) (text := "order is not 0 to 4") (names := zNm) hV.1 (hV.2 _ _ _ (by decide +kernel)) (by decide +kernel) (by decide +kernel) ck_X_81 ini_IAE tw_X_85 tg_X_85 (by decide) (by decide) rfl (Nat.le_of_ble_eq_true rfl) (by decide +kernel) (by decide +kernel) (by decide +kernel) (by decide +kernel) (by decide +kernel) h

def f_I_countBelow_L12 (K38 : gH → Int32 → gR) : Nat → gH → Nat → Int32 → Int32 → Int32 → Int32 → Int32 → gR
  | 0, _, _, _, _, _, _, _ => none
  | n + 1, G, x0, x1, x2, x3, x4, x5 =>
    if x3 ≤ x5 then K38 G x4
    else gOb G x0 1 fun o7 => bI (f_I_keyAt G x0 x1 x5) fun v10 G9 => if x2 ≤ v10 then f_I_countBelow_L12 K38 n G9 x0 x1 x2 x3 x4 (x5 + (nI 1))
      else f_I_countBelow_L12 K38 n G9 x0 x1 x2 x3 (x4 + (nI 1)) (x5 + (nI 1))
def f_I_countBelow (G : gH) (a0 : Nat) (a1 : Int32) (a2 : Int32) : gR :=
  gOb G a0 1 fun o2 => bI (f_I_lengthOf G a0 a1) fun v5 G4 => f_I_countBelow_L12 (fun G14 x13 => rI x13 G14) zFu G4 a0 a1 a2 v5 (nI 0) (nI 0)
theorem k_I_countBelow_L12 {l : Launch} {D : va_G} {B : Nat} {O : State → Heap → Prop} (hV : zG l D B O) {o : gO} {Gf : gH} (K38 : gH → Int32 → gR) (hK38 : ∀ (G : gH) (x4 : Int32), K38 G x4 = some (o, Gf) → Y (zVm l D B O) m_I_countBelow 4 o Gf 38 [none, none, none, none, some (.int x4), none] [] G) : ∀ (n : Nat) (G : gH) (x0 : Nat) (x1 : Int32) (x2 : Int32) (x3 : Int32) (x4 : Int32) (x5 : Int32), f_I_countBelow_L12 K38 n G x0 x1 x2 x3 x4 x5 = some (o, Gf) → Y (zVm l D B O) m_I_countBelow 4 o Gf 12 [some (.ref x0), some (.int x1), some (.int x2), some (.int x3), some (.int x4), some (.int x5)] [] G := by
  intro n
  induction n with
  | zero => intro G x0 x1 x2 x3 x4 x5 h; cases h
  | succ n ih =>
    intro G x0 x1 x2 x3 x4 x5 h
    unfold f_I_countBelow_L12 at h
    refine Y.blk (pc' := 15) (L' := [some (.ref x0), some (.int x1), some (.int x2), some (.int x3), some (.int x4), some (.int x5)]) (st' := [.int x3, .int x5]) (sg := [(.iload 5, 0), (.iload_n 3, 0)]) (by decide +kernel) rfl ?_
    refine Y.ic_ge (off := 23) (tgt := 38) (by decide +kernel) (by decide) h (fun c12 h => ?_) (fun c12 h => ?_)
    · refine Y.less (L' := [none, none, none, none, some (.int x4), none]) (zLe_none (zLe_none (zLe_none (zLe_none (zLe_some (zLe_none (zLe_nil))))))) ?_
      exact hK38 G x4 h
    · refine Y.blk (pc' := 22) (L' := [some (.ref x0), some (.int x1), some (.int x2), some (.int x3), some (.int x4), some (.int x5)]) (st' := [.int x5, .int x1, .ref x0]) (sg := [(.aload_n 0, 0), (.iload_n 1, 0), (.iload 5, 0)]) (by decide +kernel) rfl ?_
      obtain ⟨_, o7, e6, m8, h⟩ := gOb_inv h
      refine Y.callI (yC.Vi (b := x0) (As := [.int x1, .int x5]) (st := []) (r := ("Partlister$Lists", T_I, 7)) hV.1 cb_I_keyAt lk_I_101 in_I_keyAt rfl se_I_keyAt (by decide +kernel) rfl rfl (Nat.le_of_ble_eq_true rfl) (by decide) e6 m8) (k_I_keyAt hV G x0 x1 x5) h (fun v10 G9 _ h => ?_)
      refine Y.blk (pc' := 26) (L' := [some (.ref x0), some (.int x1), some (.int x2), some (.int x3), some (.int x4), some (.int x5)]) (st' := [.int x2, .int v10]) (sg := [(.iload_n 2, 0)]) (by decide +kernel) rfl ?_
      refine Y.ic_ge (off := 6) (tgt := 32) (by decide +kernel) (by decide) h (fun c11 h => ?_) (fun c11 h => ?_)
      · refine Y.blk (pc' := 35) (L' := [some (.ref x0), some (.int x1), some (.int x2), some (.int x3), some (.int x4), some (.int (x5 + (nI 1)))]) (st' := []) (sg := [(.iinc 5 1, nI 1)]) (by decide +kernel) rfl ?_
        refine Y.goto (off := -23) (tgt := 12) (by decide +kernel) (by decide) ?_
        exact ih G9 x0 x1 x2 x3 x4 (x5 + (nI 1)) h
      · refine Y.blk (pc' := 35) (L' := [some (.ref x0), some (.int x1), some (.int x2), some (.int x3), some (.int (x4 + (nI 1))), some (.int (x5 + (nI 1)))]) (st' := []) (sg := [(.iinc 4 1, nI 1), (.iinc 5 1, nI 1)]) (by decide +kernel) rfl ?_
        refine Y.goto (off := -23) (tgt := 12) (by decide +kernel) (by decide) ?_
        exact ih G9 x0 x1 x2 x3 (x4 + (nI 1)) (x5 + (nI 1)) h
theorem k_I_countBelow {l : Launch} {D : va_G} {B : Nat} {O : State → Heap → Prop} (hV : zG l D B O) (G : gH) (a0 : Nat) (a1 : Int32) (a2 : Int32) : gMet (zVm l D B O) m_I_countBelow 4 [.ref a0, .int a1, .int a2] G (f_I_countBelow G a0 a1 a2) := by
  refine gMet.of (by decide +kernel) (Nat.le_of_ble_eq_true rfl) [some (.ref a0), some (.int a1), some (.int a2), none, none, none] (fun ls h => zEn_ok (n := 6) h) ?_
  intro o Gf h
  unfold f_I_countBelow at h
  refine Y.blk (pc' := 2) (L' := [some (.ref a0), some (.int a1), some (.int a2), none, none, none]) (st' := [.int a1, .ref a0]) (sg := [(.aload_n 0, 0), (.iload_n 1, 0)]) (by decide +kernel) rfl ?_
  obtain ⟨_, o2, e1, m3, h⟩ := gOb_inv h
  refine Y.callI (yC.Vi (b := a0) (As := [.int a1]) (st := []) (r := ("Partlister$Lists", T_I, 7)) hV.1 cb_I_lengthOf lk_I_59 in_I_lengthOf rfl se_I_lengthOf (by decide +kernel) rfl rfl (Nat.le_of_ble_eq_true rfl) (by decide) e1 m3) (k_I_lengthOf hV G a0 a1) h (fun v5 G4 _ h => ?_)
  refine Y.blk (pc' := 12) (L' := [some (.ref a0), some (.int a1), some (.int a2), some (.int v5), some (.int (nI 0)), some (.int (nI 0))]) (st' := []) (sg := [(.istore_n 3, 0), (.iconst 0, nI 0), (.istore 4, 0), (.iconst 0, nI 0), (.istore 5, 0)]) (by decide +kernel) rfl ?_
  refine k_I_countBelow_L12 hV _ ?_  zFu G4 a0 a1 a2 v5 (nI 0) (nI 0) h
  · intro G14 x13 h
    refine Y.blk (pc' := 40) (L' := [none, none, none, none, some (.int x13), none]) (st' := [.int x13]) (sg := [(.iload 4, 0)]) (by decide +kernel) rfl ?_
    exact Y.iret rfl (by decide +kernel) h

def f_I_isSorted_L8 (K30 : gH → gR) (K38 : gH → gR) : Nat → gH → Nat → Int32 → Int32 → Int32 → gR
  | 0, _, _, _, _, _ => none
  | n + 1, G, x0, x1, x2, x3 =>
    if x2 ≤ x3 then K38 G
    else gOb G x0 1 fun o7 => bI (f_I_keyAt G x0 x1 x3) fun v10 G9 => gOb G9 x0 1 fun o12 => bI (f_I_keyAt G9 x0 x1 (x3 - (nI 1))) fun v15 G14 => if v15 ≤ v10 then f_I_isSorted_L8 K30 K38 n G14 x0 x1 x2 (x3 + (nI 1))
      else K30 G14
def f_I_isSorted (G : gH) (a0 : Nat) (a1 : Int32) : gR :=
  gOb G a0 1 fun o2 => bI (f_I_lengthOf G a0 a1) fun v5 G4 => f_I_isSorted_L8 (fun G18 => rZ (nI 0) G18) (fun G19 => rZ (nI 1) G19) zFu G4 a0 a1 v5 (nI 1)
theorem k_I_isSorted_L8 {l : Launch} {D : va_G} {B : Nat} {O : State → Heap → Prop} (hV : zG l D B O) {o : gO} {Gf : gH} (K30 : gH → gR) (K38 : gH → gR) (hK30 : ∀ (G : gH), K30 G  = some (o, Gf) → Y (zVm l D B O) m_I_isSorted 4 o Gf 30 [none, none, none, none] [] G) (hK38 : ∀ (G : gH), K38 G  = some (o, Gf) → Y (zVm l D B O) m_I_isSorted 4 o Gf 38 [none, none, none, none] [] G) : ∀ (n : Nat) (G : gH) (x0 : Nat) (x1 : Int32) (x2 : Int32) (x3 : Int32), f_I_isSorted_L8 K30 K38 n G x0 x1 x2 x3 = some (o, Gf) → Y (zVm l D B O) m_I_isSorted 4 o Gf 8 [some (.ref x0), some (.int x1), some (.int x2), some (.int x3)] [] G := by
  intro n
  induction n with
  | zero => intro G x0 x1 x2 x3 h; cases h
  | succ n ih =>
    intro G x0 x1 x2 x3 h
    unfold f_I_isSorted_L8 at h
    refine Y.blk (pc' := 10) (L' := [some (.ref x0), some (.int x1), some (.int x2), some (.int x3)]) (st' := [.int x2, .int x3]) (sg := [(.iload_n 3, 0), (.iload_n 2, 0)]) (by decide +kernel) rfl ?_
    refine Y.ic_ge (off := 28) (tgt := 38) (by decide +kernel) (by decide) h (fun c17 h => ?_) (fun c17 h => ?_)
    · refine Y.less (L' := [none, none, none, none]) (zLe_none (zLe_none (zLe_none (zLe_none (zLe_nil))))) ?_
      exact hK38 G  h
    · refine Y.blk (pc' := 16) (L' := [some (.ref x0), some (.int x1), some (.int x2), some (.int x3)]) (st' := [.int x3, .int x1, .ref x0]) (sg := [(.aload_n 0, 0), (.iload_n 1, 0), (.iload_n 3, 0)]) (by decide +kernel) rfl ?_
      obtain ⟨_, o7, e6, m8, h⟩ := gOb_inv h
      refine Y.callI (yC.Vi (b := x0) (As := [.int x1, .int x3]) (st := []) (r := ("Partlister$Lists", T_I, 7)) hV.1 cb_I_keyAt lk_I_101 in_I_keyAt rfl se_I_keyAt (by decide +kernel) rfl rfl (Nat.le_of_ble_eq_true rfl) (by decide) e6 m8) (k_I_keyAt hV G x0 x1 x3) h (fun v10 G9 _ h => ?_)
      refine Y.blk (pc' := 24) (L' := [some (.ref x0), some (.int x1), some (.int x2), some (.int x3)]) (st' := [.int (x3 - (nI 1)), .int x1, .ref x0, .int v10]) (sg := [(.aload_n 0, 0), (.iload_n 1, 0), (.iload_n 3, 0), (.iconst 1, nI 1), (.isub, 0)]) (by decide +kernel) rfl ?_
      obtain ⟨_, o12, e11, m13, h⟩ := gOb_inv h
      refine Y.callI (yC.Vi (b := x0) (As := [.int x1, .int (x3 - (nI 1))]) (st := [.int v10]) (r := ("Partlister$Lists", T_I, 7)) hV.1 cb_I_keyAt lk_I_101 in_I_keyAt rfl se_I_keyAt (by decide +kernel) rfl rfl (Nat.le_of_ble_eq_true rfl) (by decide) e11 m13) (k_I_keyAt hV G9 x0 x1 (x3 - (nI 1))) h (fun v15 G14 _ h => ?_)
      refine Y.ic_ge (off := 5) (tgt := 32) (by decide +kernel) (by decide) h (fun c16 h => ?_) (fun c16 h => ?_)
      · refine Y.blk (pc' := 35) (L' := [some (.ref x0), some (.int x1), some (.int x2), some (.int (x3 + (nI 1)))]) (st' := []) (sg := [(.iinc 3 1, nI 1)]) (by decide +kernel) rfl ?_
        refine Y.goto (off := -27) (tgt := 8) (by decide +kernel) (by decide) ?_
        exact ih G14 x0 x1 x2 (x3 + (nI 1)) h
      · refine Y.less (L' := [none, none, none, none]) (zLe_none (zLe_none (zLe_none (zLe_none (zLe_nil))))) ?_
        exact hK30 G14  h
theorem k_I_isSorted {l : Launch} {D : va_G} {B : Nat} {O : State → Heap → Prop} (hV : zG l D B O) (G : gH) (a0 : Nat) (a1 : Int32) : gMet (zVm l D B O) m_I_isSorted 4 [.ref a0, .int a1] G (f_I_isSorted G a0 a1) := by
  refine gMet.of (by decide +kernel) (Nat.le_of_ble_eq_true rfl) [some (.ref a0), some (.int a1), none, none] (fun ls h => zEn_ok (n := 4) h) ?_
  intro o Gf h
  unfold f_I_isSorted at h
  refine Y.blk (pc' := 2) (L' := [some (.ref a0), some (.int a1), none, none]) (st' := [.int a1, .ref a0]) (sg := [(.aload_n 0, 0), (.iload_n 1, 0)]) (by decide +kernel) rfl ?_
  obtain ⟨_, o2, e1, m3, h⟩ := gOb_inv h
  refine Y.callI (yC.Vi (b := a0) (As := [.int a1]) (st := []) (r := ("Partlister$Lists", T_I, 7)) hV.1 cb_I_lengthOf lk_I_59 in_I_lengthOf rfl se_I_lengthOf (by decide +kernel) rfl rfl (Nat.le_of_ble_eq_true rfl) (by decide) e1 m3) (k_I_lengthOf hV G a0 a1) h (fun v5 G4 _ h => ?_)
  refine Y.blk (pc' := 8) (L' := [some (.ref a0), some (.int a1), some (.int v5), some (.int (nI 1))]) (st' := []) (sg := [(.istore_n 2, 0), (.iconst 1, nI 1), (.istore_n 3, 0)]) (by decide +kernel) rfl ?_
  refine k_I_isSorted_L8 hV _ _ ?_ ?_  zFu G4 a0 a1 v5 (nI 1) h
  · intro G18 h
    refine Y.blk (pc' := 31) (L' := [none, none, none, none]) (st' := [.int (nI 0)]) (sg := [(.iconst 0, nI 0)]) (by decide +kernel) rfl ?_
    exact Y.zret rfl (by decide +kernel) h
  · intro G19 h
    refine Y.blk (pc' := 39) (L' := [none, none, none, none]) (st' := [.int (nI 1)]) (sg := [(.iconst 1, nI 1)]) (by decide +kernel) rfl ?_
    exact Y.zret rfl (by decide +kernel) h

def f_X_spot (G : gH) (a0 : Nat) (a1 : Int32) (a2 : Int32) : gR :=
  gOb G a0 3 fun o2 => bV (f_X_needList G a0 a1) fun G4 => gOb G4 a0 3 fun o6 => bV (f_X_needKey G4 a0 a2) fun G8 => gFA G8 a0 3 0 fun v9 => gOb G8 v9 1 fun o11 => bI (f_I_isSorted G8 v9 a1) fun v14 G13 => if v14 = 0 then gThrow "java/lang/IllegalStateException" G13
  else gFA G13 a0 3 0 fun v15 => gOb G13 v15 1 fun o17 => bI (f_I_firstOf G13 v15 a1 a2) fun v20 G19 => if v20 = (-1) then gFA G19 a0 3 0 fun v21 => gOb G19 v21 1 fun o23 => bI (f_I_countBelow G19 v21 a1 a2) fun v26 G25 => rI v26 G25
    else rI (nI 99) G19
theorem k_X_spot {l : Launch} {D : va_G} {B : Nat} {O : State → Heap → Prop} (hV : zG l D B O) (G : gH) (a0 : Nat) (a1 : Int32) (a2 : Int32) : gMet (zVm l D B O) m_X_spot 7 [.ref a0, .int a1, .int a2] G (f_X_spot G a0 a1 a2) := by
  refine gMet.of (by decide +kernel) (Nat.le_of_ble_eq_true rfl) [some (.ref a0), some (.int a1), some (.int a2)] (fun ls h => zEn_ok (n := 3) h) ?_
  intro o Gf h
  unfold f_X_spot at h
  refine Y.blk (pc' := 2) (L' := [some (.ref a0), some (.int a1), some (.int a2)]) (st' := [.int a1, .ref a0]) (sg := [(.aload_n 0, 0), (.iload_n 1, 0)]) (by decide +kernel) rfl ?_
  obtain ⟨_, o2, e1, m3, h⟩ := gOb_inv h
  refine Y.callN (yC.Vi (b := a0) (As := [.int a1]) (st := []) (r := ("Partlister", T_X, 5)) hV.1 cb_X_needList lk_X_23 in_X_needList rfl se_X_needList (by decide +kernel) rfl rfl (Nat.le_of_ble_eq_true rfl) (by decide) e1 m3) (k_X_needList hV G a0 a1) h (fun G4 _ h => ?_)
  refine Y.blk (pc' := 7) (L' := [some (.ref a0), some (.int a1), some (.int a2)]) (st' := [.int a2, .ref a0]) (sg := [(.aload_n 0, 0), (.iload_n 2, 0)]) (by decide +kernel) rfl ?_
  obtain ⟨_, o6, e5, m7, h⟩ := gOb_inv h
  refine Y.callN (yC.Vi (b := a0) (As := [.int a2]) (st := []) (r := ("Partlister", T_X, 5)) hV.1 cb_X_needKey lk_X_27 in_X_needKey rfl se_X_needKey (by decide +kernel) rfl rfl (Nat.le_of_ble_eq_true rfl) (by decide) e5 m7) (k_X_needKey hV G4 a0 a2) h (fun G8 _ h => ?_)
  refine Y.blk (pc' := 11) (L' := [some (.ref a0), some (.int a1), some (.int a2)]) (st' := [.ref a0]) (sg := [(.aload_n 0, 0)]) (by decide +kernel) rfl ?_
  refine Y.getA fl_X_10 (by decide +kernel) h (fun v9 h => ?_)
  refine Y.blk (pc' := 15) (L' := [some (.ref a0), some (.int a1), some (.int a2)]) (st' := [.int a1, .ref v9]) (sg := [(.iload_n 1, 0)]) (by decide +kernel) rfl ?_
  obtain ⟨_, o11, e10, m12, h⟩ := gOb_inv h
  refine Y.callI (yC.Vi (b := v9) (As := [.int a1]) (st := []) (r := ("Partlister$Lists", T_I, 7)) hV.1 cb_I_isSorted lk_X_205 in_I_isSorted rfl se_I_isSorted (by decide +kernel) rfl rfl (Nat.le_of_ble_eq_true rfl) (by decide) e10 m12) (k_I_isSorted hV G8 v9 a1) h (fun v14 G13 _ h => ?_)
  refine Y.if_ne (off := 13) (tgt := 31) (by decide +kernel) (by decide) h (fun c28 h => ?_) (fun c28 h => ?_)
  · exact Y.throwS (is := 208) (text := "the LIST is not SORTED") (names := zNm) hV.1 (hV.2 _ _ _ (by decide +kernel)) (by decide +kernel) (by decide +kernel) ck_X_134 ini_ISE tw_X_138 tg_X_138 (by decide) (by decide) rfl (Nat.le_of_ble_eq_true rfl) (by decide +kernel) (by decide +kernel) (by decide +kernel) (by decide +kernel) (by decide +kernel) h
  · refine Y.blk (pc' := 32) (L' := [some (.ref a0), some (.int a1), some (.int a2)]) (st' := [.ref a0]) (sg := [(.aload_n 0, 0)]) (by decide +kernel) rfl ?_
    refine Y.getA fl_X_10 (by decide +kernel) h (fun v15 h => ?_)
    refine Y.blk (pc' := 37) (L' := [some (.ref a0), some (.int a1), some (.int a2)]) (st' := [.int a2, .int a1, .ref v15]) (sg := [(.iload_n 1, 0), (.iload_n 2, 0)]) (by decide +kernel) rfl ?_
    obtain ⟨_, o17, e16, m18, h⟩ := gOb_inv h
    refine Y.callI (yC.Vi (b := v15) (As := [.int a1, .int a2]) (st := []) (r := ("Partlister$Lists", T_I, 7)) hV.1 cb_I_firstOf lk_X_72 in_I_firstOf rfl se_I_firstOf (by decide +kernel) rfl rfl (Nat.le_of_ble_eq_true rfl) (by decide) e16 m18) (k_I_firstOf hV G13 v15 a1 a2) h (fun v20 G19 _ h => ?_)
    refine Y.blk (pc' := 41) (L' := [some (.ref a0), some (.int a1), some (.int a2)]) (st' := [.int (-1), .int v20]) (sg := [(.iconst (-1), -1)]) (by decide +kernel) rfl ?_
    refine Y.ic_eq (off := 8) (tgt := 49) (by decide +kernel) (by decide) h (fun c27 h => ?_) (fun c27 h => ?_)
    · refine Y.blk (pc' := 50) (L' := [some (.ref a0), some (.int a1), some (.int a2)]) (st' := [.ref a0]) (sg := [(.aload_n 0, 0)]) (by decide +kernel) rfl ?_
      refine Y.getA fl_X_10 (by decide +kernel) h (fun v21 h => ?_)
      refine Y.blk (pc' := 55) (L' := [some (.ref a0), some (.int a1), some (.int a2)]) (st' := [.int a2, .int a1, .ref v21]) (sg := [(.iload_n 1, 0), (.iload_n 2, 0)]) (by decide +kernel) rfl ?_
      obtain ⟨_, o23, e22, m24, h⟩ := gOb_inv h
      refine Y.callI (yC.Vi (b := v21) (As := [.int a1, .int a2]) (st := []) (r := ("Partlister$Lists", T_I, 7)) hV.1 cb_I_countBelow lk_X_210 in_I_countBelow rfl se_I_countBelow (by decide +kernel) rfl rfl (Nat.le_of_ble_eq_true rfl) (by decide) e22 m24) (k_I_countBelow hV G19 v21 a1 a2) h (fun v26 G25 _ h => ?_)
      exact Y.iret rfl (by decide +kernel) h
    · refine Y.blk (pc' := 46) (L' := [some (.ref a0), some (.int a1), some (.int a2)]) (st' := [.int (nI 99)]) (sg := [(.bipush 99, nI 99)]) (by decide +kernel) rfl ?_
      refine Y.goto (off := 12) (tgt := 58) (by decide +kernel) (by decide) ?_
      exact Y.iret rfl (by decide +kernel) h

def f_X_tag (G : gH) (a0 : Nat) (a1 : Int32) (a2 : Int32) : gR :=
  gOb G a0 3 fun o2 => bV (f_X_needList G a0 a1) fun G4 => gOb G4 a0 3 fun o6 => bV (f_X_needPlace G4 a0 a1 a2) fun G8 => gFA G8 a0 3 0 fun v9 => gOb G8 v9 1 fun o11 => bI (f_I_thingAt G8 v9 a1 a2) fun v14 G13 => bI (f_X_tagOf G13 v14) fun v17 G16 => rI v17 G16
theorem k_X_tag {l : Launch} {D : va_G} {B : Nat} {O : State → Heap → Prop} (hV : zG l D B O) (G : gH) (a0 : Nat) (a1 : Int32) (a2 : Int32) : gMet (zVm l D B O) m_X_tag 7 [.ref a0, .int a1, .int a2] G (f_X_tag G a0 a1 a2) := by
  refine gMet.of (by decide +kernel) (Nat.le_of_ble_eq_true rfl) [some (.ref a0), some (.int a1), some (.int a2)] (fun ls h => zEn_ok (n := 3) h) ?_
  intro o Gf h
  unfold f_X_tag at h
  refine Y.blk (pc' := 2) (L' := [some (.ref a0), some (.int a1), some (.int a2)]) (st' := [.int a1, .ref a0]) (sg := [(.aload_n 0, 0), (.iload_n 1, 0)]) (by decide +kernel) rfl ?_
  obtain ⟨_, o2, e1, m3, h⟩ := gOb_inv h
  refine Y.callN (yC.Vi (b := a0) (As := [.int a1]) (st := []) (r := ("Partlister", T_X, 5)) hV.1 cb_X_needList lk_X_23 in_X_needList rfl se_X_needList (by decide +kernel) rfl rfl (Nat.le_of_ble_eq_true rfl) (by decide) e1 m3) (k_X_needList hV G a0 a1) h (fun G4 _ h => ?_)
  refine Y.blk (pc' := 8) (L' := [some (.ref a0), some (.int a1), some (.int a2)]) (st' := [.int a2, .int a1, .ref a0]) (sg := [(.aload_n 0, 0), (.iload_n 1, 0), (.iload_n 2, 0)]) (by decide +kernel) rfl ?_
  obtain ⟨_, o6, e5, m7, h⟩ := gOb_inv h
  refine Y.callN (yC.Vi (b := a0) (As := [.int a1, .int a2]) (st := []) (r := ("Partlister", T_X, 5)) hV.1 cb_X_needPlace lk_X_58 in_X_needPlace rfl se_X_needPlace (by decide +kernel) rfl rfl (Nat.le_of_ble_eq_true rfl) (by decide) e5 m7) (k_X_needPlace hV G4 a0 a1 a2) h (fun G8 _ h => ?_)
  refine Y.blk (pc' := 12) (L' := [some (.ref a0), some (.int a1), some (.int a2)]) (st' := [.ref a0]) (sg := [(.aload_n 0, 0)]) (by decide +kernel) rfl ?_
  refine Y.getA fl_X_10 (by decide +kernel) h (fun v9 h => ?_)
  refine Y.blk (pc' := 17) (L' := [some (.ref a0), some (.int a1), some (.int a2)]) (st' := [.int a2, .int a1, .ref v9]) (sg := [(.iload_n 1, 0), (.iload_n 2, 0)]) (by decide +kernel) rfl ?_
  obtain ⟨_, o11, e10, m12, h⟩ := gOb_inv h
  refine Y.callI (yC.Vi (b := v9) (As := [.int a1, .int a2]) (st := []) (r := ("Partlister$Lists", T_I, 7)) hV.1 cb_I_thingAt lk_X_94 in_I_thingAt rfl se_I_thingAt (by decide +kernel) rfl rfl (Nat.le_of_ble_eq_true rfl) (by decide) e10 m12) (k_I_thingAt hV G8 v9 a1 a2) h (fun v14 G13 _ h => ?_)
  refine Y.callI (yC.S (As := [.int v14]) (st := []) hV.1 cb_X_tagOf lk_X_48 st_X_tagOf (by decide +kernel) rfl rfl (Nat.le_of_ble_eq_true rfl) (by decide)) (k_X_tagOf hV G13 v14) h (fun v17 G16 _ h => ?_)
  exact Y.iret rfl (by decide +kernel) h

def f_X_turn_L16 (K43 : gH → Int32 → gR) : Nat → gH → Nat → Int32 → Int32 → Int32 → gR
  | 0, _, _, _, _, _ => none
  | n + 1, G, x0, x1, x2, x3 =>
    gDiv x2 (nI 2) fun v11 => if v11 ≤ x3 then K43 G x2
    else gFA G x0 3 0 fun v12 => gOb G v12 1 fun o14 => bV (f_I_swap G v12 x1 x3 ((x2 - (nI 1)) - x3)) fun G16 => f_X_turn_L16 K43 n G16 x0 x1 x2 (x3 + (nI 1))
def f_X_turn (G : gH) (a0 : Nat) (a1 : Int32) : gR :=
  gOb G a0 3 fun o2 => bV (f_X_needList G a0 a1) fun G4 => gFA G4 a0 3 0 fun v5 => gOb G4 v5 1 fun o7 => bI (f_I_lengthOf G4 v5 a1) fun v10 G9 => f_X_turn_L16 (fun G19 x18 => rI x18 G19) zFu G9 a0 a1 v10 (nI 0)
theorem k_X_turn_L16 {l : Launch} {D : va_G} {B : Nat} {O : State → Heap → Prop} (hV : zG l D B O) {o : gO} {Gf : gH} (K43 : gH → Int32 → gR) (hK43 : ∀ (G : gH) (x2 : Int32), K43 G x2 = some (o, Gf) → Y (zVm l D B O) m_X_turn 7 o Gf 43 [none, none, some (.int x2), none] [] G) : ∀ (n : Nat) (G : gH) (x0 : Nat) (x1 : Int32) (x2 : Int32) (x3 : Int32), f_X_turn_L16 K43 n G x0 x1 x2 x3 = some (o, Gf) → Y (zVm l D B O) m_X_turn 7 o Gf 16 [some (.ref x0), some (.int x1), some (.int x2), some (.int x3)] [] G := by
  intro n
  induction n with
  | zero => intro G x0 x1 x2 x3 h; cases h
  | succ n ih =>
    intro G x0 x1 x2 x3 h
    unfold f_X_turn_L16 at h
    refine Y.blk (pc' := 19) (L' := [some (.ref x0), some (.int x1), some (.int x2), some (.int x3)]) (st' := [.int (nI 2), .int x2, .int x3]) (sg := [(.iload_n 3, 0), (.iload_n 2, 0), (.iconst 2, nI 2)]) (by decide +kernel) rfl ?_
    refine Y.idiv (by decide +kernel) h (fun v11 h => ?_)
    refine Y.ic_ge (off := 23) (tgt := 43) (by decide +kernel) (by decide) h (fun c17 h => ?_) (fun c17 h => ?_)
    · refine Y.less (L' := [none, none, some (.int x2), none]) (zLe_none (zLe_none (zLe_some (zLe_none (zLe_nil))))) ?_
      exact hK43 G x2 h
    · refine Y.blk (pc' := 24) (L' := [some (.ref x0), some (.int x1), some (.int x2), some (.int x3)]) (st' := [.ref x0]) (sg := [(.aload_n 0, 0)]) (by decide +kernel) rfl ?_
      refine Y.getA fl_X_10 (by decide +kernel) h (fun v12 h => ?_)
      refine Y.blk (pc' := 34) (L' := [some (.ref x0), some (.int x1), some (.int x2), some (.int x3)]) (st' := [.int ((x2 - (nI 1)) - x3), .int x3, .int x1, .ref v12]) (sg := [(.iload_n 1, 0), (.iload_n 3, 0), (.iload_n 2, 0), (.iconst 1, nI 1), (.isub, 0), (.iload_n 3, 0), (.isub, 0)]) (by decide +kernel) rfl ?_
      obtain ⟨_, o14, e13, m15, h⟩ := gOb_inv h
      refine Y.callN (yC.Vi (b := v12) (As := [.int x1, .int x3, .int ((x2 - (nI 1)) - x3)]) (st := []) (r := ("Partlister$Lists", T_I, 7)) hV.1 cb_I_swap lk_X_117 in_I_swap rfl se_I_swap (by decide +kernel) rfl rfl (Nat.le_of_ble_eq_true rfl) (by decide) e13 m15) (k_I_swap hV G v12 x1 x3 ((x2 - (nI 1)) - x3)) h (fun G16 _ h => ?_)
      refine Y.blk (pc' := 40) (L' := [some (.ref x0), some (.int x1), some (.int x2), some (.int (x3 + (nI 1)))]) (st' := []) (sg := [(.iinc 3 1, nI 1)]) (by decide +kernel) rfl ?_
      refine Y.goto (off := -24) (tgt := 16) (by decide +kernel) (by decide) ?_
      exact ih G16 x0 x1 x2 (x3 + (nI 1)) h
theorem k_X_turn {l : Launch} {D : va_G} {B : Nat} {O : State → Heap → Prop} (hV : zG l D B O) (G : gH) (a0 : Nat) (a1 : Int32) : gMet (zVm l D B O) m_X_turn 7 [.ref a0, .int a1] G (f_X_turn G a0 a1) := by
  refine gMet.of (by decide +kernel) (Nat.le_of_ble_eq_true rfl) [some (.ref a0), some (.int a1), none, none] (fun ls h => zEn_ok (n := 4) h) ?_
  intro o Gf h
  unfold f_X_turn at h
  refine Y.blk (pc' := 2) (L' := [some (.ref a0), some (.int a1), none, none]) (st' := [.int a1, .ref a0]) (sg := [(.aload_n 0, 0), (.iload_n 1, 0)]) (by decide +kernel) rfl ?_
  obtain ⟨_, o2, e1, m3, h⟩ := gOb_inv h
  refine Y.callN (yC.Vi (b := a0) (As := [.int a1]) (st := []) (r := ("Partlister", T_X, 5)) hV.1 cb_X_needList lk_X_23 in_X_needList rfl se_X_needList (by decide +kernel) rfl rfl (Nat.le_of_ble_eq_true rfl) (by decide) e1 m3) (k_X_needList hV G a0 a1) h (fun G4 _ h => ?_)
  refine Y.blk (pc' := 6) (L' := [some (.ref a0), some (.int a1), none, none]) (st' := [.ref a0]) (sg := [(.aload_n 0, 0)]) (by decide +kernel) rfl ?_
  refine Y.getA fl_X_10 (by decide +kernel) h (fun v5 h => ?_)
  refine Y.blk (pc' := 10) (L' := [some (.ref a0), some (.int a1), none, none]) (st' := [.int a1, .ref v5]) (sg := [(.iload_n 1, 0)]) (by decide +kernel) rfl ?_
  obtain ⟨_, o7, e6, m8, h⟩ := gOb_inv h
  refine Y.callI (yC.Vi (b := v5) (As := [.int a1]) (st := []) (r := ("Partlister$Lists", T_I, 7)) hV.1 cb_I_lengthOf lk_X_34 in_I_lengthOf rfl se_I_lengthOf (by decide +kernel) rfl rfl (Nat.le_of_ble_eq_true rfl) (by decide) e6 m8) (k_I_lengthOf hV G4 v5 a1) h (fun v10 G9 _ h => ?_)
  refine Y.blk (pc' := 16) (L' := [some (.ref a0), some (.int a1), some (.int v10), some (.int (nI 0))]) (st' := []) (sg := [(.istore_n 2, 0), (.iconst 0, nI 0), (.istore_n 3, 0)]) (by decide +kernel) rfl ?_
  refine k_X_turn_L16 hV _ ?_  zFu G9 a0 a1 v10 (nI 0) h
  · intro G19 x18 h
    refine Y.blk (pc' := 44) (L' := [none, none, some (.int x18), none]) (st' := [.int x18]) (sg := [(.iload_n 2, 0)]) (by decide +kernel) rfl ?_
    exact Y.iret rfl (by decide +kernel) h
end
