-- the class: its small methods over its cells
def cArr (σ : cS) (k : Nat) (f : Nat → Int32) : cS := (fun q => if q = k then f else σ.1 q, σ.2)
section Cls
variable {b : Nat} {σ : cS} {G : gH}
theorem cSet_arr {k i : Nat} {x : Int32} : cSet σ k i x = cArr σ k (upd (σ.1 k) i x) := rfl
theorem cArr_at {k : Nat} {f : Nat → Int32} : (cArr σ k f).1 k = f := if_pos rfl
theorem cArr_ne {k j : Nat} {f : Nat → Int32} (h : j ≠ k) : (cArr σ k f).1 j = σ.1 j := if_neg h
theorem cArr_id {k : Nat} : cArr σ k (σ.1 k) = σ := by
  refine Prod.ext ?_ rfl
  funext q
  show (if q = k then σ.1 k else σ.1 q) = σ.1 q
  by_cases e : q = k
  · rw [if_pos e, e]
  · rw [if_neg e]
theorem cArr_cArr {k : Nat} {f g : Nat → Int32} : cArr (cArr σ k f) k g = cArr σ k g := by
  refine Prod.ext ?_ rfl
  funext q
  show (if q = k then g else if q = k then f else σ.1 q) = if q = k then g else σ.1 q
  by_cases e : q = k
  · rw [if_pos e, if_pos e]
  · rw [if_neg e, if_neg e, if_neg e]
theorem cSetI_at {k : Nat} {x : Int32} : (cSetI σ k x).2 k = x := if_pos rfl
theorem cSetI_ne {k j : Nat} {x : Int32} (h : j ≠ k) : (cSetI σ k x).2 j = σ.2 j := if_neg h
theorem cSetI_id {k : Nat} : cSetI σ k (σ.2 k) = σ := by
  refine Prod.ext rfl ?_
  funext q
  show (if q = k then σ.2 k else σ.2 q) = σ.2 q
  by_cases e : q = k
  · rw [if_pos e, e]
  · rw [if_neg e]
theorem cSetI_arr {k j : Nat} {x : Int32} {f : Nat → Int32} : cSetI (cArr σ k f) j x = cArr (cSetI σ j x) k f := rfl
theorem cSetI_cSetI {k : Nat} {x y : Int32} : cSetI (cSetI σ k x) k y = cSetI σ k y := by
  refine Prod.ext rfl ?_
  funext q
  show (if q = k then y else if q = k then x else σ.2 q) = if q = k then y else σ.2 q
  by_cases e : q = k
  · rw [if_pos e, if_pos e]
  · rw [if_neg e, if_neg e, if_neg e]
theorem mB_if {α : Type} {p : Bool} {x y : α} : (if mB p = 0 then x else y) = if p = true then y else x := by
  cases p
  · rw [if_pos (show mB false = 0 from rfl), if_neg (by decide)]
  · rw [if_neg (show ¬ mB true = 0 by decide), if_pos rfl]
theorem rI_ite {c : Prop} [Decidable c] {x y : Int32} : (if c then rI x G else rI y G) = rI (if c then x else y) G := by split <;> rfl
theorem y_isThere {x : Int32} {t : Bool} (h : rd 6 (σ.1 1) x = -1 ↔ t = false) : f_I_isThere (cPut b σ G) (b + 1) x = rI (mB t) (cPut b σ G) := by
  simp only [f_I_isThere, c_ob_0, c_fa_0_0, c_fa_0_1, c_fi_0_2, c_put_0_2, c_fi_0_3, c_put_0_3, c_fi_0_4, c_put_0_4, c_ob_1, c_fa_1_0, c_fa_1_1, c_fa_1_2, c_fa_1_3, c_fa_1_4, c_fa_1_5, c_fi_1_6, c_put_1_6, c_ob_2, c_fa_2_0, c_ob_4, c_fa_4_0, c_ob_6, c_fa_6_0, c_ob_8, c_fa_8_0, c_ob_10, c_fa_10_0, c_ob_12, c_fa_12_0, c_ob_14, c_fa_14_0, c_fa_14_1, c_fa_14_2, c_fa_14_3, c_fi_14_4, c_put_14_4, c_ob_15, c_fa_15_0, c_ob_17, c_fa_17_0, c_ob_19, c_fa_19_0, c_ob_21, c_fa_21_0, c_len_0, c_ld_0, c_st_0, c_rd_0, c_wr_0, c_len_1, c_ld_1, c_st_1, c_rd_1, c_wr_1, c_len_2, c_ld_2, c_st_2, c_rd_2, c_wr_2, c_len_3, c_ld_3, c_st_3, c_rd_3, c_wr_3, c_len_4, c_ld_4, c_st_4, c_rd_4, c_wr_4, c_len_5, c_ld_5, c_st_5, c_rd_5, c_wr_5, c_len_6, c_ld_6, c_st_6, c_rd_6, c_wr_6, c_len_7, c_ld_7, c_st_7, c_rd_7, c_wr_7, c_len_8, c_ld_8, c_st_8, c_rd_8, c_wr_8, c_len_9, c_ld_9, c_st_9, c_rd_9, c_wr_9, bI_rI, bL_rL, bA_rA, bV_rV, bI_th, bL_th, bA_th, bV_th, rZ_0, rZ_1]
  cases t
  · rw [if_pos (h.mpr rfl)]; rfl
  · rw [if_neg (fun q => by cases h.mp q)]; rfl
theorem y_lengthOf {x : Int32} : f_I_lengthOf (cPut b σ G) (b + 1) x = rI (rd 6 (σ.1 1) x) (cPut b σ G) := by simp only [f_I_lengthOf, c_ob_0, c_fa_0_0, c_fa_0_1, c_fi_0_2, c_put_0_2, c_fi_0_3, c_put_0_3, c_fi_0_4, c_put_0_4, c_ob_1, c_fa_1_0, c_fa_1_1, c_fa_1_2, c_fa_1_3, c_fa_1_4, c_fa_1_5, c_fi_1_6, c_put_1_6, c_ob_2, c_fa_2_0, c_ob_4, c_fa_4_0, c_ob_6, c_fa_6_0, c_ob_8, c_fa_8_0, c_ob_10, c_fa_10_0, c_ob_12, c_fa_12_0, c_ob_14, c_fa_14_0, c_fa_14_1, c_fa_14_2, c_fa_14_3, c_fi_14_4, c_put_14_4, c_ob_15, c_fa_15_0, c_ob_17, c_fa_17_0, c_ob_19, c_fa_19_0, c_ob_21, c_fa_21_0, c_len_0, c_ld_0, c_st_0, c_rd_0, c_wr_0, c_len_1, c_ld_1, c_st_1, c_rd_1, c_wr_1, c_len_2, c_ld_2, c_st_2, c_rd_2, c_wr_2, c_len_3, c_ld_3, c_st_3, c_rd_3, c_wr_3, c_len_4, c_ld_4, c_st_4, c_rd_4, c_wr_4, c_len_5, c_ld_5, c_st_5, c_rd_5, c_wr_5, c_len_6, c_ld_6, c_st_6, c_rd_6, c_wr_6, c_len_7, c_ld_7, c_st_7, c_rd_7, c_wr_7, c_len_8, c_ld_8, c_st_8, c_rd_8, c_wr_8, c_len_9, c_ld_9, c_st_9, c_rd_9, c_wr_9, bI_rI, bL_rL, bA_rA, bV_rV, bI_th, bL_th, bA_th, bV_th, rZ_0, rZ_1]
theorem y_rowOf {x : Int32} : f_I_rowOf (cPut b σ G) (b + 1) x = rI (rd 6 (σ.1 3) x) (cPut b σ G) := by simp only [f_I_rowOf, c_ob_0, c_fa_0_0, c_fa_0_1, c_fi_0_2, c_put_0_2, c_fi_0_3, c_put_0_3, c_fi_0_4, c_put_0_4, c_ob_1, c_fa_1_0, c_fa_1_1, c_fa_1_2, c_fa_1_3, c_fa_1_4, c_fa_1_5, c_fi_1_6, c_put_1_6, c_ob_2, c_fa_2_0, c_ob_4, c_fa_4_0, c_ob_6, c_fa_6_0, c_ob_8, c_fa_8_0, c_ob_10, c_fa_10_0, c_ob_12, c_fa_12_0, c_ob_14, c_fa_14_0, c_fa_14_1, c_fa_14_2, c_fa_14_3, c_fi_14_4, c_put_14_4, c_ob_15, c_fa_15_0, c_ob_17, c_fa_17_0, c_ob_19, c_fa_19_0, c_ob_21, c_fa_21_0, c_len_0, c_ld_0, c_st_0, c_rd_0, c_wr_0, c_len_1, c_ld_1, c_st_1, c_rd_1, c_wr_1, c_len_2, c_ld_2, c_st_2, c_rd_2, c_wr_2, c_len_3, c_ld_3, c_st_3, c_rd_3, c_wr_3, c_len_4, c_ld_4, c_st_4, c_rd_4, c_wr_4, c_len_5, c_ld_5, c_st_5, c_rd_5, c_wr_5, c_len_6, c_ld_6, c_st_6, c_rd_6, c_wr_6, c_len_7, c_ld_7, c_st_7, c_rd_7, c_wr_7, c_len_8, c_ld_8, c_st_8, c_rd_8, c_wr_8, c_len_9, c_ld_9, c_st_9, c_rd_9, c_wr_9, bI_rI, bL_rL, bA_rA, bV_rV, bI_th, bL_th, bA_th, bV_th, rZ_0, rZ_1]
theorem y_cell {p r s i : Nat} (hp : p < 6) (h3 : σ.1 3 p = nI r) (h4 : σ.1 4 p = nI s) : f_I_cellOf (cPut b σ G) (b + 1) (nI p) (nI i) = rI (nI (31 * r + s + i)) (cPut b σ G) := by
  simp only [f_I_cellOf, c_ob_0, c_fa_0_0, c_fa_0_1, c_fi_0_2, c_put_0_2, c_fi_0_3, c_put_0_3, c_fi_0_4, c_put_0_4, c_ob_1, c_fa_1_0, c_fa_1_1, c_fa_1_2, c_fa_1_3, c_fa_1_4, c_fa_1_5, c_fi_1_6, c_put_1_6, c_ob_2, c_fa_2_0, c_ob_4, c_fa_4_0, c_ob_6, c_fa_6_0, c_ob_8, c_fa_8_0, c_ob_10, c_fa_10_0, c_ob_12, c_fa_12_0, c_ob_14, c_fa_14_0, c_fa_14_1, c_fa_14_2, c_fa_14_3, c_fi_14_4, c_put_14_4, c_ob_15, c_fa_15_0, c_ob_17, c_fa_17_0, c_ob_19, c_fa_19_0, c_ob_21, c_fa_21_0, c_len_0, c_ld_0, c_st_0, c_rd_0, c_wr_0, c_len_1, c_ld_1, c_st_1, c_rd_1, c_wr_1, c_len_2, c_ld_2, c_st_2, c_rd_2, c_wr_2, c_len_3, c_ld_3, c_st_3, c_rd_3, c_wr_3, c_len_4, c_ld_4, c_st_4, c_rd_4, c_wr_4, c_len_5, c_ld_5, c_st_5, c_rd_5, c_wr_5, c_len_6, c_ld_6, c_st_6, c_rd_6, c_wr_6, c_len_7, c_ld_7, c_st_7, c_rd_7, c_wr_7, c_len_8, c_ld_8, c_st_8, c_rd_8, c_wr_8, c_len_9, c_ld_9, c_st_9, c_rd_9, c_wr_9, bI_rI, bL_rL, bA_rA, bV_rV, bI_th, bL_th, bA_th, bV_th, rZ_0, rZ_1]
  rw [rd_nI hp (by decide), rd_nI hp (by decide), h3, h4, nI_mul, nI_add, nI_add, Nat.mul_comm r]
theorem y_thing {p r s i : Nat} (hp : p < 6) (h3 : σ.1 3 p = nI r) (h4 : σ.1 4 p = nI s) (hi : 31 * r + s + i < 62) : f_I_thingAt (cPut b σ G) (b + 1) (nI p) (nI i) = rI (σ.1 0 (31 * r + s + i)) (cPut b σ G) := by
  simp only [f_I_thingAt, c_ob_0, c_fa_0_0, c_fa_0_1, c_fi_0_2, c_put_0_2, c_fi_0_3, c_put_0_3, c_fi_0_4, c_put_0_4, c_ob_1, c_fa_1_0, c_fa_1_1, c_fa_1_2, c_fa_1_3, c_fa_1_4, c_fa_1_5, c_fi_1_6, c_put_1_6, c_ob_2, c_fa_2_0, c_ob_4, c_fa_4_0, c_ob_6, c_fa_6_0, c_ob_8, c_fa_8_0, c_ob_10, c_fa_10_0, c_ob_12, c_fa_12_0, c_ob_14, c_fa_14_0, c_fa_14_1, c_fa_14_2, c_fa_14_3, c_fi_14_4, c_put_14_4, c_ob_15, c_fa_15_0, c_ob_17, c_fa_17_0, c_ob_19, c_fa_19_0, c_ob_21, c_fa_21_0, c_len_0, c_ld_0, c_st_0, c_rd_0, c_wr_0, c_len_1, c_ld_1, c_st_1, c_rd_1, c_wr_1, c_len_2, c_ld_2, c_st_2, c_rd_2, c_wr_2, c_len_3, c_ld_3, c_st_3, c_rd_3, c_wr_3, c_len_4, c_ld_4, c_st_4, c_rd_4, c_wr_4, c_len_5, c_ld_5, c_st_5, c_rd_5, c_wr_5, c_len_6, c_ld_6, c_st_6, c_rd_6, c_wr_6, c_len_7, c_ld_7, c_st_7, c_rd_7, c_wr_7, c_len_8, c_ld_8, c_st_8, c_rd_8, c_wr_8, c_len_9, c_ld_9, c_st_9, c_rd_9, c_wr_9, bI_rI, bL_rL, bA_rA, bV_rV, bI_th, bL_th, bA_th, bV_th, rZ_0, rZ_1, y_cell hp h3 h4]
  rw [rd_nI hi (by decide)]
theorem y_key {p r s i : Nat} (hp : p < 6) (h3 : σ.1 3 p = nI r) (h4 : σ.1 4 p = nI s) (hi : 31 * r + s + i < 62) : f_I_keyAt (cPut b σ G) (b + 1) (nI p) (nI i) = rI (σ.1 0 (31 * r + s + i) &&& nI 31) (cPut b σ G) := by
  simp only [f_I_keyAt, f_X_keyOf, c_ob_0, c_fa_0_0, c_fa_0_1, c_fi_0_2, c_put_0_2, c_fi_0_3, c_put_0_3, c_fi_0_4, c_put_0_4, c_ob_1, c_fa_1_0, c_fa_1_1, c_fa_1_2, c_fa_1_3, c_fa_1_4, c_fa_1_5, c_fi_1_6, c_put_1_6, c_ob_2, c_fa_2_0, c_ob_4, c_fa_4_0, c_ob_6, c_fa_6_0, c_ob_8, c_fa_8_0, c_ob_10, c_fa_10_0, c_ob_12, c_fa_12_0, c_ob_14, c_fa_14_0, c_fa_14_1, c_fa_14_2, c_fa_14_3, c_fi_14_4, c_put_14_4, c_ob_15, c_fa_15_0, c_ob_17, c_fa_17_0, c_ob_19, c_fa_19_0, c_ob_21, c_fa_21_0, c_len_0, c_ld_0, c_st_0, c_rd_0, c_wr_0, c_len_1, c_ld_1, c_st_1, c_rd_1, c_wr_1, c_len_2, c_ld_2, c_st_2, c_rd_2, c_wr_2, c_len_3, c_ld_3, c_st_3, c_rd_3, c_wr_3, c_len_4, c_ld_4, c_st_4, c_rd_4, c_wr_4, c_len_5, c_ld_5, c_st_5, c_rd_5, c_wr_5, c_len_6, c_ld_6, c_st_6, c_rd_6, c_wr_6, c_len_7, c_ld_7, c_st_7, c_rd_7, c_wr_7, c_len_8, c_ld_8, c_st_8, c_rd_8, c_wr_8, c_len_9, c_ld_9, c_st_9, c_rd_9, c_wr_9, bI_rI, bL_rL, bA_rA, bV_rV, bI_th, bL_th, bA_th, bV_th, rZ_0, rZ_1, y_cell hp h3 h4]
  rw [rd_nI hi (by decide)]
theorem y_write {p r s i : Nat} {x : Int32} (hp : p < 6) (h3 : σ.1 3 p = nI r) (h4 : σ.1 4 p = nI s) (hi : 31 * r + s + i < 62) : f_I_write (cPut b σ G) (b + 1) (nI p) (nI i) x = rV (cPut b (cArr σ 0 (upd (σ.1 0) (31 * r + s + i) x)) G) := by
  simp only [f_I_write, c_ob_0, c_fa_0_0, c_fa_0_1, c_fi_0_2, c_put_0_2, c_fi_0_3, c_put_0_3, c_fi_0_4, c_put_0_4, c_ob_1, c_fa_1_0, c_fa_1_1, c_fa_1_2, c_fa_1_3, c_fa_1_4, c_fa_1_5, c_fi_1_6, c_put_1_6, c_ob_2, c_fa_2_0, c_ob_4, c_fa_4_0, c_ob_6, c_fa_6_0, c_ob_8, c_fa_8_0, c_ob_10, c_fa_10_0, c_ob_12, c_fa_12_0, c_ob_14, c_fa_14_0, c_fa_14_1, c_fa_14_2, c_fa_14_3, c_fi_14_4, c_put_14_4, c_ob_15, c_fa_15_0, c_ob_17, c_fa_17_0, c_ob_19, c_fa_19_0, c_ob_21, c_fa_21_0, c_len_0, c_ld_0, c_st_0, c_rd_0, c_wr_0, c_len_1, c_ld_1, c_st_1, c_rd_1, c_wr_1, c_len_2, c_ld_2, c_st_2, c_rd_2, c_wr_2, c_len_3, c_ld_3, c_st_3, c_rd_3, c_wr_3, c_len_4, c_ld_4, c_st_4, c_rd_4, c_wr_4, c_len_5, c_ld_5, c_st_5, c_rd_5, c_wr_5, c_len_6, c_ld_6, c_st_6, c_rd_6, c_wr_6, c_len_7, c_ld_7, c_st_7, c_rd_7, c_wr_7, c_len_8, c_ld_8, c_st_8, c_rd_8, c_wr_8, c_len_9, c_ld_9, c_st_9, c_rd_9, c_wr_9, bI_rI, bL_rL, bA_rA, bV_rV, bI_th, bL_th, bA_th, bV_th, rZ_0, rZ_1, y_cell hp h3 h4]
  rw [wr_nI hi (by decide), cSet_arr]
theorem y_finish {p : Nat} (hp : p < 6) : f_I_finish (cPut b σ G) (b + 1) (nI p) = rV (cPut b (cSetI (cArr σ 1 (upd (σ.1 1) p (-1))) 0 (σ.2 0 + nI 1)) G) := by
  simp only [f_I_finish, c_ob_0, c_fa_0_0, c_fa_0_1, c_fi_0_2, c_put_0_2, c_fi_0_3, c_put_0_3, c_fi_0_4, c_put_0_4, c_ob_1, c_fa_1_0, c_fa_1_1, c_fa_1_2, c_fa_1_3, c_fa_1_4, c_fa_1_5, c_fi_1_6, c_put_1_6, c_ob_2, c_fa_2_0, c_ob_4, c_fa_4_0, c_ob_6, c_fa_6_0, c_ob_8, c_fa_8_0, c_ob_10, c_fa_10_0, c_ob_12, c_fa_12_0, c_ob_14, c_fa_14_0, c_fa_14_1, c_fa_14_2, c_fa_14_3, c_fi_14_4, c_put_14_4, c_ob_15, c_fa_15_0, c_ob_17, c_fa_17_0, c_ob_19, c_fa_19_0, c_ob_21, c_fa_21_0, c_len_0, c_ld_0, c_st_0, c_rd_0, c_wr_0, c_len_1, c_ld_1, c_st_1, c_rd_1, c_wr_1, c_len_2, c_ld_2, c_st_2, c_rd_2, c_wr_2, c_len_3, c_ld_3, c_st_3, c_rd_3, c_wr_3, c_len_4, c_ld_4, c_st_4, c_rd_4, c_wr_4, c_len_5, c_ld_5, c_st_5, c_rd_5, c_wr_5, c_len_6, c_ld_6, c_st_6, c_rd_6, c_wr_6, c_len_7, c_ld_7, c_st_7, c_rd_7, c_wr_7, c_len_8, c_ld_8, c_st_8, c_rd_8, c_wr_8, c_len_9, c_ld_9, c_st_9, c_rd_9, c_wr_9, bI_rI, bL_rL, bA_rA, bV_rV, bI_th, bL_th, bA_th, bV_th, rZ_0, rZ_1]
  rw [wr_nI hp (by decide)]; rfl
theorem y_state {x : Int32} : f_U_stateOf (cPut b σ G) (b + 14) x = rI (rd 3 (σ.1 6) x) (cPut b σ G) := by simp only [f_U_stateOf, c_ob_0, c_fa_0_0, c_fa_0_1, c_fi_0_2, c_put_0_2, c_fi_0_3, c_put_0_3, c_fi_0_4, c_put_0_4, c_ob_1, c_fa_1_0, c_fa_1_1, c_fa_1_2, c_fa_1_3, c_fa_1_4, c_fa_1_5, c_fi_1_6, c_put_1_6, c_ob_2, c_fa_2_0, c_ob_4, c_fa_4_0, c_ob_6, c_fa_6_0, c_ob_8, c_fa_8_0, c_ob_10, c_fa_10_0, c_ob_12, c_fa_12_0, c_ob_14, c_fa_14_0, c_fa_14_1, c_fa_14_2, c_fa_14_3, c_fi_14_4, c_put_14_4, c_ob_15, c_fa_15_0, c_ob_17, c_fa_17_0, c_ob_19, c_fa_19_0, c_ob_21, c_fa_21_0, c_len_0, c_ld_0, c_st_0, c_rd_0, c_wr_0, c_len_1, c_ld_1, c_st_1, c_rd_1, c_wr_1, c_len_2, c_ld_2, c_st_2, c_rd_2, c_wr_2, c_len_3, c_ld_3, c_st_3, c_rd_3, c_wr_3, c_len_4, c_ld_4, c_st_4, c_rd_4, c_wr_4, c_len_5, c_ld_5, c_st_5, c_rd_5, c_wr_5, c_len_6, c_ld_6, c_st_6, c_rd_6, c_wr_6, c_len_7, c_ld_7, c_st_7, c_rd_7, c_wr_7, c_len_8, c_ld_8, c_st_8, c_rd_8, c_wr_8, c_len_9, c_ld_9, c_st_9, c_rd_9, c_wr_9, bI_rI, bL_rL, bA_rA, bV_rV, bI_th, bL_th, bA_th, bV_th, rZ_0, rZ_1]
theorem y_listOf {x : Int32} : f_U_listOf (cPut b σ G) (b + 14) x = rI (rd 3 (σ.1 7) x) (cPut b σ G) := by simp only [f_U_listOf, c_ob_0, c_fa_0_0, c_fa_0_1, c_fi_0_2, c_put_0_2, c_fi_0_3, c_put_0_3, c_fi_0_4, c_put_0_4, c_ob_1, c_fa_1_0, c_fa_1_1, c_fa_1_2, c_fa_1_3, c_fa_1_4, c_fa_1_5, c_fi_1_6, c_put_1_6, c_ob_2, c_fa_2_0, c_ob_4, c_fa_4_0, c_ob_6, c_fa_6_0, c_ob_8, c_fa_8_0, c_ob_10, c_fa_10_0, c_ob_12, c_fa_12_0, c_ob_14, c_fa_14_0, c_fa_14_1, c_fa_14_2, c_fa_14_3, c_fi_14_4, c_put_14_4, c_ob_15, c_fa_15_0, c_ob_17, c_fa_17_0, c_ob_19, c_fa_19_0, c_ob_21, c_fa_21_0, c_len_0, c_ld_0, c_st_0, c_rd_0, c_wr_0, c_len_1, c_ld_1, c_st_1, c_rd_1, c_wr_1, c_len_2, c_ld_2, c_st_2, c_rd_2, c_wr_2, c_len_3, c_ld_3, c_st_3, c_rd_3, c_wr_3, c_len_4, c_ld_4, c_st_4, c_rd_4, c_wr_4, c_len_5, c_ld_5, c_st_5, c_rd_5, c_wr_5, c_len_6, c_ld_6, c_st_6, c_rd_6, c_wr_6, c_len_7, c_ld_7, c_st_7, c_rd_7, c_wr_7, c_len_8, c_ld_8, c_st_8, c_rd_8, c_wr_8, c_len_9, c_ld_9, c_st_9, c_rd_9, c_wr_9, bI_rI, bL_rL, bA_rA, bV_rV, bI_th, bL_th, bA_th, bV_th, rZ_0, rZ_1]
theorem y_nextOf {x : Int32} : f_U_nextOf (cPut b σ G) (b + 14) x = rI (rd 3 (σ.1 8) x) (cPut b σ G) := by simp only [f_U_nextOf, c_ob_0, c_fa_0_0, c_fa_0_1, c_fi_0_2, c_put_0_2, c_fi_0_3, c_put_0_3, c_fi_0_4, c_put_0_4, c_ob_1, c_fa_1_0, c_fa_1_1, c_fa_1_2, c_fa_1_3, c_fa_1_4, c_fa_1_5, c_fi_1_6, c_put_1_6, c_ob_2, c_fa_2_0, c_ob_4, c_fa_4_0, c_ob_6, c_fa_6_0, c_ob_8, c_fa_8_0, c_ob_10, c_fa_10_0, c_ob_12, c_fa_12_0, c_ob_14, c_fa_14_0, c_fa_14_1, c_fa_14_2, c_fa_14_3, c_fi_14_4, c_put_14_4, c_ob_15, c_fa_15_0, c_ob_17, c_fa_17_0, c_ob_19, c_fa_19_0, c_ob_21, c_fa_21_0, c_len_0, c_ld_0, c_st_0, c_rd_0, c_wr_0, c_len_1, c_ld_1, c_st_1, c_rd_1, c_wr_1, c_len_2, c_ld_2, c_st_2, c_rd_2, c_wr_2, c_len_3, c_ld_3, c_st_3, c_rd_3, c_wr_3, c_len_4, c_ld_4, c_st_4, c_rd_4, c_wr_4, c_len_5, c_ld_5, c_st_5, c_rd_5, c_wr_5, c_len_6, c_ld_6, c_st_6, c_rd_6, c_wr_6, c_len_7, c_ld_7, c_st_7, c_rd_7, c_wr_7, c_len_8, c_ld_8, c_st_8, c_rd_8, c_wr_8, c_len_9, c_ld_9, c_st_9, c_rd_9, c_wr_9, bI_rI, bL_rL, bA_rA, bV_rV, bI_th, bL_th, bA_th, bV_th, rZ_0, rZ_1]
theorem y_lastOf {x : Int32} : f_U_lastOf (cPut b σ G) (b + 14) x = rI (rd 3 (σ.1 9) x) (cPut b σ G) := by simp only [f_U_lastOf, c_ob_0, c_fa_0_0, c_fa_0_1, c_fi_0_2, c_put_0_2, c_fi_0_3, c_put_0_3, c_fi_0_4, c_put_0_4, c_ob_1, c_fa_1_0, c_fa_1_1, c_fa_1_2, c_fa_1_3, c_fa_1_4, c_fa_1_5, c_fi_1_6, c_put_1_6, c_ob_2, c_fa_2_0, c_ob_4, c_fa_4_0, c_ob_6, c_fa_6_0, c_ob_8, c_fa_8_0, c_ob_10, c_fa_10_0, c_ob_12, c_fa_12_0, c_ob_14, c_fa_14_0, c_fa_14_1, c_fa_14_2, c_fa_14_3, c_fi_14_4, c_put_14_4, c_ob_15, c_fa_15_0, c_ob_17, c_fa_17_0, c_ob_19, c_fa_19_0, c_ob_21, c_fa_21_0, c_len_0, c_ld_0, c_st_0, c_rd_0, c_wr_0, c_len_1, c_ld_1, c_st_1, c_rd_1, c_wr_1, c_len_2, c_ld_2, c_st_2, c_rd_2, c_wr_2, c_len_3, c_ld_3, c_st_3, c_rd_3, c_wr_3, c_len_4, c_ld_4, c_st_4, c_rd_4, c_wr_4, c_len_5, c_ld_5, c_st_5, c_rd_5, c_wr_5, c_len_6, c_ld_6, c_st_6, c_rd_6, c_wr_6, c_len_7, c_ld_7, c_st_7, c_rd_7, c_wr_7, c_len_8, c_ld_8, c_st_8, c_rd_8, c_wr_8, c_len_9, c_ld_9, c_st_9, c_rd_9, c_wr_9, bI_rI, bL_rL, bA_rA, bV_rV, bI_th, bL_th, bA_th, bV_th, rZ_0, rZ_1]
theorem y_isStale {x : Int32} : f_U_isStale (cPut b σ G) (b + 14) x = rI (mB (decide (rd 3 (σ.1 6) x = nI 2))) (cPut b σ G) := by
  simp only [f_U_isStale, c_ob_0, c_fa_0_0, c_fa_0_1, c_fi_0_2, c_put_0_2, c_fi_0_3, c_put_0_3, c_fi_0_4, c_put_0_4, c_ob_1, c_fa_1_0, c_fa_1_1, c_fa_1_2, c_fa_1_3, c_fa_1_4, c_fa_1_5, c_fi_1_6, c_put_1_6, c_ob_2, c_fa_2_0, c_ob_4, c_fa_4_0, c_ob_6, c_fa_6_0, c_ob_8, c_fa_8_0, c_ob_10, c_fa_10_0, c_ob_12, c_fa_12_0, c_ob_14, c_fa_14_0, c_fa_14_1, c_fa_14_2, c_fa_14_3, c_fi_14_4, c_put_14_4, c_ob_15, c_fa_15_0, c_ob_17, c_fa_17_0, c_ob_19, c_fa_19_0, c_ob_21, c_fa_21_0, c_len_0, c_ld_0, c_st_0, c_rd_0, c_wr_0, c_len_1, c_ld_1, c_st_1, c_rd_1, c_wr_1, c_len_2, c_ld_2, c_st_2, c_rd_2, c_wr_2, c_len_3, c_ld_3, c_st_3, c_rd_3, c_wr_3, c_len_4, c_ld_4, c_st_4, c_rd_4, c_wr_4, c_len_5, c_ld_5, c_st_5, c_rd_5, c_wr_5, c_len_6, c_ld_6, c_st_6, c_rd_6, c_wr_6, c_len_7, c_ld_7, c_st_7, c_rd_7, c_wr_7, c_len_8, c_ld_8, c_st_8, c_rd_8, c_wr_8, c_len_9, c_ld_9, c_st_9, c_rd_9, c_wr_9, bI_rI, bL_rL, bA_rA, bV_rV, bI_th, bL_th, bA_th, bV_th, rZ_0, rZ_1]
  by_cases h : rd 3 (σ.1 6) x = nI 2
  · rw [if_pos h, decide_eq_true h]; rfl
  · rw [if_neg h, decide_eq_false h]; rfl
theorem y_cThere {x : Int32} : f_U_isThere (cPut b σ G) (b + 14) x = rI (mB (decide (rd 3 (σ.1 6) x = nI 2 ∨ rd 3 (σ.1 6) x = nI 1))) (cPut b σ G) := by
  simp only [f_U_isThere, y_isStale, mB_if, c_ob_0, c_fa_0_0, c_fa_0_1, c_fi_0_2, c_put_0_2, c_fi_0_3, c_put_0_3, c_fi_0_4, c_put_0_4, c_ob_1, c_fa_1_0, c_fa_1_1, c_fa_1_2, c_fa_1_3, c_fa_1_4, c_fa_1_5, c_fi_1_6, c_put_1_6, c_ob_2, c_fa_2_0, c_ob_4, c_fa_4_0, c_ob_6, c_fa_6_0, c_ob_8, c_fa_8_0, c_ob_10, c_fa_10_0, c_ob_12, c_fa_12_0, c_ob_14, c_fa_14_0, c_fa_14_1, c_fa_14_2, c_fa_14_3, c_fi_14_4, c_put_14_4, c_ob_15, c_fa_15_0, c_ob_17, c_fa_17_0, c_ob_19, c_fa_19_0, c_ob_21, c_fa_21_0, c_len_0, c_ld_0, c_st_0, c_rd_0, c_wr_0, c_len_1, c_ld_1, c_st_1, c_rd_1, c_wr_1, c_len_2, c_ld_2, c_st_2, c_rd_2, c_wr_2, c_len_3, c_ld_3, c_st_3, c_rd_3, c_wr_3, c_len_4, c_ld_4, c_st_4, c_rd_4, c_wr_4, c_len_5, c_ld_5, c_st_5, c_rd_5, c_wr_5, c_len_6, c_ld_6, c_st_6, c_rd_6, c_wr_6, c_len_7, c_ld_7, c_st_7, c_rd_7, c_wr_7, c_len_8, c_ld_8, c_st_8, c_rd_8, c_wr_8, c_len_9, c_ld_9, c_st_9, c_rd_9, c_wr_9, bI_rI, bL_rL, bA_rA, bV_rV, bI_th, bL_th, bA_th, bV_th, rZ_0, rZ_1]
  by_cases h : rd 3 (σ.1 6) x = nI 2
  · rw [if_pos (decide_eq_true h), decide_eq_true (Or.inl h)]; rfl
  · rw [if_neg (by rw [decide_eq_false h]; decide)]
    by_cases h1 : rd 3 (σ.1 6) x = nI 1
    · rw [if_pos h1, decide_eq_true (Or.inr h1)]; rfl
    · rw [if_neg h1, decide_eq_false (fun q => q.elim h h1)]; rfl
theorem y_cFinish {c : Nat} (hc : c < 3) : f_U_finish (cPut b σ G) (b + 14) (nI c) = rV (cPut b (cSetI (cArr σ 6 (upd (σ.1 6) c (nI 0))) 1 (σ.2 1 + nI 1)) G) := by
  simp only [f_U_finish, c_ob_0, c_fa_0_0, c_fa_0_1, c_fi_0_2, c_put_0_2, c_fi_0_3, c_put_0_3, c_fi_0_4, c_put_0_4, c_ob_1, c_fa_1_0, c_fa_1_1, c_fa_1_2, c_fa_1_3, c_fa_1_4, c_fa_1_5, c_fi_1_6, c_put_1_6, c_ob_2, c_fa_2_0, c_ob_4, c_fa_4_0, c_ob_6, c_fa_6_0, c_ob_8, c_fa_8_0, c_ob_10, c_fa_10_0, c_ob_12, c_fa_12_0, c_ob_14, c_fa_14_0, c_fa_14_1, c_fa_14_2, c_fa_14_3, c_fi_14_4, c_put_14_4, c_ob_15, c_fa_15_0, c_ob_17, c_fa_17_0, c_ob_19, c_fa_19_0, c_ob_21, c_fa_21_0, c_len_0, c_ld_0, c_st_0, c_rd_0, c_wr_0, c_len_1, c_ld_1, c_st_1, c_rd_1, c_wr_1, c_len_2, c_ld_2, c_st_2, c_rd_2, c_wr_2, c_len_3, c_ld_3, c_st_3, c_rd_3, c_wr_3, c_len_4, c_ld_4, c_st_4, c_rd_4, c_wr_4, c_len_5, c_ld_5, c_st_5, c_rd_5, c_wr_5, c_len_6, c_ld_6, c_st_6, c_rd_6, c_wr_6, c_len_7, c_ld_7, c_st_7, c_rd_7, c_wr_7, c_len_8, c_ld_8, c_st_8, c_rd_8, c_wr_8, c_len_9, c_ld_9, c_st_9, c_rd_9, c_wr_9, bI_rI, bL_rL, bA_rA, bV_rV, bI_th, bL_th, bA_th, bV_th, rZ_0, rZ_1]
  rw [wr_nI hc (by decide)]; rfl
theorem y_unsettle {c i : Nat} (hc : c < 3) (hi : i < 6) (h7 : σ.1 7 c = nI i) : f_U_unsettle (cPut b σ G) (b + 14) (nI c) =
    rV (cPut b (if i < 2 then cArr σ 6 (upd (σ.1 6) c (nI 2)) else cSetI (cArr σ 6 (upd (σ.1 6) c (nI 0))) 1 (σ.2 1 + nI 1)) G) := by
  simp only [f_U_unsettle, y_listOf, y_cFinish hc, c_ob_0, c_fa_0_0, c_fa_0_1, c_fi_0_2, c_put_0_2, c_fi_0_3, c_put_0_3, c_fi_0_4, c_put_0_4, c_ob_1, c_fa_1_0, c_fa_1_1, c_fa_1_2, c_fa_1_3, c_fa_1_4, c_fa_1_5, c_fi_1_6, c_put_1_6, c_ob_2, c_fa_2_0, c_ob_4, c_fa_4_0, c_ob_6, c_fa_6_0, c_ob_8, c_fa_8_0, c_ob_10, c_fa_10_0, c_ob_12, c_fa_12_0, c_ob_14, c_fa_14_0, c_fa_14_1, c_fa_14_2, c_fa_14_3, c_fi_14_4, c_put_14_4, c_ob_15, c_fa_15_0, c_ob_17, c_fa_17_0, c_ob_19, c_fa_19_0, c_ob_21, c_fa_21_0, c_len_0, c_ld_0, c_st_0, c_rd_0, c_wr_0, c_len_1, c_ld_1, c_st_1, c_rd_1, c_wr_1, c_len_2, c_ld_2, c_st_2, c_rd_2, c_wr_2, c_len_3, c_ld_3, c_st_3, c_rd_3, c_wr_3, c_len_4, c_ld_4, c_st_4, c_rd_4, c_wr_4, c_len_5, c_ld_5, c_st_5, c_rd_5, c_wr_5, c_len_6, c_ld_6, c_st_6, c_rd_6, c_wr_6, c_len_7, c_ld_7, c_st_7, c_rd_7, c_wr_7, c_len_8, c_ld_8, c_st_8, c_rd_8, c_wr_8, c_len_9, c_ld_9, c_st_9, c_rd_9, c_wr_9, bI_rI, bL_rL, bA_rA, bV_rV, bI_th, bL_th, bA_th, bV_th, rZ_0, rZ_1]
  rw [rd_nI hc (by decide), h7, wr_nI hc (by decide), cSet_arr]
  by_cases h2 : i < 2
  · rw [if_neg (nI_ge h2 (by decide)), if_pos h2]
  · rw [if_pos (nI_le (by omega) (by omega)), if_neg h2]
theorem y_stand {c : Nat} {x y : Int32} (hc : c < 3) : f_U_stand (cPut b σ G) (b + 14) (nI c) x y = rV (cPut b (cArr (cArr σ 8 (upd (σ.1 8) c x)) 9 (upd (σ.1 9) c y)) G) := by
  simp only [f_U_stand, c_ob_0, c_fa_0_0, c_fa_0_1, c_fi_0_2, c_put_0_2, c_fi_0_3, c_put_0_3, c_fi_0_4, c_put_0_4, c_ob_1, c_fa_1_0, c_fa_1_1, c_fa_1_2, c_fa_1_3, c_fa_1_4, c_fa_1_5, c_fi_1_6, c_put_1_6, c_ob_2, c_fa_2_0, c_ob_4, c_fa_4_0, c_ob_6, c_fa_6_0, c_ob_8, c_fa_8_0, c_ob_10, c_fa_10_0, c_ob_12, c_fa_12_0, c_ob_14, c_fa_14_0, c_fa_14_1, c_fa_14_2, c_fa_14_3, c_fi_14_4, c_put_14_4, c_ob_15, c_fa_15_0, c_ob_17, c_fa_17_0, c_ob_19, c_fa_19_0, c_ob_21, c_fa_21_0, c_len_0, c_ld_0, c_st_0, c_rd_0, c_wr_0, c_len_1, c_ld_1, c_st_1, c_rd_1, c_wr_1, c_len_2, c_ld_2, c_st_2, c_rd_2, c_wr_2, c_len_3, c_ld_3, c_st_3, c_rd_3, c_wr_3, c_len_4, c_ld_4, c_st_4, c_rd_4, c_wr_4, c_len_5, c_ld_5, c_st_5, c_rd_5, c_wr_5, c_len_6, c_ld_6, c_st_6, c_rd_6, c_wr_6, c_len_7, c_ld_7, c_st_7, c_rd_7, c_wr_7, c_len_8, c_ld_8, c_st_8, c_rd_8, c_wr_8, c_len_9, c_ld_9, c_st_9, c_rd_9, c_wr_9, bI_rI, bL_rL, bA_rA, bV_rV, bI_th, bL_th, bA_th, bV_th, rZ_0, rZ_1]
  rw [wr_nI hc (by decide), wr_nI hc (by decide), cSet_arr, cSet_arr, cArr_ne (by decide)]
theorem y_start {c : Nat} {x y : Int32} (hc : c < 3) : f_U_start (cPut b σ G) (b + 14) (nI c) x y = rV (cPut b (cArr (cArr (cArr (cArr σ 6 (upd (σ.1 6) c (nI 1))) 7 (upd (σ.1 7) c x)) 8 (upd (σ.1 8) c y)) 9 (upd (σ.1 9) c (-1))) G) := by
  simp only [f_U_start, y_stand hc, c_ob_0, c_fa_0_0, c_fa_0_1, c_fi_0_2, c_put_0_2, c_fi_0_3, c_put_0_3, c_fi_0_4, c_put_0_4, c_ob_1, c_fa_1_0, c_fa_1_1, c_fa_1_2, c_fa_1_3, c_fa_1_4, c_fa_1_5, c_fi_1_6, c_put_1_6, c_ob_2, c_fa_2_0, c_ob_4, c_fa_4_0, c_ob_6, c_fa_6_0, c_ob_8, c_fa_8_0, c_ob_10, c_fa_10_0, c_ob_12, c_fa_12_0, c_ob_14, c_fa_14_0, c_fa_14_1, c_fa_14_2, c_fa_14_3, c_fi_14_4, c_put_14_4, c_ob_15, c_fa_15_0, c_ob_17, c_fa_17_0, c_ob_19, c_fa_19_0, c_ob_21, c_fa_21_0, c_len_0, c_ld_0, c_st_0, c_rd_0, c_wr_0, c_len_1, c_ld_1, c_st_1, c_rd_1, c_wr_1, c_len_2, c_ld_2, c_st_2, c_rd_2, c_wr_2, c_len_3, c_ld_3, c_st_3, c_rd_3, c_wr_3, c_len_4, c_ld_4, c_st_4, c_rd_4, c_wr_4, c_len_5, c_ld_5, c_st_5, c_rd_5, c_wr_5, c_len_6, c_ld_6, c_st_6, c_rd_6, c_wr_6, c_len_7, c_ld_7, c_st_7, c_rd_7, c_wr_7, c_len_8, c_ld_8, c_st_8, c_rd_8, c_wr_8, c_len_9, c_ld_9, c_st_9, c_rd_9, c_wr_9, bI_rI, bL_rL, bA_rA, bV_rV, bI_th, bL_th, bA_th, bV_th, rZ_0, rZ_1]
  rw [wr_nI hc (by decide), wr_nI hc (by decide), cSet_arr, cSet_arr, cArr_ne (by decide)]; rfl
-- how the arrays tell of the parts
abbrev mP : Type := Nat → Option (Nat × Nat × Nat)
def cHa (f : Nat → Int32) (P : mP) : Prop := (∀ r, r < 2 → f r = -1) ∧ ∀ p x, P p = some x → f p = nI x.1
def cHp (f3 f4 : Nat → Int32) (P : mP) : Prop := ∀ p r s, p < 6 → mRw P zDp p = some (r, s) → f3 p = nI r ∧ f4 p = nI s
def cHl (f : Nat → Int32) (P : mP) : Prop := ∀ p, 2 ≤ p → p < 6 → (f p = -1 ↔ P p = none)
theorem mOk.rank4 {P : mP} (h : mOk P) : ∃ ρ : Nat → Nat, (∀ q, P q ≠ none → ρ q < 4) ∧ ∀ q x, P q = some x → x.1 < 2 ∨ (P x.1 ≠ none ∧ ρ x.1 < ρ q) := by
  obtain ⟨hd, ρ, -, h2⟩ := h
  let t : Nat → Nat → Nat := fun s n => if P s ≠ none ∧ ρ s < n then 1 else 0
  have tm : ∀ s n m, n ≤ m → t s n ≤ t s m := by
    intro s n m hnm
    show (if _ then 1 else 0) ≤ (if _ then 1 else 0)
    by_cases h1 : P s ≠ none ∧ ρ s < n
    · rw [if_pos h1, if_pos ⟨h1.1, by omega⟩]; exact Nat.le_refl _
    · rw [if_neg h1]; exact Nat.zero_le _
  have t1 : ∀ s n, t s n ≤ 1 := by
    intro s n
    show (if _ then 1 else 0) ≤ 1
    split <;> omega
  have t0 : ∀ s, t s (ρ s) = 0 := by
    intro s
    show (if _ then 1 else 0) = 0
    exact if_neg (fun k => Nat.lt_irrefl _ k.2)
  have tp : ∀ s n, P s ≠ none → ρ s < n → t s n = 1 := fun s n a c => if_pos ⟨a, c⟩
  refine ⟨fun q => t 2 (ρ q) + t 3 (ρ q) + t 4 (ρ q) + t 5 (ρ q), fun q hq => ?_, fun q x hx => ?_⟩
  · cases hx : P q with
    | none => exact absurd hx hq
    | some x =>
      have := hd q x hx
      have a2 := t1 2 (ρ q)
      have a3 := t1 3 (ρ q)
      have a4 := t1 4 (ρ q)
      have a5 := t1 5 (ρ q)
      have a0 := t0 q
      show t 2 (ρ q) + t 3 (ρ q) + t 4 (ρ q) + t 5 (ρ q) < 4
      rcases (by omega : q = 2 ∨ q = 3 ∨ q = 4 ∨ q = 5) with rfl | rfl | rfl | rfl <;> omega
  · rcases h2 q x hx with z | z
    · exact Or.inl z
    · refine Or.inr ⟨z.1, ?_⟩
      cases hy : P x.1 with
      | none => exact absurd hy z.1
      | some y =>
        have := hd x.1 y hy
        have a2 := tm 2 (ρ x.1) (ρ q) (by have := z.2; omega)
        have a3 := tm 3 (ρ x.1) (ρ q) (by have := z.2; omega)
        have a4 := tm 4 (ρ x.1) (ρ q) (by have := z.2; omega)
        have a5 := tm 5 (ρ x.1) (ρ q) (by have := z.2; omega)
        have b0 := t0 x.1
        have b1 := tp x.1 (ρ q) z.1 z.2
        show t 2 (ρ x.1) + t 3 (ρ x.1) + t 4 (ρ x.1) + t 5 (ρ x.1) < t 2 (ρ q) + t 3 (ρ q) + t 4 (ρ q) + t 5 (ρ q)
        generalize x.1 = v at *
        rcases (by omega : v = 2 ∨ v = 3 ∨ v = 4 ∨ v = 5) with rfl | rfl | rfl | rfl <;> omega
/-- few steps lead to the row -/
theorem mRw5 {P : mP} (h : mOk P) {p : Nat} (hp : p < 2 ∨ P p ≠ none) {r s : Nat} (hr : mRw P zDp p = some (r, s)) : mRw P 5 p = some (r, s) := by
  obtain ⟨ρ, h1, h2⟩ := h.rank4
  have key : ∀ (d p : Nat), (p < 2 ∧ 1 ≤ d) ∨ (P p ≠ none ∧ ρ p + 2 ≤ d) → ∃ v, mRw P d p = some v := by
    intro d
    induction d with
    | zero => intro p h; omega
    | succ d ih =>
      intro p h
      unfold mRw
      by_cases hp : p < 2
      · exact ⟨_, if_pos hp⟩
      · rw [if_neg hp]
        cases hq : P p with
        | none => rcases h with h | h; · omega
                  · exact absurd hq h.1
        | some x =>
          obtain ⟨o', f, l⟩ := x
          have hk : (o' < 2 ∧ 1 ≤ d) ∨ (P o' ≠ none ∧ ρ o' + 2 ≤ d) := by
            rcases h2 p _ hq with k | k
            · refine Or.inl ⟨k, ?_⟩
              rcases h with h | h <;> omega
            · refine Or.inr ⟨k.1, ?_⟩
              have := k.2
              rcases h with h | h <;> simp only at this <;> omega
          obtain ⟨v, e⟩ := ih o' hk
          exact ⟨(v.1, f + v.2), by simp only [e]; rfl⟩
  obtain ⟨v, e⟩ := key 5 p (hp.elim (fun k => Or.inl ⟨k, by omega⟩) (fun k => Or.inr ⟨k, by have := h1 p k; omega⟩))
  have e3 := mRw_mono _ _ _ (mRw_mono _ _ _ (mRw_mono _ _ _ e))
  rw [e, ← hr]; exact e3.symm
theorem mAb_mono {P : mP} : ∀ (d p : Nat) (v : Nat × Nat), mRw P d p = some v → ∀ q, mAb P (d + 1) q p = mAb P d q p
  | 0, _, _, h, _ => by cases h
  | d + 1, p, v, h, q => by
    unfold mRw at h
    unfold mAb
    by_cases h1 : q = p
    · rw [if_pos h1, if_pos h1]
    · rw [if_neg h1, if_neg h1]
      by_cases h2 : p < 2
      · rw [if_pos h2, if_pos h2]
      · rw [if_neg h2] at h
        rw [if_neg h2, if_neg h2]
        cases hP : P p with
        | none => rfl
        | some x =>
          obtain ⟨o, f, l⟩ := x
          rw [hP] at h
          simp only at h ⊢
          cases hr : mRw P d o with
          | none => rw [hr] at h; cases h
          | some y => exact mAb_mono d o y hr q
theorem mAb5 {P : mP} {p : Nat} {v : Nat × Nat} (h : mRw P 5 p = some v) (q : Nat) : mAb P zDp q p = mAb P 5 q p := by
  show mAb P (5 + 1 + 1 + 1) q p = _
  rw [mAb_mono _ _ _ (mRw_mono _ _ _ (mRw_mono _ _ _ h)), mAb_mono _ _ _ (mRw_mono _ _ _ h), mAb_mono _ _ _ h]
theorem mAb_s {P : mP} {d q p : Nat} : mAb P (d + 1) q p = if q = p then true else if p < 2 then false else match P p with
    | none => false
    | some y => mAb P d q y.1 := rfl
theorem y_lengthenL {K : gH → gR} {z : Int32} {P : mP} {ρ : Nat → Nat} (hρ : ∀ q x, P q = some x → x.1 < 2 ∨ (P x.1 ≠ none ∧ ρ x.1 < ρ q)) (hd : mDom P) : ∀ (d n p j : Nat) (v : Nat × Nat) (σ : cS), mRw P d p = some v → p < 6 → d + j ≤ 6 → d < n → cHa (σ.1 2) P →
    f_I_lengthen_L5 K n (cPut b σ G) (b + 1) z (nI p) (nI j) = K (cPut b (cArr σ 1 (fun q => if mAb P d q p = true then σ.1 1 q + z else σ.1 1 q)) G)
  | 0, _, _, _, _, _, h, _, _, _, _ => by cases h
  | _ + 1, 0, _, _, _, _, _, _, _, h, _ => by omega
  | d + 1, n + 1, p, j, v, σ, h, hp, hj, hn, ha => by
    unfold f_I_lengthen_L5
    rw [if_neg (nI_ge (by omega) (by decide)), if_neg (nI_ne1 (by omega))]
    simp only [c_ob_0, c_fa_0_0, c_fa_0_1, c_fi_0_2, c_put_0_2, c_fi_0_3, c_put_0_3, c_fi_0_4, c_put_0_4, c_ob_1, c_fa_1_0, c_fa_1_1, c_fa_1_2, c_fa_1_3, c_fa_1_4, c_fa_1_5, c_fi_1_6, c_put_1_6, c_ob_2, c_fa_2_0, c_ob_4, c_fa_4_0, c_ob_6, c_fa_6_0, c_ob_8, c_fa_8_0, c_ob_10, c_fa_10_0, c_ob_12, c_fa_12_0, c_ob_14, c_fa_14_0, c_fa_14_1, c_fa_14_2, c_fa_14_3, c_fi_14_4, c_put_14_4, c_ob_15, c_fa_15_0, c_ob_17, c_fa_17_0, c_ob_19, c_fa_19_0, c_ob_21, c_fa_21_0, c_len_0, c_ld_0, c_st_0, c_rd_0, c_wr_0, c_len_1, c_ld_1, c_st_1, c_rd_1, c_wr_1, c_len_2, c_ld_2, c_st_2, c_rd_2, c_wr_2, c_len_3, c_ld_3, c_st_3, c_rd_3, c_wr_3, c_len_4, c_ld_4, c_st_4, c_rd_4, c_wr_4, c_len_5, c_ld_5, c_st_5, c_rd_5, c_wr_5, c_len_6, c_ld_6, c_st_6, c_rd_6, c_wr_6, c_len_7, c_ld_7, c_st_7, c_rd_7, c_wr_7, c_len_8, c_ld_8, c_st_8, c_rd_8, c_wr_8, c_len_9, c_ld_9, c_st_9, c_rd_9, c_wr_9, bI_rI, bL_rL, bA_rA, bV_rV, bI_th, bL_th, bA_th, bV_th, rZ_0, rZ_1]
    rw [rd_nI hp (by decide), wr_nI hp (by decide), cSet_arr, cArr_ne (by decide), rd_nI hp (by decide), nI_add]
    unfold mRw at h
    by_cases h2 : p < 2
    · rw [ha.1 p h2]
      have e : (fun q => if mAb P (d + 1) q p = true then σ.1 1 q + z else σ.1 1 q) = upd (σ.1 1) p (σ.1 1 p + z) := by
        funext q
        rw [mAb_s]
        simp only [upd]
        by_cases e : q = p
        · rw [if_pos e, if_pos rfl, if_pos e, e]
        · rw [if_neg e, if_pos h2, if_neg (by decide), if_neg e]
      rw [e]
      cases n with
      | zero => omega
      | succ n =>
        unfold f_I_lengthen_L5
        rw [if_pos rfl]
        split <;> rfl
    · rw [if_neg h2] at h
      cases hP : P p with
      | none => rw [hP] at h; cases h
      | some x =>
        rw [hP] at h
        obtain ⟨o, f, l⟩ := x
        simp only at h
        cases hr : mRw P d o with
        | none => rw [hr] at h; cases h
        | some y =>
          have ho : o < 6 := by
            rcases hρ p _ hP with k | k
            · simp only at k; omega
            · cases hy : P o with
              | none => exact absurd hy k.1
              | some y => exact (hd o y hy).2
          rw [ha.2 p _ hP, y_lengthenL hρ hd d n o (j + 1) y (cArr σ 1 (upd (σ.1 1) p (σ.1 1 p + z))) hr ho (by omega) (by omega) (by rw [cArr_ne (by decide)]; exact ha), cArr_cArr, cArr_at]
          congr 3
          funext q
          rw [mAb_s]
          by_cases e : q = p
          · subst e
            rw [if_pos rfl, if_pos rfl]
            have hno : mAb P d q o = false := by
              cases hb : mAb P d q o with
              | false => rfl
              | true =>
                have := mAb_rank hρ d q o (by omega) hb
                rcases hρ q _ hP with k | k
                · simp only at k; omega
                · have := k.2; simp only at this; omega
            rw [hno, if_neg (by decide)]
            simp [upd]
          · rw [if_neg e, if_neg h2, hP]
            simp only [upd, if_neg e]
theorem y_lengthen {z : Int32} {P : mP} {p : Nat} (hok : mOk P) (hp : p < 6) (hv : p < 2 ∨ P p ≠ none) (ha : cHa (σ.1 2) P) :
    f_I_lengthen (cPut b σ G) (b + 1) (nI p) z = rV (cPut b (cArr σ 1 (fun q => if mAb P zDp q p = true then σ.1 1 q + z else σ.1 1 q)) G) := by
  obtain ⟨r, s, hr⟩ := hok.rw' hv
  have h5 := mRw5 hok hv hr
  obtain ⟨hd, ρ, -, hρ⟩ := hok
  unfold f_I_lengthen
  rw [y_lengthenL hρ hd 5 zFu p 0 _ σ h5 hp (by omega) (by unfold zFu; omega) ha]
  simp only [mAb5 h5]
theorem y_withinM {K : gH → Int32 → Int32 → gR} {x : Nat} (hx : x < 2 ^ 31) : ∀ (k n j : Nat), j + k = 6 → k < n → f_I_isWithin_L5 K n (cPut b σ G) (b + 1) (nI x) (-1) (nI j) = K (cPut b σ G) (nI x) (-1)
  | _, 0, _, _, h => absurd h (Nat.not_lt_zero _)
  | 0, n + 1, j, hj, _ => by
    unfold f_I_isWithin_L5
    rw [if_pos (nI_le (by omega) (by omega))]
  | k + 1, n + 1, j, hj, hn => by
    unfold f_I_isWithin_L5
    rw [if_neg (nI_ge (by omega) (by decide)), if_neg (fun e => nI_ne1 hx e.symm)]
    simp only [c_ob_0, c_fa_0_0, c_fa_0_1, c_fi_0_2, c_put_0_2, c_fi_0_3, c_put_0_3, c_fi_0_4, c_put_0_4, c_ob_1, c_fa_1_0, c_fa_1_1, c_fa_1_2, c_fa_1_3, c_fa_1_4, c_fa_1_5, c_fi_1_6, c_put_1_6, c_ob_2, c_fa_2_0, c_ob_4, c_fa_4_0, c_ob_6, c_fa_6_0, c_ob_8, c_fa_8_0, c_ob_10, c_fa_10_0, c_ob_12, c_fa_12_0, c_ob_14, c_fa_14_0, c_fa_14_1, c_fa_14_2, c_fa_14_3, c_fi_14_4, c_put_14_4, c_ob_15, c_fa_15_0, c_ob_17, c_fa_17_0, c_ob_19, c_fa_19_0, c_ob_21, c_fa_21_0, c_len_0, c_ld_0, c_st_0, c_rd_0, c_wr_0, c_len_1, c_ld_1, c_st_1, c_rd_1, c_wr_1, c_len_2, c_ld_2, c_st_2, c_rd_2, c_wr_2, c_len_3, c_ld_3, c_st_3, c_rd_3, c_wr_3, c_len_4, c_ld_4, c_st_4, c_rd_4, c_wr_4, c_len_5, c_ld_5, c_st_5, c_rd_5, c_wr_5, c_len_6, c_ld_6, c_st_6, c_rd_6, c_wr_6, c_len_7, c_ld_7, c_st_7, c_rd_7, c_wr_7, c_len_8, c_ld_8, c_st_8, c_rd_8, c_wr_8, c_len_9, c_ld_9, c_st_9, c_rd_9, c_wr_9, bI_rI, bL_rL, bA_rA, bV_rV, bI_th, bL_th, bA_th, bV_th, rZ_0, rZ_1]
    rw [rd_m1, nI_add, y_withinM hx k n (j + 1) (by omega) (by omega)]
theorem y_withinL {K : gH → Int32 → Int32 → gR} {P : mP} {x : Nat} (hx : x < 6) (hok : mOk P) (ha : cHa (σ.1 2) P) : ∀ (d n p j : Nat) (v : Nat × Nat), mRw P d p = some v → p < 6 → d + j ≤ 6 → 7 < n + j →
    ∃ y, f_I_isWithin_L5 K n (cPut b σ G) (b + 1) (nI x) (nI p) (nI j) = K (cPut b σ G) (nI x) y ∧ (y = nI x ↔ mAb P d x p = true)
  | 0, _, _, _, _, h, _, _, _ => by cases h
  | _ + 1, 0, _, _, _, _, _, _, h => by omega
  | d + 1, n + 1, p, j, v, h, hp, hj, hn => by
    unfold f_I_isWithin_L5
    rw [if_neg (nI_ge (by omega) (by decide))]
    unfold mRw at h
    unfold mAb
    by_cases hxp : x = p
    · rw [if_pos (by rw [hxp]), if_pos hxp]
      exact ⟨_, rfl, fun _ => rfl, fun _ => by rw [hxp]⟩
    · rw [if_neg (fun e => hxp ((nI_eq (by omega) (by omega)).mp e).symm), if_neg hxp]
      simp only [c_ob_0, c_fa_0_0, c_fa_0_1, c_fi_0_2, c_put_0_2, c_fi_0_3, c_put_0_3, c_fi_0_4, c_put_0_4, c_ob_1, c_fa_1_0, c_fa_1_1, c_fa_1_2, c_fa_1_3, c_fa_1_4, c_fa_1_5, c_fi_1_6, c_put_1_6, c_ob_2, c_fa_2_0, c_ob_4, c_fa_4_0, c_ob_6, c_fa_6_0, c_ob_8, c_fa_8_0, c_ob_10, c_fa_10_0, c_ob_12, c_fa_12_0, c_ob_14, c_fa_14_0, c_fa_14_1, c_fa_14_2, c_fa_14_3, c_fi_14_4, c_put_14_4, c_ob_15, c_fa_15_0, c_ob_17, c_fa_17_0, c_ob_19, c_fa_19_0, c_ob_21, c_fa_21_0, c_len_0, c_ld_0, c_st_0, c_rd_0, c_wr_0, c_len_1, c_ld_1, c_st_1, c_rd_1, c_wr_1, c_len_2, c_ld_2, c_st_2, c_rd_2, c_wr_2, c_len_3, c_ld_3, c_st_3, c_rd_3, c_wr_3, c_len_4, c_ld_4, c_st_4, c_rd_4, c_wr_4, c_len_5, c_ld_5, c_st_5, c_rd_5, c_wr_5, c_len_6, c_ld_6, c_st_6, c_rd_6, c_wr_6, c_len_7, c_ld_7, c_st_7, c_rd_7, c_wr_7, c_len_8, c_ld_8, c_st_8, c_rd_8, c_wr_8, c_len_9, c_ld_9, c_st_9, c_rd_9, c_wr_9, bI_rI, bL_rL, bA_rA, bV_rV, bI_th, bL_th, bA_th, bV_th, rZ_0, rZ_1]
      rw [rd_nI hp (by decide), nI_add]
      by_cases h2 : p < 2
      · rw [ha.1 p h2, if_pos h2, y_withinM (by omega) (6 - (j + 1)) n (j + 1) (by omega) (by omega)]
        refine ⟨-1, rfl, fun e => absurd e.symm (nI_ne1 (by omega)), fun e => by cases e⟩
      · rw [if_neg h2] at h
        rw [if_neg h2]
        cases hP : P p with
        | none => rw [hP] at h; cases h
        | some y =>
          rw [hP] at h
          obtain ⟨o, f, l⟩ := y
          simp only at h ⊢
          cases hr : mRw P d o with
          | none => rw [hr] at h; cases h
          | some y =>
            have ho : o < 6 := by
              rcases hok.cl p _ hP with k | k
              · simp only at k; omega
              · cases hy : P o with
                | none => exact absurd hy k
                | some y => exact (hok.1 o y hy).2
            rw [ha.2 p _ hP]
            exact y_withinL hx hok ha d n o (j + 1) y hr ho (by omega) (by omega)
theorem y_isWithin {P : mP} {p x : Nat} (hok : mOk P) (ha : cHa (σ.1 2) P) (hp : p < 6) (hv : p < 2 ∨ P p ≠ none) (hx : x < 6) : f_I_isWithin (cPut b σ G) (b + 1) (nI p) (nI x) = rI (mB (mAb P zDp x p)) (cPut b σ G) := by
  obtain ⟨r, s, hr⟩ := hok.rw' hv
  have h5 := mRw5 hok hv hr
  unfold f_I_isWithin
  obtain ⟨y, e1, e2⟩ := y_withinL (b := b) (G := G) (σ := σ) (K := fun G11 x9 x10 => if x10 = x9 then rZ (nI 1) G11 else rZ (nI 0) G11) hx hok ha 5 zFu p 0 _ h5 hp (by omega) (by unfold zFu; omega)
  rw [e1, mAb5 h5]
  cases hb : mAb P 5 x p with
  | true =>
    rw [if_pos (e2.mpr hb)]; rw [rZ_1]; rfl
  | false =>
    rw [if_neg (fun q => by rw [e2.mp q] at hb; cases hb), rZ_0]; rfl
end Cls
