section
-- the class: what ends
section Ends
variable {b : Nat} {G : gH}
def eC (P : mP) (r p q : Nat) : Bool := (P q).isSome && (decide (mRo P q = r) && !mAb P zDp q p)
def eW (P : mP) (x q : Nat) : Bool := (P q).isSome && mAb P zDp x q
def eCt (C : Nat → Bool) : Nat → Nat → Nat
  | _, 0 => 0
  | j, k + 1 => (if C j = true then 1 else 0) + eCt C (j + 1) k
def cAI (σ : cS) (k i : Nat) (f : Nat → Int32) (v : Int32) : cS := cSetI (cArr σ k f) i v
theorem cAI_at {σ : cS} {k i : Nat} {f : Nat → Int32} {v : Int32} : (cAI σ k i f v).1 k = f := if_pos rfl
theorem cAI_ne {σ : cS} {k i j : Nat} {f : Nat → Int32} {v : Int32} (h : j ≠ k) : (cAI σ k i f v).1 j = σ.1 j := if_neg h
theorem cAI_i {σ : cS} {k i : Nat} {f : Nat → Int32} {v : Int32} : (cAI σ k i f v).2 i = v := if_pos rfl
theorem cAI_ine {σ : cS} {k i j : Nat} {f : Nat → Int32} {v : Int32} (h : j ≠ i) : (cAI σ k i f v).2 j = σ.2 j := if_neg h
theorem cAI_cAI {σ : cS} {k i : Nat} {f g : Nat → Int32} {v u : Int32} : cAI (cAI σ k i f v) k i g u = cAI σ k i g u := by
  unfold cAI
  rw [cSetI_arr, cSetI_arr, cSetI_arr, cArr_cArr, cSetI_cSetI]
  rfl
theorem cAI_same {σ : cS} {k i : Nat} {f : Nat → Int32} {v : Int32} (hf : f = σ.1 k) (hv : v = σ.2 i) : cAI σ k i f v = σ := by
  unfold cAI
  rw [hf, hv, cSetI_arr, cSetI_id, cArr_id]
theorem cAI_eq {σ : cS} {k i : Nat} {f g : Nat → Int32} {v u : Int32} (hf : f = g) (hv : v = u) : cAI σ k i f v = cAI σ k i g u := by rw [hf, hv]
theorem cK {α : Type} {K : gH → α → gR} {σ τ : cS} {x y : α} (hs : σ = τ) (hx : x = y) : K (cPut b σ G) x = K (cPut b τ G) y := by rw [hs, hx]
theorem cK1 {K : gH → gR} {σ τ : cS} (hs : σ = τ) : K (cPut b σ G) = K (cPut b τ G) := by rw [hs]
theorem y_endOthersL {K : gH → Int32 → gR} {P : mP} {r p s : Nat} (hok : mOk P) (hp : p < 6) (hv : p < 2 ∨ P p ≠ none) (hr : mRw P zDp p = some (r, s)) : ∀ (k n j c : Nat) (σ : cS), 2 ≤ j → j + k = 6 → k < n → cHa (σ.1 2) P → cHp (σ.1 3) (σ.1 4) P → (∀ q, j ≤ q → q < 6 → (σ.1 1 q = -1 ↔ P q = none)) →
    f_I_endOthers_L4 K n (cPut b σ G) (b + 1) (nI p) (nI c) (nI j) = K (cPut b (cAI σ 1 0 (fun q => if j ≤ q ∧ q < 6 ∧ eC P r p q = true then -1 else σ.1 1 q) (σ.2 0 + nI (eCt (eC P r p) j k))) G) (nI (c + eCt (eC P r p) j k))
  | _, 0, _, _, _, _, _, h, _, _, _ => absurd h (Nat.not_lt_zero _)
  | 0, n + 1, j, c, σ, hj2, hj, _, ha, h3, hl => by
    unfold f_I_endOthers_L4
    rw [if_pos (nI_le (by omega) (by omega))]
    exact (cK (cAI_same (funext fun q => if_neg (by omega)) (add_nI0 _)) rfl).symm
  | k + 1, n + 1, j, c, σ, hj2, hj, hn, ha, h3, hl => by
    have ih := y_endOthersL (K := K) hok hp hv hr k n (j + 1)
    have hj6 : j < 6 := by omega
    have hth := hl j (Nat.le_refl _) hj6
    unfold f_I_endOthers_L4
    rw [if_neg (nI_ge hj6 (by decide)), c_ob_1]
    have skip : ∀ c, eC P r p j = false → K (cPut b (cAI σ 1 0 (fun q => if j + 1 ≤ q ∧ q < 6 ∧ eC P r p q = true then -1 else σ.1 1 q) (σ.2 0 + nI (eCt (eC P r p) (j + 1) k))) G) (nI (c + eCt (eC P r p) (j + 1) k)) =
        K (cPut b (cAI σ 1 0 (fun q => if j ≤ q ∧ q < 6 ∧ eC P r p q = true then -1 else σ.1 1 q) (σ.2 0 + nI (eCt (eC P r p) j (k + 1)))) G) (nI (c + eCt (eC P r p) j (k + 1))) := by
      intro c hc
      have e : eCt (eC P r p) j (k + 1) = eCt (eC P r p) (j + 1) k := by
        show (if eC P r p j = true then 1 else 0) + _ = _
        rw [hc, if_neg (by decide), Nat.zero_add]
      rw [e]
      refine cK (cAI_eq (funext fun q => ?_) rfl) rfl
      by_cases hq : q = j
      · rw [hq, if_neg (by omega), if_neg (fun z => by rw [hc] at z; exact absurd z.2.2 (by decide))]
      · by_cases hz : j ≤ q ∧ q < 6 ∧ eC P r p q = true
        · rw [if_pos ⟨by omega, hz.2⟩, if_pos hz]
        · rw [if_neg (fun z => hz ⟨by omega, z.2⟩), if_neg hz]
    cases hP : P j with
    | none =>
      rw [y_isThere (t := false) (by rw [rd_nI hj6 (by decide)]; exact ⟨fun _ => rfl, fun _ => hth.mpr hP⟩), bI_rI, mB_if, if_neg (by decide), nI_add, ih c σ (by omega) (by omega) (by omega) ha h3 (fun q hq => hl q (by omega))]
      exact skip c (by unfold eC; rw [hP]; rfl)
    | some x =>
      have hPj : P j ≠ none := by rw [hP]; exact Option.some_ne_none _
      obtain ⟨rj, sj, hrj⟩ := hok.rw' (p := j) (Or.inr hPj)
      have e3 := (h3 j rj sj hj6 hrj).1
      have e4 := (h3 p r s hp hr).1
      have l1 := mRw_lt _ _ _ _ hrj
      have l2 := mRw_lt _ _ _ _ hr
      have hro : mRo P j = rj := mRo_of hrj
      rw [y_isThere (t := true) (by rw [rd_nI hj6 (by decide)]; exact ⟨fun q => absurd (hth.mp q) hPj, fun q => by cases q⟩), bI_rI, mB_if, if_pos rfl, c_ob_1, y_rowOf, bI_rI, c_ob_1, y_rowOf, bI_rI, rd_nI hj6 (by decide), rd_nI hp (by decide), e3, e4]
      by_cases hrr : rj = r
      · rw [if_pos (by rw [hrr]), c_ob_1, y_isWithin hok ha hp hv hj6, bI_rI, mB_if]
        by_cases hab : mAb P zDp j p = true
        · rw [if_pos hab, nI_add, ih c σ (by omega) (by omega) (by omega) ha h3 (fun q hq => hl q (by omega))]
          exact skip c (by unfold eC; rw [hab]; simp)
        · have hab' : mAb P zDp j p = false := Bool.eq_false_iff.mpr hab
          have hc : eC P r p j = true := by unfold eC; rw [hab', hP, hro, hrr]; simp
          have e : eCt (eC P r p) j (k + 1) = 1 + eCt (eC P r p) (j + 1) k := by
            show (if eC P r p j = true then 1 else 0) + _ = _
            rw [if_pos hc]
          rw [if_neg hab, c_ob_1, y_finish hj6, bV_rV, nI_add, nI_add]
          have := ih (c + 1) (cAI σ 1 0 (upd (σ.1 1) j (-1)) (σ.2 0 + nI 1)) (by omega) (by omega) (by omega) (by rw [cAI_ne (by decide)]; exact ha) (by rw [cAI_ne (by decide), cAI_ne (by decide)]; exact h3) (fun q hq h6 => by
            rw [cAI_at]
            simp only [upd]
            rw [if_neg (by omega)]
            exact hl q (by omega) h6)
          rw [show cSetI (cArr σ 1 (upd (σ.1 1) j (-1))) 0 (σ.2 0 + nI 1) = cAI σ 1 0 (upd (σ.1 1) j (-1)) (σ.2 0 + nI 1) from rfl, this, cAI_cAI, cAI_at, cAI_i, add_nI, e]
          refine cK (cAI_eq (funext fun q => ?_) rfl) (congrArg nI (by omega))
          · skip
            simp only [upd]
            by_cases hq : q = j
            · rw [hq, if_neg (by omega), if_pos rfl, if_pos ⟨Nat.le_refl _, hj6, hc⟩]
            · rw [if_neg hq]
              by_cases hz : j ≤ q ∧ q < 6 ∧ eC P r p q = true
              · rw [if_pos ⟨by omega, hz.2⟩, if_pos hz]
              · rw [if_neg (fun z => hz ⟨by omega, z.2⟩), if_neg hz]
      · rw [if_neg (fun q => hrr ((nI_eq (by omega) (by omega)).mp q)), nI_add, ih c σ (by omega) (by omega) (by omega) ha h3 (fun q hq => hl q (by omega))]
        exact skip c (by unfold eC; rw [hro, decide_eq_false hrr]; simp)
theorem y_endOthers {P : mP} {σ : cS} {r p s : Nat} (hok : mOk P) (hp : p < 6) (hv : p < 2 ∨ P p ≠ none) (hr : mRw P zDp p = some (r, s)) (ha : cHa (σ.1 2) P) (h3 : cHp (σ.1 3) (σ.1 4) P) (hl : cHl (σ.1 1) P) :
    f_I_endOthers (cPut b σ G) (b + 1) (nI p) = rI (nI (eCt (eC P r p) 2 4)) (cPut b (cAI σ 1 0 (fun q => if 2 ≤ q ∧ q < 6 ∧ eC P r p q = true then -1 else σ.1 1 q) (σ.2 0 + nI (eCt (eC P r p) 2 4))) G) := by
  unfold f_I_endOthers
  rw [y_endOthersL hok hp hv hr 4 zFu 2 0 σ (by omega) (by omega) (by unfold zFu; omega) ha h3 (fun q h2 h6 => hl q h2 h6), Nat.zero_add]
theorem y_endWithinL {K : gH → Int32 → gR} {P : mP} {p : Nat} (hok : mOk P) (hp : p < 6) : ∀ (k n j c : Nat) (σ : cS), 2 ≤ j → j + k = 6 → k < n → cHa (σ.1 2) P → (∀ q, j ≤ q → q < 6 → (σ.1 1 q = -1 ↔ P q = none)) →
    f_I_endWithin_L4 K n (cPut b σ G) (b + 1) (nI p) (nI c) (nI j) = K (cPut b (cAI σ 1 0 (fun q => if j ≤ q ∧ q < 6 ∧ eW P p q = true then -1 else σ.1 1 q) (σ.2 0 + nI (eCt (eW P p) j k))) G) (nI (c + eCt (eW P p) j k))
  | _, 0, _, _, _, _, _, h, _, _ => absurd h (Nat.not_lt_zero _)
  | 0, n + 1, j, c, σ, hj2, hj, _, ha, hl => by
    unfold f_I_endWithin_L4
    rw [if_pos (nI_le (by omega) (by omega))]
    exact (cK (cAI_same (funext fun q => if_neg (by omega)) (add_nI0 _)) rfl).symm
  | k + 1, n + 1, j, c, σ, hj2, hj, hn, ha, hl => by
    have ih := y_endWithinL (K := K) hok hp k n (j + 1)
    have hj6 : j < 6 := by omega
    have hth := hl j (Nat.le_refl _) hj6
    unfold f_I_endWithin_L4
    rw [if_neg (nI_ge hj6 (by decide)), c_ob_1]
    have skip : ∀ c, eW P p j = false → K (cPut b (cAI σ 1 0 (fun q => if j + 1 ≤ q ∧ q < 6 ∧ eW P p q = true then -1 else σ.1 1 q) (σ.2 0 + nI (eCt (eW P p) (j + 1) k))) G) (nI (c + eCt (eW P p) (j + 1) k)) =
        K (cPut b (cAI σ 1 0 (fun q => if j ≤ q ∧ q < 6 ∧ eW P p q = true then -1 else σ.1 1 q) (σ.2 0 + nI (eCt (eW P p) j (k + 1)))) G) (nI (c + eCt (eW P p) j (k + 1))) := by
      intro c hc
      have e : eCt (eW P p) j (k + 1) = eCt (eW P p) (j + 1) k := by
        show (if eW P p j = true then 1 else 0) + _ = _
        rw [hc, if_neg (by decide), Nat.zero_add]
      rw [e]
      refine cK (cAI_eq (funext fun q => ?_) rfl) rfl
      by_cases hq : q = j
      · rw [hq, if_neg (by omega), if_neg (fun z => by rw [hc] at z; exact absurd z.2.2 (by decide))]
      · by_cases hz : j ≤ q ∧ q < 6 ∧ eW P p q = true
        · rw [if_pos ⟨by omega, hz.2⟩, if_pos hz]
        · rw [if_neg (fun z => hz ⟨by omega, z.2⟩), if_neg hz]
    cases hP : P j with
    | none =>
      rw [y_isThere (t := false) (by rw [rd_nI hj6 (by decide)]; exact ⟨fun _ => rfl, fun _ => hth.mpr hP⟩), bI_rI, mB_if, if_neg (by decide), nI_add, ih c σ (by omega) (by omega) (by omega) ha (fun q hq => hl q (by omega))]
      exact skip c (by unfold eW; rw [hP]; rfl)
    | some x =>
      have hPj : P j ≠ none := by rw [hP]; exact Option.some_ne_none _
      rw [y_isThere (t := true) (by rw [rd_nI hj6 (by decide)]; exact ⟨fun q => absurd (hth.mp q) hPj, fun q => by cases q⟩), bI_rI, mB_if, if_pos rfl, c_ob_1, y_isWithin hok ha hj6 (Or.inr hPj) hp, bI_rI, mB_if]
      by_cases hab : mAb P zDp p j = true
      · have hc : eW P p j = true := by unfold eW; rw [hab, hP]; rfl
        have e : eCt (eW P p) j (k + 1) = 1 + eCt (eW P p) (j + 1) k := by
          show (if eW P p j = true then 1 else 0) + _ = _
          rw [if_pos hc]
        rw [if_pos hab, c_ob_1, y_finish hj6, bV_rV, nI_add, nI_add]
        have := ih (c + 1) (cAI σ 1 0 (upd (σ.1 1) j (-1)) (σ.2 0 + nI 1)) (by omega) (by omega) (by omega) (by rw [cAI_ne (by decide)]; exact ha) (fun q hq h6 => by
          rw [cAI_at]
          simp only [upd]
          rw [if_neg (by omega)]
          exact hl q (by omega) h6)
        rw [show cSetI (cArr σ 1 (upd (σ.1 1) j (-1))) 0 (σ.2 0 + nI 1) = cAI σ 1 0 (upd (σ.1 1) j (-1)) (σ.2 0 + nI 1) from rfl, this, cAI_cAI, cAI_at, cAI_i, add_nI, e]
        refine cK (cAI_eq (funext fun q => ?_) rfl) (congrArg nI (by omega))
        · skip
          simp only [upd]
          by_cases hq : q = j
          · rw [hq, if_neg (by omega), if_pos rfl, if_pos ⟨Nat.le_refl _, hj6, hc⟩]
          · rw [if_neg hq]
            by_cases hz : j ≤ q ∧ q < 6 ∧ eW P p q = true
            · rw [if_pos ⟨by omega, hz.2⟩, if_pos hz]
            · rw [if_neg (fun z => hz ⟨by omega, z.2⟩), if_neg hz]
      · rw [if_neg hab, nI_add, ih c σ (by omega) (by omega) (by omega) ha (fun q hq => hl q (by omega))]
        exact skip c (by unfold eW; rw [Bool.eq_false_iff.mpr hab]; simp)
theorem y_endWithin {P : mP} {σ : cS} {p : Nat} (hok : mOk P) (hp : p < 6) (ha : cHa (σ.1 2) P) (hl : cHl (σ.1 1) P) :
    f_I_endWithin (cPut b σ G) (b + 1) (nI p) = rI (nI (eCt (eW P p) 2 4)) (cPut b (cAI σ 1 0 (fun q => if 2 ≤ q ∧ q < 6 ∧ eW P p q = true then -1 else σ.1 1 q) (σ.2 0 + nI (eCt (eW P p) 2 4))) G) := by
  unfold f_I_endWithin
  rw [y_endWithinL hok hp 4 zFu 2 0 σ (by omega) (by omega) (by unfold zFu; omega) ha (fun q h2 h6 => hl q h2 h6), Nat.zero_add]
-- cursors
abbrev mC : Type := Nat → Option (Nat × Nat × Int32 × Int32)
/-- how the arrays tell of a cursor -/
def cHc (f6 f7 f8 f9 : Nat → Int32) (C : mC) : Prop := ∀ c, c < 3 → match C c with
  | none => f6 c = nI 0
  | some x => f6 c = (if x.2.2.2 = 0 then nI 1 else nI 2) ∧ f7 c = nI x.1 ∧ f8 c = nI x.2.1 ∧ f9 c = x.2.2.1
def cOn (f6 f7 : Nat → Int32) (C : mC) (c : Nat) : Prop := match C c with
  | none => f6 c = nI 0
  | some x => (f6 c = nI 1 ∨ f6 c = nI 2) ∧ f7 c = nI x.1 ∧ x.1 < 6
theorem cHc.on {f6 f7 f8 f9 : Nat → Int32} {C : mC} (h : cHc f6 f7 f8 f9 C) {c : Nat} (hc : c < 3) (h6 : ∀ x, C c = some x → x.1 < 6) : cOn f6 f7 C c := by
  have := h c hc
  unfold cOn
  cases hx : C c with
  | none => rw [hx] at this; exact this
  | some x =>
    rw [hx] at this
    simp only at this ⊢
    refine ⟨?_, this.2.1, h6 x hx⟩
    rw [this.1]
    split
    · exact Or.inl rfl
    · exact Or.inr rfl
def cRr (R : Nat → Nat) (r : Nat) (C : mC) (c : Nat) : Bool := match C c with
  | none => false
  | some x => decide (R x.1 = r)
theorem y_isOnRowOf {σ : cS} {C : mC} {R : Nat → Nat} {c p r : Nat} (hc : c < 3) (h : cOn (σ.1 6) (σ.1 7) C c) (hp : p < 6) (hpr : σ.1 3 p = nI r) (hr2 : r < 2) (hR : ∀ x, C c = some x → σ.1 3 x.1 = nI (R x.1) ∧ R x.1 < 2) :
    f_X_isOnRowOf (cPut b σ G) b (nI c) (nI p) = rI (mB (cRr R r C c)) (cPut b σ G) := by
  unfold f_X_isOnRowOf cRr
  simp only [y_cThere, y_listOf, y_rowOf, c_ob_0, c_fa_0_0, c_fa_0_1, c_fi_0_2, c_put_0_2, c_fi_0_3, c_put_0_3, c_fi_0_4, c_put_0_4, c_ob_1, c_fa_1_0, c_fa_1_1, c_fa_1_2, c_fa_1_3, c_fa_1_4, c_fa_1_5, c_fi_1_6, c_put_1_6, c_ob_2, c_fa_2_0, c_ob_4, c_fa_4_0, c_ob_6, c_fa_6_0, c_ob_8, c_fa_8_0, c_ob_10, c_fa_10_0, c_ob_12, c_fa_12_0, c_ob_14, c_fa_14_0, c_fa_14_1, c_fa_14_2, c_fa_14_3, c_fi_14_4, c_put_14_4, c_ob_15, c_fa_15_0, c_ob_17, c_fa_17_0, c_ob_19, c_fa_19_0, c_ob_21, c_fa_21_0, c_len_0, c_ld_0, c_st_0, c_rd_0, c_wr_0, c_len_1, c_ld_1, c_st_1, c_rd_1, c_wr_1, c_len_2, c_ld_2, c_st_2, c_rd_2, c_wr_2, c_len_3, c_ld_3, c_st_3, c_rd_3, c_wr_3, c_len_4, c_ld_4, c_st_4, c_rd_4, c_wr_4, c_len_5, c_ld_5, c_st_5, c_rd_5, c_wr_5, c_len_6, c_ld_6, c_st_6, c_rd_6, c_wr_6, c_len_7, c_ld_7, c_st_7, c_rd_7, c_wr_7, c_len_8, c_ld_8, c_st_8, c_rd_8, c_wr_8, c_len_9, c_ld_9, c_st_9, c_rd_9, c_wr_9, bI_rI, bL_rL, bA_rA, bV_rV, bI_th, bL_th, bA_th, bV_th, rZ_0, rZ_1]
  rw [rd_nI hc (by decide), rd_nI hc (by decide), rd_nI hp (by decide), hpr, mB_if]
  unfold cOn at h
  cases hx : C c with
  | none =>
    rw [hx] at h
    have h0 : ¬ (σ.1 6 c = nI 2 ∨ σ.1 6 c = nI 1) := by
      simp only at h
      rw [h]; decide
    rw [if_neg (by rw [decide_eq_false h0]; decide)]; rfl
  | some x =>
    rw [hx] at h
    simp only at h ⊢
    obtain ⟨e1, e2⟩ := hR x hx
    rw [if_pos (decide_eq_true (h.1.elim Or.inr Or.inl)), h.2.1, rd_nI h.2.2 (by decide), e1]
    by_cases hh : R x.1 = r
    · rw [if_pos (by rw [hh]), decide_eq_true hh]; rfl
    · rw [if_neg (fun q => hh ((nI_eq (by omega) (by omega)).mp q)), decide_eq_false hh]; rfl
/-- states behind a change of length, by another than exc -/
def eU (R : Nat → Nat) (r : Nat) (exc : Int32) (C : mC) (f : Nat → Int32) (c : Nat) : Int32 := if nI c = exc then f c else match C c with
  | none => f c
  | some x => if R x.1 = r then (if x.1 < 2 then nI 2 else nI 0) else f c
def eUc (R : Nat → Nat) (r : Nat) (exc : Int32) (C : mC) (c : Nat) : Bool := !decide (nI c = exc) && match C c with
  | none => false
  | some x => decide (R x.1 = r) && !decide (x.1 < 2)
theorem y_byLengthL {K : gH → gR} {C : mC} {R : Nat → Nat} {p r : Nat} {exc : Int32} (hp : p < 6) (hr2 : r < 2) : ∀ (k n j : Nat) (σ : cS), j + k = 3 → k < n → σ.1 3 p = nI r → (∀ c, j ≤ c → c < 3 → cOn (σ.1 6) (σ.1 7) C c ∧ ∀ x, C c = some x → σ.1 3 x.1 = nI (R x.1) ∧ R x.1 < 2) →
    f_X_endByLength_L11 K n (cPut b σ G) b (nI p) exc (nI j) = K (cPut b (cAI σ 6 1 (fun c => if j ≤ c ∧ c < 3 then eU R r exc C (σ.1 6) c else σ.1 6 c) (σ.2 1 + nI (eCt (eUc R r exc C) j k))) G)
  | _, 0, _, _, _, h, _, _ => absurd h (Nat.not_lt_zero _)
  | 0, n + 1, j, σ, hj, _, h3, hc => by
    unfold f_X_endByLength_L11
    rw [if_pos (nI_le (by omega) (by omega))]
    exact (cK1 (cAI_same (funext fun q => if_neg (by omega)) (add_nI0 _))).symm
  | k + 1, n + 1, j, σ, hj, hn, h3, hc => by
    have hj3 : j < 3 := by omega
    obtain ⟨hon, hR⟩ := hc j (Nat.le_refl _) hj3
    unfold f_X_endByLength_L11
    rw [if_neg (nI_ge hj3 (by decide))]
    -- the rest, from a state that has this cursor's place done
    have rest : ∀ (σ1 : cS) (f : Nat → Int32) (a : Nat), σ1 = cAI σ 6 1 f (σ.2 1 + nI a) → f j = eU R r exc C (σ.1 6) j → (∀ c, c ≠ j → f c = σ.1 6 c) → a = (if eUc R r exc C j = true then 1 else 0) →
        f_X_endByLength_L11 K n (cPut b σ1 G) b (nI p) exc (nI j + nI 1) = K (cPut b (cAI σ 6 1 (fun c => if j ≤ c ∧ c < 3 then eU R r exc C (σ.1 6) c else σ.1 6 c) (σ.2 1 + nI (eCt (eUc R r exc C) j (k + 1)))) G) := by
      intro σ1 f a e1 e2 e3 e4
      subst e1
      have hu : ∀ c, c ≠ j → eU R r exc C f c = eU R r exc C (σ.1 6) c := by
        intro c hcj
        unfold eU; rw [e3 c hcj]
      rw [nI_add, y_byLengthL hp hr2 k n (j + 1) _ (by omega) (by omega) (by rw [cAI_ne (by decide)]; exact h3) (fun c hcj h3' => by
        rw [cAI_at, cAI_ne (by decide), cAI_ne (by decide)]
        refine ⟨?_, (hc c (by omega) h3').2⟩
        have := (hc c (by omega) h3').1
        unfold cOn at this ⊢
        rw [e3 c (by omega)]; exact this), cAI_cAI, cAI_at, cAI_i, add_nI]
      refine cK1 (cAI_eq (funext fun c => ?_) ?_)
      · by_cases hcj : c = j
        · rw [hcj, if_neg (by omega), if_pos ⟨Nat.le_refl _, hj3⟩, e2]
        · by_cases hz : j ≤ c ∧ c < 3
          · rw [if_pos hz, if_pos ⟨by omega, hz.2⟩, hu c hcj]
          · rw [if_neg hz, if_neg (by omega), e3 c hcj]
      · rw [e4]; rfl
    by_cases hex : nI j = exc
    · rw [if_pos hex]
      refine rest σ (σ.1 6) 0 (cAI_same rfl (add_nI0 _)).symm ?_ (fun _ _ => rfl) ?_
      · unfold eU; rw [if_pos hex]
      · unfold eUc; rw [decide_eq_true hex]; rfl
    · rw [if_neg hex, c_ob_0, y_isOnRowOf hj3 hon hp h3 hr2 hR, bI_rI, mB_if]
      have hu0 : eUc R r exc C j = (match C j with
          | none => false
          | some x => decide (R x.1 = r) && !decide (x.1 < 2)) := by
        unfold eUc; rw [decide_eq_false hex]; rfl
      unfold cRr
      cases hx : C j with
      | none =>
        rw [hx] at hu0
        show (if false = true then _ else _) = _
        rw [if_neg (by decide)]
        refine rest σ (σ.1 6) 0 (cAI_same rfl (add_nI0 _)).symm ?_ (fun _ _ => rfl) (by rw [hu0]; rfl)
        unfold eU; rw [if_neg hex, hx]
      | some x =>
        rw [hx] at hu0
        simp only at hu0 ⊢
        unfold cOn at hon
        rw [hx] at hon
        simp only at hon
        by_cases hh : R x.1 = r
        · rw [if_pos (decide_eq_true hh), c_fa_0_1, c_ob_14, y_unsettle hj3 hon.2.2 hon.2.1, bV_rV]
          by_cases h2 : x.1 < 2
          · rw [if_pos h2]
            refine rest _ (upd (σ.1 6) j (nI 2)) 0 ?_ ?_ (fun c hcj => by simp [upd, hcj]) (by rw [hu0, decide_eq_true h2]; simp)
            · unfold cAI; rw [add_nI0, cSetI_arr, cSetI_id]
            · unfold eU; rw [if_neg hex, hx]; simp [upd, hh, h2]
          · rw [if_neg h2]
            refine rest _ (upd (σ.1 6) j (nI 0)) 1 rfl ?_ (fun c hcj => by simp [upd, hcj]) (by rw [hu0, decide_eq_false h2, decide_eq_true hh]; rfl)
            unfold eU; rw [if_neg hex, hx]; simp [upd, hh, h2]
        · rw [if_neg (by rw [decide_eq_false hh]; decide)]
          refine rest σ (σ.1 6) 0 (cAI_same rfl (add_nI0 _)).symm ?_ (fun _ _ => rfl) (by rw [hu0, decide_eq_false hh]; rfl)
          unfold eU; rw [if_neg hex, hx]; simp [hh]
/-- states behind the end of all on a row -/
def eA (R : Nat → Nat) (r : Nat) (C : mC) (f : Nat → Int32) (c : Nat) : Int32 := match C c with
  | none => f c
  | some x => if R x.1 = r then nI 0 else f c
theorem y_aroundL {K : gH → Int32 → gR} {C : mC} {R : Nat → Nat} {p r : Nat} {y : Int32} (hp : p < 6) (hr2 : r < 2) : ∀ (k n j : Nat) (σ : cS), j + k = 3 → k < n → σ.1 3 p = nI r → (∀ c, j ≤ c → c < 3 → cOn (σ.1 6) (σ.1 7) C c ∧ ∀ x, C c = some x → σ.1 3 x.1 = nI (R x.1) ∧ R x.1 < 2) →
    f_X_endAround_L11 K n (cPut b σ G) b (nI p) y (nI j) = K (cPut b (cAI σ 6 1 (fun c => if j ≤ c ∧ c < 3 then eA R r C (σ.1 6) c else σ.1 6 c) (σ.2 1 + nI (eCt (cRr R r C) j k))) G) y
  | _, 0, _, _, _, h, _, _ => absurd h (Nat.not_lt_zero _)
  | 0, n + 1, j, σ, hj, _, h3, hc => by
    unfold f_X_endAround_L11
    rw [if_pos (nI_le (by omega) (by omega))]
    exact (cK (cAI_same (funext fun q => if_neg (by omega)) (add_nI0 _)) rfl).symm
  | k + 1, n + 1, j, σ, hj, hn, h3, hc => by
    have hj3 : j < 3 := by omega
    obtain ⟨hon, hR⟩ := hc j (Nat.le_refl _) hj3
    unfold f_X_endAround_L11
    rw [if_neg (nI_ge hj3 (by decide))]
    have rest : ∀ (σ1 : cS) (f : Nat → Int32) (a : Nat), σ1 = cAI σ 6 1 f (σ.2 1 + nI a) → f j = eA R r C (σ.1 6) j → (∀ c, c ≠ j → f c = σ.1 6 c) → a = (if cRr R r C j = true then 1 else 0) →
        f_X_endAround_L11 K n (cPut b σ1 G) b (nI p) y (nI j + nI 1) = K (cPut b (cAI σ 6 1 (fun c => if j ≤ c ∧ c < 3 then eA R r C (σ.1 6) c else σ.1 6 c) (σ.2 1 + nI (eCt (cRr R r C) j (k + 1)))) G) y := by
      intro σ1 f a e1 e2 e3 e4
      subst e1
      have hu : ∀ c, c ≠ j → eA R r C f c = eA R r C (σ.1 6) c := by
        intro c hcj
        unfold eA; rw [e3 c hcj]
      rw [nI_add, y_aroundL hp hr2 k n (j + 1) _ (by omega) (by omega) (by rw [cAI_ne (by decide)]; exact h3) (fun c hcj h3' => by
        rw [cAI_at, cAI_ne (by decide), cAI_ne (by decide)]
        refine ⟨?_, (hc c (by omega) h3').2⟩
        have := (hc c (by omega) h3').1
        unfold cOn at this ⊢
        rw [e3 c (by omega)]; exact this), cAI_cAI, cAI_at, cAI_i, add_nI]
      refine cK (cAI_eq (funext fun c => ?_) ?_) rfl
      · by_cases hcj : c = j
        · rw [hcj, if_neg (by omega), if_pos ⟨Nat.le_refl _, hj3⟩, e2]
        · by_cases hz : j ≤ c ∧ c < 3
          · rw [if_pos hz, if_pos ⟨by omega, hz.2⟩, hu c hcj]
          · rw [if_neg hz, if_neg (by omega), e3 c hcj]
      · rw [e4]; rfl
    rw [c_ob_0, y_isOnRowOf hj3 hon hp h3 hr2 hR, bI_rI, mB_if]
    by_cases hz : cRr R r C j = true
    · rw [if_pos hz, c_fa_0_1, c_ob_14, y_cFinish hj3, bV_rV]
      refine rest _ (upd (σ.1 6) j (nI 0)) 1 rfl ?_ (fun c hcj => by simp [upd, hcj]) (by rw [if_pos hz])
      unfold eA
      unfold cRr at hz
      cases hx : C j with
      | none => rw [hx] at hz; cases hz
      | some x =>
        rw [hx] at hz
        simp only at hz ⊢
        rw [if_pos (of_decide_eq_true hz)]; simp [upd]
    · rw [if_neg hz]
      refine rest σ (σ.1 6) 0 (cAI_same rfl (add_nI0 _)).symm ?_ (fun _ _ => rfl) (by rw [if_neg hz])
      unfold eA
      unfold cRr at hz
      cases hx : C j with
      | none => rfl
      | some x =>
        rw [hx] at hz
        simp only at hz ⊢
        rw [if_neg (fun q => hz (decide_eq_true q))]
/-- states behind the end of parts: P tells which lists are there now -/
def eX (T : Nat → Bool) (C : mC) (c : Nat) : Bool := match C c with
  | none => false
  | some x => !T x.1
theorem y_closeL {K : gH → Int32 → gR} {C : mC} {T : Nat → Bool} {y : Int32} : ∀ (k n j : Nat) (σ : cS), j + k = 3 → k < n → (∀ c, j ≤ c → c < 3 → cOn (σ.1 6) (σ.1 7) C c) → (∀ q, q < 6 → (σ.1 1 q = -1 ↔ T q = false)) →
    f_X_close_L16 K n (cPut b σ G) b y (nI j) = K (cPut b (cAI σ 6 1 (fun c => if j ≤ c ∧ c < 3 ∧ eX T C c = true then nI 0 else σ.1 6 c) (σ.2 1 + nI (eCt (eX T C) j k))) G) y
  | _, 0, _, _, _, h, _, _ => absurd h (Nat.not_lt_zero _)
  | 0, n + 1, j, σ, hj, _, hc, hT => by
    unfold f_X_close_L16
    rw [if_pos (nI_le (by omega) (by omega))]
    exact (cK (cAI_same (funext fun q => if_neg (by omega)) (add_nI0 _)) rfl).symm
  | k + 1, n + 1, j, σ, hj, hn, hc, hT => by
    have hj3 : j < 3 := by omega
    have hon := hc j (Nat.le_refl _) hj3
    unfold f_X_close_L16
    rw [if_neg (nI_ge hj3 (by decide))]
    have rest : ∀ (σ1 : cS) (f : Nat → Int32) (a : Nat), σ1 = cAI σ 6 1 f (σ.2 1 + nI a) → f j = (if eX T C j = true then nI 0 else σ.1 6 j) → (∀ c, c ≠ j → f c = σ.1 6 c) → a = (if eX T C j = true then 1 else 0) →
        f_X_close_L16 K n (cPut b σ1 G) b y (nI j + nI 1) = K (cPut b (cAI σ 6 1 (fun c => if j ≤ c ∧ c < 3 ∧ eX T C c = true then nI 0 else σ.1 6 c) (σ.2 1 + nI (eCt (eX T C) j (k + 1)))) G) y := by
      intro σ1 f a e1 e2 e3 e4
      subst e1
      rw [nI_add, y_closeL k n (j + 1) _ (by omega) (by omega) (fun c hcj h3' => by
        rw [cAI_at, cAI_ne (by decide)]
        have := hc c (by omega) h3'
        unfold cOn at this ⊢
        rw [e3 c (by omega)]; exact this) (fun q hq => by rw [cAI_ne (by decide)]; exact hT q hq), cAI_cAI, cAI_at, cAI_i, add_nI]
      refine cK (cAI_eq (funext fun c => ?_) ?_) rfl
      · by_cases hcj : c = j
        · rw [hcj, if_neg (by omega), e2]
          by_cases hz : eX T C j = true
          · rw [if_pos hz, if_pos ⟨Nat.le_refl _, hj3, hz⟩]
          · rw [if_neg hz, if_neg (fun q => hz q.2.2)]
        · rw [e3 c hcj]
          by_cases hz : j ≤ c ∧ c < 3 ∧ eX T C c = true
          · rw [if_pos hz, if_pos ⟨by omega, hz.2⟩]
          · rw [if_neg hz, if_neg (fun q => hz ⟨by omega, q.2⟩)]
      · rw [e4]; rfl
    rw [c_fa_0_1, c_ob_14, y_cThere, bI_rI, mB_if, rd_nI hj3 (by decide)]
    unfold cOn at hon
    cases hx : C j with
    | none =>
      rw [hx] at hon
      have hz : eX T C j = false := by unfold eX; rw [hx]
      have h0 : ¬ (σ.1 6 j = nI 2 ∨ σ.1 6 j = nI 1) := by
        simp only at hon
        rw [hon]; decide
      rw [if_neg (by rw [decide_eq_false h0]; decide)]
      exact rest σ (σ.1 6) 0 (cAI_same rfl (add_nI0 _)).symm (by rw [hz]; rfl) (fun _ _ => rfl) (by rw [hz]; rfl)
    | some x =>
      rw [hx] at hon
      simp only at hon
      have hz : eX T C j = !T x.1 := by unfold eX; rw [hx]
      rw [if_pos (decide_eq_true (hon.1.elim Or.inr Or.inl)), c_fa_0_0, c_fa_0_1, c_ob_14, y_listOf, bI_rI, rd_nI hj3 (by decide), hon.2.1, c_ob_1,
        y_isThere (t := T x.1) (by rw [rd_nI hon.2.2 (by decide)]; exact hT x.1 hon.2.2), bI_rI, mB_if]
      cases hT1 : T x.1 with
      | true =>
        rw [hT1] at hz
        rw [if_pos rfl]
        exact rest σ (σ.1 6) 0 (cAI_same rfl (add_nI0 _)).symm (by rw [hz]; rfl) (fun _ _ => rfl) (by rw [hz]; rfl)
      | false =>
        rw [hT1] at hz
        rw [if_neg (by decide), c_fa_0_1, c_ob_14, y_cFinish hj3, bV_rV]
        exact rest _ (upd (σ.1 6) j (nI 0)) 1 rfl (by rw [hz]; simp [upd]) (fun c hcj => by simp [upd, hcj]) (by rw [hz]; rfl)
end Ends
end
section
-- the class's cells tell of the state
def cE (t : Nat × Nat × Nat) : Int32 := nI (32 * t.2.2 + t.2.1)
def cTh (f : Nat → Int32) (R : Nat → List (Nat × Nat × Nat)) : Prop := ∀ r i t, r < 2 → (R r)[i]? = some t → f (31 * r + i) = cE t
def cLp (f : Nat → Int32) (P : mP) : Prop := ∀ p, 2 ≤ p → p < 6 → match P p with
  | none => f p = -1
  | some x => f p = nI x.2.2
def cHi (g I : Nat → Int32) : Prop := g 0 = I 2 ∧ g 1 = I 3 ∧ g 2 = I 1 ∧ g 3 = I 4 ∧ g 4 = I 5
/-- how the arrays tell of the cursors; of exc not where it stands -/
def cHx (exc : Int32) (f6 f7 f8 f9 : Nat → Int32) (C : mC) : Prop := ∀ c, c < 3 → match C c with
  | none => f6 c = nI 0
  | some x => f6 c = (if x.2.2.2 = 0 then nI 1 else nI 2) ∧ f7 c = nI x.1 ∧ (nI c ≠ exc → f8 c = nI x.2.1 ∧ f9 c = x.2.2.1)
theorem cHx.on {exc : Int32} {f6 f7 f8 f9 : Nat → Int32} {C : mC} (h : cHx exc f6 f7 f8 f9 C) {c : Nat} (hc : c < 3) (h6 : ∀ x, C c = some x → x.1 < 6) : cOn f6 f7 C c := by
  have := h c hc
  unfold cOn
  cases hx : C c with
  | none => rw [hx] at this; exact this
  | some x =>
    rw [hx] at this
    simp only at this ⊢
    refine ⟨?_, this.2.1, h6 x hx⟩
    rw [this.1]
    split
    · exact Or.inl rfl
    · exact Or.inr rfl
def cRx (exc : Int32) (σ : cS) (A : mS) : Prop := cLp (σ.1 1) A.2.1 ∧ cHa (σ.1 2) A.2.1 ∧ cHp (σ.1 3) (σ.1 4) A.2.1 ∧ cHx exc (σ.1 6) (σ.1 7) (σ.1 8) (σ.1 9) A.2.2.1 ∧ cHi σ.2 A.2.2.2
def cRl (σ : cS) (A : mS) : Prop := ∀ r, r < 2 → σ.1 1 r = nI (A.1 r).length
def CRep (σ : cS) (A : mS) : Prop := cTh (σ.1 0) A.1 ∧ cRl σ A ∧ cRx (-1) σ A
/-- a list that is there -/
def mV (A : mS) (p : Nat) : Prop := p < 2 ∨ A.2.1 p ≠ none
def mCok (A : mS) (x : Nat × Nat × Int32 × Int32) : Prop :=
  x.1 < 6 ∧ mV A x.1 ∧ ((x.2.2.2 = 0 ∧ x.2.1 ≤ mLen A x.1 ∧ (x.2.2.1 = -1 ∨ ∃ j, j < mLen A x.1 ∧ x.2.2.1 = nI j)) ∨ (x.2.2.2 = nI 1 ∧ x.1 < 2 ∧ x.2.1 < 32))
def mTok (m : Nat) (t : Nat × Nat × Nat) : Prop := t.2.1 < 31 ∧ t.2.2 < m
def mFit (A : mS) : Prop := ∀ q x, A.2.1 q = some x → x.2.1 + x.2.2 ≤ mLen A x.1
def mInv (m : Nat) (A : mS) : Prop :=
  mOk A.2.1 ∧ mFit A ∧ (∀ r, r < 2 → (A.1 r).length ≤ 31 ∧ ∀ t, t ∈ A.1 r → mTok m t) ∧ (∀ c x, A.2.2.1 c = some x → c < 3 ∧ mCok A x) ∧ A.2.2.2 1 = nI m ∧ m ≤ 600
theorem mV.lt {A : mS} (h : mOk A.2.1) {p : Nat} (hv : mV A p) : p < 6 := by
  rcases hv with k | k
  · omega
  · cases hx : A.2.1 p with
    | none => exact absurd hx k
    | some x => exact (h.1 p x hx).2
theorem mFit.rw {A : mS} (hf : mFit A) : ∀ (d p r s : Nat), mRw A.2.1 d p = some (r, s) → s + mLen A p ≤ (A.1 r).length
  | 0, _, _, _, h => by cases h
  | d + 1, p, r, s, h => by
    unfold mRw at h
    by_cases h2 : p < 2
    · rw [if_pos h2] at h
      cases h
      unfold mLen
      rw [if_pos h2]; omega
    · rw [if_neg h2] at h
      cases hx : A.2.1 p with
      | none => rw [hx] at h; cases h
      | some x =>
        have hf1 := hf p x hx
        obtain ⟨o, f, l⟩ := x
        rw [hx] at h
        simp only at h hf1
        cases hr : mRw A.2.1 d o with
        | none => rw [hr] at h; cases h
        | some y =>
          obtain ⟨r', s'⟩ := y
          rw [hr] at h
          cases h
          have ih := mFit.rw hf d o _ _ hr
          have e : mLen A p = l := by unfold mLen; rw [if_neg h2, hx]
          dsimp only at ih ⊢
          omega
/-- where a list lies -/
theorem mInv.pl {m : Nat} {A : mS} (h : mInv m A) {p : Nat} (hv : mV A p) : ∃ r s, mRw A.2.1 zDp p = some (r, s) ∧ r < 2 ∧ s + mLen A p ≤ (A.1 r).length ∧ (A.1 r).length ≤ 31 ∧ p < 6 ∧ mRo A.2.1 p = r := by
  obtain ⟨r, s, e⟩ := h.1.rw' hv
  have hr := mRw_lt _ _ _ _ e
  exact ⟨r, s, e, hr, h.2.1.rw _ _ _ _ e, (h.2.2.1 r hr).1, hv.lt h.1, mRo_of e⟩
theorem mLen_row {A : mS} {r : Nat} (h : r < 2) : mLen A r = (A.1 r).length := if_pos h
theorem mLen_part {A : mS} {p : Nat} {x : Nat × Nat × Nat} (h : ¬ p < 2) (hx : A.2.1 p = some x) : mLen A p = x.2.2 := by
  unfold mLen; rw [if_neg h, hx]
theorem eCt4 (C : Nat → Bool) : eCt C 2 4 = (if C 2 = true then 1 else 0) + (if C 3 = true then 1 else 0) + (if C 4 = true then 1 else 0) + (if C 5 = true then 1 else 0) := by
  show (if C 2 = true then 1 else 0) + ((if C 3 = true then 1 else 0) + ((if C 4 = true then 1 else 0) + ((if C 5 = true then 1 else 0) + 0))) = _
  omega
theorem eCt3 (C : Nat → Bool) : eCt C 0 3 = (if C 0 = true then 1 else 0) + (if C 1 = true then 1 else 0) + (if C 2 = true then 1 else 0) := by
  show (if C 0 = true then 1 else 0) + ((if C 1 = true then 1 else 0) + ((if C 2 = true then 1 else 0) + 0)) = _
  omega
theorem eCt_pc {C : Nat → Bool} {P P' : mP} (h : ∀ q, 2 ≤ q → q < 6 → (if C q = true then 1 else 0) + o1 (P' q) = o1 (P q)) : eCt C 2 4 + mPc P' = mPc P := by
  rw [eCt4]
  have a2 := h 2 (by omega) (by omega)
  have a3 := h 3 (by omega) (by omega)
  have a4 := h 4 (by omega) (by omega)
  have a5 := h 5 (by omega) (by omega)
  unfold mPc
  omega
theorem eCt_kk {C : Nat → Bool} {S S' : mC} (h : ∀ c, c < 3 → (if C c = true then 1 else 0) + o1 (S' c) = o1 (S c)) : eCt C 0 3 + mKk S' = mKk S := by
  rw [eCt3]
  have a0 := h 0 (by omega)
  have a1 := h 1 (by omega)
  have a2 := h 2 (by omega)
  unfold mKk
  omega
theorem cLp.hl {f : Nat → Int32} {P : mP} (h : cLp f P) (hb : ∀ q x, P q = some x → x.2.2 < 100) : cHl f P := by
  intro p h2 h6
  have := h p h2 h6
  cases hx : P p with
  | none => rw [hx] at this; simp only at this; exact ⟨fun _ => rfl, fun _ => this⟩
  | some x =>
    rw [hx] at this
    simp only at this
    exact ⟨fun q => absurd (this.symm.trans q) (nI_ne1 (by have := hb p x hx; omega)), fun q => by cases q⟩
section Chg
variable {b : Nat} {G : gH}
/-- what a change of length does in the class, behind the longer or shorter lists -/
theorem x_endByLength {A A' : mS} {σ : cS} {l0 : Nat → Int32} {p r s : Nat} {z : Int} {exc : Int32} (hok : mOk A.2.1) (hv : mV A p) (hrw : mRw A.2.1 zDp p = some (r, s)) (hz : -100 < z ∧ z < 100)
    (hl : cLp l0 A.2.1) (hl1 : σ.1 1 = fun q => if mAb A.2.1 zDp q p = true then l0 q + Int32.ofInt z else l0 q) (hlen : ∀ q x, A.2.1 q = some x → x.2.2 < 100 ∧ (mAb A.2.1 zDp q p = true → 0 ≤ (x.2.2 : Int) + z))
    (ha : cHa (σ.1 2) A.2.1) (h3 : cHp (σ.1 3) (σ.1 4) A.2.1) (hc : cHx exc (σ.1 6) (σ.1 7) (σ.1 8) (σ.1 9) A.2.2.1) (hi : cHi σ.2 A.2.2.2) (hcv : ∀ c x, A.2.2.1 c = some x → x.1 < 6 ∧ mV A x.1) (hd : mChd A A' p r z exc) :
    ∃ σ', f_X_endByLength (cPut b σ G) b (nI p) exc = rV (cPut b σ' G) ∧ σ'.1 0 = σ.1 0 ∧ (∀ q, q < 2 → σ'.1 1 q = σ.1 1 q) ∧ cRx exc σ' A' ∧ σ'.1 8 = σ.1 8 ∧ σ'.1 9 = σ.1 9 := by
  have hp := hv.lt hok
  have hr2 := mRw_lt _ _ _ _ hrw
  obtain ⟨d1, d2, d3, d4, d5, d6, d7, ⟨n, d8, d9⟩, k, d10, d11⟩ := hd
  have hab : ∀ q, 2 ≤ q → mAb A.2.1 zDp q p = true → A.2.1 q ≠ none := by
    intro q h2 hq
    obtain ⟨x, hx, -⟩ := mAb.closed zDp p r s hrw q hq h2
    rw [hx]; exact Option.some_ne_none _
  have lt : ∀ q, 2 ≤ q → q < 6 → match A.2.1 q with
      | none => σ.1 1 q = -1 ∧ mAb A.2.1 zDp q p = false
      | some x => σ.1 1 q = if mAb A.2.1 zDp q p = true then nI ((x.2.2 : Int) + z).toNat else nI x.2.2 := by
    intro q h2 h6
    have h0 := hl q h2 h6
    rw [hl1]
    cases hx : A.2.1 q with
    | none =>
      rw [hx] at h0
      have hf : mAb A.2.1 zDp q p = false := by
        cases hb : mAb A.2.1 zDp q p with
        | false => rfl
        | true => exact absurd hx (hab q h2 hb)
      simp only at h0 ⊢
      rw [hf, if_neg (by decide)]; exact ⟨h0, rfl⟩
    | some x =>
      rw [hx] at h0
      simp only at h0 ⊢
      by_cases hb : mAb A.2.1 zDp q p = true
      · rw [if_pos hb, if_pos hb, h0, nI_int ((hlen q x hx).2 hb)]
      · rw [if_neg hb, if_neg hb, h0]
  have hhl : cHl (σ.1 1) A.2.1 := by
    intro q h2 h6
    have := lt q h2 h6
    cases hx : A.2.1 q with
    | none => rw [hx] at this; exact ⟨fun _ => rfl, fun _ => this.1⟩
    | some x =>
      rw [hx] at this
      simp only at this
      have hb := hlen q x hx
      refine ⟨fun e => ?_, fun e => by cases e⟩
      rw [this] at e
      split at e
      · exact absurd e (nI_ne1 (by omega))
      · exact absurd e (nI_ne1 (by omega))
  have ce : ∀ q, 2 ≤ q → q < 6 → (if eC A.2.1 r p q = true then 1 else 0) + o1 (A'.2.1 q) = o1 (A.2.1 q) := by
    intro q h2 h6
    cases hx : A.2.1 q with
    | none =>
      rw [d3 q hx]
      have : eC A.2.1 r p q = false := by unfold eC; rw [hx]; rfl
      rw [this]; rfl
    | some x =>
      rw [d4 q x hx]
      unfold eC
      rw [hx]
      by_cases hb : mAb A.2.1 zDp q p = true
      · rw [if_pos hb, hb]; simp [o1]
      · rw [if_neg hb, Bool.eq_false_iff.mpr hb]
        by_cases hr : mRo A.2.1 q = r
        · rw [if_pos hr, decide_eq_true hr]; simp [o1]
        · rw [if_neg hr, decide_eq_false hr]; simp [o1]
  have e1 := eCt_pc ce
  have en : eCt (eC A.2.1 r p) 2 4 = n := by omega
  unfold f_X_endByLength
  rw [c_fa_0_0, c_ob_1, y_endOthers hok hp hv hrw ha h3 hhl, bI_rI]
  generalize hσ1 : cAI σ 1 0 (fun q => if 2 ≤ q ∧ q < 6 ∧ eC A.2.1 r p q = true then -1 else σ.1 1 q) (σ.2 0 + nI (eCt (eC A.2.1 r p) 2 4)) = σ1
  have f1 : σ1.1 1 = fun q => if 2 ≤ q ∧ q < 6 ∧ eC A.2.1 r p q = true then -1 else σ.1 1 q := by rw [← hσ1, cAI_at]
  have fn : ∀ j, j ≠ 1 → σ1.1 j = σ.1 j := fun j hj => by rw [← hσ1, cAI_ne hj]
  have fi : σ1.2 0 = σ.2 0 + nI n := by rw [← hσ1, cAI_i, en]
  have fj : ∀ j, j ≠ 0 → σ1.2 j = σ.2 j := fun j hj => by rw [← hσ1, cAI_ine hj]
  have hro : ∀ x, mV A x → x < 6 → σ.1 3 x = nI (mRo A.2.1 x) ∧ mRo A.2.1 x < 2 := by
    intro x hx h6
    obtain ⟨r1, s1, e⟩ := hok.rw' hx
    rw [mRo_of e]
    exact ⟨(h3 x r1 s1 h6 e).1, mRw_lt _ _ _ _ e⟩
  rw [y_byLengthL (C := A.2.2.1) (R := mRo A.2.1) hp hr2 3 zFu 0 σ1 (by omega) (by unfold zFu; omega) (by rw [fn 3 (by decide)]; exact (h3 p r s hp hrw).1) (fun c _ hc3 => by
    rw [fn 6 (by decide), fn 7 (by decide), fn 3 (by decide)]
    exact ⟨hc.on hc3 (fun x hx => (hcv c x hx).1), fun x hx => hro x.1 (hcv c x hx).2 (hcv c x hx).1⟩)]
  have cc : ∀ c, c < 3 → (if eUc (mRo A.2.1) r exc A.2.2.1 c = true then 1 else 0) + o1 (A'.2.2.1 c) = o1 (A.2.2.1 c) := by
    intro c hc3
    rw [d5 c hc3]
    unfold eUc mCf
    by_cases he : nI c = exc
    · rw [if_pos he, decide_eq_true he]; simp
    · rw [if_neg he, decide_eq_false he]
      cases hx : A.2.2.1 c with
      | none => simp
      | some x =>
        simp only
        by_cases hr : mRo A.2.1 x.1 = r
        · by_cases h2 : x.1 < 2
          · simp [hr, h2, o1]
          · simp [hr, h2, o1]
        · simp [hr, o1]
  have e2 := eCt_kk cc
  have ek : eCt (eUc (mRo A.2.1) r exc A.2.2.1) 0 3 = k := by omega
  refine ⟨_, rfl, by rw [cAI_ne (by decide), fn 0 (by decide)], fun q hq => ?_, ⟨?_, ?_, ?_, ?_, ?_⟩, by rw [cAI_ne (by decide), fn 8 (by decide)], by rw [cAI_ne (by decide), fn 9 (by decide)]⟩
  · rw [cAI_ne (by decide), f1]
    exact if_neg (by omega)
  · rw [cAI_ne (by decide), f1]
    intro q h2 h6
    have h0 := lt q h2 h6
    cases hx : A.2.1 q with
    | none =>
      rw [hx] at h0
      rw [d3 q hx]
      simp only
      have : eC A.2.1 r p q = false := by unfold eC; rw [hx]; rfl
      rw [this, if_neg (fun z => absurd z.2.2 (by decide))]; exact h0.1
    | some x =>
      rw [hx] at h0
      simp only at h0
      rw [d4 q x hx]
      simp only [h0]
      unfold eC
      rw [hx]
      by_cases hb : mAb A.2.1 zDp q p = true
      · simp [hb]
      · by_cases hr : mRo A.2.1 q = r
        · simp [hb, hr, h2, h6]
        · simp [hb, hr]
  · rw [cAI_ne (by decide), fn 2 (by decide)]
    refine ⟨ha.1, fun q x hx => ?_⟩
    cases hy : A.2.1 q with
    | none => rw [d3 q hy] at hx; cases hx
    | some y =>
      rw [ha.2 q y hy]
      rw [d4 q y hy] at hx
      split at hx
      · cases hx; rfl
      · split at hx
        · cases hx
        · cases hx; rfl
  · rw [cAI_ne (by decide), cAI_ne (by decide), fn 3 (by decide), fn 4 (by decide)]
    intro q r1 s1 h6 hq
    refine h3 q r1 s1 h6 ?_
    rw [← hq]
    -- the way from q to its row is as it was
    have key : ∀ (d q : Nat) (v : Nat × Nat), mRw A'.2.1 d q = some v → mRw A.2.1 d q = some v := by
      intro d
      induction d with
      | zero => intro q v h; cases h
      | succ d ih =>
        intro q v h
        unfold mRw at h ⊢
        by_cases h2 : q < 2
        · rw [if_pos h2] at h ⊢; exact h
        · rw [if_neg h2] at h ⊢
          cases hy : A.2.1 q with
          | none => rw [d3 q hy] at h; cases h
          | some y =>
            obtain ⟨o, f, l⟩ := y
            have hx' : ∃ l', A'.2.1 q = some (o, f, l') := by
              have h9 := d4 q _ hy
              cases hz' : A'.2.1 q with
              | none => rw [hz'] at h; cases h
              | some w =>
                rw [hz'] at h9
                split at h9
                · exact ⟨_, h9⟩
                · split at h9
                  · cases h9
                  · exact ⟨_, h9⟩
            obtain ⟨l', hx'⟩ := hx'
            rw [hx'] at h
            simp only at h ⊢
            cases hr : mRw A'.2.1 d o with
            | none => rw [hr] at h; cases h
            | some u => rw [ih o u hr]; rw [hr] at h; exact h
    exact (key zDp q _ hq).trans hq.symm
  · rw [cAI_at, cAI_ne (by decide), cAI_ne (by decide), cAI_ne (by decide), fn 6 (by decide), fn 7 (by decide), fn 8 (by decide), fn 9 (by decide)]
    intro c hc3
    have h0 := hc c hc3
    rw [d5 c hc3]
    simp only [Nat.zero_le, hc3, true_and, if_true]
    unfold eU mCf
    by_cases he : nI c = exc
    · rw [if_pos he, if_pos he]; exact h0
    · rw [if_neg he, if_neg he]
      cases hx : A.2.2.1 c with
      | none => rw [hx] at h0; exact h0
      | some x =>
        rw [hx] at h0
        simp only at h0 ⊢
        by_cases hr : mRo A.2.1 x.1 = r
        · rw [if_pos hr, if_pos hr]
          by_cases h2 : x.1 < 2
          · rw [if_pos h2, if_pos h2]
            exact ⟨by simp only; rw [if_neg (by decide)], h0.2⟩
          · rw [if_neg h2, if_neg h2]
        · rw [if_neg hr, if_neg hr]; exact h0
  · refine ⟨?_, ?_, ?_, ?_, ?_⟩
    · rw [cAI_ine (by decide), fi, hi.1, d8]
    · rw [cAI_i, fj 1 (by decide), ek, hi.2.1, d10]
    · rw [cAI_ine (by decide), fj 2 (by decide), hi.2.2.1, d7 1 (by decide) (by decide)]
    · rw [cAI_ine (by decide), fj 3 (by decide), hi.2.2.2.1, d7 4 (by decide) (by decide)]
    · rw [cAI_ine (by decide), fj 4 (by decide), hi.2.2.2.2, d7 5 (by decide) (by decide)]
end Chg
end
section
-- the class: things in rows
def cSeg (f : Nat → Int32) (o : Nat) (ts : List (Nat × Nat × Nat)) : Prop := ∀ i t, ts[i]? = some t → f (o + i) = cE t
def cOut (r : Nat) (f g : Nat → Int32) : Prop := ∀ q, ¬ (31 * r ≤ q ∧ q < 31 * r + 31) → g q = f q
theorem cOut.refl {r : Nat} {f : Nat → Int32} : cOut r f f := fun _ _ => rfl
theorem cOut.trans {r : Nat} {f g h : Nat → Int32} (a : cOut r f g) (c : cOut r g h) : cOut r f h := fun q hq => (c q hq).trans (a q hq)
theorem cOut.up {r i : Nat} {f : Nat → Int32} {x : Int32} (hi : i < 31) : cOut r f (upd f (31 * r + i) x) := by
  intro q hq
  simp only [upd]
  rw [if_neg (by omega)]
theorem cTh.seg {f : Nat → Int32} {R : Nat → List (Nat × Nat × Nat)} (h : cTh f R) {r : Nat} (hr : r < 2) : cSeg f (31 * r) (R r) := fun i t ht => h r i t hr ht
theorem cTh.row {f g : Nat → Int32} {R : Nat → List (Nat × Nat × Nat)} {r : Nat} {ts : List (Nat × Nat × Nat)} (h : cTh f R) (hl : ∀ r, r < 2 → (R r).length ≤ 31) (ho : cOut r f g) (hs : cSeg g (31 * r) ts) : cTh g (fun i => if i = r then ts else R i) := by
  intro r' i t hr' ht
  simp only at ht
  by_cases e : r' = r
  · rw [if_pos e] at ht; rw [e]; exact hs i t ht
  · rw [if_neg e] at ht
    have hi : i < (R r').length := (List.getElem?_eq_some_iff.mp ht).1
    have := hl r' hr'
    rw [ho _ (by omega)]
    exact h r' i t hr' ht
theorem cSeg.take {f : Nat → Int32} {o n : Nat} {ts : List (Nat × Nat × Nat)} (h : cSeg f o ts) : cSeg f o (ts.take n) := by
  intro i t ht
  rw [List.getElem?_take] at ht
  split at ht
  · exact h i t ht
  · cases ht
theorem cSeg.drop {f : Nat → Int32} {o n : Nat} {ts : List (Nat × Nat × Nat)} (h : cSeg f o ts) : cSeg f (o + n) (ts.drop n) := by
  intro i t ht
  rw [List.getElem?_drop] at ht
  rw [Nat.add_assoc]; exact h (n + i) t ht
theorem cSeg.app {f : Nat → Int32} {o : Nat} {ts us : List (Nat × Nat × Nat)} (h : cSeg f o ts) (h2 : cSeg f (o + ts.length) us) : cSeg f o (ts ++ us) := by
  intro i t ht
  rw [List.getElem?_append] at ht
  split at ht
  · exact h i t ht
  · next hn =>
    have := h2 _ t ht
    rw [show o + i = o + ts.length + (i - ts.length) by omega]; exact this
theorem cSeg.cong {f g : Nat → Int32} {o : Nat} {ts : List (Nat × Nat × Nat)} (h : cSeg f o ts) (hg : ∀ i, i < ts.length → g (o + i) = f (o + i)) : cSeg g o ts := by
  intro i t ht
  rw [hg i (List.getElem?_eq_some_iff.mp ht).1]; exact h i t ht
theorem cSeg.nil {f : Nat → Int32} {o : Nat} : cSeg f o [] := fun i t ht => by simp at ht
theorem cSeg.one {f : Nat → Int32} {o : Nat} {t : Nat × Nat × Nat} (h : f o = cE t) : cSeg f o [t] := by
  intro i u hu
  cases i with
  | zero => simp at hu; subst hu; exact h
  | succ i => simp at hu
/-- only keys and tags are told -/
theorem cE_sn {t u : Nat × Nat × Nat} (h : t.2 = u.2) : cE t = cE u := by unfold cE; rw [h]
theorem mAb_row {P : mP} : ∀ (d p r s : Nat), mRw P d p = some (r, s) → ∀ x, x < 2 → mAb P d x p = decide (x = r)
  | 0, _, _, _, h, _, _ => by cases h
  | d + 1, p, r, s, h, x, hx => by
    unfold mRw at h
    rw [mAb_s]
    by_cases h2 : p < 2
    · rw [if_pos h2] at h
      have e : p = r := by cases h; rfl
      by_cases hxp : x = p
      · rw [if_pos hxp, decide_eq_true (hxp.trans e)]
      · rw [if_neg hxp, if_pos h2, decide_eq_false (fun q => hxp (q.trans e.symm))]
    · rw [if_neg h2] at h
      rw [if_neg (by omega), if_neg h2]
      cases hy : P p with
      | none => rw [hy] at h; cases h
      | some y =>
        obtain ⟨o, f, l⟩ := y
        rw [hy] at h
        simp only at h ⊢
        cases hr : mRw P d o with
        | none => rw [hr] at h; cases h
        | some v =>
          obtain ⟨r', s'⟩ := v
          rw [hr] at h
          have e : r' = r := by cases h; rfl
          rw [← e]
          exact mAb_row d o r' s' hr x hx
def cUpS (f : Nat → Int32) (lo hi k : Nat) : Nat → Int32 := fun q => if lo + k ≤ q ∧ q < hi + k then f (q - k) else f q
def cDnS (f : Nat → Int32) (lo hi : Nat) : Nat → Int32 := fun q => if lo ≤ q ∧ q + 1 < hi then f (q + 1) else f q
theorem nI_s1 (a : Nat) : nI a - nI 1 = nI a + (-1) := by
  rw [Int32.sub_eq_add_neg]; rfl
theorem nI_dn {j lo : Nat} (hj : j < 2 ^ 31) (hl : lo < 2 ^ 31) : nI j + (-1) < nI lo ↔ j ≤ lo := by
  cases j with
  | zero =>
    rw [show nI 0 + (-1) = -1 by decide]
    refine ⟨fun _ => Nat.zero_le _, fun _ => ?_⟩
    exact Int32.lt_of_lt_of_le (by decide : (-1 : Int32) < 0) (nI_pos' hl)
  | succ j => rw [nI_m1, nI_ltI (by omega) hl]; omega
section Thing
variable {b : Nat} {G : gH}
theorem y_openL {K : gH → Nat → Int32 → Int32 → gR} {r fr k p : Nat} (hr : r < 2) : ∀ (d n : Nat) (σ : cS), fr + d + k ≤ 31 → d < n → σ.1 3 r = nI r → σ.1 4 r = nI 0 →
    f_I_openGap_L29 K n (cPut b σ G) (b + 1) (nI p) (nI k) (nI r) (nI fr) (nI (fr + d) + (-1)) = K (cPut b (cArr σ 0 (cUpS (σ.1 0) (31 * r + fr) (31 * r + fr + d) k)) G) (b + 1) (nI p) (nI k)
  | _, 0, _, _, h, _, _ => absurd h (Nat.not_lt_zero _)
  | 0, n + 1, σ, hb, _, h3, h4 => by
    unfold f_I_openGap_L29
    simp only [Nat.add_zero]
    rw [if_pos ((nI_dn (by omega) (by omega)).mpr (Nat.le_refl _))]
    have e : cUpS (σ.1 0) (31 * r + fr) (31 * r + fr) k = σ.1 0 := by
      funext q
      exact if_neg (by omega)
    rw [e, cArr_id]
  | d + 1, n + 1, σ, hb, hn, h3, h4 => by
    unfold f_I_openGap_L29
    rw [if_neg (fun q => by have := (nI_dn (by omega) (by omega)).mp q; omega), show fr + (d + 1) = fr + d + 1 from rfl, nI_m1, c_ob_1, y_thing (by omega) h3 h4 (by omega), bI_rI, c_ob_1, nI_add, y_write (by omega) h3 h4 (by omega), bV_rV,
      y_openL hr d n _ (by omega) (by omega) (by rw [cArr_ne (by decide)]; exact h3) (by rw [cArr_ne (by decide)]; exact h4), cArr_cArr, cArr_at]
    congr 3
    funext q
    simp only [cUpS, upd]
    (repeat' split) <;> first | rfl | (exfalso; omega) | (refine congrArg (σ.1 0) ?_; omega)
theorem y_closeGL {K : gH → Nat → Int32 → gR} {r e p : Nat} (hr : r < 2) (he : e ≤ 31) : ∀ (d n lo : Nat) (σ : cS), lo + 1 + d = e → d < n → σ.1 3 r = nI r → σ.1 4 r = nI 0 →
    f_I_closeGap_L27 K n (cPut b σ G) (b + 1) (nI p) (nI r) (nI e) (nI (lo + 1)) = K (cPut b (cArr σ 0 (cDnS (σ.1 0) (31 * r + lo) (31 * r + e))) G) (b + 1) (nI p)
  | _, 0, _, _, _, h, _, _ => absurd h (Nat.not_lt_zero _)
  | 0, n + 1, lo, σ, hb, _, h3, h4 => by
    unfold f_I_closeGap_L27
    rw [if_pos (nI_le (by omega) (by omega))]
    have e : cDnS (σ.1 0) (31 * r + lo) (31 * r + e) = σ.1 0 := by
      funext q
      exact if_neg (by omega)
    rw [e, cArr_id]
  | d + 1, n + 1, lo, σ, hb, hn, h3, h4 => by
    unfold f_I_closeGap_L27
    rw [if_neg (nI_ge (by omega) (by omega)), c_ob_1, y_thing (by omega) h3 h4 (by omega), bI_rI, c_ob_1, nI_sub (by omega), y_write (by omega) h3 h4 (by omega), bV_rV, nI_add,
      y_closeGL hr he d n (lo + 1) _ (by omega) (by omega) (by rw [cArr_ne (by decide)]; exact h3) (by rw [cArr_ne (by decide)]; exact h4), cArr_cArr, cArr_at]
    congr 3
    funext q
    simp only [cDnS, upd]
    (repeat' split) <;> first | rfl | (exfalso; omega) | (refine congrArg (σ.1 0) ?_; omega)
theorem x_openGap {P : mP} {σ : cS} {p r s i k n : Nat} (hok : mOk P) (hp : p < 6) (hv : p < 2 ∨ P p ≠ none) (hrw : mRw P zDp p = some (r, s)) (ha : cHa (σ.1 2) P) (h3 : cHp (σ.1 3) (σ.1 4) P) (hn : σ.1 1 r = nI n) (hi : s + i ≤ n) (hk : n + k ≤ 31) :
    f_I_openGap (cPut b σ G) (b + 1) (nI p) (nI i) (nI k) = rV (cPut b (cArr (cArr σ 0 (cUpS (σ.1 0) (31 * r + (s + i)) (31 * r + n) k)) 1 (fun q => if mAb P zDp q p = true then σ.1 1 q + nI k else σ.1 1 q)) G) := by
  have hr := mRw_lt _ _ _ _ hrw
  have hrr : mRw P zDp r = some (r, 0) := by
    show mRw P (7 + 1) r = _
    unfold mRw; rw [if_pos hr]
  obtain ⟨e3, e4⟩ := h3 p r s hp hrw
  obtain ⟨f3, f4⟩ := h3 r r 0 (by omega) hrr
  unfold f_I_openGap
  simp only [y_rowOf, y_lengthOf, c_ob_0, c_fa_0_0, c_fa_0_1, c_fi_0_2, c_put_0_2, c_fi_0_3, c_put_0_3, c_fi_0_4, c_put_0_4, c_ob_1, c_fa_1_0, c_fa_1_1, c_fa_1_2, c_fa_1_3, c_fa_1_4, c_fa_1_5, c_fi_1_6, c_put_1_6, c_ob_2, c_fa_2_0, c_ob_4, c_fa_4_0, c_ob_6, c_fa_6_0, c_ob_8, c_fa_8_0, c_ob_10, c_fa_10_0, c_ob_12, c_fa_12_0, c_ob_14, c_fa_14_0, c_fa_14_1, c_fa_14_2, c_fa_14_3, c_fi_14_4, c_put_14_4, c_ob_15, c_fa_15_0, c_ob_17, c_fa_17_0, c_ob_19, c_fa_19_0, c_ob_21, c_fa_21_0, c_len_0, c_ld_0, c_st_0, c_rd_0, c_wr_0, c_len_1, c_ld_1, c_st_1, c_rd_1, c_wr_1, c_len_2, c_ld_2, c_st_2, c_rd_2, c_wr_2, c_len_3, c_ld_3, c_st_3, c_rd_3, c_wr_3, c_len_4, c_ld_4, c_st_4, c_rd_4, c_wr_4, c_len_5, c_ld_5, c_st_5, c_rd_5, c_wr_5, c_len_6, c_ld_6, c_st_6, c_rd_6, c_wr_6, c_len_7, c_ld_7, c_st_7, c_rd_7, c_wr_7, c_len_8, c_ld_8, c_st_8, c_rd_8, c_wr_8, c_len_9, c_ld_9, c_st_9, c_rd_9, c_wr_9, bI_rI, bL_rL, bA_rA, bV_rV, bI_th, bL_th, bA_th, bV_th, rZ_0, rZ_1]
  rw [rd_nI hp (by decide), rd_nI hp (by decide), e3, e4, rd_nI (by omega) (by decide), hn, nI_add, nI_s1]
  have hnd : n = s + i + (n - (s + i)) := by omega
  rw [show nI n + (-1) = nI (s + i + (n - (s + i))) + (-1) by rw [← hnd], y_openL hr (n - (s + i)) zFu σ (by omega) (by unfold zFu; omega) f3 f4]
  simp only [c_ob_0, c_fa_0_0, c_fa_0_1, c_fi_0_2, c_put_0_2, c_fi_0_3, c_put_0_3, c_fi_0_4, c_put_0_4, c_ob_1, c_fa_1_0, c_fa_1_1, c_fa_1_2, c_fa_1_3, c_fa_1_4, c_fa_1_5, c_fi_1_6, c_put_1_6, c_ob_2, c_fa_2_0, c_ob_4, c_fa_4_0, c_ob_6, c_fa_6_0, c_ob_8, c_fa_8_0, c_ob_10, c_fa_10_0, c_ob_12, c_fa_12_0, c_ob_14, c_fa_14_0, c_fa_14_1, c_fa_14_2, c_fa_14_3, c_fi_14_4, c_put_14_4, c_ob_15, c_fa_15_0, c_ob_17, c_fa_17_0, c_ob_19, c_fa_19_0, c_ob_21, c_fa_21_0, c_len_0, c_ld_0, c_st_0, c_rd_0, c_wr_0, c_len_1, c_ld_1, c_st_1, c_rd_1, c_wr_1, c_len_2, c_ld_2, c_st_2, c_rd_2, c_wr_2, c_len_3, c_ld_3, c_st_3, c_rd_3, c_wr_3, c_len_4, c_ld_4, c_st_4, c_rd_4, c_wr_4, c_len_5, c_ld_5, c_st_5, c_rd_5, c_wr_5, c_len_6, c_ld_6, c_st_6, c_rd_6, c_wr_6, c_len_7, c_ld_7, c_st_7, c_rd_7, c_wr_7, c_len_8, c_ld_8, c_st_8, c_rd_8, c_wr_8, c_len_9, c_ld_9, c_st_9, c_rd_9, c_wr_9, bI_rI, bL_rL, bA_rA, bV_rV, bI_th, bL_th, bA_th, bV_th, rZ_0, rZ_1]
  rw [show 31 * r + (s + i) + (n - (s + i)) = 31 * r + n by omega, y_lengthen hok hp hv (by rw [cArr_ne (by decide)]; exact ha), bV_rV, cArr_ne (by decide)]
theorem x_closeGap {P : mP} {σ : cS} {p r s i n : Nat} (hok : mOk P) (hp : p < 6) (hv : p < 2 ∨ P p ≠ none) (hrw : mRw P zDp p = some (r, s)) (ha : cHa (σ.1 2) P) (h3 : cHp (σ.1 3) (σ.1 4) P) (hn : σ.1 1 r = nI n) (hi : s + i < n) (hk : n ≤ 31) :
    f_I_closeGap (cPut b σ G) (b + 1) (nI p) (nI i) = rV (cPut b (cArr (cArr σ 0 (cDnS (σ.1 0) (31 * r + (s + i)) (31 * r + n))) 1 (fun q => if mAb P zDp q p = true then σ.1 1 q + (-1) else σ.1 1 q)) G) := by
  have hr := mRw_lt _ _ _ _ hrw
  have hrr : mRw P zDp r = some (r, 0) := by
    show mRw P (7 + 1) r = _
    unfold mRw; rw [if_pos hr]
  obtain ⟨e3, e4⟩ := h3 p r s hp hrw
  obtain ⟨f3, f4⟩ := h3 r r 0 (by omega) hrr
  unfold f_I_closeGap
  simp only [y_rowOf, y_lengthOf, c_ob_0, c_fa_0_0, c_fa_0_1, c_fi_0_2, c_put_0_2, c_fi_0_3, c_put_0_3, c_fi_0_4, c_put_0_4, c_ob_1, c_fa_1_0, c_fa_1_1, c_fa_1_2, c_fa_1_3, c_fa_1_4, c_fa_1_5, c_fi_1_6, c_put_1_6, c_ob_2, c_fa_2_0, c_ob_4, c_fa_4_0, c_ob_6, c_fa_6_0, c_ob_8, c_fa_8_0, c_ob_10, c_fa_10_0, c_ob_12, c_fa_12_0, c_ob_14, c_fa_14_0, c_fa_14_1, c_fa_14_2, c_fa_14_3, c_fi_14_4, c_put_14_4, c_ob_15, c_fa_15_0, c_ob_17, c_fa_17_0, c_ob_19, c_fa_19_0, c_ob_21, c_fa_21_0, c_len_0, c_ld_0, c_st_0, c_rd_0, c_wr_0, c_len_1, c_ld_1, c_st_1, c_rd_1, c_wr_1, c_len_2, c_ld_2, c_st_2, c_rd_2, c_wr_2, c_len_3, c_ld_3, c_st_3, c_rd_3, c_wr_3, c_len_4, c_ld_4, c_st_4, c_rd_4, c_wr_4, c_len_5, c_ld_5, c_st_5, c_rd_5, c_wr_5, c_len_6, c_ld_6, c_st_6, c_rd_6, c_wr_6, c_len_7, c_ld_7, c_st_7, c_rd_7, c_wr_7, c_len_8, c_ld_8, c_st_8, c_rd_8, c_wr_8, c_len_9, c_ld_9, c_st_9, c_rd_9, c_wr_9, bI_rI, bL_rL, bA_rA, bV_rV, bI_th, bL_th, bA_th, bV_th, rZ_0, rZ_1]
  rw [rd_nI hp (by decide), rd_nI hp (by decide), e3, e4, rd_nI (by omega) (by decide), hn, nI_add, nI_add, y_closeGL hr hk (n - (s + i + 1)) zFu (s + i) σ (by omega) (by unfold zFu; omega) f3 f4]
  simp only [c_ob_0, c_fa_0_0, c_fa_0_1, c_fi_0_2, c_put_0_2, c_fi_0_3, c_put_0_3, c_fi_0_4, c_put_0_4, c_ob_1, c_fa_1_0, c_fa_1_1, c_fa_1_2, c_fa_1_3, c_fa_1_4, c_fa_1_5, c_fi_1_6, c_put_1_6, c_ob_2, c_fa_2_0, c_ob_4, c_fa_4_0, c_ob_6, c_fa_6_0, c_ob_8, c_fa_8_0, c_ob_10, c_fa_10_0, c_ob_12, c_fa_12_0, c_ob_14, c_fa_14_0, c_fa_14_1, c_fa_14_2, c_fa_14_3, c_fi_14_4, c_put_14_4, c_ob_15, c_fa_15_0, c_ob_17, c_fa_17_0, c_ob_19, c_fa_19_0, c_ob_21, c_fa_21_0, c_len_0, c_ld_0, c_st_0, c_rd_0, c_wr_0, c_len_1, c_ld_1, c_st_1, c_rd_1, c_wr_1, c_len_2, c_ld_2, c_st_2, c_rd_2, c_wr_2, c_len_3, c_ld_3, c_st_3, c_rd_3, c_wr_3, c_len_4, c_ld_4, c_st_4, c_rd_4, c_wr_4, c_len_5, c_ld_5, c_st_5, c_rd_5, c_wr_5, c_len_6, c_ld_6, c_st_6, c_rd_6, c_wr_6, c_len_7, c_ld_7, c_st_7, c_rd_7, c_wr_7, c_len_8, c_ld_8, c_st_8, c_rd_8, c_wr_8, c_len_9, c_ld_9, c_st_9, c_rd_9, c_wr_9, bI_rI, bL_rL, bA_rA, bV_rV, bI_th, bL_th, bA_th, bV_th, rZ_0, rZ_1]
  rw [y_lengthen hok hp hv (by rw [cArr_ne (by decide)]; exact ha), bV_rV, cArr_ne (by decide)]
end Thing
end
section
-- a change of length keeps the invariant, and the class's cells tell of it
/-- the invariant, but for where the cursor exc stands (it is on p) -/
def mInw (exc : Int32) (p : Nat) (A : mS) : Prop :=
  mOk A.2.1 ∧ mFit A ∧ (∀ r, r < 2 → (A.1 r).length ≤ 31) ∧ ∀ c x, A.2.2.1 c = some x → c < 3 ∧ x.1 < 6 ∧ mV A x.1 ∧ (nI c = exc → x.1 = p)
theorem nI_nx {c : Nat} (hc : c < 3) : nI c ≠ -1 := nI_ne1 (by omega)
theorem mInv.w {m : Nat} {A : mS} (h : mInv m A) (p : Nat) : mInw (-1) p A :=
  ⟨h.1, h.2.1, fun r hr => (h.2.2.1 r hr).1, fun c x hx => ⟨(h.2.2.2.1 c x hx).1, (h.2.2.2.1 c x hx).2.1, (h.2.2.2.1 c x hx).2.2.1, fun e => absurd e (nI_nx (h.2.2.2.1 c x hx).1)⟩⟩
theorem mAb_len {A : mS} (hf : mFit A) : ∀ (d p q r s : Nat), mRw A.2.1 d p = some (r, s) → mAb A.2.1 d q p = true → mLen A p ≤ mLen A q
  | 0, _, _, _, _, h, _ => by cases h
  | d + 1, p, q, r, s, h, hq => by
    unfold mRw at h
    rw [mAb_s] at hq
    by_cases hqp : q = p
    · rw [hqp]; exact Nat.le_refl _
    · rw [if_neg hqp] at hq
      by_cases h2 : p < 2
      · rw [if_pos h2] at hq; cases hq
      · rw [if_neg h2] at h hq
        cases hx : A.2.1 p with
        | none => rw [hx] at h; cases h
        | some x =>
          have hf1 := hf p x hx
          rw [hx] at h hq
          obtain ⟨o, f, l⟩ := x
          simp only at h hq hf1
          cases hr : mRw A.2.1 d o with
          | none => rw [hr] at h; cases h
          | some v =>
            have ih := mAb_len hf d o q v.1 v.2 hr hq
            rw [mLen_part h2 hx]
            dsimp only
            omega
theorem mAb_ro {P : mP} (hok : mOk P) {p : Nat} (hv : p < 2 ∨ P p ≠ none) : ∀ (d q r s : Nat), mRw P d p = some (r, s) → mAb P d q p = true → (q < 2 ∨ P q ≠ none) ∧ mRo P q = r := by
  have key : ∀ (d p q r s : Nat), (p < 2 ∨ P p ≠ none) → mRw P d p = some (r, s) → mAb P d q p = true → (q < 2 ∨ P q ≠ none) ∧ mRo P q = r := by
    intro d
    induction d with
    | zero => intro p q r s _ h; cases h
    | succ d ih =>
      intro p q r s hv h hq
      have hro : mRo P p = r := by
        obtain ⟨r1, s1, e⟩ := hok.rw' hv
        have e1 : ∀ (k d : Nat), mRw P d p = some (r, s) → mRw P (d + k) p = some (r, s) := by
          intro k
          induction k with
          | zero => intro d h; exact h
          | succ k ih => intro d h; rw [show d + (k + 1) = d + k + 1 from rfl]; exact mRw_mono _ _ _ (ih d h)
        have e2 : ∀ (k d : Nat), mRw P d p = some (r1, s1) → mRw P (d + k) p = some (r1, s1) := by
          intro k
          induction k with
          | zero => intro d h; exact h
          | succ k ih => intro d h; rw [show d + (k + 1) = d + k + 1 from rfl]; exact mRw_mono _ _ _ (ih d h)
        have a := e1 zDp (d + 1) h
        have c := e2 (d + 1) zDp e
        rw [Nat.add_comm] at a
        rw [a] at c
        have : r = r1 := by cases c; rfl
        rw [this]; exact mRo_of e
      rw [mAb_s] at hq
      by_cases hqp : q = p
      · rw [hqp]; exact ⟨hv, hro⟩
      · rw [if_neg hqp] at hq
        unfold mRw at h
        by_cases h2 : p < 2
        · rw [if_pos h2] at hq; cases hq
        · rw [if_neg h2] at h hq
          cases hx : P p with
          | none => rw [hx] at h; cases h
          | some x =>
            have hcl := hok.cl p x hx
            rw [hx] at h hq
            obtain ⟨o, f, l⟩ := x
            simp only at h hq hcl
            cases hr : mRw P d o with
            | none => rw [hr] at h; cases h
            | some v =>
              obtain ⟨r', s'⟩ := v
              rw [hr] at h
              have : r' = r := by cases h; rfl
              rw [← this]
              exact ih o q r' s' hcl hr hq
  exact fun d q r s => key d p q r s hv
theorem mV_rows {A : mS} {r : Nat} {ts : List (Nat × Nat × Nat)} {p : Nat} : mV (mRows A r ts) p ↔ mV A p := Iff.rfl
theorem mLen_rows {A : mS} {r : Nat} {ts : List (Nat × Nat × Nat)} {p : Nat} : mLen (mRows A r ts) p = if p = r ∧ p < 2 then ts.length else mLen A p := by
  unfold mLen
  by_cases h2 : p < 2
  · rw [if_pos h2, if_pos h2]
    show (if p = r then ts else A.1 p).length = _
    by_cases e : p = r
    · rw [if_pos e, if_pos ⟨e, h2⟩]
    · rw [if_neg e, if_neg (fun q => e q.1)]
  · rw [if_neg h2, if_neg h2, if_neg (fun q => h2 q.2)]; rfl
theorem mChd.of {exc : Int32} {A : mS} {p r s : Nat} {z : Int} {ts : List (Nat × Nat × Nat)} (h : mInw exc p A) (hv : mV A p) (hrw : mRw A.2.1 zDp p = some (r, s)) (hz : z ≠ 0) : mChd (mRows A r ts) (mChange (mRows A r ts) p z exc) p r z exc :=
  mChange_char (A := mRows A r ts) h.1 hrw hv hz (fun c x hx => ⟨(h.2.2.2 c x hx).1, (h.2.2.2 c x hx).2.2.1, (h.2.2.2 c x hx).2.2.2⟩)
theorem mInv.chg {m : Nat} {exc : Int32} {A : mS} {p r s : Nat} {z : Int} {ts : List (Nat × Nat × Nat)} (h : mInw exc p A) (hv : mV A p) (hrw : mRw A.2.1 zDp p = some (r, s)) (hz : z ≠ 0) (hl : (ts.length : Int) = (A.1 r).length + z) (hl31 : ts.length ≤ 31) (hpos : 0 ≤ (mLen A p : Int) + z)
    (ht : ∀ t, t ∈ ts → mTok m t) (ht2 : ∀ r' t, r' < 2 → t ∈ A.1 r' → mTok m t) (hm : A.2.2.2 1 = nI m) (hm6 : m ≤ 600)
    (hc : ∀ c x, A.2.2.1 c = some x → if nI c = exc then x.2.2.2 = 0 ∧ (x.2.1 : Int) ≤ mLen A p + z ∧ x.2.2.1 = -1 else mCok A x) : mInv m (mChange (mRows A r ts) p z exc) := by
  obtain ⟨d1, d2, d3, d4, d5, d6, d7, -, -⟩ := mChd.of (ts := ts) h hv hrw hz
  have hr := mRw_lt _ _ _ _ hrw
  generalize mChange (mRows A r ts) p z exc = A' at d1 d2 d3 d4 d5 d6 d7 ⊢
  have d4' : ∀ q x, A.2.1 q = some x → A'.2.1 q = if mAb A.2.1 zDp q p = true then some (x.1, x.2.1, ((x.2.2 : Int) + z).toNat) else if mRo A.2.1 q = r then none else some x := d4
  have hp := mRo_of hrw
  -- lengths now
  have la : ∀ q, mAb A.2.1 zDp q p = true → (mLen A' q : Int) = mLen A q + z := by
    intro q hq
    have hle := mAb_len h.2.1 zDp p q r s hrw hq
    by_cases h2 : q < 2
    · have e : q = r := by
        have := mAb_row zDp p r s hrw q h2
        rw [hq] at this
        exact of_decide_eq_true this.symm
      rw [mLen_row h2, mLen_row h2, d1]
      show ((if q = r then ts else A.1 q).length : Int) = _
      rw [if_pos e, e]; exact hl
    · obtain ⟨x, hx, -⟩ := mAb.closed zDp p r s hrw q hq (by omega)
      have e := d4' q x hx
      rw [if_pos hq] at e
      rw [mLen_part h2 e, mLen_part h2 hx]
      rw [mLen_part h2 hx] at hle
      dsimp only
      omega
  have lb : ∀ q, mV A q → mRo A.2.1 q ≠ r → mLen A' q = mLen A q ∧ mV A' q := by
    intro q hq hro
    by_cases h2 : q < 2
    · rw [mLen_row h2, mLen_row h2, d1]
      refine ⟨?_, Or.inl h2⟩
      show (if q = r then ts else A.1 q).length = _
      have hqr : mRo A.2.1 q = q := mRo_of (b := 0) (by show mRw A.2.1 (7 + 1) q = _; unfold mRw; rw [if_pos h2])
      rw [if_neg (fun e => hro (hqr.trans e))]
    · rcases hq with k | k
      · exact absurd k h2
      · cases hx : A.2.1 q with
        | none => exact absurd hx k
        | some x =>
          have e := d4' q x hx
          have hab : ¬ mAb A.2.1 zDp q p = true := fun w => hro (mAb_ro h.1 hv zDp q r s hrw w).2
          rw [if_neg hab, if_neg hro] at e
          rw [mLen_part h2 e, mLen_part h2 hx]
          exact ⟨rfl, Or.inr (by rw [e]; exact Option.some_ne_none _)⟩
  refine ⟨d2, fun q x' hx' => ?_, fun r' hr' => ?_, fun c x' hx' => ?_, by rw [d7 1 (by omega) (by omega)]; exact hm, hm6⟩
  · cases hx : A.2.1 q with
    | none => rw [d3 q hx] at hx'; cases hx'
    | some x =>
      have e := d4' q x hx
      have hf := h.2.1 q x hx
      have h2 := (h.1.1 q x hx).1
      by_cases hab : mAb A.2.1 zDp q p = true
      · rw [if_pos hab, hx'] at e
        obtain ⟨y, hy, hy2⟩ := mAb.closed zDp p r s hrw q hab h2
        have : y = x := by rw [hx] at hy; cases hy; rfl
        rw [this] at hy2
        have l1 := la x.1 hy2
        have l2 := mAb_len h.2.1 zDp p q r s hrw hab
        rw [mLen_part (by omega) hx] at l2
        have e1 := Option.some.inj e
        rw [e1]
        dsimp only
        omega
      · rw [if_neg hab] at e
        by_cases hro : mRo A.2.1 q = r
        · rw [if_pos hro, hx'] at e; cases e
        · rw [if_neg hro, hx'] at e
          have e1 := Option.some.inj e
          rw [e1]
          have hv1 : mV A x.1 := h.1.cl q x hx
          have hro1 : mRo A.2.1 x.1 ≠ r := by
            obtain ⟨r1, s1, h1⟩ := h.1.rw' hv1
            have := mRo_of (mRw_of h.1 hx h1)
            rw [mRo_of h1]
            intro e2
            exact hro (this.trans e2)
          rw [(lb x.1 hv1 hro1).1]; exact hf
  · rw [d1]
    show (if r' = r then ts else A.1 r').length ≤ 31 ∧ ∀ t, t ∈ (if r' = r then ts else A.1 r') → mTok m t
    by_cases e : r' = r
    · rw [if_pos e]; exact ⟨hl31, ht⟩
    · rw [if_neg e]; exact ⟨h.2.2.1 r' hr', fun t => ht2 r' t hr'⟩
  · have hc3 : c < 3 := by
      by_cases hc3 : c < 3
      · exact hc3
      · rw [d6 c (by omega)] at hx'
        exact (h.2.2.2 c x' hx').1
    refine ⟨hc3, ?_⟩
    rw [d5 c hc3] at hx'
    unfold mCf at hx'
    by_cases he : nI c = exc
    · rw [if_pos he] at hx'
      have hx : A.2.2.1 c = some x' := hx'
      have k := hc c x' hx
      rw [if_pos he] at k
      have hw := h.2.2.2 c x' hx
      have hxp := hw.2.2.2 he
      have l1 := la p (mAb_refl _ _)
      refine ⟨hw.2.1, ?_, Or.inl ⟨k.1, ?_, Or.inl k.2.2⟩⟩
      · rw [hxp]
        rcases hv with w | w
        · exact Or.inl w
        · cases hy : A.2.1 p with
          | none => exact absurd hy w
          | some y =>
            have e := d4' p y hy
            rw [if_pos (mAb_refl _ _)] at e
            exact Or.inr (by rw [e]; exact Option.some_ne_none _)
      · rw [hxp]; omega
    · rw [if_neg he] at hx'
      have hx'' : (match A.2.2.1 c with
        | some x => if mRo A.2.1 x.1 = r then (if x.1 < 2 then some (x.1, x.2.1, x.2.2.1, nI 1) else none) else some x
        | none => none) = some x' := hx'
      cases hx : A.2.2.1 c with
      | none => rw [hx] at hx''; cases hx''
      | some x =>
        rw [hx] at hx''
        simp only at hx''
        have k := hc c x hx
        rw [if_neg he] at k
        by_cases hro : mRo A.2.1 x.1 = r
        · rw [if_pos hro] at hx''
          by_cases h2 : x.1 < 2
          · rw [if_pos h2] at hx''
            rw [← Option.some.inj hx'']
            refine ⟨k.1, Or.inl h2, Or.inr ⟨rfl, h2, ?_⟩⟩
            dsimp only
            rcases k.2.2 with w | w
            · have hl := h.2.2.1 x.1 h2
              have := w.2.1
              rw [mLen_row h2] at this
              omega
            · exact w.2.2
          · rw [if_neg h2] at hx''; cases hx''
        · rw [if_neg hro] at hx''
          rw [← Option.some.inj hx'']
          obtain ⟨e1, e2⟩ := lb x.1 k.2.1 hro
          refine ⟨k.1, e2, ?_⟩
          rw [e1]; exact k.2.2
def CRepx (exc : Int32) (σ : cS) (A : mS) : Prop := cTh (σ.1 0) A.1 ∧ cRl σ A ∧ cRx exc σ A
theorem CRepx.of {exc : Int32} {σ : cS} {A : mS} (h : CRep σ A) : CRepx exc σ A :=
  ⟨h.1, h.2.1, h.2.2.1, h.2.2.2.1, h.2.2.2.2.1, fun c hc => by
    have := h.2.2.2.2.2.1 c hc
    cases hx : A.2.2.1 c with
    | none => rw [hx] at this; exact this
    | some x => rw [hx] at this; exact ⟨this.1, this.2.1, fun _ => this.2.2 (nI_nx hc)⟩, h.2.2.2.2.2.2⟩
theorem x_chg {b : Nat} {G : gH} {exc : Int32} {A : mS} {σ : cS} {p r s : Nat} {z : Int} {f' : Nat → Int32} {ts : List (Nat × Nat × Nat)} (h : mInw exc p A) (hR : CRepx exc σ A) (hv : mV A p) (hrw : mRw A.2.1 zDp p = some (r, s)) (hz : z ≠ 0) (hz1 : -100 < z ∧ z < 100)
    (hl : (ts.length : Int) = (A.1 r).length + z) (hl31 : ts.length ≤ 31) (hpos : 0 ≤ (mLen A p : Int) + z) (ho : cOut r (σ.1 0) f') (hs : cSeg f' (31 * r) ts) :
    ∃ σ', f_X_endByLength (cPut b (cArr (cArr σ 0 f') 1 (fun q => if mAb A.2.1 zDp q p = true then σ.1 1 q + Int32.ofInt z else σ.1 1 q)) G) b (nI p) exc = rV (cPut b σ' G) ∧ CRepx exc σ' (mChange (mRows A r ts) p z exc) ∧ σ'.1 8 = σ.1 8 ∧ σ'.1 9 = σ.1 9 := by
  obtain ⟨t1, t2, l1, l2, l3, l4, l5⟩ := hR
  have hr := mRw_lt _ _ _ _ hrw
  have hd := mChd.of (ts := ts) h hv hrw hz
  obtain ⟨σ', e1, e2, e3, e4, e5, e6⟩ := x_endByLength (b := b) (G := G) (A := mRows A r ts) (A' := mChange (mRows A r ts) p z exc) (σ := cArr (cArr σ 0 f') 1 (fun q => if mAb A.2.1 zDp q p = true then σ.1 1 q + Int32.ofInt z else σ.1 1 q)) (l0 := σ.1 1) (s := s) (z := z) (exc := exc)
    h.1 hv hrw hz1 l1 cArr_at (fun q x hx => by
      have hq : mV A q := Or.inr (by show A.2.1 q ≠ none; rw [show A.2.1 q = some x from hx]; exact Option.some_ne_none _)
      have hx' : A.2.1 q = some x := hx
      obtain ⟨r1, s1, h1⟩ := h.1.rw' hq
      have a1 := h.2.1.rw _ _ _ _ h1
      have a2 := h.2.2.1 r1 (mRw_lt _ _ _ _ h1)
      have a3 := mLen_part (A := A) (p := q) (by have := (h.1.1 q x hx').1; omega) hx'
      refine ⟨by omega, fun hab => ?_⟩
      have a4 := mAb_len h.2.1 zDp p q r s hrw hab
      omega) (by rw [cArr_ne (by decide), cArr_ne (by decide)]; exact l2) (by rw [cArr_ne (by decide), cArr_ne (by decide), cArr_ne (by decide), cArr_ne (by decide)]; exact l3)
      (by rw [cArr_ne (by decide), cArr_ne (by decide), cArr_ne (by decide), cArr_ne (by decide), cArr_ne (by decide), cArr_ne (by decide), cArr_ne (by decide), cArr_ne (by decide)]; exact l4) l5 (fun c x hx => ⟨(h.2.2.2 c x hx).2.1, (h.2.2.2 c x hx).2.2.1⟩) hd
  rw [cArr_ne (by decide), cArr_at] at e2
  rw [cArr_ne (by decide), cArr_ne (by decide)] at e5 e6
  refine ⟨σ', e1, ⟨?_, ?_, e4⟩, e5, e6⟩
  · rw [e2, hd.1]
    exact t1.row h.2.2.1 ho hs
  · intro r' hr'
    rw [e3 r' hr', cArr_at, mAb_row zDp p r s hrw r' hr', hd.1]
    show _ = nI ((if r' = r then ts else A.1 r').length)
    by_cases e : r' = r
    · rw [if_pos (decide_eq_true e), if_pos e, t2 r' hr', nI_int (by rw [e]; omega)]
      congr 1
      rw [e]; omega
    · rw [if_neg (by rw [decide_eq_false e]; decide), if_neg e, t2 r' hr']
end
section
-- the class: what its calls share
theorem ins_td {α : Type} (a : α) : ∀ (l : List α) (i : Nat), i ≤ l.length → l.insertIdx i a = l.take i ++ a :: l.drop i
  | l, 0, _ => by simp
  | [], i + 1, h => by simp at h
  | x :: l, i + 1, h => by
    rw [List.insertIdx_succ_cons, ins_td a l i (by simpa using h)]
    simp
theorem er_td {α : Type} : ∀ (l : List α) (i : Nat), l.eraseIdx i = l.take i ++ l.drop (i + 1)
  | [], i => by simp
  | x :: l, 0 => by simp
  | x :: l, i + 1 => by
    rw [List.eraseIdx_cons_succ, er_td l i]
    simp
theorem cArr_comm {σ : cS} {j k : Nat} {f g : Nat → Int32} (h : j ≠ k) : cArr (cArr σ j f) k g = cArr (cArr σ k g) j f := by
  refine Prod.ext ?_ rfl
  funext q
  show (if q = k then g else if q = j then f else σ.1 q) = if q = j then f else if q = k then g else σ.1 q
  by_cases e : q = k
  · rw [if_pos e, if_neg (fun q' => h (q'.symm.trans e)), if_pos e]
  · rw [if_neg e, if_neg e]
theorem ofInt_m1 : Int32.ofInt (-1) = -1 := by decide
theorem ofInt_1 : Int32.ofInt 1 = nI 1 := ofInt_nI 1
theorem mInw.len {exc : Int32} {p : Nat} {A : mS} (h : mInw exc p A) {q : Nat} (hq : mV A q) : ∃ r s, mRw A.2.1 zDp q = some (r, s) ∧ r < 2 ∧ s + mLen A q ≤ (A.1 r).length ∧ (A.1 r).length ≤ 31 ∧ q < 6 := by
  obtain ⟨r, s, e⟩ := h.1.rw' hq
  have hr := mRw_lt _ _ _ _ e
  exact ⟨r, s, e, hr, h.2.1.rw _ _ _ _ e, h.2.2.1 r hr, hq.lt h.1⟩
section Cop
variable {b : Nat} {G : gH} {exc : Int32} {A : mS} {σ : cS} {p : Nat}
theorem CRepx.len (h : CRepx exc σ A) {q : Nat} (hok : mOk A.2.1) (hq : mV A q) : σ.1 1 q = nI (mLen A q) := by
  by_cases h2 : q < 2
  · rw [mLen_row h2]; exact h.2.1 q h2
  · rcases hq with k | k
    · exact absurd k h2
    · cases hx : A.2.1 q with
      | none => exact absurd hx k
      | some x =>
        have h26 := hok.1 q x hx
        have := h.2.2.1 q h26.1 h26.2
        rw [hx] at this
        rw [mLen_part h2 hx]; exact this
theorem CRepx.there (h : CRepx exc σ A) (hw : mInw exc p A) {x : Int32} : rd 6 (σ.1 1) x = -1 ↔ ¬ mIsL A x := by
  by_cases hx : ∃ i, i < 6 ∧ x = nI i
  · obtain ⟨i, hi, rfl⟩ := hx
    rw [rd_nI hi (by decide)]
    by_cases hv : mV A i
    · obtain ⟨r, s, -, -, e1, e2, -⟩ := hw.len hv
      rw [h.len hw.1 hv]
      exact ⟨fun q => absurd q (nI_ne1 (by omega)), fun q => absurd ⟨i, hi, rfl, hv⟩ q⟩
    · have h2 : ¬ i < 2 := fun q => hv (Or.inl q)
      have := h.2.2.1 i (by omega) hi
      cases hy : A.2.1 i with
      | some y => exact absurd (Or.inr (by rw [hy]; exact Option.some_ne_none _)) hv
      | none =>
        rw [hy] at this
        refine ⟨fun _ => ?_, fun _ => this⟩
        rintro ⟨j, hj, e, hv'⟩
        rw [(nI_eq (by omega) (by omega)).mp e] at hv
        exact hv hv'
  · rw [rd_out hx (by decide)]
    refine ⟨fun _ => ?_, fun _ => rfl⟩
    rintro ⟨j, hj, e, -⟩
    exact hx ⟨j, hj, e⟩
theorem x_needList (h : CRepx exc σ A) (hw : mInw exc p A) {x : Int32} (hx : mIsL A x) : f_X_needList (cPut b σ G) b x = rV (cPut b σ G) := by
  unfold f_X_needList
  simp only [y_isThere (t := true) ⟨fun q => absurd hx ((h.there hw).mp q), fun q => (by cases q)⟩, mB_if, c_ob_0, c_fa_0_0, c_fa_0_1, c_fi_0_2, c_put_0_2, c_fi_0_3, c_put_0_3, c_fi_0_4, c_put_0_4, c_ob_1, c_fa_1_0, c_fa_1_1, c_fa_1_2, c_fa_1_3, c_fa_1_4, c_fa_1_5, c_fi_1_6, c_put_1_6, c_ob_2, c_fa_2_0, c_ob_4, c_fa_4_0, c_ob_6, c_fa_6_0, c_ob_8, c_fa_8_0, c_ob_10, c_fa_10_0, c_ob_12, c_fa_12_0, c_ob_14, c_fa_14_0, c_fa_14_1, c_fa_14_2, c_fa_14_3, c_fi_14_4, c_put_14_4, c_ob_15, c_fa_15_0, c_ob_17, c_fa_17_0, c_ob_19, c_fa_19_0, c_ob_21, c_fa_21_0, c_len_0, c_ld_0, c_st_0, c_rd_0, c_wr_0, c_len_1, c_ld_1, c_st_1, c_rd_1, c_wr_1, c_len_2, c_ld_2, c_st_2, c_rd_2, c_wr_2, c_len_3, c_ld_3, c_st_3, c_rd_3, c_wr_3, c_len_4, c_ld_4, c_st_4, c_rd_4, c_wr_4, c_len_5, c_ld_5, c_st_5, c_rd_5, c_wr_5, c_len_6, c_ld_6, c_st_6, c_rd_6, c_wr_6, c_len_7, c_ld_7, c_st_7, c_rd_7, c_wr_7, c_len_8, c_ld_8, c_st_8, c_rd_8, c_wr_8, c_len_9, c_ld_9, c_st_9, c_rd_9, c_wr_9, bI_rI, bL_rL, bA_rA, bV_rV, bI_th, bL_th, bA_th, bV_th, rZ_0, rZ_1]
  rw [if_pos trivial]
theorem x_needList_no (h : CRepx exc σ A) (hw : mInw exc p A) {x : Int32} (hx : ¬ mIsL A x) : f_X_needList (cPut b σ G) b x = gThrow "java/lang/IndexOutOfBoundsException" (cPut b σ G) := by
  unfold f_X_needList
  simp only [y_isThere (t := false) ⟨fun _ => rfl, fun _ => (h.there hw).mpr hx⟩, mB_if, c_ob_0, c_fa_0_0, c_fa_0_1, c_fi_0_2, c_put_0_2, c_fi_0_3, c_put_0_3, c_fi_0_4, c_put_0_4, c_ob_1, c_fa_1_0, c_fa_1_1, c_fa_1_2, c_fa_1_3, c_fa_1_4, c_fa_1_5, c_fi_1_6, c_put_1_6, c_ob_2, c_fa_2_0, c_ob_4, c_fa_4_0, c_ob_6, c_fa_6_0, c_ob_8, c_fa_8_0, c_ob_10, c_fa_10_0, c_ob_12, c_fa_12_0, c_ob_14, c_fa_14_0, c_fa_14_1, c_fa_14_2, c_fa_14_3, c_fi_14_4, c_put_14_4, c_ob_15, c_fa_15_0, c_ob_17, c_fa_17_0, c_ob_19, c_fa_19_0, c_ob_21, c_fa_21_0, c_len_0, c_ld_0, c_st_0, c_rd_0, c_wr_0, c_len_1, c_ld_1, c_st_1, c_rd_1, c_wr_1, c_len_2, c_ld_2, c_st_2, c_rd_2, c_wr_2, c_len_3, c_ld_3, c_st_3, c_rd_3, c_wr_3, c_len_4, c_ld_4, c_st_4, c_rd_4, c_wr_4, c_len_5, c_ld_5, c_st_5, c_rd_5, c_wr_5, c_len_6, c_ld_6, c_st_6, c_rd_6, c_wr_6, c_len_7, c_ld_7, c_st_7, c_rd_7, c_wr_7, c_len_8, c_ld_8, c_st_8, c_rd_8, c_wr_8, c_len_9, c_ld_9, c_st_9, c_rd_9, c_wr_9, bI_rI, bL_rL, bA_rA, bV_rV, bI_th, bL_th, bA_th, bV_th, rZ_0, rZ_1]
  rw [if_neg (by decide)]
theorem x_len (h : CRepx exc σ A) (hok : mOk A.2.1) {q : Nat} (hq : mV A q) : f_I_lengthOf (cPut b σ G) (b + 1) (nI q) = rI (nI (mLen A q)) (cPut b σ G) := by
  rw [y_lengthOf, rd_nI (hq.lt hok) (by decide), h.len hok hq]
theorem x_row (h : CRepx exc σ A) (hok : mOk A.2.1) {q r s : Nat} (hq : mV A q) (hr : mRw A.2.1 zDp q = some (r, s)) : f_I_rowOf (cPut b σ G) (b + 1) (nI q) = rI (nI r) (cPut b σ G) := by
  rw [y_rowOf, rd_nI (hq.lt hok) (by decide), (h.2.2.2.2.1 q r s (hq.lt hok) hr).1]
def mIsG (L : Nat) (x : Int32) : Prop := ∃ i, i ≤ L ∧ x = nI i
def mIsP (L : Nat) (x : Int32) : Prop := ∃ i, i < L ∧ x = nI i
theorem nI_gap {L : Nat} {x : Int32} (hL : L < 2 ^ 31) : mIsG L x ↔ ¬ x < 0 ∧ x ≤ nI L := by
  constructor
  · rintro ⟨i, hi, rfl⟩
    exact ⟨nI_pos (by omega), nI_le hi hL⟩
  · rintro ⟨h1, h2⟩
    obtain ⟨j, hj, rfl⟩ := nI_of h1
    exact ⟨j, (nI_leI hj hL).mp h2, rfl⟩
theorem nI_plc {L : Nat} {x : Int32} (hL : L < 2 ^ 31) : mIsP L x ↔ ¬ x < 0 ∧ x < nI L := by
  constructor
  · rintro ⟨i, hi, rfl⟩
    exact ⟨nI_pos (by omega), nI_lt hi hL⟩
  · rintro ⟨h1, h2⟩
    obtain ⟨j, hj, rfl⟩ := nI_of h1
    exact ⟨j, (nI_ltI hj hL).mp h2, rfl⟩
theorem x_needGap (h : CRepx exc σ A) (hok : mOk A.2.1) {q : Nat} (hq : mV A q) (hl : mLen A q < 100) {x : Int32} :
    (mIsG (mLen A q) x → f_X_needGap (cPut b σ G) b (nI q) x = rV (cPut b σ G)) ∧ (¬ mIsG (mLen A q) x → f_X_needGap (cPut b σ G) b (nI q) x = gThrow "java/lang/IndexOutOfBoundsException" (cPut b σ G)) := by
  have e := nI_gap (L := mLen A q) (x := x) (by omega)
  unfold f_X_needGap
  simp only [x_len h hok hq, c_ob_0, c_fa_0_0, c_fa_0_1, c_fi_0_2, c_put_0_2, c_fi_0_3, c_put_0_3, c_fi_0_4, c_put_0_4, c_ob_1, c_fa_1_0, c_fa_1_1, c_fa_1_2, c_fa_1_3, c_fa_1_4, c_fa_1_5, c_fi_1_6, c_put_1_6, c_ob_2, c_fa_2_0, c_ob_4, c_fa_4_0, c_ob_6, c_fa_6_0, c_ob_8, c_fa_8_0, c_ob_10, c_fa_10_0, c_ob_12, c_fa_12_0, c_ob_14, c_fa_14_0, c_fa_14_1, c_fa_14_2, c_fa_14_3, c_fi_14_4, c_put_14_4, c_ob_15, c_fa_15_0, c_ob_17, c_fa_17_0, c_ob_19, c_fa_19_0, c_ob_21, c_fa_21_0, c_len_0, c_ld_0, c_st_0, c_rd_0, c_wr_0, c_len_1, c_ld_1, c_st_1, c_rd_1, c_wr_1, c_len_2, c_ld_2, c_st_2, c_rd_2, c_wr_2, c_len_3, c_ld_3, c_st_3, c_rd_3, c_wr_3, c_len_4, c_ld_4, c_st_4, c_rd_4, c_wr_4, c_len_5, c_ld_5, c_st_5, c_rd_5, c_wr_5, c_len_6, c_ld_6, c_st_6, c_rd_6, c_wr_6, c_len_7, c_ld_7, c_st_7, c_rd_7, c_wr_7, c_len_8, c_ld_8, c_st_8, c_rd_8, c_wr_8, c_len_9, c_ld_9, c_st_9, c_rd_9, c_wr_9, bI_rI, bL_rL, bA_rA, bV_rV, bI_th, bL_th, bA_th, bV_th, rZ_0, rZ_1]
  refine ⟨fun k => ?_, fun k => ?_⟩
  · rw [if_neg (e.mp k).1, if_pos (e.mp k).2]
  · by_cases h1 : x < 0
    · rw [if_pos h1]
    · rw [if_neg h1, if_neg (fun z => k (e.mpr ⟨h1, z⟩))]
theorem x_needPlace (h : CRepx exc σ A) (hok : mOk A.2.1) {q : Nat} (hq : mV A q) (hl : mLen A q < 100) {x : Int32} :
    (mIsP (mLen A q) x → f_X_needPlace (cPut b σ G) b (nI q) x = rV (cPut b σ G)) ∧ (¬ mIsP (mLen A q) x → f_X_needPlace (cPut b σ G) b (nI q) x = gThrow "java/lang/IndexOutOfBoundsException" (cPut b σ G)) := by
  have e := nI_plc (L := mLen A q) (x := x) (by omega)
  unfold f_X_needPlace
  simp only [x_len h hok hq, c_ob_0, c_fa_0_0, c_fa_0_1, c_fi_0_2, c_put_0_2, c_fi_0_3, c_put_0_3, c_fi_0_4, c_put_0_4, c_ob_1, c_fa_1_0, c_fa_1_1, c_fa_1_2, c_fa_1_3, c_fa_1_4, c_fa_1_5, c_fi_1_6, c_put_1_6, c_ob_2, c_fa_2_0, c_ob_4, c_fa_4_0, c_ob_6, c_fa_6_0, c_ob_8, c_fa_8_0, c_ob_10, c_fa_10_0, c_ob_12, c_fa_12_0, c_ob_14, c_fa_14_0, c_fa_14_1, c_fa_14_2, c_fa_14_3, c_fi_14_4, c_put_14_4, c_ob_15, c_fa_15_0, c_ob_17, c_fa_17_0, c_ob_19, c_fa_19_0, c_ob_21, c_fa_21_0, c_len_0, c_ld_0, c_st_0, c_rd_0, c_wr_0, c_len_1, c_ld_1, c_st_1, c_rd_1, c_wr_1, c_len_2, c_ld_2, c_st_2, c_rd_2, c_wr_2, c_len_3, c_ld_3, c_st_3, c_rd_3, c_wr_3, c_len_4, c_ld_4, c_st_4, c_rd_4, c_wr_4, c_len_5, c_ld_5, c_st_5, c_rd_5, c_wr_5, c_len_6, c_ld_6, c_st_6, c_rd_6, c_wr_6, c_len_7, c_ld_7, c_st_7, c_rd_7, c_wr_7, c_len_8, c_ld_8, c_st_8, c_rd_8, c_wr_8, c_len_9, c_ld_9, c_st_9, c_rd_9, c_wr_9, bI_rI, bL_rL, bA_rA, bV_rV, bI_th, bL_th, bA_th, bV_th, rZ_0, rZ_1]
  refine ⟨fun k => ?_, fun k => ?_⟩
  · rw [if_neg (e.mp k).1, if_pos (e.mp k).2]
  · by_cases h1 : x < 0
    · rw [if_pos h1]
    · rw [if_neg h1, if_neg (fun z => k (e.mpr ⟨h1, z⟩))]
theorem x_needKey {x : Int32} : (mIsP 31 x → f_X_needKey (cPut b σ G) b x = rV (cPut b σ G)) ∧ (¬ mIsP 31 x → f_X_needKey (cPut b σ G) b x = gThrow "java/lang/IllegalArgumentException" (cPut b σ G)) := by
  have e := nI_plc (L := 31) (x := x) (by omega)
  unfold f_X_needKey
  refine ⟨fun k => ?_, fun k => ?_⟩
  · rw [if_neg (e.mp k).1, if_pos (e.mp k).2]
  · by_cases h1 : x < 0
    · rw [if_pos h1]
    · rw [if_neg h1, if_neg (fun z => k (e.mpr ⟨h1, z⟩))]
theorem x_needRow {x : Int32} : (mIsP 2 x → f_X_needRow (cPut b σ G) b x = rV (cPut b σ G)) ∧ (¬ mIsP 2 x → f_X_needRow (cPut b σ G) b x = gThrow "java/lang/IndexOutOfBoundsException" (cPut b σ G)) := by
  have e := nI_plc (L := 2) (x := x) (by omega)
  unfold f_X_needRow
  refine ⟨fun k => ?_, fun k => ?_⟩
  · rw [if_neg (e.mp k).1, if_pos (e.mp k).2]
  · by_cases h1 : x < 0
    · rw [if_pos h1]
    · rw [if_neg h1, if_neg (fun z => k (e.mpr ⟨h1, z⟩))]
theorem x_needRoom (h : CRepx exc σ A) (hok : mOk A.2.1) {q r s n : Nat} (hq : mV A q) (hr : mRw A.2.1 zDp q = some (r, s)) (hl : (A.1 r).length ≤ 31) (hn : n < 100) :
    ((A.1 r).length + n ≤ 31 → f_X_needRoom (cPut b σ G) b (nI q) (nI n) = rV (cPut b σ G)) ∧ (31 < (A.1 r).length + n → f_X_needRoom (cPut b σ G) b (nI q) (nI n) = gThrow "java/lang/IllegalStateException" (cPut b σ G)) := by
  have hr2 := mRw_lt _ _ _ _ hr
  unfold f_X_needRoom
  simp only [x_row h hok hq hr, x_len h hok (Or.inl hr2), c_ob_0, c_fa_0_0, c_fa_0_1, c_fi_0_2, c_put_0_2, c_fi_0_3, c_put_0_3, c_fi_0_4, c_put_0_4, c_ob_1, c_fa_1_0, c_fa_1_1, c_fa_1_2, c_fa_1_3, c_fa_1_4, c_fa_1_5, c_fi_1_6, c_put_1_6, c_ob_2, c_fa_2_0, c_ob_4, c_fa_4_0, c_ob_6, c_fa_6_0, c_ob_8, c_fa_8_0, c_ob_10, c_fa_10_0, c_ob_12, c_fa_12_0, c_ob_14, c_fa_14_0, c_fa_14_1, c_fa_14_2, c_fa_14_3, c_fi_14_4, c_put_14_4, c_ob_15, c_fa_15_0, c_ob_17, c_fa_17_0, c_ob_19, c_fa_19_0, c_ob_21, c_fa_21_0, c_len_0, c_ld_0, c_st_0, c_rd_0, c_wr_0, c_len_1, c_ld_1, c_st_1, c_rd_1, c_wr_1, c_len_2, c_ld_2, c_st_2, c_rd_2, c_wr_2, c_len_3, c_ld_3, c_st_3, c_rd_3, c_wr_3, c_len_4, c_ld_4, c_st_4, c_rd_4, c_wr_4, c_len_5, c_ld_5, c_st_5, c_rd_5, c_wr_5, c_len_6, c_ld_6, c_st_6, c_rd_6, c_wr_6, c_len_7, c_ld_7, c_st_7, c_rd_7, c_wr_7, c_len_8, c_ld_8, c_st_8, c_rd_8, c_wr_8, c_len_9, c_ld_9, c_st_9, c_rd_9, c_wr_9, bI_rI, bL_rL, bA_rA, bV_rV, bI_th, bL_th, bA_th, bV_th, rZ_0, rZ_1]
  rw [mLen_row hr2, nI_add]
  exact ⟨fun k => if_pos (nI_le k (by omega)), fun k => if_neg (nI_ge k (by omega))⟩
theorem x_needOther (h : CRepx exc σ A) (hok : mOk A.2.1) {q q' r s r' s' : Nat} (hq : mV A q) (hr : mRw A.2.1 zDp q = some (r, s)) (hq' : mV A q') (hr' : mRw A.2.1 zDp q' = some (r', s')) :
    (r ≠ r' → f_X_needOtherRow (cPut b σ G) b (nI q) (nI q') = rV (cPut b σ G)) ∧ (r = r' → f_X_needOtherRow (cPut b σ G) b (nI q) (nI q') = gThrow "java/lang/IllegalStateException" (cPut b σ G)) := by
  have e1 := mRw_lt _ _ _ _ hr
  have e2 := mRw_lt _ _ _ _ hr'
  unfold f_X_needOtherRow
  simp only [x_row h hok hq hr, x_row h hok hq' hr', c_ob_0, c_fa_0_0, c_fa_0_1, c_fi_0_2, c_put_0_2, c_fi_0_3, c_put_0_3, c_fi_0_4, c_put_0_4, c_ob_1, c_fa_1_0, c_fa_1_1, c_fa_1_2, c_fa_1_3, c_fa_1_4, c_fa_1_5, c_fi_1_6, c_put_1_6, c_ob_2, c_fa_2_0, c_ob_4, c_fa_4_0, c_ob_6, c_fa_6_0, c_ob_8, c_fa_8_0, c_ob_10, c_fa_10_0, c_ob_12, c_fa_12_0, c_ob_14, c_fa_14_0, c_fa_14_1, c_fa_14_2, c_fa_14_3, c_fi_14_4, c_put_14_4, c_ob_15, c_fa_15_0, c_ob_17, c_fa_17_0, c_ob_19, c_fa_19_0, c_ob_21, c_fa_21_0, c_len_0, c_ld_0, c_st_0, c_rd_0, c_wr_0, c_len_1, c_ld_1, c_st_1, c_rd_1, c_wr_1, c_len_2, c_ld_2, c_st_2, c_rd_2, c_wr_2, c_len_3, c_ld_3, c_st_3, c_rd_3, c_wr_3, c_len_4, c_ld_4, c_st_4, c_rd_4, c_wr_4, c_len_5, c_ld_5, c_st_5, c_rd_5, c_wr_5, c_len_6, c_ld_6, c_st_6, c_rd_6, c_wr_6, c_len_7, c_ld_7, c_st_7, c_rd_7, c_wr_7, c_len_8, c_ld_8, c_st_8, c_rd_8, c_wr_8, c_len_9, c_ld_9, c_st_9, c_rd_9, c_wr_9, bI_rI, bL_rL, bA_rA, bV_rV, bI_th, bL_th, bA_th, bV_th, rZ_0, rZ_1]
  exact ⟨fun k => if_neg (fun z => k ((nI_eq (by omega) (by omega)).mp z)), fun k => if_pos (by rw [k])⟩
theorem CRepx.int (h : CRepx exc σ A) {i j : Nat} {v : Int32} (hij : (i = 2 ∧ j = 1) ∨ (i = 3 ∧ j = 4) ∨ (i = 4 ∧ j = 5)) : CRepx exc (cSetI σ i v) (mSet A j v) := by
  obtain ⟨t1, t2, l1, l2, l3, l4, l5⟩ := h
  refine ⟨t1, t2, l1, l2, l3, l4, ?_⟩
  rcases hij with ⟨rfl, rfl⟩ | ⟨rfl, rfl⟩ | ⟨rfl, rfl⟩
  · exact ⟨l5.1, l5.2.1, rfl, l5.2.2.2.1, l5.2.2.2.2⟩
  · exact ⟨l5.1, l5.2.1, l5.2.2.1, rfl, l5.2.2.2.2⟩
  · exact ⟨l5.1, l5.2.1, l5.2.2.1, l5.2.2.2.1, rfl⟩
/-- what was thrown last is not in the class -/
theorem CRepx.thr (h : CRepx exc σ A) (v : Int32) : CRepx exc σ (mSet A 0 v) := h
theorem mInw.int (h : mInw exc p A) (j : Nat) (v : Int32) : mInw exc p (mSet A j v) := h
theorem x_make (h : CRepx exc σ A) {m k : Nat} (hm : A.2.2.2 1 = nI m) (hk : k < 32) : f_X_make (cPut b σ G) b (nI k) = rI (nI (32 * m + k)) (cPut b (cSetI σ 2 (nI (m + 1))) G) := by
  have e : σ.2 2 = nI m := h.2.2.2.2.2.2.2.2.1.trans hm
  unfold f_X_make f_X_thingOf
  simp only [c_ob_0, c_fa_0_0, c_fa_0_1, c_fi_0_2, c_put_0_2, c_fi_0_3, c_put_0_3, c_fi_0_4, c_put_0_4, c_ob_1, c_fa_1_0, c_fa_1_1, c_fa_1_2, c_fa_1_3, c_fa_1_4, c_fa_1_5, c_fi_1_6, c_put_1_6, c_ob_2, c_fa_2_0, c_ob_4, c_fa_4_0, c_ob_6, c_fa_6_0, c_ob_8, c_fa_8_0, c_ob_10, c_fa_10_0, c_ob_12, c_fa_12_0, c_ob_14, c_fa_14_0, c_fa_14_1, c_fa_14_2, c_fa_14_3, c_fi_14_4, c_put_14_4, c_ob_15, c_fa_15_0, c_ob_17, c_fa_17_0, c_ob_19, c_fa_19_0, c_ob_21, c_fa_21_0, c_len_0, c_ld_0, c_st_0, c_rd_0, c_wr_0, c_len_1, c_ld_1, c_st_1, c_rd_1, c_wr_1, c_len_2, c_ld_2, c_st_2, c_rd_2, c_wr_2, c_len_3, c_ld_3, c_st_3, c_rd_3, c_wr_3, c_len_4, c_ld_4, c_st_4, c_rd_4, c_wr_4, c_len_5, c_ld_5, c_st_5, c_rd_5, c_wr_5, c_len_6, c_ld_6, c_st_6, c_rd_6, c_wr_6, c_len_7, c_ld_7, c_st_7, c_rd_7, c_wr_7, c_len_8, c_ld_8, c_st_8, c_rd_8, c_wr_8, c_len_9, c_ld_9, c_st_9, c_rd_9, c_wr_9, bI_rI, bL_rL, bA_rA, bV_rV, bI_th, bL_th, bA_th, bV_th, rZ_0, rZ_1]
  rw [e, nI_shl5, nI_or5 _ hk, nI_add]
theorem x_tagOf {m k : Nat} (hk : k < 32) (hm : m ≤ 1000) : f_X_tagOf G (nI (32 * m + k)) = rI (nI m) G := by
  unfold f_X_tagOf
  rw [nI_shr5 (by omega), show (32 * m + k) / 32 = m by omega]
theorem x_keyOf {m k : Nat} (hk : k < 32) : f_X_keyOf G (nI (32 * m + k)) = rI (nI k) G := by
  unfold f_X_keyOf
  rw [nI_and31, show (32 * m + k) % 32 = k by omega]
theorem x_at (h : CRepx exc σ A) (hw : mInw exc p A) {q r s i : Nat} {t : Nat × Nat × Nat} (hq : mV A q) (hr : mRw A.2.1 zDp q = some (r, s)) (ht : (A.1 r)[s + i]? = some t) : f_I_thingAt (cPut b σ G) (b + 1) (nI q) (nI i) = rI (cE t) (cPut b σ G) := by
  have hr2 := mRw_lt _ _ _ _ hr
  have hq6 := hq.lt hw.1
  have hi : s + i < (A.1 r).length := (List.getElem?_eq_some_iff.mp ht).1
  have := hw.2.2.1 r hr2
  obtain ⟨e3, e4⟩ := h.2.2.2.2.1 q r s hq6 hr
  rw [y_thing hq6 e3 e4 (by omega), Nat.add_assoc, h.1 r (s + i) t hr2 ht]
theorem x_keyAt (h : CRepx exc σ A) (hw : mInw exc p A) {q r s i : Nat} {t : Nat × Nat × Nat} (hq : mV A q) (hr : mRw A.2.1 zDp q = some (r, s)) (ht : (A.1 r)[s + i]? = some t) (hk : t.2.1 < 32) : f_I_keyAt (cPut b σ G) (b + 1) (nI q) (nI i) = rI (nI t.2.1) (cPut b σ G) := by
  have hr2 := mRw_lt _ _ _ _ hr
  have hq6 := hq.lt hw.1
  have hi : s + i < (A.1 r).length := (List.getElem?_eq_some_iff.mp ht).1
  have := hw.2.2.1 r hr2
  obtain ⟨e3, e4⟩ := h.2.2.2.2.1 q r s hq6 hr
  rw [y_key hq6 e3 e4 (by omega), Nat.add_assoc, h.1 r (s + i) t hr2 ht]
  unfold cE
  rw [nI_and31, show (32 * t.2.2 + t.2.1) % 32 = t.2.1 by omega]
theorem x_bringIn (h : CRepx exc σ A) (hw : mInw exc p A) (hv : mV A p) {r s i : Nat} {t : Nat × Nat × Nat} (hr : mRw A.2.1 zDp p = some (r, s)) (hi : i ≤ mLen A p) (hl : (A.1 r).length < 31) :
    ∃ σ', f_X_bringIn (cPut b σ G) b (nI p) (nI i) (cE t) exc = rV (cPut b σ' G) ∧ CRepx exc σ' (mChange (mRows A r ((A.1 r).insertIdx (s + i) t)) p 1 exc) ∧ σ'.1 8 = σ.1 8 ∧ σ'.1 9 = σ.1 9 := by
  have hr2 := mRw_lt _ _ _ _ hr
  have hp := hv.lt hw.1
  have hfit := hw.2.1.rw _ _ _ _ hr
  obtain ⟨e3, e4⟩ := h.2.2.2.2.1 p r s hp hr
  generalize hf' : upd (cUpS (σ.1 0) (31 * r + (s + i)) (31 * r + (A.1 r).length) 1) (31 * r + s + i) (cE t) = f'
  have hseg := h.1.seg hr2
  obtain ⟨σ', z1, z2, z3, z4⟩ := x_chg (b := b) (G := G) (exc := exc) (z := 1) (f' := f') (ts := (A.1 r).insertIdx (s + i) t) hw h hv hr (by decide) (by omega) (by rw [List.length_insertIdx_of_le_length (by omega)]; omega) (by rw [List.length_insertIdx_of_le_length (by omega)]; omega) (by omega)
    (by
      intro q hq
      rw [← hf']
      simp only [upd, cUpS]
      rw [if_neg (by omega), if_neg (by omega)])
    (by
      rw [ins_td t _ _ (by omega)]
      refine cSeg.app ?_ ?_
      · refine (hseg.take (n := s + i)).cong (fun j hj => ?_)
        rw [List.length_take] at hj
        rw [← hf']
        simp only [upd, cUpS]
        rw [if_neg (by omega), if_neg (by omega)]
      · rw [List.length_take, Nat.min_eq_left (by omega), ← List.singleton_append]
        refine cSeg.app (cSeg.one ?_) ?_
        · rw [← hf']
          simp only [upd]
          rw [if_pos (by omega)]
        · intro j u hu
          have hj : j < ((A.1 r).drop (s + i)).length := (List.getElem?_eq_some_iff.mp hu).1
          rw [List.length_drop] at hj
          rw [← hf']
          simp only [upd, cUpS, List.length_singleton]
          rw [if_neg (by omega), if_pos (by omega), show 31 * r + (s + i) + 1 + j - 1 = 31 * r + (s + i) + j by omega]
          exact hseg.drop (n := s + i) j u hu)
  refine ⟨σ', ?_, z2, z3, z4⟩
  unfold f_X_bringIn
  simp only [x_openGap hw.1 hp hv hr h.2.2.2.1 h.2.2.2.2.1 (h.2.1 r hr2) (show s + i ≤ (A.1 r).length by omega) (show (A.1 r).length + 1 ≤ 31 by omega), c_ob_0, c_fa_0_0, c_fa_0_1, c_fi_0_2, c_put_0_2, c_fi_0_3, c_put_0_3, c_fi_0_4, c_put_0_4, c_ob_1, c_fa_1_0, c_fa_1_1, c_fa_1_2, c_fa_1_3, c_fa_1_4, c_fa_1_5, c_fi_1_6, c_put_1_6, c_ob_2, c_fa_2_0, c_ob_4, c_fa_4_0, c_ob_6, c_fa_6_0, c_ob_8, c_fa_8_0, c_ob_10, c_fa_10_0, c_ob_12, c_fa_12_0, c_ob_14, c_fa_14_0, c_fa_14_1, c_fa_14_2, c_fa_14_3, c_fi_14_4, c_put_14_4, c_ob_15, c_fa_15_0, c_ob_17, c_fa_17_0, c_ob_19, c_fa_19_0, c_ob_21, c_fa_21_0, c_len_0, c_ld_0, c_st_0, c_rd_0, c_wr_0, c_len_1, c_ld_1, c_st_1, c_rd_1, c_wr_1, c_len_2, c_ld_2, c_st_2, c_rd_2, c_wr_2, c_len_3, c_ld_3, c_st_3, c_rd_3, c_wr_3, c_len_4, c_ld_4, c_st_4, c_rd_4, c_wr_4, c_len_5, c_ld_5, c_st_5, c_rd_5, c_wr_5, c_len_6, c_ld_6, c_st_6, c_rd_6, c_wr_6, c_len_7, c_ld_7, c_st_7, c_rd_7, c_wr_7, c_len_8, c_ld_8, c_st_8, c_rd_8, c_wr_8, c_len_9, c_ld_9, c_st_9, c_rd_9, c_wr_9, bI_rI, bL_rL, bA_rA, bV_rV, bI_th, bL_th, bA_th, bV_th, rZ_0, rZ_1]
  rw [y_write hp (by rw [cArr_ne (by decide), cArr_ne (by decide)]; exact e3) (by rw [cArr_ne (by decide), cArr_ne (by decide)]; exact e4) (by omega), bV_rV, cArr_ne (by decide), cArr_at, hf', cArr_comm (by decide), cArr_cArr, ← ofInt_1, c_ob_0, z1, bV_rV]
theorem x_takeOut (h : CRepx exc σ A) (hw : mInw exc p A) (hv : mV A p) {r s i : Nat} {t : Nat × Nat × Nat} (hr : mRw A.2.1 zDp p = some (r, s)) (hi : i < mLen A p) (ht : (A.1 r)[s + i]? = some t) :
    ∃ σ', f_X_takeOut (cPut b σ G) b (nI p) (nI i) exc = rI (cE t) (cPut b σ' G) ∧ CRepx exc σ' (mChange (mRows A r ((A.1 r).eraseIdx (s + i))) p (-1) exc) ∧ σ'.1 8 = σ.1 8 ∧ σ'.1 9 = σ.1 9 := by
  have hr2 := mRw_lt _ _ _ _ hr
  have hp := hv.lt hw.1
  have hfit := hw.2.1.rw _ _ _ _ hr
  have h31 := hw.2.2.1 r hr2
  generalize hf' : cDnS (σ.1 0) (31 * r + (s + i)) (31 * r + (A.1 r).length) = f'
  have hseg := h.1.seg hr2
  obtain ⟨σ', z1, z2, z3, z4⟩ := x_chg (b := b) (G := G) (exc := exc) (z := -1) (f' := f') (ts := (A.1 r).eraseIdx (s + i)) hw h hv hr (by decide) (by omega) (by rw [List.length_eraseIdx_of_lt (by omega)]; omega) (by rw [List.length_eraseIdx_of_lt (by omega)]; omega) (by omega)
    (by
      intro q hq
      rw [← hf']
      simp only [cDnS]
      rw [if_neg (by omega)])
    (by
      rw [er_td]
      refine cSeg.app ?_ ?_
      · refine (hseg.take (n := s + i)).cong (fun j hj => ?_)
        rw [List.length_take] at hj
        rw [← hf']
        simp only [cDnS]
        rw [if_neg (by omega)]
      · rw [List.length_take, Nat.min_eq_left (by omega)]
        intro j u hu
        have hj : j < ((A.1 r).drop (s + i + 1)).length := (List.getElem?_eq_some_iff.mp hu).1
        rw [List.length_drop] at hj
        rw [← hf']
        simp only [cDnS]
        rw [if_pos (by omega), show 31 * r + (s + i) + j + 1 = 31 * r + (s + i + 1) + j by omega]
        exact hseg.drop (n := s + i + 1) j u hu)
  refine ⟨σ', ?_, z2, z3, z4⟩
  unfold f_X_takeOut
  simp only [x_at h hw hv hr ht, x_closeGap hw.1 hp hv hr h.2.2.2.1 h.2.2.2.2.1 (h.2.1 r hr2) (show s + i < (A.1 r).length by omega) h31, c_ob_0, c_fa_0_0, c_fa_0_1, c_fi_0_2, c_put_0_2, c_fi_0_3, c_put_0_3, c_fi_0_4, c_put_0_4, c_ob_1, c_fa_1_0, c_fa_1_1, c_fa_1_2, c_fa_1_3, c_fa_1_4, c_fa_1_5, c_fi_1_6, c_put_1_6, c_ob_2, c_fa_2_0, c_ob_4, c_fa_4_0, c_ob_6, c_fa_6_0, c_ob_8, c_fa_8_0, c_ob_10, c_fa_10_0, c_ob_12, c_fa_12_0, c_ob_14, c_fa_14_0, c_fa_14_1, c_fa_14_2, c_fa_14_3, c_fi_14_4, c_put_14_4, c_ob_15, c_fa_15_0, c_ob_17, c_fa_17_0, c_ob_19, c_fa_19_0, c_ob_21, c_fa_21_0, c_len_0, c_ld_0, c_st_0, c_rd_0, c_wr_0, c_len_1, c_ld_1, c_st_1, c_rd_1, c_wr_1, c_len_2, c_ld_2, c_st_2, c_rd_2, c_wr_2, c_len_3, c_ld_3, c_st_3, c_rd_3, c_wr_3, c_len_4, c_ld_4, c_st_4, c_rd_4, c_wr_4, c_len_5, c_ld_5, c_st_5, c_rd_5, c_wr_5, c_len_6, c_ld_6, c_st_6, c_rd_6, c_wr_6, c_len_7, c_ld_7, c_st_7, c_rd_7, c_wr_7, c_len_8, c_ld_8, c_st_8, c_rd_8, c_wr_8, c_len_9, c_ld_9, c_st_9, c_rd_9, c_wr_9, bI_rI, bL_rL, bA_rA, bV_rV, bI_th, bL_th, bA_th, bV_th, rZ_0, rZ_1]
  rw [hf', ← ofInt_m1, z1, bV_rV]
end Cop
end
section
-- the class: many things at once; all on a row ends
def sSw (g : Nat → Bool) : Nat → List (Nat × Nat × Nat) → List (Nat × Nat × Nat)
  | 0, l => l
  | _, [] => []
  | n + 1, t :: l => if g t.2.1 = true then sSw g n l else t :: sSw g n l
theorem sSw_eq (g : Nat → Bool) : ∀ (n : Nat) (l : List (Nat × Nat × Nat)), sSw g n l = (l.take n).filter (fun t => !g t.2.1) ++ l.drop n
  | 0, l => by simp [sSw]
  | n + 1, [] => by simp [sSw]
  | n + 1, t :: l => by
    unfold sSw
    rw [sSw_eq g n l]
    by_cases h : g t.2.1 = true
    · rw [if_pos h]; simp [h]
    · rw [if_neg h]; simp [h]
theorem sSw_len (g : Nat → Bool) (n : Nat) (l : List (Nat × Nat × Nat)) : (sSw g n l).length ≤ l.length ∧ l.length ≤ (sSw g n l).length + n := by
  rw [sSw_eq, List.length_append, List.length_drop]
  have h1 := List.length_filter_le (fun t : Nat × Nat × Nat => !g t.2.1) (l.take n)
  rw [List.length_take] at h1
  omega
theorem sSw_mem {g : Nat → Bool} {n : Nat} {l : List (Nat × Nat × Nat)} {t : Nat × Nat × Nat} (h : t ∈ sSw g n l) : t ∈ l := by
  rw [sSw_eq] at h
  rcases List.mem_append.mp h with k | k
  · exact List.mem_of_mem_take (List.mem_filter.mp k).1
  · exact List.mem_of_mem_drop k
/-- what a search by keys asks of goers -/
def gBit (goers : Int32) (g : Nat → Bool) : Prop := ∀ k, k < 31 → (((goers >>> (nI k &&& 31)) &&& nI 1) = nI 1 ↔ g k = true)
theorem cE_key {t : Nat × Nat × Nat} (h : t.2.1 < 32) : cE t &&& nI 31 = nI t.2.1 := by
  unfold cE
  rw [nI_and31, show (32 * t.2.2 + t.2.1) % 32 = t.2.1 by omega]
section Cop2
variable {b : Nat} {G : gH}
theorem y_sweepL {K : gH → Nat → Int32 → Int32 → Int32 → gR} {r p to : Nat} {goers : Int32} {g : Nat → Bool} {L : List (Nat × Nat × Nat)} (hr : r < 2) (hg : gBit goers g) (hk : ∀ t, t ∈ L → t.2.1 < 31) (hto : to < 100) (hL : L.length ≤ 31) : ∀ (d n j : Nat) (σ : cS) (done : List (Nat × Nat × Nat)), j + d = L.length → d < n → done.length ≤ j → σ.1 3 r = nI r → σ.1 4 r = nI 0 → cSeg (σ.1 0) (31 * r) done → cSeg (σ.1 0) (31 * r + j) (L.drop j) →
    ∃ f', f_I_sweepOut_L41 K n (cPut b σ G) (b + 1) (nI p) goers (nI r) (nI to) (nI L.length) (nI done.length) (nI j) = K (cPut b (cArr σ 0 f') G) (b + 1) (nI p) (nI L.length) (nI (done ++ sSw g (to - j) (L.drop j)).length) ∧ cOut r (σ.1 0) f' ∧ cSeg f' (31 * r) (done ++ sSw g (to - j) (L.drop j))
  | _, 0, _, _, _, _, h, _, _, _, _, _ => absurd h (Nat.not_lt_zero _)
  | 0, n + 1, j, σ, done, hj, _, hd, h3, h4, s1, s2 => by
    have e : L.drop j = [] := List.drop_eq_nil_of_le (by omega)
    have e2 : sSw g (to - j) (L.drop j) = [] := by rw [e, sSw_eq]; simp
    refine ⟨σ.1 0, ?_, cOut.refl, by rw [e2, List.append_nil]; exact s1⟩
    unfold f_I_sweepOut_L41
    rw [if_pos (nI_le (by omega) (by omega)), cArr_id, e2, List.append_nil]
  | d + 1, n + 1, j, σ, done, hj, hn, hd, h3, h4, s1, s2 => by
    have hjl : j < L.length := by omega
    have e : L.drop j = L[j] :: L.drop (j + 1) := List.drop_eq_getElem_cons hjl
    generalize ht : L[j] = t at e
    have htL : t ∈ L := by rw [← ht]; exact List.getElem_mem hjl
    have hk1 := hk t htL
    have hc : σ.1 0 (31 * r + 0 + j) = cE t := by
      have := s2 0 t (by rw [e]; rfl)
      rw [Nat.add_zero] at this ⊢; exact this
    have s3 : cSeg (σ.1 0) (31 * r + (j + 1)) (L.drop (j + 1)) := by
      intro i u hu
      have := s2 (i + 1) u (by rw [e]; simpa using hu)
      rw [show 31 * r + (j + 1) + i = 31 * r + j + (i + 1) by omega]; exact this
    -- a thing stays
    have stay : sSw g (to - j) (L.drop j) = t :: sSw g (to - (j + 1)) (L.drop (j + 1)) → ∃ f', f_I_sweepOut_L41 K n (cPut b (cArr σ 0 (upd (σ.1 0) (31 * r + 0 + done.length) (cE t))) G) (b + 1) (nI p) goers (nI r) (nI to) (nI L.length) (nI (done.length + 1)) (nI (j + 1)) =
        K (cPut b (cArr σ 0 f') G) (b + 1) (nI p) (nI L.length) (nI (done ++ sSw g (to - j) (L.drop j)).length) ∧ cOut r (σ.1 0) f' ∧ cSeg f' (31 * r) (done ++ sSw g (to - j) (L.drop j)) := by
      intro es
      obtain ⟨f', z1, z2, z3⟩ := y_sweepL (K := K) (p := p) hr hg hk hto hL d n (j + 1) (cArr σ 0 (upd (σ.1 0) (31 * r + 0 + done.length) (cE t))) (done ++ [t]) (by omega) (by omega) (by rw [List.length_append, List.length_singleton]; omega) (by rw [cArr_ne (by decide)]; exact h3) (by rw [cArr_ne (by decide)]; exact h4)
        (by
          rw [cArr_at]
          refine cSeg.app (s1.cong (fun i hi => ?_)) (cSeg.one ?_)
          · simp only [upd]; rw [if_neg (by omega)]
          · simp only [upd]; rw [if_pos (by omega)])
        (by
          rw [cArr_at]
          refine s3.cong (fun i hi => ?_)
          simp only [upd]; rw [if_neg (by omega)])
      rw [List.length_append, List.length_singleton, List.append_assoc, List.singleton_append, ← es, cArr_cArr] at z1
      rw [List.append_assoc, List.singleton_append, ← es] at z3
      rw [cArr_at] at z2
      refine ⟨f', z1, cOut.trans (fun q hq => ?_) z2, z3⟩
      simp only [upd]; rw [if_neg (by omega)]
    unfold f_I_sweepOut_L41
    rw [if_neg (nI_ge (by omega) (by omega)), c_ob_1, y_thing (by omega) h3 h4 (by omega), bI_rI, hc]
    by_cases htj : to ≤ j
    · have es : sSw g (to - j) (L.drop j) = t :: sSw g (to - (j + 1)) (L.drop (j + 1)) := by
        rw [show to - j = 0 by omega, show to - (j + 1) = 0 by omega, e]
        unfold sSw; rfl
      rw [if_pos (nI_le htj (by omega)), if_pos (show nI 0 = 0 from rfl), c_ob_1, y_write (by omega) h3 h4 (by omega), bV_rV, nI_add, nI_add]
      exact stay es
    · rw [if_neg (nI_ge (by omega) (by omega))]
      unfold f_X_keyOf
      rw [bI_rI, cE_key (by omega)]
      have e2 : to - j = (to - (j + 1)) + 1 := by omega
      by_cases hgo : g t.2.1 = true
      · have es : sSw g (to - j) (L.drop j) = sSw g (to - (j + 1)) (L.drop (j + 1)) := by
          rw [e2, e]
          show (if g t.2.1 = true then sSw g (to - (j + 1)) (L.drop (j + 1)) else _) = _
          rw [if_pos hgo]
        rw [if_pos ((hg _ hk1).mpr hgo), if_neg (show ¬ nI 1 = 0 by decide), nI_add, es]
        exact y_sweepL hr hg hk hto hL d n (j + 1) σ done (by omega) (by omega) (by omega) h3 h4 s1 s3
      · have es : sSw g (to - j) (L.drop j) = t :: sSw g (to - (j + 1)) (L.drop (j + 1)) := by
          rw [e2, e]
          show (if g t.2.1 = true then _ else t :: sSw g (to - (j + 1)) (L.drop (j + 1))) = _
          rw [if_neg hgo]
        rw [if_neg (fun q => hgo ((hg _ hk1).mp q)), if_pos (show nI 0 = 0 from rfl), c_ob_1, y_write (by omega) h3 h4 (by omega), bV_rV, nI_add, nI_add]
        exact stay es
theorem nI_dif (a c : Nat) : nI a - nI c = Int32.ofInt ((a : Int) - (c : Int)) := by
  rw [Int32.ofInt_sub, ofInt_nI, ofInt_nI]
theorem mChange_0 {A : mS} {r p : Nat} {exc : Int32} {z : Int} (hz : z = 0) : mChange (mRows A r (A.1 r)) p z exc = A := by
  unfold mChange
  rw [if_pos hz]
  refine Prod.ext ?_ rfl
  funext i
  show (if i = r then A.1 r else A.1 i) = A.1 i
  by_cases e : i = r
  · rw [if_pos e, e]
  · rw [if_neg e]
/-- what is left of a row when things of a list with such keys go -/
def sLeft (g : Nat → Bool) (L : List (Nat × Nat × Nat)) (s len : Nat) : List (Nat × Nat × Nat) := L.take s ++ sSw g len (L.drop s)
theorem sLeft_len (g : Nat → Bool) (L : List (Nat × Nat × Nat)) {s len : Nat} (h : s + len ≤ L.length) : (sLeft g L s len).length ≤ L.length ∧ L.length ≤ (sLeft g L s len).length + len := by
  unfold sLeft
  have := sSw_len g len (L.drop s)
  rw [List.length_drop] at this
  rw [List.length_append, List.length_take]
  omega
theorem sSw_all {g : Nat → Bool} : ∀ (n : Nat) (l : List (Nat × Nat × Nat)), (sSw g n l).length = l.length → sSw g n l = l
  | 0, l, _ => by unfold sSw; rfl
  | n + 1, [], _ => by unfold sSw; rfl
  | n + 1, t :: l, h => by
    unfold sSw at h ⊢
    by_cases hg : g t.2.1 = true
    · rw [if_pos hg] at h
      have := (sSw_len g n l).1
      simp only [List.length_cons] at h
      omega
    · rw [if_neg hg] at h ⊢
      rw [sSw_all n l (by simpa using h)]
theorem sLeft_all {g : Nat → Bool} {L : List (Nat × Nat × Nat)} {s len : Nat} (h : (sLeft g L s len).length = L.length) : sLeft g L s len = L := by
  unfold sLeft at h ⊢
  rw [sSw_all len (L.drop s) (by rw [List.length_append, List.length_take] at h; rw [List.length_drop]; have := (sSw_len g len (L.drop s)).1; rw [List.length_drop] at this; omega), List.take_append_drop]
theorem x_takeOutAll {A : mS} {σ : cS} {p r s : Nat} {goers : Int32} {g : Nat → Bool} (h : CRepx (-1) σ A) (hw : mInw (-1) p A) (hv : mV A p) (hr : mRw A.2.1 zDp p = some (r, s)) (hg : gBit goers g) (hk : ∀ t, t ∈ A.1 r → t.2.1 < 31) :
    ∃ σ', f_X_takeOutAll (cPut b σ G) b (nI p) goers = rI (nI ((A.1 r).length - (sLeft g (A.1 r) s (mLen A p)).length)) (cPut b σ' G) ∧ CRepx (-1) σ' (mChange (mRows A r (sLeft g (A.1 r) s (mLen A p))) p (((sLeft g (A.1 r) s (mLen A p)).length : Int) - ((A.1 r).length : Int)) (-1)) := by
  have hr2 := mRw_lt _ _ _ _ hr
  have hp := hv.lt hw.1
  have hfit := hw.2.1.rw _ _ _ _ hr
  have h31 := hw.2.2.1 r hr2
  have hrr : mRw A.2.1 zDp r = some (r, 0) := by
    show mRw A.2.1 (7 + 1) r = _
    unfold mRw; rw [if_pos hr2]
  obtain ⟨e3, e4⟩ := h.2.2.2.2.1 p r s hp hr
  obtain ⟨f3, f4⟩ := h.2.2.2.2.1 r r 0 (by omega) hrr
  have hseg := h.1.seg hr2
  have hs : ((A.1 r).take s).length = s := by rw [List.length_take]; omega
  have hsl := sLeft_len g (A.1 r) hfit
  obtain ⟨f', z1, z2, z3⟩ := y_sweepL (b := b) (G := G) (p := p) (K := fun G52 x48 x49 x50 x51 => gOb G52 x48 1 fun o54 => bV (f_I_lengthen G52 x48 x49 (x51 - x50)) fun G56 => rI (x50 - x51) G56) (to := s + mLen A p) hr2 hg hk (by omega) h31 ((A.1 r).length - s) zFu s σ ((A.1 r).take s) (by omega) (by unfold zFu; omega) (by rw [hs]; exact Nat.le_refl _) f3 f4 hseg.take hseg.drop
  rw [show s + mLen A p - s = mLen A p by omega, hs] at z1
  rw [show s + mLen A p - s = mLen A p by omega] at z3
  change cSeg f' (31 * r) (sLeft g (A.1 r) s (mLen A p)) at z3
  rw [show (A.1 r).take s ++ sSw g (mLen A p) ((A.1 r).drop s) = sLeft g (A.1 r) s (mLen A p) from rfl] at z1
  have zS : f_I_sweepOut (cPut b σ G) (b + 1) (nI p) goers = rI (nI ((A.1 r).length - (sLeft g (A.1 r) s (mLen A p)).length)) (cPut b (cArr (cArr σ 0 f') 1 (fun q => if mAb A.2.1 zDp q p = true then σ.1 1 q + Int32.ofInt (((sLeft g (A.1 r) s (mLen A p)).length : Int) - ((A.1 r).length : Int)) else σ.1 1 q)) G) := by
    unfold f_I_sweepOut
    simp only [x_row h hw.1 hv hr, x_len h hw.1 hv, x_len h hw.1 (Or.inl hr2), c_ob_0, c_fa_0_0, c_fa_0_1, c_fi_0_2, c_put_0_2, c_fi_0_3, c_put_0_3, c_fi_0_4, c_put_0_4, c_ob_1, c_fa_1_0, c_fa_1_1, c_fa_1_2, c_fa_1_3, c_fa_1_4, c_fa_1_5, c_fi_1_6, c_put_1_6, c_ob_2, c_fa_2_0, c_ob_4, c_fa_4_0, c_ob_6, c_fa_6_0, c_ob_8, c_fa_8_0, c_ob_10, c_fa_10_0, c_ob_12, c_fa_12_0, c_ob_14, c_fa_14_0, c_fa_14_1, c_fa_14_2, c_fa_14_3, c_fi_14_4, c_put_14_4, c_ob_15, c_fa_15_0, c_ob_17, c_fa_17_0, c_ob_19, c_fa_19_0, c_ob_21, c_fa_21_0, c_len_0, c_ld_0, c_st_0, c_rd_0, c_wr_0, c_len_1, c_ld_1, c_st_1, c_rd_1, c_wr_1, c_len_2, c_ld_2, c_st_2, c_rd_2, c_wr_2, c_len_3, c_ld_3, c_st_3, c_rd_3, c_wr_3, c_len_4, c_ld_4, c_st_4, c_rd_4, c_wr_4, c_len_5, c_ld_5, c_st_5, c_rd_5, c_wr_5, c_len_6, c_ld_6, c_st_6, c_rd_6, c_wr_6, c_len_7, c_ld_7, c_st_7, c_rd_7, c_wr_7, c_len_8, c_ld_8, c_st_8, c_rd_8, c_wr_8, c_len_9, c_ld_9, c_st_9, c_rd_9, c_wr_9, bI_rI, bL_rL, bA_rA, bV_rV, bI_th, bL_th, bA_th, bV_th, rZ_0, rZ_1]
    rw [rd_nI hp (by decide), e4, nI_add, mLen_row hr2, z1, c_ob_1, y_lengthen hw.1 hp hv (by rw [cArr_ne (by decide)]; exact h.2.2.2.1), bV_rV, cArr_ne (by decide), nI_sub hsl.1, nI_dif]
  unfold f_X_takeOutAll
  simp only [zS, c_ob_0, c_fa_0_0, c_fa_0_1, c_fi_0_2, c_put_0_2, c_fi_0_3, c_put_0_3, c_fi_0_4, c_put_0_4, c_ob_1, c_fa_1_0, c_fa_1_1, c_fa_1_2, c_fa_1_3, c_fa_1_4, c_fa_1_5, c_fi_1_6, c_put_1_6, c_ob_2, c_fa_2_0, c_ob_4, c_fa_4_0, c_ob_6, c_fa_6_0, c_ob_8, c_fa_8_0, c_ob_10, c_fa_10_0, c_ob_12, c_fa_12_0, c_ob_14, c_fa_14_0, c_fa_14_1, c_fa_14_2, c_fa_14_3, c_fi_14_4, c_put_14_4, c_ob_15, c_fa_15_0, c_ob_17, c_fa_17_0, c_ob_19, c_fa_19_0, c_ob_21, c_fa_21_0, c_len_0, c_ld_0, c_st_0, c_rd_0, c_wr_0, c_len_1, c_ld_1, c_st_1, c_rd_1, c_wr_1, c_len_2, c_ld_2, c_st_2, c_rd_2, c_wr_2, c_len_3, c_ld_3, c_st_3, c_rd_3, c_wr_3, c_len_4, c_ld_4, c_st_4, c_rd_4, c_wr_4, c_len_5, c_ld_5, c_st_5, c_rd_5, c_wr_5, c_len_6, c_ld_6, c_st_6, c_rd_6, c_wr_6, c_len_7, c_ld_7, c_st_7, c_rd_7, c_wr_7, c_len_8, c_ld_8, c_st_8, c_rd_8, c_wr_8, c_len_9, c_ld_9, c_st_9, c_rd_9, c_wr_9, bI_rI, bL_rL, bA_rA, bV_rV, bI_th, bL_th, bA_th, bV_th, rZ_0, rZ_1]
  generalize hts : sLeft g (A.1 r) s (mLen A p) = ts at *
  by_cases hz : (A.1 r).length - ts.length = 0
  · have hle : ts.length = (A.1 r).length := by omega
    have hts' : ts = A.1 r := by
      rw [← hts]
      exact sLeft_all (by rw [hts]; exact hle)
    rw [hz, if_pos (by decide)]
    refine ⟨_, rfl, ?_⟩
    rw [hts', mChange_0 (by omega)]
    have e1 : (fun q => if mAb A.2.1 zDp q p = true then σ.1 1 q + Int32.ofInt (((A.1 r).length : Int) - ((A.1 r).length : Int)) else σ.1 1 q) = (cArr σ 0 f').1 1 := by
      rw [cArr_ne (by decide)]
      funext q
      rw [show ((A.1 r).length : Int) - ((A.1 r).length : Int) = ((0 : Nat) : Int) by omega, ofInt_nI, add_nI0]
      split <;> rfl
    rw [e1, cArr_id]
    refine ⟨?_, h.2.1, h.2.2⟩
    have z4 : cSeg f' (31 * r) (A.1 r) := by rw [← hts']; exact z3
    have := h.1.row hw.2.2.1 z2 z4
    have e2 : (fun i => if i = r then A.1 r else A.1 i) = A.1 := by
      funext i
      by_cases e : i = r
      · rw [if_pos e, e]
      · rw [if_neg e]
    rw [e2] at this
    rw [cArr_at]; exact this
  · obtain ⟨σ', y1, y2, -, -⟩ := x_chg (b := b) (G := G) (exc := -1) (z := ((ts.length : Int) - ((A.1 r).length : Int))) (f' := f') (ts := ts) hw h hv hr (by omega) (by omega) (by omega) (by omega) (by omega) z2 z3
    rw [if_neg (nI_nle (by omega) (by omega)), y1, bV_rV]
    exact ⟨σ', rfl, y2⟩
def cCp (f : Nat → Int32) (dst src j c : Nat) : Nat → Int32 := fun q => if dst + j ≤ q ∧ q < dst + c then f (src + (q - dst)) else f q
theorem y_bringL {K : gH → Nat → Int32 → Int32 → gR} {r s i p r2 s2 q c : Nat} (hr : r < 2) (hr2 : r2 < 2) (hne : r ≠ r2) (hp : p < 6) (hq : q < 6) (h1 : s + i + c ≤ 31) (h2 : s2 + c ≤ 31) : ∀ (d n j : Nat) (σ : cS), j + d = c → d < n → σ.1 3 p = nI r → σ.1 4 p = nI s → σ.1 3 q = nI r2 → σ.1 4 q = nI s2 →
    f_X_bringAll_L24 K n (cPut b σ G) b (nI p) (nI i) (nI q) (nI c) (nI j) = K (cPut b (cArr σ 0 (cCp (σ.1 0) (31 * r + s + i) (31 * r2 + s2) j c)) G) b (nI p) (nI c)
  | _, 0, _, _, _, h, _, _, _, _ => absurd h (Nat.not_lt_zero _)
  | 0, n + 1, j, σ, hj, _, _, _, _, _ => by
    unfold f_X_bringAll_L24
    rw [if_pos (nI_le (by omega) (by omega))]
    have e : cCp (σ.1 0) (31 * r + s + i) (31 * r2 + s2) j c = σ.1 0 := by
      funext x
      exact if_neg (by omega)
    rw [e, cArr_id]
  | d + 1, n + 1, j, σ, hj, hn, g1, g2, g3, g4 => by
    unfold f_X_bringAll_L24
    rw [if_neg (nI_ge (by omega) (by omega)), c_fa_0_0, c_fa_0_0, c_ob_1, y_thing hq g3 g4 (by omega), bI_rI, c_ob_1, nI_add, y_write hp g1 g2 (by omega), bV_rV, nI_add,
      y_bringL hr hr2 hne hp hq h1 h2 d n (j + 1) _ (by omega) (by omega) (by rw [cArr_ne (by decide)]; exact g1) (by rw [cArr_ne (by decide)]; exact g2) (by rw [cArr_ne (by decide)]; exact g3) (by rw [cArr_ne (by decide)]; exact g4), cArr_cArr, cArr_at]
    congr 3
    funext x
    simp only [cCp, upd]
    (repeat' split) <;> first | rfl | (exfalso; omega) | (refine congrArg (σ.1 0) ?_; omega)
/-- the row with others brought in -/
def sIns (L M : List (Nat × Nat × Nat)) (i : Nat) : List (Nat × Nat × Nat) := L.take i ++ (M ++ L.drop i)
def sSeg (A : mS) (r s n : Nat) : List (Nat × Nat × Nat) := ((A.1 r).drop s).take n
theorem sSeg_len {A : mS} {r s n : Nat} (h : s + n ≤ (A.1 r).length) : (sSeg A r s n).length = n := by
  unfold sSeg
  rw [List.length_take, List.length_drop]; omega
theorem sIns_len {L M : List (Nat × Nat × Nat)} {i : Nat} : (sIns L M i).length = L.length + M.length := by
  unfold sIns
  rw [List.length_append, List.length_append, List.length_take, List.length_drop]; omega
theorem x_bringAll {A : mS} {σ : cS} {p r s i q r2 s2 : Nat} (h : CRepx (-1) σ A) (hw : mInw (-1) p A) (hv : mV A p) (hr : mRw A.2.1 zDp p = some (r, s)) (hq : mV A q) (hrq : mRw A.2.1 zDp q = some (r2, s2)) (hne : r ≠ r2) (hi : i ≤ mLen A p) (hl : (A.1 r).length + mLen A q ≤ 31) :
    ∃ σ', f_X_bringAll (cPut b σ G) b (nI p) (nI i) (nI q) = rI (nI (mLen A q)) (cPut b σ' G) ∧ CRepx (-1) σ' (mChange (mRows A r (sIns (A.1 r) (sSeg A r2 s2 (mLen A q)) (s + i))) p (mLen A q : Int) (-1)) := by
  have hr2 := mRw_lt _ _ _ _ hr
  have hq2 := mRw_lt _ _ _ _ hrq
  have hp := hv.lt hw.1
  have hq6 := hq.lt hw.1
  have hfit := hw.2.1.rw _ _ _ _ hr
  have hfitq := hw.2.1.rw _ _ _ _ hrq
  have h31 := hw.2.2.1 r2 hq2
  obtain ⟨e3, e4⟩ := h.2.2.2.2.1 p r s hp hr
  obtain ⟨g3, g4⟩ := h.2.2.2.2.1 q r2 s2 hq6 hrq
  have hseg := h.1.seg hr2
  have hsegq := h.1.seg hq2
  generalize hf' : cCp (cUpS (σ.1 0) (31 * r + (s + i)) (31 * r + (A.1 r).length) (mLen A q)) (31 * r + s + i) (31 * r2 + s2) 0 (mLen A q) = f'
  have zB : ∀ K : gH → Nat → Int32 → Int32 → gR, f_X_bringAll_L24 K zFu (cPut b (cArr (cArr σ 0 (cUpS (σ.1 0) (31 * r + (s + i)) (31 * r + (A.1 r).length) (mLen A q))) 1 (fun x => if mAb A.2.1 zDp x p = true then σ.1 1 x + nI (mLen A q) else σ.1 1 x)) G) b (nI p) (nI i) (nI q) (nI (mLen A q)) (nI 0) =
      K (cPut b (cArr (cArr σ 0 f') 1 (fun x => if mAb A.2.1 zDp x p = true then σ.1 1 x + Int32.ofInt (mLen A q : Int) else σ.1 1 x)) G) b (nI p) (nI (mLen A q)) := by
    intro K
    rw [y_bringL (r := r) (s := s) (r2 := r2) (s2 := s2) hr2 hq2 hne hp hq6 (by omega) (by omega) (mLen A q) zFu 0 _ (by omega) (by unfold zFu; omega) (by rw [cArr_ne (by decide), cArr_ne (by decide)]; exact e3) (by rw [cArr_ne (by decide), cArr_ne (by decide)]; exact e4) (by rw [cArr_ne (by decide), cArr_ne (by decide)]; exact g3) (by rw [cArr_ne (by decide), cArr_ne (by decide)]; exact g4), cArr_ne (by decide), cArr_at, hf', cArr_comm (by decide), cArr_cArr, ofInt_nI]
  unfold f_X_bringAll
  simp only [x_len h hw.1 hq, x_openGap hw.1 hp hv hr h.2.2.2.1 h.2.2.2.2.1 (h.2.1 r hr2) (show s + i ≤ (A.1 r).length by omega) hl, zB, c_ob_0, c_fa_0_0, c_fa_0_1, c_fi_0_2, c_put_0_2, c_fi_0_3, c_put_0_3, c_fi_0_4, c_put_0_4, c_ob_1, c_fa_1_0, c_fa_1_1, c_fa_1_2, c_fa_1_3, c_fa_1_4, c_fa_1_5, c_fi_1_6, c_put_1_6, c_ob_2, c_fa_2_0, c_ob_4, c_fa_4_0, c_ob_6, c_fa_6_0, c_ob_8, c_fa_8_0, c_ob_10, c_fa_10_0, c_ob_12, c_fa_12_0, c_ob_14, c_fa_14_0, c_fa_14_1, c_fa_14_2, c_fa_14_3, c_fi_14_4, c_put_14_4, c_ob_15, c_fa_15_0, c_ob_17, c_fa_17_0, c_ob_19, c_fa_19_0, c_ob_21, c_fa_21_0, c_len_0, c_ld_0, c_st_0, c_rd_0, c_wr_0, c_len_1, c_ld_1, c_st_1, c_rd_1, c_wr_1, c_len_2, c_ld_2, c_st_2, c_rd_2, c_wr_2, c_len_3, c_ld_3, c_st_3, c_rd_3, c_wr_3, c_len_4, c_ld_4, c_st_4, c_rd_4, c_wr_4, c_len_5, c_ld_5, c_st_5, c_rd_5, c_wr_5, c_len_6, c_ld_6, c_st_6, c_rd_6, c_wr_6, c_len_7, c_ld_7, c_st_7, c_rd_7, c_wr_7, c_len_8, c_ld_8, c_st_8, c_rd_8, c_wr_8, c_len_9, c_ld_9, c_st_9, c_rd_9, c_wr_9, bI_rI, bL_rL, bA_rA, bV_rV, bI_th, bL_th, bA_th, bV_th, rZ_0, rZ_1]
  by_cases hz : mLen A q = 0
  · rw [hz, if_pos (by decide)]
    refine ⟨_, rfl, ?_⟩
    have et : sIns (A.1 r) (sSeg A r2 s2 0) (s + i) = A.1 r := by
      unfold sIns sSeg
      rw [List.take_zero, List.nil_append, List.take_append_drop]
    rw [et, mChange_0 (z := ((0 : Nat) : Int)) rfl]
    have ef : f' = σ.1 0 := by
      rw [← hf', hz]
      funext x
      simp only [cCp, cUpS]
      rw [if_neg (by omega)]
      split
      · rfl
      · rfl
    have e1 : (fun x => if mAb A.2.1 zDp x p = true then σ.1 1 x + Int32.ofInt ((0 : Nat) : Int) else σ.1 1 x) = (cArr σ 0 f').1 1 := by
      rw [cArr_ne (by decide)]
      funext x
      rw [ofInt_nI, add_nI0]
      split <;> rfl
    rw [e1, cArr_id, ef, cArr_id]
    exact h
  · have hM := sSeg_len hfitq
    obtain ⟨σ', y1, y2, -, -⟩ := x_chg (b := b) (G := G) (exc := -1) (z := (mLen A q : Int)) (f' := f') (ts := sIns (A.1 r) (sSeg A r2 s2 (mLen A q)) (s + i)) hw h hv hr (by omega) (by omega) (by rw [sIns_len, hM]; omega) (by rw [sIns_len, hM]; omega) (by omega)
      (by
        intro x hx
        rw [← hf']
        simp only [cCp, cUpS]
        rw [if_neg (by omega), if_neg (by omega)])
      (by
        unfold sIns
        refine cSeg.app ?_ ?_
        · refine (hseg.take (n := s + i)).cong (fun j hj => ?_)
          rw [List.length_take] at hj
          rw [← hf']
          simp only [cCp, cUpS]
          rw [if_neg (by omega), if_neg (by omega)]
        · rw [List.length_take, Nat.min_eq_left (by omega)]
          refine cSeg.app ?_ ?_
          · intro j u hu
            have hj : j < (sSeg A r2 s2 (mLen A q)).length := (List.getElem?_eq_some_iff.mp hu).1
            rw [hM] at hj
            rw [← hf']
            simp only [cCp, cUpS]
            rw [if_pos (by omega), if_neg (by omega), show 31 * r2 + s2 + (31 * r + (s + i) + j - (31 * r + s + i)) = 31 * r2 + s2 + j by omega]
            exact (hsegq.drop (n := s2)).take j u hu
          · rw [hM]
            intro j u hu
            have hj : j < ((A.1 r).drop (s + i)).length := (List.getElem?_eq_some_iff.mp hu).1
            rw [List.length_drop] at hj
            rw [← hf']
            simp only [cCp, cUpS]
            rw [if_neg (by omega), if_pos (by omega), show 31 * r + (s + i) + mLen A q + j - mLen A q = 31 * r + (s + i) + j by omega]
            exact hseg.drop (n := s + i) j u hu)
    rw [if_neg (nI_nle (by omega) (by omega)), y1, bV_rV]
    exact ⟨σ', rfl, y2⟩
end Cop2
end
section
-- the class: cursors and parts
def mSetC (A : mS) (c : Nat) (y : Nat × Nat × Int32 × Int32) : mS := (A.1, A.2.1, va_up A.2.2.1 c (some y), A.2.2.2)
def mOpen (A : mS) (q : Nat) (y : Nat × Nat × Nat) : mS := (A.1, va_up A.2.1 q (some y), A.2.2)
def mIsC (A : mS) (x : Int32) : Prop := ∃ c, c < 3 ∧ x = nI c ∧ A.2.2.1 c ≠ none
/-- all on a row has ended, but the way of p -/
def mArd (A A' : mS) (p r n : Nat) : Prop :=
  A'.1 = A.1 ∧ (∀ q, A.2.1 q = none → A'.2.1 q = none) ∧ (∀ q x, A.2.1 q = some x → A'.2.1 q = if mRo A.2.1 q = r ∧ mAb A.2.1 zDp q p = false then none else some x) ∧
  (∀ c, A.2.2.1 c = none → A'.2.2.1 c = none) ∧ (∀ c x, A.2.2.1 c = some x → A'.2.2.1 c = if mRo A.2.1 x.1 = r then none else some x) ∧ (∀ j, j ≠ 2 → j ≠ 3 → A'.2.2.2 j = A.2.2.2 j) ∧
  A'.2.2.2 2 = A.2.2.2 2 + nI n ∧ n + mPc A'.2.1 = mPc A.2.1 ∧ ∃ k, A'.2.2.2 3 = A.2.2.2 3 + nI k ∧ k + mKk A'.2.2.1 = mKk A.2.2.1
theorem mRw_keep {P P' : mP} (h0 : ∀ q, P q = none → P' q = none) (h1 : ∀ q x, P q = some x → ∀ y, P' q = some y → y.1 = x.1 ∧ y.2.1 = x.2.1) : ∀ (d q : Nat) (v : Nat × Nat), mRw P' d q = some v → mRw P d q = some v
  | 0, _, _, h => by cases h
  | d + 1, q, v, h => by
    unfold mRw at h ⊢
    by_cases h2 : q < 2
    · rw [if_pos h2] at h ⊢; exact h
    · rw [if_neg h2] at h ⊢
      cases hy : P q with
      | none => rw [h0 q hy] at h; cases h
      | some y =>
        cases hz : P' q with
        | none => rw [hz] at h; cases h
        | some w =>
          have e := h1 q y hy w hz
          obtain ⟨o, f, l⟩ := y
          obtain ⟨o', f', l'⟩ := w
          simp only at e
          obtain ⟨rfl, rfl⟩ := e
          rw [hz] at h
          simp only at h ⊢
          cases hr : mRw P' d o' with
          | none => rw [hr] at h; cases h
          | some u => rw [mRw_keep h0 h1 d o' u hr]; rw [hr] at h; exact h
section Cur
variable {b : Nat} {G : gH} {A : mS} {σ : cS}
theorem x_endAround {A' : mS} {p r s n : Nat} (h : CRep σ A) (hok : mOk A.2.1) (hlen : ∀ q x, A.2.1 q = some x → x.2.2 < 100) (hcv : ∀ c x, A.2.2.1 c = some x → x.1 < 6 ∧ mV A x.1) (hv : mV A p) (hr : mRw A.2.1 zDp p = some (r, s)) (hd : mArd A A' p r n) :
    ∃ σ', f_X_endAround (cPut b σ G) b (nI p) = rI (nI n) (cPut b σ' G) ∧ CRep σ' A' := by
  have hp := hv.lt hok
  have hr2 := mRw_lt _ _ _ _ hr
  obtain ⟨d1, d2, d3, d4, d5, d6, d7, d8, k, d9, d10⟩ := hd
  obtain ⟨t1, t2, l1, l2, l3, l4, l5⟩ := h
  have ce : ∀ q, 2 ≤ q → q < 6 → (if eC A.2.1 r p q = true then 1 else 0) + o1 (A'.2.1 q) = o1 (A.2.1 q) := by
    intro q h2 h6
    cases hx : A.2.1 q with
    | none =>
      rw [d2 q hx]
      have : eC A.2.1 r p q = false := by unfold eC; rw [hx]; rfl
      rw [this]; rfl
    | some x =>
      rw [d3 q x hx]
      unfold eC
      rw [hx]
      by_cases hb : mAb A.2.1 zDp q p = true
      · simp [hb, o1]
      · by_cases hh : mRo A.2.1 q = r
        · simp [hb, hh, o1]
        · simp [hb, hh, o1]
  have en : eCt (eC A.2.1 r p) 2 4 = n := by have := eCt_pc ce; omega
  have hro : ∀ x, mV A x → x < 6 → σ.1 3 x = nI (mRo A.2.1 x) ∧ mRo A.2.1 x < 2 := by
    intro x hx h6
    obtain ⟨r1, s1, e⟩ := hok.rw' hx
    rw [mRo_of e]
    exact ⟨(l3 x r1 s1 h6 e).1, mRw_lt _ _ _ _ e⟩
  have cc : ∀ c, c < 3 → (if cRr (mRo A.2.1) r A.2.2.1 c = true then 1 else 0) + o1 (A'.2.2.1 c) = o1 (A.2.2.1 c) := by
    intro c hc3
    unfold cRr
    cases hx : A.2.2.1 c with
    | none => rw [d4 c hx]; rfl
    | some x =>
      rw [d5 c x hx]
      by_cases hh : mRo A.2.1 x.1 = r
      · simp [hh, o1]
      · simp [hh, o1]
  have ek : eCt (cRr (mRo A.2.1) r A.2.2.1) 0 3 = k := by have := eCt_kk cc; omega
  unfold f_X_endAround
  rw [c_fa_0_0, c_ob_1, y_endOthers hok hp hv hr l2 l3 (l1.hl hlen), bI_rI]
  generalize hσ1 : cAI σ 1 0 (fun q => if 2 ≤ q ∧ q < 6 ∧ eC A.2.1 r p q = true then -1 else σ.1 1 q) (σ.2 0 + nI (eCt (eC A.2.1 r p) 2 4)) = σ1
  have f1 : σ1.1 1 = fun q => if 2 ≤ q ∧ q < 6 ∧ eC A.2.1 r p q = true then -1 else σ.1 1 q := by rw [← hσ1, cAI_at]
  have fn : ∀ j, j ≠ 1 → σ1.1 j = σ.1 j := fun j hj => by rw [← hσ1, cAI_ne hj]
  have fi : σ1.2 0 = σ.2 0 + nI n := by rw [← hσ1, cAI_i, en]
  have fj : ∀ j, j ≠ 0 → σ1.2 j = σ.2 j := fun j hj => by rw [← hσ1, cAI_ine hj]
  rw [y_aroundL (C := A.2.2.1) (R := mRo A.2.1) hp hr2 3 zFu 0 σ1 (by omega) (by unfold zFu; omega) (by rw [fn 3 (by decide)]; exact (l3 p r s hp hr).1) (fun c _ hc3 => by
    rw [fn 6 (by decide), fn 7 (by decide), fn 3 (by decide)]
    exact ⟨l4.on hc3 (fun x hx => (hcv c x hx).1), fun x hx => hro x.1 (hcv c x hx).2 (hcv c x hx).1⟩), en]
  refine ⟨_, rfl, ?_, ?_, ?_, ?_, ?_, ?_, ?_⟩
  · rw [cAI_ne (by decide), fn 0 (by decide), d1]; exact t1
  · intro r' hr'
    rw [cAI_ne (by decide), f1, d1]
    show (if _ then _ else _) = _
    rw [if_neg (by omega)]; exact t2 r' hr'
  · rw [cAI_ne (by decide), f1]
    intro q h2 h6
    have h0 := l1 q h2 h6
    cases hx : A.2.1 q with
    | none =>
      rw [hx] at h0
      rw [d2 q hx]
      simp only at h0 ⊢
      have : eC A.2.1 r p q = false := by unfold eC; rw [hx]; rfl
      rw [this, if_neg (fun z => absurd z.2.2 (by decide))]; exact h0
    | some x =>
      rw [hx] at h0
      simp only at h0
      rw [d3 q x hx]
      simp only [h0]
      unfold eC
      rw [hx]
      by_cases hb : mAb A.2.1 zDp q p = true
      · simp [hb]
      · by_cases hh : mRo A.2.1 q = r
        · simp [hb, hh, h2, h6]
        · simp [hb, hh]
  · rw [cAI_ne (by decide), fn 2 (by decide)]
    refine ⟨l2.1, fun q x hx => ?_⟩
    cases hy : A.2.1 q with
    | none => rw [d2 q hy] at hx; cases hx
    | some y =>
      rw [l2.2 q y hy]
      rw [d3 q y hy] at hx
      split at hx
      · cases hx
      · cases hx; rfl
  · rw [cAI_ne (by decide), cAI_ne (by decide), fn 3 (by decide), fn 4 (by decide)]
    intro q r1 s1 h6 hq
    refine l3 q r1 s1 h6 (mRw_keep d2 (fun q x hx y hy => ?_) zDp q _ hq)
    rw [d3 q x hx] at hy
    split at hy
    · cases hy
    · cases hy; exact ⟨rfl, rfl⟩
  · rw [cAI_at, cAI_ne (by decide), cAI_ne (by decide), cAI_ne (by decide), fn 6 (by decide), fn 7 (by decide), fn 8 (by decide), fn 9 (by decide)]
    intro c hc3
    have h0 := l4 c hc3
    simp only [Nat.zero_le, hc3, true_and, if_true]
    unfold eA
    cases hx : A.2.2.1 c with
    | none => rw [hx] at h0; rw [d4 c hx]; exact h0
    | some x =>
      rw [hx] at h0
      rw [d5 c x hx]
      simp only at h0 ⊢
      by_cases hh : mRo A.2.1 x.1 = r
      · rw [if_pos hh, if_pos hh]
      · rw [if_neg hh, if_neg hh]; exact h0
  · refine ⟨?_, ?_, ?_, ?_, ?_⟩
    · rw [cAI_ine (by decide), fi, l5.1, d7]
    · rw [cAI_i, fj 1 (by decide), ek, l5.2.1, d9]
    · rw [cAI_ine (by decide), fj 2 (by decide), l5.2.2.1, d6 1 (by decide) (by decide)]
    · rw [cAI_ine (by decide), fj 3 (by decide), l5.2.2.2.1, d6 4 (by decide) (by decide)]
    · rw [cAI_ine (by decide), fj 4 (by decide), l5.2.2.2.2, d6 5 (by decide) (by decide)]
-- cursors
theorem CRepx.cur {exc : Int32} (h : CRepx exc σ A) {c : Nat} (hc : c < 3) {x : Nat × Nat × Int32 × Int32} (hx : A.2.2.1 c = some x) : σ.1 6 c = (if x.2.2.2 = 0 then nI 1 else nI 2) ∧ σ.1 7 c = nI x.1 ∧ (nI c ≠ exc → σ.1 8 c = nI x.2.1 ∧ σ.1 9 c = x.2.2.1) := by
  have := h.2.2.2.2.2.1 c hc
  rw [hx] at this; exact this
theorem CRepx.nocur {exc : Int32} (h : CRepx exc σ A) {c : Nat} (hc : c < 3) (hx : A.2.2.1 c = none) : σ.1 6 c = nI 0 := by
  have := h.2.2.2.2.2.1 c hc
  rw [hx] at this; exact this
theorem x_cThere (h : CRep σ A) {x : Int32} [dd : Decidable (mIsC A x)] : f_U_isThere (cPut b σ G) (b + 14) x = rI (mB (decide (mIsC A x))) (cPut b σ G) := by
  rw [y_cThere]
  have e : (rd 3 (σ.1 6) x = nI 2 ∨ rd 3 (σ.1 6) x = nI 1) ↔ mIsC A x := by
    by_cases hx : ∃ i, i < 3 ∧ x = nI i
    · obtain ⟨i, hi, rfl⟩ := hx
      rw [rd_nI hi (by decide)]
      cases hy : A.2.2.1 i with
      | none =>
        rw [CRepx.nocur h hi hy]
        refine ⟨fun q => absurd q (by decide), ?_⟩
        rintro ⟨j, hj, e, hv⟩
        rw [(nI_eq (by omega) (by omega)).mp e] at hy
        exact absurd hy hv
      | some y =>
        rw [(CRepx.cur h hi hy).1]
        refine ⟨fun _ => ⟨i, hi, rfl, by rw [hy]; exact Option.some_ne_none _⟩, fun _ => ?_⟩
        split
        · exact Or.inr rfl
        · exact Or.inl rfl
    · rw [rd_out hx (by decide)]
      refine ⟨fun q => absurd q (by decide), ?_⟩
      rintro ⟨j, hj, e, -⟩
      exact absurd ⟨j, hj, e⟩ hx
  by_cases hh : mIsC A x
  · rw [decide_eq_true hh, decide_eq_true (e.mpr hh)]
  · rw [decide_eq_false hh, decide_eq_false (fun q => hh (e.mp q))]
theorem x_needCursor (h : CRep σ A) {x : Int32} : (mIsC A x → f_X_needCursor (cPut b σ G) b x = rV (cPut b σ G)) ∧ (¬ mIsC A x → f_X_needCursor (cPut b σ G) b x = gThrow "java/lang/IndexOutOfBoundsException" (cPut b σ G)) := by
  have dd : Decidable (mIsC A x) := Classical.propDecidable _
  unfold f_X_needCursor
  simp only [x_cThere h, mB_if, c_ob_0, c_fa_0_0, c_fa_0_1, c_fi_0_2, c_put_0_2, c_fi_0_3, c_put_0_3, c_fi_0_4, c_put_0_4, c_ob_1, c_fa_1_0, c_fa_1_1, c_fa_1_2, c_fa_1_3, c_fa_1_4, c_fa_1_5, c_fi_1_6, c_put_1_6, c_ob_2, c_fa_2_0, c_ob_4, c_fa_4_0, c_ob_6, c_fa_6_0, c_ob_8, c_fa_8_0, c_ob_10, c_fa_10_0, c_ob_12, c_fa_12_0, c_ob_14, c_fa_14_0, c_fa_14_1, c_fa_14_2, c_fa_14_3, c_fi_14_4, c_put_14_4, c_ob_15, c_fa_15_0, c_ob_17, c_fa_17_0, c_ob_19, c_fa_19_0, c_ob_21, c_fa_21_0, c_len_0, c_ld_0, c_st_0, c_rd_0, c_wr_0, c_len_1, c_ld_1, c_st_1, c_rd_1, c_wr_1, c_len_2, c_ld_2, c_st_2, c_rd_2, c_wr_2, c_len_3, c_ld_3, c_st_3, c_rd_3, c_wr_3, c_len_4, c_ld_4, c_st_4, c_rd_4, c_wr_4, c_len_5, c_ld_5, c_st_5, c_rd_5, c_wr_5, c_len_6, c_ld_6, c_st_6, c_rd_6, c_wr_6, c_len_7, c_ld_7, c_st_7, c_rd_7, c_wr_7, c_len_8, c_ld_8, c_st_8, c_rd_8, c_wr_8, c_len_9, c_ld_9, c_st_9, c_rd_9, c_wr_9, bI_rI, bL_rL, bA_rA, bV_rV, bI_th, bL_th, bA_th, bV_th, rZ_0, rZ_1]
  exact ⟨fun k => if_pos (decide_eq_true k), fun k => if_neg (by rw [decide_eq_false k]; decide)⟩
theorem x_isStale (h : CRep σ A) {c : Nat} (hc : c < 3) {x : Nat × Nat × Int32 × Int32} (hx : A.2.2.1 c = some x) : f_U_isStale (cPut b σ G) (b + 14) (nI c) = rI (mB (decide (¬ x.2.2.2 = 0))) (cPut b σ G) := by
  rw [y_isStale, rd_nI hc (by decide), (CRepx.cur h hc hx).1]
  by_cases hs : x.2.2.2 = 0
  · rw [if_pos hs, decide_eq_false (show ¬ nI 1 = nI 2 by decide), decide_eq_false (show ¬ ¬ x.2.2.2 = 0 from fun q => q hs)]
  · rw [if_neg hs, decide_eq_true hs, decide_eq_true (show nI 2 = nI 2 from rfl)]
theorem x_listOf (h : CRep σ A) {c : Nat} (hc : c < 3) {x : Nat × Nat × Int32 × Int32} (hx : A.2.2.1 c = some x) : f_U_listOf (cPut b σ G) (b + 14) (nI c) = rI (nI x.1) (cPut b σ G) := by
  rw [y_listOf, rd_nI hc (by decide), (CRepx.cur h hc hx).2.1]
theorem x_nextOf (h : CRep σ A) {c : Nat} (hc : c < 3) {x : Nat × Nat × Int32 × Int32} (hx : A.2.2.1 c = some x) : f_U_nextOf (cPut b σ G) (b + 14) (nI c) = rI (nI x.2.1) (cPut b σ G) := by
  rw [y_nextOf, rd_nI hc (by decide), ((CRepx.cur h hc hx).2.2 (nI_nx hc)).1]
theorem x_lastOf (h : CRep σ A) {c : Nat} (hc : c < 3) {x : Nat × Nat × Int32 × Int32} (hx : A.2.2.1 c = some x) : f_U_lastOf (cPut b σ G) (b + 14) (nI c) = rI x.2.2.1 (cPut b σ G) := by
  rw [y_lastOf, rd_nI hc (by decide), ((CRepx.cur h hc hx).2.2 (nI_nx hc)).2]
/-- where a cursor stands may be told anew -/
theorem CRepx.setC (h : CRep σ A) {c : Nat} {x y : Nat × Nat × Int32 × Int32} (hx : A.2.2.1 c = some x) (h1 : y.1 = x.1) (h2 : y.2.2.2 = x.2.2.2) : CRepx (nI c) σ (mSetC A c y) := by
  refine ⟨h.1, h.2.1, h.2.2.1, h.2.2.2.1, h.2.2.2.2.1, fun c' hc' => ?_, h.2.2.2.2.2.2⟩
  show match va_up A.2.2.1 c (some y) c' with
    | none => σ.1 6 c' = nI 0
    | some x => σ.1 6 c' = (if x.2.2.2 = 0 then nI 1 else nI 2) ∧ σ.1 7 c' = nI x.1 ∧ (nI c' ≠ nI c → σ.1 8 c' = nI x.2.1 ∧ σ.1 9 c' = x.2.2.1)
  have h0 := h.2.2.2.2.2.1 c' hc'
  simp only [va_up]
  by_cases e : c' = c
  · subst e
    rw [hx] at h0
    rw [if_pos rfl]
    simp only at h0 ⊢
    rw [h1, h2]
    exact ⟨h0.1, h0.2.1, fun q => absurd rfl q⟩
  · rw [if_neg e]
    cases hz : A.2.2.1 c' with
    | none => rw [hz] at h0; exact h0
    | some z => rw [hz] at h0; exact ⟨h0.1, h0.2.1, fun _ => h0.2.2 (nI_nx hc')⟩
theorem x_stand {c : Nat} (h : CRepx (nI c) σ A) (hc : c < 3) {y : Nat × Nat × Int32 × Int32} (hy : A.2.2.1 c = some y) : ∃ σ', f_U_stand (cPut b σ G) (b + 14) (nI c) (nI y.2.1) y.2.2.1 = rV (cPut b σ' G) ∧ CRep σ' A := by
  refine ⟨_, y_stand hc, ?_⟩
  obtain ⟨t1, t2, l1, l2, l3, l4, l5⟩ := h
  refine ⟨t1, t2, l1, l2, l3, fun c' hc' => ?_, l5⟩
  have h0 := l4 c' hc'
  rw [cArr_ne (by decide), cArr_ne (by decide), cArr_ne (by decide), cArr_ne (by decide), cArr_ne (show 8 ≠ 9 by decide), cArr_at, cArr_at]
  cases hz : A.2.2.1 c' with
  | none => rw [hz] at h0; exact h0
  | some z =>
    rw [hz] at h0
    simp only at h0 ⊢
    refine ⟨h0.1, h0.2.1, fun _ => ?_⟩
    simp only [upd]
    by_cases e : c' = c
    · subst e
      rw [hz] at hy
      rw [if_pos rfl, if_pos rfl, Option.some.inj hy]
      exact ⟨rfl, rfl⟩
    · rw [if_neg e, if_neg e]
      exact h0.2.2 (fun q => e ((nI_eq (by omega) (by omega)).mp q))
theorem x_finishC (h : CRep σ A) {c : Nat} (hc : c < 3) : ∃ σ', f_U_finish (cPut b σ G) (b + 14) (nI c) = rV (cPut b σ' G) ∧ CRep σ' (mEndC A c) := by
  refine ⟨_, y_cFinish hc, ?_⟩
  obtain ⟨t1, t2, l1, l2, l3, l4, l5⟩ := h
  refine ⟨t1, t2, l1, l2, l3, fun c' hc' => ?_, ?_⟩
  · have h0 := l4 c' hc'
    show match va_up A.2.2.1 c none c' with
      | none => (cArr σ 6 (upd (σ.1 6) c (nI 0))).1 6 c' = nI 0
      | some x => (cArr σ 6 (upd (σ.1 6) c (nI 0))).1 6 c' = (if x.2.2.2 = 0 then nI 1 else nI 2) ∧ σ.1 7 c' = nI x.1 ∧ (nI c' ≠ -1 → σ.1 8 c' = nI x.2.1 ∧ σ.1 9 c' = x.2.2.1)
    rw [cArr_at]
    simp only [va_up, upd]
    by_cases e : c' = c
    · rw [if_pos e, if_pos e]
    · rw [if_neg e, if_neg e]; exact h0
  · exact ⟨l5.1, by rw [cSetI_at, l5.2.1]; rfl, l5.2.2.1, l5.2.2.2.1, l5.2.2.2.2⟩
/-- the first place of some that is free -/
def sFree (F : Nat → Bool) : Nat → Nat → Option Nat
  | _, 0 => none
  | j, k + 1 => if F j = true then some j else sFree F (j + 1) k
theorem sFree_some {F : Nat → Bool} : ∀ (k j : Nat) (q : Nat), sFree F j k = some q → F q = true ∧ j ≤ q ∧ q < j + k
  | 0, _, _, h => by cases h
  | k + 1, j, q, h => by
    unfold sFree at h
    by_cases hj : F j = true
    · rw [if_pos hj] at h; cases h; exact ⟨hj, Nat.le_refl _, by omega⟩
    · rw [if_neg hj] at h
      have := sFree_some k (j + 1) q h
      exact ⟨this.1, by omega, by omega⟩
def sNo (x : Option Nat) : Int32 := match x with
  | none => -1
  | some q => nI q
theorem x_freeCursor (h : CRep σ A) : f_U_freeCursor (cPut b σ G) (b + 14) = rI (sNo (sFree (fun c => (A.2.2.1 c).isNone) 0 3)) (cPut b σ G) := by
  have key : ∀ (k n j : Nat), j + k = 3 → k < n → f_U_freeCursor_L2 (fun G9 x8 => rI x8 G9) (fun G10 => rI (-1) G10) n (cPut b σ G) (b + 14) (nI j) = rI (sNo (sFree (fun c => (A.2.2.1 c).isNone) j k)) (cPut b σ G) := by
    intro k
    induction k with
    | zero =>
      intro n j hj hn
      cases n with
      | zero => omega
      | succ n =>
        unfold f_U_freeCursor_L2
        rw [if_pos (nI_le (by omega) (by omega))]; rfl
    | succ k ih =>
      intro n j hj hn
      cases n with
      | zero => omega
      | succ n =>
        have dd : Decidable (mIsC A (nI j)) := Classical.propDecidable _
        unfold f_U_freeCursor_L2 sFree
        rw [if_neg (nI_ge (by omega) (by omega)), c_ob_14, x_cThere h, bI_rI, mB_if]
        cases hx : A.2.2.1 j with
        | none =>
          have hn' : ¬ mIsC A (nI j) := by
            rintro ⟨i, hi, e, hv⟩
            rw [(nI_eq (by omega) (by omega)).mp e] at hx
            exact hv hx
          rw [decide_eq_false hn', if_neg (by decide)]; rfl
        | some x =>
          rw [decide_eq_true (show mIsC A (nI j) from ⟨j, by omega, rfl, by rw [hx]; exact Option.some_ne_none _⟩), if_pos rfl, nI_add, ih n (j + 1) (by omega) (by omega)]
          rw [if_neg (by simp)]
  unfold f_U_freeCursor
  exact key 3 zFu 0 rfl (by unfold zFu; omega)
theorem x_start (h : CRep σ A) {c i n : Nat} (hc : c < 3) : ∃ σ', f_U_start (cPut b σ G) (b + 14) (nI c) (nI i) (nI n) = rV (cPut b σ' G) ∧ CRep σ' (mSetC A c (i, n, -1, 0)) := by
  refine ⟨_, y_start hc, ?_⟩
  obtain ⟨t1, t2, l1, l2, l3, l4, l5⟩ := h
  refine ⟨t1, t2, l1, l2, l3, fun c' hc' => ?_, l5⟩
  have h0 := l4 c' hc'
  rw [cArr_ne (by decide), cArr_ne (by decide), cArr_ne (by decide), cArr_at, cArr_ne (by decide), cArr_ne (by decide), cArr_at, cArr_ne (show 8 ≠ 9 by decide), cArr_at, cArr_at]
  show match va_up A.2.2.1 c (some (i, n, -1, 0)) c' with
    | none => upd (σ.1 6) c (nI 1) c' = nI 0
    | some x => upd (σ.1 6) c (nI 1) c' = (if x.2.2.2 = 0 then nI 1 else nI 2) ∧ upd (σ.1 7) c (nI i) c' = nI x.1 ∧ (nI c' ≠ -1 → upd (σ.1 8) c (nI n) c' = nI x.2.1 ∧ upd (σ.1 9) c (-1) c' = x.2.2.1)
  simp only [va_up, upd]
  by_cases e : c' = c
  · simp [e]
  · simp only [if_neg e]; exact h0
-- parts
theorem mOk.opn {P : mP} (h : mOk P) {q o f l : Nat} (h2 : 2 ≤ q) (h6 : q < 6) (hq : P q = none) (ho : o < 2 ∨ P o ≠ none) : mOk (va_up P q (some (o, f, l))) := by
  obtain ⟨ρ, h1, h3⟩ := h.rank4
  have hoq : o ≠ q := by
    rintro rfl
    rcases ho with k | k
    · omega
    · exact k hq
  refine ⟨fun x y hx => ?_, fun x => if x = q then 5 else if P x = none then 0 else ρ x, fun x => ?_, fun x y hx => ?_⟩
  · simp only [va_up] at hx
    by_cases e : x = q
    · rw [e]; exact ⟨h2, h6⟩
    · rw [if_neg e] at hx; exact h.1 x y hx
  · show (if x = q then 5 else if P x = none then 0 else ρ x) < 6
    split
    · omega
    · split
      · omega
      · next k => have := h1 x k; omega
  · simp only [va_up] at hx
    by_cases e : x = q
    · rw [if_pos e] at hx
      cases hx
      simp only
      rcases ho with k | k
      · exact Or.inl k
      · refine Or.inr ⟨by simp only [va_up]; rw [if_neg hoq]; exact k, ?_⟩
        rw [if_pos e, if_neg hoq, if_neg k]
        have := h1 o k; omega
    · rw [if_neg e] at hx
      rcases h3 x y hx with k | k
      · exact Or.inl k
      · have hyq : y.1 ≠ q := fun z => k.1 (by rw [z]; exact hq)
        refine Or.inr ⟨by simp only [va_up]; rw [if_neg hyq]; exact k.1, ?_⟩
        simp only
        rw [if_neg e, if_neg hyq, if_neg k.1, if_neg (by rw [hx]; exact Option.some_ne_none _)]
        exact k.2
theorem mRw_open {P : mP} (h : mOk P) {q : Nat} {y : Nat × Nat × Nat} (hq : P q = none) {p : Nat} (hp : p < 2 ∨ P p ≠ none) (d : Nat) : mRw (va_up P q (some y)) d p = mRw P d p := by
  refine (mRw_sub (P := va_up P q (some y)) (P' := P) (fun x z hx => ?_) h.cl d p hp).symm
  simp only [va_up]
  rw [if_neg (fun e => by rw [e, hq] at hx; cases hx)]
  exact hx
theorem x_open (h : CRep σ A) (hok : mOk A.2.1) {p q r s f l : Nat} (hv : mV A p) (hr : mRw A.2.1 zDp p = some (r, s)) (h2 : 2 ≤ q) (h6 : q < 6) (hq : A.2.1 q = none) :
    ∃ σ', f_I_open (cPut b σ G) (b + 1) (nI q) (nI p) (nI f) (nI l) = rV (cPut b σ' G) ∧ CRep σ' (mOpen A q (p, f, l)) := by
  have hp := hv.lt hok
  have hpq : p ≠ q := by
    rintro rfl
    rcases hv with k | k
    · omega
    · exact k hq
  obtain ⟨t1, t2, l1, l2, l3, l4, l5⟩ := h
  obtain ⟨e3, e4⟩ := l3 p r s hp hr
  have hok' := hok.opn (f := f) (l := l) h2 h6 hq hv
  refine ⟨cArr (cArr (cArr (cArr σ 2 (upd (σ.1 2) q (nI p))) 3 (upd (σ.1 3) q (nI r))) 4 (upd (σ.1 4) q (nI (f + s)))) 1 (upd (σ.1 1) q (nI l)), ?_, ?_⟩
  · unfold f_I_open
    simp only [y_rowOf, c_ob_0, c_fa_0_0, c_fa_0_1, c_fi_0_2, c_put_0_2, c_fi_0_3, c_put_0_3, c_fi_0_4, c_put_0_4, c_ob_1, c_fa_1_0, c_fa_1_1, c_fa_1_2, c_fa_1_3, c_fa_1_4, c_fa_1_5, c_fi_1_6, c_put_1_6, c_ob_2, c_fa_2_0, c_ob_4, c_fa_4_0, c_ob_6, c_fa_6_0, c_ob_8, c_fa_8_0, c_ob_10, c_fa_10_0, c_ob_12, c_fa_12_0, c_ob_14, c_fa_14_0, c_fa_14_1, c_fa_14_2, c_fa_14_3, c_fi_14_4, c_put_14_4, c_ob_15, c_fa_15_0, c_ob_17, c_fa_17_0, c_ob_19, c_fa_19_0, c_ob_21, c_fa_21_0, c_len_0, c_ld_0, c_st_0, c_rd_0, c_wr_0, c_len_1, c_ld_1, c_st_1, c_rd_1, c_wr_1, c_len_2, c_ld_2, c_st_2, c_rd_2, c_wr_2, c_len_3, c_ld_3, c_st_3, c_rd_3, c_wr_3, c_len_4, c_ld_4, c_st_4, c_rd_4, c_wr_4, c_len_5, c_ld_5, c_st_5, c_rd_5, c_wr_5, c_len_6, c_ld_6, c_st_6, c_rd_6, c_wr_6, c_len_7, c_ld_7, c_st_7, c_rd_7, c_wr_7, c_len_8, c_ld_8, c_st_8, c_rd_8, c_wr_8, c_len_9, c_ld_9, c_st_9, c_rd_9, c_wr_9, bI_rI, bL_rL, bA_rA, bV_rV, bI_th, bL_th, bA_th, bV_th, rZ_0, rZ_1]
    rw [wr_nI h6 (by decide), cSet_arr, wr_nI h6 (by decide), cSet_arr, wr_nI h6 (by decide), cSet_arr, wr_nI h6 (by decide), cSet_arr]
    rw [rd_nI hp (by decide), cArr_ne (by decide), e3, rd_nI hp (by decide), cArr_ne (by decide), cArr_ne (by decide), e4, nI_add, Nat.add_comm s f]
    rfl
  · refine ⟨t1, fun r' hr' => ?_, fun x hx2 hx6 => ?_, ⟨fun r' hr' => ?_, fun x y hx => ?_⟩, fun x r1 s1 hx6 hx => ?_, l4, l5⟩
    · show upd (σ.1 1) q (nI l) r' = _
      simp only [upd]
      rw [if_neg (by omega)]; exact t2 r' hr'
    · show match va_up A.2.1 q (some (p, f, l)) x with
        | none => upd (σ.1 1) q (nI l) x = -1
        | some y => upd (σ.1 1) q (nI l) x = nI y.2.2
      have h0 := l1 x hx2 hx6
      simp only [va_up, upd]
      by_cases e : x = q
      · rw [if_pos e, if_pos e]
      · rw [if_neg e, if_neg e]; exact h0
    · show upd (σ.1 2) q (nI p) r' = -1
      simp only [upd]
      rw [if_neg (by omega)]; exact l2.1 r' hr'
    · have hx' : va_up A.2.1 q (some (p, f, l)) x = some y := hx
      show upd (σ.1 2) q (nI p) x = nI y.1
      simp only [va_up, upd] at hx' ⊢
      by_cases e : x = q
      · rw [if_pos e] at hx' ⊢; cases hx'; rfl
      · rw [if_neg e] at hx' ⊢; exact l2.2 x y hx'
    · show upd (σ.1 3) q (nI r) x = nI r1 ∧ upd (σ.1 4) q (nI (f + s)) x = nI s1
      have hx' : mRw (va_up A.2.1 q (some (p, f, l))) zDp x = some (r1, s1) := hx
      simp only [upd]
      by_cases e : x = q
      · rw [if_pos e, if_pos e]
        have e5 := mRw_of (p := q) (x := (p, f, l)) hok' (by simp [va_up]) (r := r) (b := s) ((mRw_open hok hq hv zDp).trans hr)
        rw [e, e5] at hx'
        cases hx'
        exact ⟨rfl, rfl⟩
      · rw [if_neg e, if_neg e]
        by_cases hxv : x < 2 ∨ A.2.1 x ≠ none
        · rw [mRw_open hok hq hxv zDp] at hx'
          exact l3 x r1 s1 hx6 hx'
        · exfalso
          have h1 : ¬ x < 2 := fun k => hxv (Or.inl k)
          have h3 : A.2.1 x = none := by
            cases hz : A.2.1 x with
            | none => rfl
            | some z => exact absurd (Or.inr (by rw [hz]; exact Option.some_ne_none _)) hxv
          have e6 : va_up A.2.1 q (some (p, f, l)) x = none := by simp only [va_up]; rw [if_neg e]; exact h3
          have : mRw (va_up A.2.1 q (some (p, f, l))) (7 + 1) x = some (r1, s1) := hx'
          unfold mRw at this
          rw [if_neg h1, e6] at this
          cases this
theorem x_freePart (h : CRep σ A) (hw : mInw (-1) 0 A) : f_I_freePart (cPut b σ G) (b + 1) = rI (sNo (sFree (fun c => (A.2.1 c).isNone) 2 4)) (cPut b σ G) := by
  have key : ∀ (k n j : Nat), 2 ≤ j → j + k = 6 → k < n → f_I_freePart_L2 (fun G9 x8 => rI x8 G9) (fun G10 => rI (-1) G10) n (cPut b σ G) (b + 1) (nI j) = rI (sNo (sFree (fun c => (A.2.1 c).isNone) j k)) (cPut b σ G) := by
    intro k
    induction k with
    | zero =>
      intro n j hj2 hj hn
      cases n with
      | zero => omega
      | succ n =>
        unfold f_I_freePart_L2
        rw [if_pos (nI_le (by omega) (by omega))]; rfl
    | succ k ih =>
      intro n j hj2 hj hn
      cases n with
      | zero => omega
      | succ n =>
        unfold f_I_freePart_L2 sFree
        rw [if_neg (nI_ge (by omega) (by omega)), c_ob_1]
        cases hx : A.2.1 j with
        | none =>
          have hn' : ¬ mIsL A (nI j) := by
            rintro ⟨i, hi, e, hv⟩
            have e' := (nI_eq (by omega) (by omega)).mp e
            rcases hv with hv | hv
            · omega
            · rw [e'] at hx; exact hv hx
          rw [y_isThere (t := false) ⟨fun _ => rfl, fun _ => (CRepx.there h hw).mpr hn'⟩, bI_rI, mB_if, if_neg (by decide)]; rfl
        | some x =>
          have hy : mIsL A (nI j) := ⟨j, by omega, rfl, Or.inr (by rw [hx]; exact Option.some_ne_none _)⟩
          rw [y_isThere (t := true) ⟨fun q => absurd hy ((CRepx.there h hw).mp q), fun q => (by cases q)⟩, bI_rI, mB_if, if_pos rfl, nI_add, ih n (j + 1) (by omega) (by omega) (by omega)]
          rw [if_neg (by simp)]
  unfold f_I_freePart
  exact key 4 zFu 2 (by omega) rfl (by unfold zFu; omega)
end Cur
end
section
-- the class: rows are written without a change of length
theorem CRepx.rows {exc : Int32} {σ : cS} {A : mS} (h : CRepx exc σ A) (hl31 : ∀ r, r < 2 → (A.1 r).length ≤ 31) {r : Nat} {ts : List (Nat × Nat × Nat)} {f' : Nat → Int32} (hl : ts.length = (A.1 r).length) (ho : cOut r (σ.1 0) f') (hs : cSeg f' (31 * r) ts) : CRepx exc (cArr σ 0 f') (mRows A r ts) := by
  refine ⟨?_, fun r' hr' => ?_, h.2.2⟩
  · rw [cArr_at]
    exact h.1.row hl31 ho hs
  · show (cArr σ 0 f').1 1 r' = nI (if r' = r then ts else A.1 r').length
    rw [cArr_ne (by decide), h.2.1 r' hr']
    by_cases e : r' = r
    · rw [if_pos e, hl, e]
    · rw [if_neg e]
theorem mInv.rows {m : Nat} {A : mS} (h : mInv m A) {r : Nat} {ts : List (Nat × Nat × Nat)} (hl : ts.length = (A.1 r).length) (ht : ∀ t, t ∈ ts → mTok m t) : mInv m (mRows A r ts) := by
  have e : ∀ q, mLen (mRows A r ts) q = mLen A q := by
    intro q
    rw [mLen_rows]
    split
    · next k => rw [hl, k.1, mLen_row (by rw [← k.1]; exact k.2)]
    · rfl
  refine ⟨h.1, fun q x hx => by rw [e]; exact h.2.1 q x hx, fun r' hr' => ?_, fun c x hx => ?_, h.2.2.2.2⟩
  · show (if r' = r then ts else A.1 r').length ≤ 31 ∧ ∀ t, t ∈ (if r' = r then ts else A.1 r') → mTok m t
    by_cases er : r' = r
    · rw [if_pos er, hl, ← er]; exact ⟨(h.2.2.1 r' hr').1, ht⟩
    · rw [if_neg er]; exact h.2.2.1 r' hr'
  · have := h.2.2.2.1 c x hx
    refine ⟨this.1, this.2.1, this.2.2.1, ?_⟩
    rw [e]; exact this.2.2.2
section Row
variable {b : Nat} {G : gH}
theorem cSeg.set {f : Nat → Int32} {o i : Nat} {ts : List (Nat × Nat × Nat)} {t : Nat × Nat × Nat} (h : cSeg f o ts) : cSeg (upd f (o + i) (cE t)) o (ts.set i t) := by
  intro j u hu
  rw [List.getElem?_set] at hu
  simp only [upd]
  by_cases e : i = j
  · rw [if_pos e] at hu
    split at hu
    · cases hu; rw [if_pos (by omega)]
    · cases hu
  · rw [if_neg e] at hu
    rw [if_neg (by omega)]; exact h j u hu
theorem x_write {exc : Int32} {σ : cS} {A : mS} (h : CRepx exc σ A) (hok : mOk A.2.1) (hfit : mFit A) (hl31 : ∀ r, r < 2 → (A.1 r).length ≤ 31) {p r s i : Nat} (hv : mV A p) (hr : mRw A.2.1 zDp p = some (r, s)) (hi : i < mLen A p) (t : Nat × Nat × Nat) :
    f_I_write (cPut b σ G) (b + 1) (nI p) (nI i) (cE t) = rV (cPut b (cArr σ 0 (upd (σ.1 0) (31 * r + (s + i)) (cE t))) G) ∧ CRepx exc (cArr σ 0 (upd (σ.1 0) (31 * r + (s + i)) (cE t))) (mRows A r ((A.1 r).set (s + i) t)) := by
  have hr2 := mRw_lt _ _ _ _ hr
  have hp := hv.lt hok
  have hf := hfit.rw _ _ _ _ hr
  have h31 := hl31 r hr2
  obtain ⟨e3, e4⟩ := h.2.2.2.2.1 p r s hp hr
  refine ⟨by rw [y_write hp e3 e4 (by omega), Nat.add_assoc], h.rows hl31 (by rw [List.length_set]) (cOut.up (by omega)) (h.1.seg hr2).set⟩
theorem mLen_rset {A : mS} {r i q : Nat} {t : Nat × Nat × Nat} : mLen (mRows A r ((A.1 r).set i t)) q = mLen A q := by
  rw [mLen_rows]
  split
  · next k => rw [List.length_set, k.1, mLen_row (by rw [← k.1]; exact k.2)]
  · rfl
/-- closing a part -/
theorem x_close {σ : cS} {A A' : mS} {p n : Nat} (h : CRep σ A) (hw : mInw (-1) p A) (h2 : 2 ≤ p) (hp : A.2.1 p ≠ none) (hE : mEnds A A' n) (hch : ∀ q x, A.2.1 q = some x → A'.2.1 q = if mAb A.2.1 zDp p q = true then none else some x) :
    ∃ σ', f_X_close (cPut b σ G) b (nI p) = rI (nI n) (cPut b σ' G) ∧ CRep σ' A' := by
  have hv : mV A p := Or.inr hp
  have hp6 := hv.lt hw.1
  obtain ⟨d1, d2, d3, d4, d5, d6, d7, k, d8, d9⟩ := hE
  obtain ⟨t1, t2, l1, l2, l3, l4, l5⟩ := id h
  have hlen : ∀ q x, A.2.1 q = some x → x.2.2 < 100 := by
    intro q x hx
    have hq : mV A q := Or.inr (by rw [hx]; exact Option.some_ne_none _)
    obtain ⟨r1, s1, h1, -, a1, a2, -⟩ := hw.len hq
    have a3 := mLen_part (A := A) (p := q) (by have := (hw.1.1 q x hx).1; omega) hx
    omega
  have hno : ∀ q, A.2.1 q = none → A'.2.1 q = none := by
    intro q hq
    cases hz : A'.2.1 q with
    | none => rfl
    | some z => rw [d2 q z hz] at hq; cases hq
  have ce : ∀ q, 2 ≤ q → q < 6 → (if eW A.2.1 p q = true then 1 else 0) + o1 (A'.2.1 q) = o1 (A.2.1 q) := by
    intro q _ _
    unfold eW
    cases hx : A.2.1 q with
    | none => rw [hno q hx]; rfl
    | some x =>
      rw [hch q x hx]
      by_cases hb : mAb A.2.1 zDp p q = true
      · simp [hb, o1]
      · simp [hb, o1]
  have en : eCt (eW A.2.1 p) 2 4 = n := by have := eCt_pc ce; omega
  have hcv : ∀ c x, A.2.2.1 c = some x → x.1 < 6 ∧ mV A x.1 := fun c x hx => ⟨(hw.2.2.2 c x hx).2.1, (hw.2.2.2 c x hx).2.2.1⟩
  let T : Nat → Bool := fun q => decide (q < 2) || (A'.2.1 q).isSome
  have hT2 : ∀ q, q < 2 → T q = true := fun q hq => by show (decide (q < 2) || _) = true; rw [decide_eq_true hq]; rfl
  have hTn : ∀ q, 2 ≤ q → T q = (A'.2.1 q).isSome := fun q hq => by show (decide (q < 2) || _) = _; rw [decide_eq_false (by omega)]; rfl
  have cE' : ∀ c, c < 3 → (∀ x, A.2.2.1 c = some x → A'.2.2.1 c = if T x.1 = true then some x else none) ∧ (A.2.2.1 c = none → A'.2.2.1 c = none) := by
    intro c hc
    refine ⟨fun x hx => ?_, fun hx => ?_⟩
    · rcases d3 c with e | ⟨e, y, f1, f2, f3⟩
      · rw [e, hx]
        have : T x.1 = true := by
          by_cases h2' : x.1 < 2
          · exact hT2 _ h2'
          · rw [hTn _ (by omega)]
            have := d4 c x hc (e.trans hx) (by omega) (by
              rcases (hcv c x hx).2 with w | w
              · omega
              · exact w)
            cases hz : A'.2.1 x.1 with
            | none => exact absurd hz this
            | some z => rfl
        rw [if_pos this]
      · rw [hx] at f1
        rw [e, Option.some.inj f1, if_neg (by rw [hTn _ f2, f3]; decide)]
    · rcases d3 c with e | ⟨e, -⟩
      · rw [e, hx]
      · exact e
  have cc : ∀ c, c < 3 → (if eX T A.2.2.1 c = true then 1 else 0) + o1 (A'.2.2.1 c) = o1 (A.2.2.1 c) := by
    intro c hc
    unfold eX
    cases hx : A.2.2.1 c with
    | none => rw [(cE' c hc).2 hx]; rfl
    | some x =>
      rw [(cE' c hc).1 x hx]
      cases hT : T x.1 <;> simp [hT, o1]
  have ek : eCt (eX T A.2.2.1) 0 3 = k := by have := eCt_kk cc; omega
  have hth : mIsL A (nI p) := ⟨p, hp6, rfl, hv⟩
  have lt : ∀ q, 2 ≤ q → q < 6 → match A'.2.1 q with
      | none => (if 2 ≤ q ∧ q < 6 ∧ eW A.2.1 p q = true then (-1 : Int32) else σ.1 1 q) = -1
      | some x => (if 2 ≤ q ∧ q < 6 ∧ eW A.2.1 p q = true then (-1 : Int32) else σ.1 1 q) = nI x.2.2 := by
    intro q h2' h6
    have h0 := l1 q h2' h6
    unfold eW
    cases hx : A.2.1 q with
    | none =>
      rw [hx] at h0
      rw [hno q hx]
      simp only at h0 ⊢
      rw [h0]; split <;> rfl
    | some x =>
      rw [hx] at h0
      rw [hch q x hx]
      simp only at h0
      by_cases hb : mAb A.2.1 zDp p q = true
      · simp [hb, h2', h6]
      · simp [hb, h0]
  unfold f_X_close f_X_needPart
  rw [c_ob_0, if_neg (nI_nlt (by omega) (by omega)), c_fa_0_0, c_ob_1, y_isThere (t := true) ⟨fun q => absurd hth ((CRepx.there h hw).mp q), fun q => (by cases q)⟩, bI_rI, mB_if, if_pos rfl, bV_rV, c_fa_0_0, c_ob_1, y_endWithin hw.1 hp6 l2 (l1.hl hlen), bI_rI, en]
  rw [y_closeL (C := A.2.2.1) (T := T) 3 zFu 0 _ (by omega) (by unfold zFu; omega) (fun c _ hc3 => by
    rw [cAI_ne (by decide), cAI_ne (by decide)]
    exact l4.on hc3 (fun x hx => (hcv c x hx).1)) (fun q hq => by
    rw [cAI_at]
    by_cases h2' : q < 2
    · rw [hT2 q h2', if_neg (by omega), t2 q h2']
      exact ⟨fun z => absurd z (nI_ne1 (by have := hw.2.2.1 q h2'; omega)), fun z => by cases z⟩
    · rw [hTn q (by omega)]
      have := lt q (by omega) hq
      cases hz : A'.2.1 q with
      | none => rw [hz] at this; simp only at this; rw [this]; exact ⟨fun _ => rfl, fun _ => rfl⟩
      | some z =>
        rw [hz] at this
        simp only at this
        rw [this]
        exact ⟨fun w => absurd w (nI_ne1 (by have := hlen q z (d2 q z hz); omega)), fun w => by cases w⟩)]
  refine ⟨_, rfl, ?_, ?_, ?_, ?_, ?_, ?_, ?_⟩
  · rw [cAI_ne (by decide), cAI_ne (by decide), d1]; exact t1
  · intro r' hr'
    rw [cAI_ne (by decide), cAI_at, d1]
    show (if _ then _ else _) = _
    rw [if_neg (by omega)]; exact t2 r' hr'
  · rw [cAI_ne (by decide), cAI_at]
    exact lt
  · rw [cAI_ne (by decide), cAI_ne (by decide)]
    exact ⟨l2.1, fun q x hx => l2.2 q x (d2 q x hx)⟩
  · rw [cAI_ne (by decide), cAI_ne (by decide), cAI_ne (by decide), cAI_ne (by decide)]
    intro q r1 s1 h6 hq
    refine l3 q r1 s1 h6 (mRw_keep hno (fun q x hx y hy => ?_) zDp q _ hq)
    have := d2 q y hy
    rw [hx] at this
    cases this
    exact ⟨rfl, rfl⟩
  · rw [cAI_at, cAI_ne (by decide), cAI_ne (by decide), cAI_ne (by decide), cAI_ne (by decide), cAI_ne (by decide), cAI_ne (by decide), cAI_ne (by decide)]
    intro c hc3
    have h0 := l4 c hc3
    simp only [Nat.zero_le, hc3, true_and]
    cases hx : A.2.2.1 c with
    | none =>
      have he : eX T A.2.2.1 c = false := by unfold eX; rw [hx]
      rw [hx] at h0
      rw [(cE' c hc3).2 hx, he]
      exact h0
    | some x =>
      have he : eX T A.2.2.1 c = !T x.1 := by unfold eX; rw [hx]
      rw [hx] at h0
      rw [(cE' c hc3).1 x hx, he]
      by_cases hT : T x.1 = true
      · rw [if_pos hT, hT]; exact h0
      · rw [if_neg hT, Bool.eq_false_iff.mpr hT]; rfl
  · refine ⟨?_, ?_, ?_, ?_, ?_⟩
    · rw [cAI_ine (by decide), cAI_i, l5.1, d6]
    · rw [cAI_i, cAI_ine (by decide), ek, l5.2.1, d8]
    · rw [cAI_ine (by decide), cAI_ine (by decide), l5.2.2.1, d5 1 (by decide) (by decide)]
    · rw [cAI_ine (by decide), cAI_ine (by decide), l5.2.2.2.1, d5 4 (by decide) (by decide)]
    · rw [cAI_ine (by decide), cAI_ine (by decide), l5.2.2.2.2, d5 5 (by decide) (by decide)]
end Row
end
section
-- the class: orders
def sR (ord : Nat) (t u : Nat × Nat) : Bool := match ord with
  | 0 => decide (t.1 < u.1)
  | 1 => decide (u.1 < t.1)
  | 2 => decide (t.1 % 5 < u.1 % 5)
  | 3 => decide (u.2 < t.2)
  | _ => if t.1 % 2 = u.1 % 2 then decide (t.1 < u.1) else decide (u.1 % 2 < t.1 % 2)
def sGap {α : Type} (R : α → α → Bool) (x : α) (l : List α) : Nat → Nat
  | 0 => 0
  | g + 1 => match l[g]? with
    | some y => if R x y = true then sGap R x l g else g + 1
    | none => g + 1
def sSo {α : Type} (R : α → α → Bool) : List α → List α → List α
  | done, [] => done
  | done, x :: rest => sSo R (done.insertIdx (sGap R x done done.length) x) rest
theorem sGap_le {α : Type} {R : α → α → Bool} {x : α} {l : List α} : ∀ g, sGap R x l g ≤ g
  | 0 => Nat.le_refl _
  | g + 1 => by
    unfold sGap
    split
    · split
      · have := sGap_le (R := R) (x := x) (l := l) g; omega
      · exact Nat.le_refl _
    · exact Nat.le_refl _
theorem sGap_map {α β : Type} {R : α → α → Bool} {S : β → β → Bool} (f : α → β) (h : ∀ a c, R a c = S (f a) (f c)) {x : α} {l : List α} : ∀ g, sGap R x l g = sGap S (f x) (l.map f) g
  | 0 => rfl
  | g + 1 => by
    unfold sGap
    rw [List.getElem?_map]
    cases l[g]? with
    | none => rfl
    | some y =>
      simp only [Option.map_some, h]
      rw [sGap_map f h g]
theorem sSo_map {α β : Type} {R : α → α → Bool} {S : β → β → Bool} (f : α → β) (h : ∀ a c, R a c = S (f a) (f c)) : ∀ (rest done : List α), (sSo R done rest).map f = sSo S (done.map f) (rest.map f)
  | [], done => rfl
  | x :: rest, done => by
    show (sSo R (done.insertIdx (sGap R x done done.length) x) rest).map f = sSo S ((done.map f).insertIdx (sGap S (f x) (done.map f) (done.map f).length) (f x)) (rest.map f)
    rw [sSo_map f h rest, ins_map, sGap_map f h, List.length_map]
theorem sSo_len {α : Type} {R : α → α → Bool} : ∀ (rest done : List α), (sSo R done rest).length = done.length + rest.length
  | [], done => rfl
  | x :: rest, done => by
    show (sSo R (done.insertIdx (sGap R x done done.length) x) rest).length = _
    rw [sSo_len rest, List.length_insertIdx_of_le_length (sGap_le _)]
    simp only [List.length_cons]; omega
theorem sSo_mem {α : Type} {R : α → α → Bool} {a : α} : ∀ (rest done : List α), a ∈ sSo R done rest → a ∈ done ∨ a ∈ rest
  | [], done, h => Or.inl h
  | x :: rest, done, h => by
    have h' : a ∈ sSo R (done.insertIdx (sGap R x done done.length) x) rest := h
    rcases sSo_mem rest _ h' with k | k
    · rcases ins_mem _ _ k with e | e
      · exact Or.inr (by rw [e]; exact List.mem_cons_self ..)
      · exact Or.inl e
    · exact Or.inr (List.mem_cons_of_mem _ k)
/-- a row with other things in place of a list's -/
def sSpl (L : List (Nat × Nat × Nat)) (s : Nat) (new : List (Nat × Nat × Nat)) : List (Nat × Nat × Nat) := L.take s ++ (new ++ L.drop (s + new.length))
theorem sSpl_len {L new : List (Nat × Nat × Nat)} {s : Nat} (h : s + new.length ≤ L.length) : (sSpl L s new).length = L.length := by
  unfold sSpl
  rw [List.length_append, List.length_append, List.length_take, List.length_drop]; omega
theorem sSpl_mem {L new : List (Nat × Nat × Nat)} {s : Nat} {t : Nat × Nat × Nat} (h : t ∈ sSpl L s new) : t ∈ L ∨ t ∈ new := by
  unfold sSpl at h
  rcases List.mem_append.mp h with k | k
  · exact Or.inl (List.mem_of_mem_take k)
  · rcases List.mem_append.mp k with k | k
    · exact Or.inr k
    · exact Or.inl (List.mem_of_mem_drop k)
theorem sSeg_mem {A : mS} {r s n : Nat} {t : Nat × Nat × Nat} (h : t ∈ sSeg A r s n) : t ∈ A.1 r := List.mem_of_mem_drop (List.mem_of_mem_take h)
theorem sSeg_at {A : mS} {r s n i : Nat} (hi : i < n) : (sSeg A r s n)[i]? = (A.1 r)[s + i]? := by
  unfold sSeg
  rw [List.getElem?_take, if_pos hi, List.getElem?_drop]
def cWr (f : Nat → Int32) (o j n : Nat) (v : Nat → Int32) : Nat → Int32 := fun q => if o + j ≤ q ∧ q < o + n then v (q - o) else f q
theorem cSeg.spl {f : Nat → Int32} {r s : Nat} {L new : List (Nat × Nat × Nat)} {v : Nat → Int32} (h : cSeg f (31 * r) L) (hl : s + new.length ≤ L.length) (hv : ∀ i t, new[i]? = some t → v i = cE t) : cSeg (cWr f (31 * r + s) 0 new.length v) (31 * r) (sSpl L s new) := by
  unfold sSpl
  have hz : 31 * r + (L.take s).length + new.length = 31 * r + (s + new.length) := by
    rw [List.length_take]; omega
  refine cSeg.app (h.take.cong (fun i hi => ?_)) (cSeg.app (fun i t ht => ?_) ?_)
  · rw [List.length_take] at hi
    exact if_neg (by omega)
  · have hi : i < new.length := (List.getElem?_eq_some_iff.mp ht).1
    rw [List.length_take, Nat.min_eq_left (by omega)]
    show (if _ then _ else _) = _
    rw [if_pos (by omega), show 31 * r + s + i - (31 * r + s) = i by omega]; exact hv i t ht
  · rw [hz]
    refine (h.drop (n := s + new.length)).cong (fun i hi => ?_)
    exact if_neg (by omega)
theorem cWr_out {f : Nat → Int32} {r s n : Nat} {v : Nat → Int32} (h : s + n ≤ 31) : cOut r f (cWr f (31 * r + s) 0 n v) := by
  intro q hq
  exact if_neg (by omega)
section Ord
variable {b : Nat} {G : gH}
theorem le_mB {a c : Nat} (ha : a < 2 ^ 31) (hc : c < 2 ^ 31) : (if nI c ≤ nI a then rZ (nI 0) G else rZ (nI 1) G) = rI (mB (decide (a < c))) G := by
  by_cases h : c ≤ a
  · rw [if_pos (nI_le h ha), rZ_0, decide_eq_false (by omega)]; rfl
  · rw [if_neg (nI_ge (by omega) hc), rZ_1, decide_eq_true (by omega)]; rfl
theorem y_ahead {ord k g k' g' : Nat} (ho : ord < 5) (hk : k < 31) (hk' : k' < 31) (hg : g ≤ 1000) (hg' : g' ≤ 1000) : f_X_hasToBeAhead G (nI (32 * g + k)) (nI (32 * g' + k')) (nI ord) = rI (mB (sR ord (k, g) (k', g'))) G := by
  unfold f_X_hasToBeAhead
  rw [x_keyOf (by omega), bI_rI, x_keyOf (by omega), bI_rI, nI_toInt (by omega)]
  rcases (by omega : ord = 0 ∨ ord = 1 ∨ ord = 2 ∨ ord = 3 ∨ ord = 4) with rfl | rfl | rfl | rfl | rfl
  · rw [if_pos (show ((0 : Nat) : Int) = 0 from rfl), le_mB (by omega) (by omega)]; rfl
  · rw [if_neg (by decide), if_pos (show ((1 : Nat) : Int) = 1 from rfl), le_mB (by omega) (by omega)]; rfl
  · rw [if_neg (by decide), if_neg (by decide), if_pos (show ((2 : Nat) : Int) = 2 from rfl), gRem_of (by omega) (by omega) (by omega), gRem_of (by omega) (by omega) (by omega), le_mB (by omega) (by omega)]; rfl
  · rw [if_neg (by decide), if_neg (by decide), if_neg (by decide), if_pos (show ((3 : Nat) : Int) = 3 from rfl), x_tagOf (by omega) hg, bI_rI, x_tagOf (by omega) hg', bI_rI, le_mB (by omega) (by omega)]; rfl
  · rw [if_neg (by decide), if_neg (by decide), if_neg (by decide), if_neg (by decide), gRem_of (by omega) (by omega) (by omega), gRem_of (by omega) (by omega) (by omega), gRem_of (by omega) (by omega) (by omega), gRem_of (by omega) (by omega) (by omega), le_mB (by omega) (by omega), le_mB (by omega) (by omega)]
    show _ = rI (mB (if k % 2 = k' % 2 then decide (k < k') else decide (k' % 2 < k % 2))) G
    by_cases h : k % 2 = k' % 2
    · rw [if_pos (by rw [h]), if_pos h]
    · rw [if_neg (fun q => h ((nI_eq (by omega) (by omega)).mp q)), if_neg h]
/-- an entry of the spare row: a thing (key, tag) and whence it comes -/
def cN (e : (Nat × Nat) × Nat) : Nat := 32 * (32 * e.1.2 + e.1.1) + e.2
def eOk (e : (Nat × Nat) × Nat) : Prop := e.1.1 < 31 ∧ e.1.2 ≤ 1000 ∧ e.2 < 32
def cSp (f : Nat → Int32) (o : Nat) (l : List ((Nat × Nat) × Nat)) : Prop := ∀ i e, l[i]? = some e → f (o + i) = nI (cN e)
theorem y_inSpare {σ : cS} {i : Nat} {e : (Nat × Nat) × Nat} (hi : i < 31) (he : eOk e) (hf : σ.1 5 i = nI (cN e)) : f_I_thingInSpare (cPut b σ G) (b + 1) (nI i) = rI (nI (32 * e.1.2 + e.1.1)) (cPut b σ G) := by
  obtain ⟨h1, h2, h3⟩ := he
  unfold f_I_thingInSpare
  simp only [c_ob_0, c_fa_0_0, c_fa_0_1, c_fi_0_2, c_put_0_2, c_fi_0_3, c_put_0_3, c_fi_0_4, c_put_0_4, c_ob_1, c_fa_1_0, c_fa_1_1, c_fa_1_2, c_fa_1_3, c_fa_1_4, c_fa_1_5, c_fi_1_6, c_put_1_6, c_ob_2, c_fa_2_0, c_ob_4, c_fa_4_0, c_ob_6, c_fa_6_0, c_ob_8, c_fa_8_0, c_ob_10, c_fa_10_0, c_ob_12, c_fa_12_0, c_ob_14, c_fa_14_0, c_fa_14_1, c_fa_14_2, c_fa_14_3, c_fi_14_4, c_put_14_4, c_ob_15, c_fa_15_0, c_ob_17, c_fa_17_0, c_ob_19, c_fa_19_0, c_ob_21, c_fa_21_0, c_len_0, c_ld_0, c_st_0, c_rd_0, c_wr_0, c_len_1, c_ld_1, c_st_1, c_rd_1, c_wr_1, c_len_2, c_ld_2, c_st_2, c_rd_2, c_wr_2, c_len_3, c_ld_3, c_st_3, c_rd_3, c_wr_3, c_len_4, c_ld_4, c_st_4, c_rd_4, c_wr_4, c_len_5, c_ld_5, c_st_5, c_rd_5, c_wr_5, c_len_6, c_ld_6, c_st_6, c_rd_6, c_wr_6, c_len_7, c_ld_7, c_st_7, c_rd_7, c_wr_7, c_len_8, c_ld_8, c_st_8, c_rd_8, c_wr_8, c_len_9, c_ld_9, c_st_9, c_rd_9, c_wr_9, bI_rI, bL_rL, bA_rA, bV_rV, bI_th, bL_th, bA_th, bV_th, rZ_0, rZ_1]
  rw [rd_nI hi (by decide), hf]
  unfold cN
  rw [nI_shr5 (by omega), show (32 * (32 * e.1.2 + e.1.1) + e.2) / 32 = 32 * e.1.2 + e.1.1 by omega]
def cSh (f : Nat → Int32) (g p : Nat) : Nat → Int32 := fun i => if g < i ∧ i ≤ p then f (i - 1) else f i
def eR (ord : Nat) (e e' : (Nat × Nat) × Nat) : Bool := sR ord e.1 e'.1
theorem y_arr20 {K : gH → Nat → Int32 → Int32 → Int32 → Int32 → Int32 → gR} {x1 : Int32} {ord p : Nat} {x : (Nat × Nat) × Nat} {done : List ((Nat × Nat) × Nat)} {f : Nat → Int32} (ho : ord < 5) (hp : p < 31) (hd : done.length = p) (hx : eOk x) (hok : ∀ e, e ∈ done → eOk e) (hf : cSp f 0 done) : ∀ (g n : Nat) (σ : cS), g ≤ p → g < n → σ.1 5 = cSh f g p →
    f_I_arrangeSpare_L20 K n (cPut b σ G) (b + 1) x1 (nI ord) (nI p) (nI (cN x)) (nI g) = K (cPut b (cArr σ 5 (cSh f (sGap (eR ord) x done g) p)) G) (b + 1) x1 (nI ord) (nI p) (nI (cN x)) (nI (sGap (eR ord) x done g))
  | _, 0, _, _, h, _ => absurd h (Nat.not_lt_zero _)
  | 0, n + 1, σ, _, _, hs => by
    unfold f_I_arrangeSpare_L20
    rw [if_pos (show nI 0 ≤ 0 by decide)]
    show K (cPut b σ G) _ _ _ _ _ (nI 0) = K (cPut b (cArr σ 5 (cSh f 0 p)) G) _ _ _ _ _ (nI 0)
    rw [← hs, cArr_id]
  | g + 1, n + 1, σ, hg, hn, hs => by
    have hgl : g < done.length := by omega
    have he : done[g]? = some done[g] := List.getElem?_eq_getElem hgl
    generalize done[g] = e at he
    have hem := hok e (List.mem_of_getElem? he)
    have hfg : σ.1 5 g = nI (cN e) := by
      rw [hs]
      show (if _ then _ else _) = _
      rw [if_neg (by omega)]
      have := hf g e he
      rw [Nat.zero_add] at this; exact this
    unfold f_I_arrangeSpare_L20
    rw [if_neg (nI_nle (by omega) (by omega)), c_ob_1, nI_sub (by omega), show g + 1 - 1 = g by omega, y_inSpare (by omega) hem hfg, bI_rI]
    have hsh : nI (cN x) >>> (nI 5 &&& 31) = nI (32 * x.1.2 + x.1.1) := by
      obtain ⟨h1, h2, h3⟩ := hx
      unfold cN
      rw [nI_shr5 (by omega), show (32 * (32 * x.1.2 + x.1.1) + x.2) / 32 = 32 * x.1.2 + x.1.1 by omega]
    rw [hsh, y_ahead ho hx.1 hem.1 hx.2.1 hem.2.1, bI_rI, mB_if]
    have hgap : sGap (eR ord) x done (g + 1) = if sR ord x.1 e.1 = true then sGap (eR ord) x done g else g + 1 := by
      rw [sGap, he]; rfl
    by_cases hR : sR ord x.1 e.1 = true
    · rw [if_pos hR] at hgap
      rw [if_pos hR, hgap]
      simp only [c_ob_0, c_fa_0_0, c_fa_0_1, c_fi_0_2, c_put_0_2, c_fi_0_3, c_put_0_3, c_fi_0_4, c_put_0_4, c_ob_1, c_fa_1_0, c_fa_1_1, c_fa_1_2, c_fa_1_3, c_fa_1_4, c_fa_1_5, c_fi_1_6, c_put_1_6, c_ob_2, c_fa_2_0, c_ob_4, c_fa_4_0, c_ob_6, c_fa_6_0, c_ob_8, c_fa_8_0, c_ob_10, c_fa_10_0, c_ob_12, c_fa_12_0, c_ob_14, c_fa_14_0, c_fa_14_1, c_fa_14_2, c_fa_14_3, c_fi_14_4, c_put_14_4, c_ob_15, c_fa_15_0, c_ob_17, c_fa_17_0, c_ob_19, c_fa_19_0, c_ob_21, c_fa_21_0, c_len_0, c_ld_0, c_st_0, c_rd_0, c_wr_0, c_len_1, c_ld_1, c_st_1, c_rd_1, c_wr_1, c_len_2, c_ld_2, c_st_2, c_rd_2, c_wr_2, c_len_3, c_ld_3, c_st_3, c_rd_3, c_wr_3, c_len_4, c_ld_4, c_st_4, c_rd_4, c_wr_4, c_len_5, c_ld_5, c_st_5, c_rd_5, c_wr_5, c_len_6, c_ld_6, c_st_6, c_rd_6, c_wr_6, c_len_7, c_ld_7, c_st_7, c_rd_7, c_wr_7, c_len_8, c_ld_8, c_st_8, c_rd_8, c_wr_8, c_len_9, c_ld_9, c_st_9, c_rd_9, c_wr_9, bI_rI, bL_rL, bA_rA, bV_rV, bI_th, bL_th, bA_th, bV_th, rZ_0, rZ_1]
      rw [rd_nI (by omega) (by decide), wr_nI (by omega) (by decide), cSet_arr, hfg, nI_m1,
        y_arr20 ho hp hd hx hok hf g n _ (by omega) (by omega) (by
          rw [cArr_at, hs, ← hfg, hs]
          funext i
          simp only [cSh, upd]
          (repeat' split) <;> first | rfl | (exfalso; omega) | (refine congrArg f ?_; omega)), cArr_cArr]
    · rw [if_neg hR] at hgap
      rw [if_neg hR, hgap, ← hs, cArr_id]
theorem y_arr2 {K : gH → gR} {ord len : Nat} (ho : ord < 5) (hlen : len ≤ 31) : ∀ (rest : List ((Nat × Nat) × Nat)) (n : Nat) (σ : cS) (done : List ((Nat × Nat) × Nat)), done.length + rest.length = len → rest.length < n → (∀ e, e ∈ done → eOk e) → (∀ e, e ∈ rest → eOk e) → cSp (σ.1 5) 0 done → cSp (σ.1 5) done.length rest →
    ∃ f', f_I_arrangeSpare_L2 K n (cPut b σ G) (b + 1) (nI len) (nI ord) (nI done.length) = K (cPut b (cArr σ 5 f') G) ∧ cSp f' 0 (sSo (eR ord) done rest)
  | _, 0, _, _, _, h, _, _, _, _ => absurd h (Nat.not_lt_zero _)
  | [], n + 1, σ, done, hl, _, _, _, h1, _ => by
    refine ⟨σ.1 5, ?_, h1⟩
    unfold f_I_arrangeSpare_L2
    simp only [List.length_nil] at hl
    rw [if_pos (nI_le (by omega) (by omega)), cArr_id]
  | x :: rest, n + 1, σ, done, hl, hn, hd, hr, h1, h2 => by
    simp only [List.length_cons] at hl hn
    have hx := hr x (List.mem_cons_self ..)
    have hfx : σ.1 5 done.length = nI (cN x) := by
      have := h2 0 x rfl
      rw [Nat.add_zero] at this; exact this
    have hgl := sGap_le (R := eR ord) (x := x) (l := done) done.length
    generalize hg : sGap (eR ord) x done done.length = g at hgl
    have hins : (done.insertIdx g x).length = done.length + 1 := List.length_insertIdx_of_le_length hgl _
    obtain ⟨f', z1, z2⟩ := y_arr2 (K := K) ho hlen rest n (cArr σ 5 (upd (cSh (σ.1 5) g done.length) g (nI (cN x)))) (done.insertIdx g x) (by omega) (by omega)
      (fun e he => by
        rcases ins_mem _ _ he with k | k
        · rw [k]; exact hx
        · exact hd e k) (fun e he => hr e (List.mem_cons_of_mem _ he))
      (by
        rw [cArr_at, ins_td x done g hgl]
        intro i e he
        rw [Nat.zero_add]
        simp only [upd, cSh]
        rw [List.getElem?_append, List.length_take, Nat.min_eq_left hgl] at he
        by_cases h3 : i < g
        · rw [if_pos h3, List.getElem?_take, if_pos h3] at he
          rw [if_neg (by omega), if_neg (by omega)]
          have := h1 i e he
          rw [Nat.zero_add] at this; exact this
        · rw [if_neg h3] at he
          by_cases h4 : i = g
          · subst h4
            rw [Nat.sub_self] at he
            rw [if_pos rfl]
            cases he; rfl
          · rw [show i - g = (i - g - 1) + 1 by omega, List.getElem?_cons_succ, List.getElem?_drop, show g + (i - g - 1) = i - 1 by omega] at he
            have hi : i - 1 < done.length := (List.getElem?_eq_some_iff.mp he).1
            rw [if_neg h4, if_pos (by omega)]
            have := h1 (i - 1) e he
            rw [Nat.zero_add] at this; exact this)
      (by
        rw [cArr_at, hins]
        intro i e he
        simp only [upd, cSh]
        rw [if_neg (by omega), if_neg (by omega)]
        have := h2 (i + 1) e (by simpa using he)
        rw [show done.length + 1 + i = done.length + (i + 1) by omega]; exact this)
    refine ⟨f', ?_, ?_⟩
    · unfold f_I_arrangeSpare_L2
      rw [if_neg (nI_ge (by omega) (by omega))]
      simp only [c_ob_0, c_fa_0_0, c_fa_0_1, c_fi_0_2, c_put_0_2, c_fi_0_3, c_put_0_3, c_fi_0_4, c_put_0_4, c_ob_1, c_fa_1_0, c_fa_1_1, c_fa_1_2, c_fa_1_3, c_fa_1_4, c_fa_1_5, c_fi_1_6, c_put_1_6, c_ob_2, c_fa_2_0, c_ob_4, c_fa_4_0, c_ob_6, c_fa_6_0, c_ob_8, c_fa_8_0, c_ob_10, c_fa_10_0, c_ob_12, c_fa_12_0, c_ob_14, c_fa_14_0, c_fa_14_1, c_fa_14_2, c_fa_14_3, c_fi_14_4, c_put_14_4, c_ob_15, c_fa_15_0, c_ob_17, c_fa_17_0, c_ob_19, c_fa_19_0, c_ob_21, c_fa_21_0, c_len_0, c_ld_0, c_st_0, c_rd_0, c_wr_0, c_len_1, c_ld_1, c_st_1, c_rd_1, c_wr_1, c_len_2, c_ld_2, c_st_2, c_rd_2, c_wr_2, c_len_3, c_ld_3, c_st_3, c_rd_3, c_wr_3, c_len_4, c_ld_4, c_st_4, c_rd_4, c_wr_4, c_len_5, c_ld_5, c_st_5, c_rd_5, c_wr_5, c_len_6, c_ld_6, c_st_6, c_rd_6, c_wr_6, c_len_7, c_ld_7, c_st_7, c_rd_7, c_wr_7, c_len_8, c_ld_8, c_st_8, c_rd_8, c_wr_8, c_len_9, c_ld_9, c_st_9, c_rd_9, c_wr_9, bI_rI, bL_rL, bA_rA, bV_rV, bI_th, bL_th, bA_th, bV_th, rZ_0, rZ_1]
      rw [rd_nI (by omega) (by decide), hfx, y_arr20 (f := σ.1 5) ho (by omega) rfl hx hd h1 done.length zFu σ (Nat.le_refl _) (by unfold zFu; omega) (by
        funext i
        show _ = if _ then _ else _
        rw [if_neg (by omega)]), hg]
      simp only [c_ob_0, c_fa_0_0, c_fa_0_1, c_fi_0_2, c_put_0_2, c_fi_0_3, c_put_0_3, c_fi_0_4, c_put_0_4, c_ob_1, c_fa_1_0, c_fa_1_1, c_fa_1_2, c_fa_1_3, c_fa_1_4, c_fa_1_5, c_fi_1_6, c_put_1_6, c_ob_2, c_fa_2_0, c_ob_4, c_fa_4_0, c_ob_6, c_fa_6_0, c_ob_8, c_fa_8_0, c_ob_10, c_fa_10_0, c_ob_12, c_fa_12_0, c_ob_14, c_fa_14_0, c_fa_14_1, c_fa_14_2, c_fa_14_3, c_fi_14_4, c_put_14_4, c_ob_15, c_fa_15_0, c_ob_17, c_fa_17_0, c_ob_19, c_fa_19_0, c_ob_21, c_fa_21_0, c_len_0, c_ld_0, c_st_0, c_rd_0, c_wr_0, c_len_1, c_ld_1, c_st_1, c_rd_1, c_wr_1, c_len_2, c_ld_2, c_st_2, c_rd_2, c_wr_2, c_len_3, c_ld_3, c_st_3, c_rd_3, c_wr_3, c_len_4, c_ld_4, c_st_4, c_rd_4, c_wr_4, c_len_5, c_ld_5, c_st_5, c_rd_5, c_wr_5, c_len_6, c_ld_6, c_st_6, c_rd_6, c_wr_6, c_len_7, c_ld_7, c_st_7, c_rd_7, c_wr_7, c_len_8, c_ld_8, c_st_8, c_rd_8, c_wr_8, c_len_9, c_ld_9, c_st_9, c_rd_9, c_wr_9, bI_rI, bL_rL, bA_rA, bV_rV, bI_th, bL_th, bA_th, bV_th, rZ_0, rZ_1]
      rw [wr_nI (by omega) (by decide), cSet_arr, cArr_at, cArr_cArr, nI_add, ← hins, z1, cArr_cArr]
    · show cSp f' 0 (sSo (eR ord) (done.insertIdx (sGap (eR ord) x done done.length) x) rest)
      rw [hg]; exact z2
theorem y_arrange {σ : cS} {ord : Nat} {l : List ((Nat × Nat) × Nat)} (ho : ord < 5) (hlen : l.length ≤ 31) (hok : ∀ e, e ∈ l → eOk e) (h : cSp (σ.1 5) 0 l) :
    ∃ f', f_I_arrangeSpare (cPut b σ G) (b + 1) (nI l.length) (nI ord) = rV (cPut b (cArr σ 5 f') G) ∧ cSp f' 0 (sSo (eR ord) [] l) := by
  unfold f_I_arrangeSpare
  cases l with
  | nil =>
    refine ⟨σ.1 5, ?_, fun i e he => by simp [sSo] at he⟩
    unfold zFu f_I_arrangeSpare_L2
    rw [if_pos (by decide), cArr_id]
  | cons x rest =>
    have e1 : sSo (eR ord) [] (x :: rest) = sSo (eR ord) [x] rest := rfl
    obtain ⟨f', z1, z2⟩ := y_arr2 (b := b) (G := G) (K := fun G41 => rV G41) ho hlen rest zFu σ [x] (by simp; omega) (by simp at hlen; unfold zFu; omega) (fun e he => hok e (by simp at he; rw [he]; exact List.mem_cons_self ..)) (fun e he => hok e (List.mem_cons_of_mem _ he))
      (fun i e he => by
        cases i with
        | zero => simp at he; subst he; exact h 0 x rfl
        | succ i => simp at he)
      (fun i e he => by
        have := h (i + 1) e (by simpa using he)
        rw [Nat.zero_add] at this
        rw [List.length_singleton, Nat.add_comm 1 i]; exact this)
    exact ⟨f', z1, by rw [e1]; exact z2⟩
end Ord
end
section
-- the class: whole lists written anew
def sEn : Nat → List (Nat × Nat × Nat) → List ((Nat × Nat) × Nat)
  | _, [] => []
  | i, t :: ts => (t.2, i) :: sEn (i + 1) ts
theorem sEn_at : ∀ (l : List (Nat × Nat × Nat)) (j i : Nat), (sEn j l)[i]? = l[i]?.map (fun t => (t.2, j + i))
  | [], j, i => by simp [sEn]
  | t :: ts, j, 0 => by simp [sEn]
  | t :: ts, j, i + 1 => by
    unfold sEn
    rw [List.getElem?_cons_succ, List.getElem?_cons_succ, sEn_at ts (j + 1) i, show j + 1 + i = j + (i + 1) by omega]
theorem sEn_len : ∀ (l : List (Nat × Nat × Nat)) (j : Nat), (sEn j l).length = l.length
  | [], _ => rfl
  | t :: ts, j => by
    show (sEn (j + 1) ts).length + 1 = ts.length + 1
    rw [sEn_len ts (j + 1)]
theorem sEn_fst : ∀ (l : List (Nat × Nat × Nat)) (j : Nat), (sEn j l).map Prod.fst = l.map Prod.snd
  | [], _ => rfl
  | t :: ts, j => by
    show t.2 :: (sEn (j + 1) ts).map Prod.fst = t.2 :: ts.map Prod.snd
    rw [sEn_fst ts (j + 1)]
def tgs (l : List (Nat × Nat)) (i : Nat) : Option Nat := l[i]?.map Prod.snd
/-- at how many places two rows of things have other tags -/
def sDf (a c : List (Nat × Nat)) : Nat → Nat → Nat
  | _, 0 => 0
  | j, k + 1 => (if tgs a j = tgs c j then 0 else 1) + sDf a c (j + 1) k
theorem cWr_same {f : Nat → Int32} {o n : Nat} {v : Nat → Int32} : cWr f o n n v = f := by
  funext q
  exact if_neg (by omega)
theorem cWr_step {f : Nat → Int32} {o j n : Nat} {v : Nat → Int32} (h : j < n) : cWr (upd f (o + j) (v j)) o (j + 1) n v = cWr f o j n v := by
  funext q
  simp only [cWr, upd]
  by_cases h1 : q = o + j
  · rw [if_neg (by omega), if_pos h1, if_pos (by omega), h1, show o + j - o = j by omega]
  · by_cases h2 : o + j ≤ q ∧ q < o + n
    · rw [if_pos h2, if_pos (by omega)]
    · rw [if_neg h2, if_neg (by omega), if_neg h1]
section All
variable {b : Nat} {G : gH}
theorem y_spareL {K : gH → gR} {p r s len : Nat} {val : Nat → Nat} (hp : p < 6) (hb : 31 * r + s + len ≤ 62) (hlen : len ≤ 31) (hv : ∀ i, i < len → val i < 2 ^ 20) : ∀ (d n j : Nat) (σ : cS), j + d = len → d < n → σ.1 3 p = nI r → σ.1 4 p = nI s → (∀ i, i < len → σ.1 0 (31 * r + s + i) = nI (val i)) →
    f_I_copyToSpare_L8 K n (cPut b σ G) (b + 1) (nI p) (nI len) (nI j) = K (cPut b (cArr σ 5 (fun i => if j ≤ i ∧ i < len then nI (32 * val i + i) else σ.1 5 i)) G)
  | _, 0, _, _, _, h, _, _, _ => absurd h (Nat.not_lt_zero _)
  | 0, n + 1, j, σ, hj, _, h3, h4, hc => by
    unfold f_I_copyToSpare_L8
    rw [if_pos (nI_le (by omega) (by omega))]
    have e : (fun i => if j ≤ i ∧ i < len then nI (32 * val i + i) else σ.1 5 i) = σ.1 5 := funext fun i => if_neg (by omega)
    rw [e, cArr_id]
  | d + 1, n + 1, j, σ, hj, hn, h3, h4, hc => by
    unfold f_I_copyToSpare_L8
    rw [if_neg (nI_ge (by omega) (by omega)), c_fa_1_5, c_ob_1, y_thing hp h3 h4 (by omega), bI_rI, hc j (by omega), nI_shl5, nI_or5 _ (by omega)]
    simp only [c_ob_0, c_fa_0_0, c_fa_0_1, c_fi_0_2, c_put_0_2, c_fi_0_3, c_put_0_3, c_fi_0_4, c_put_0_4, c_ob_1, c_fa_1_0, c_fa_1_1, c_fa_1_2, c_fa_1_3, c_fa_1_4, c_fa_1_5, c_fi_1_6, c_put_1_6, c_ob_2, c_fa_2_0, c_ob_4, c_fa_4_0, c_ob_6, c_fa_6_0, c_ob_8, c_fa_8_0, c_ob_10, c_fa_10_0, c_ob_12, c_fa_12_0, c_ob_14, c_fa_14_0, c_fa_14_1, c_fa_14_2, c_fa_14_3, c_fi_14_4, c_put_14_4, c_ob_15, c_fa_15_0, c_ob_17, c_fa_17_0, c_ob_19, c_fa_19_0, c_ob_21, c_fa_21_0, c_len_0, c_ld_0, c_st_0, c_rd_0, c_wr_0, c_len_1, c_ld_1, c_st_1, c_rd_1, c_wr_1, c_len_2, c_ld_2, c_st_2, c_rd_2, c_wr_2, c_len_3, c_ld_3, c_st_3, c_rd_3, c_wr_3, c_len_4, c_ld_4, c_st_4, c_rd_4, c_wr_4, c_len_5, c_ld_5, c_st_5, c_rd_5, c_wr_5, c_len_6, c_ld_6, c_st_6, c_rd_6, c_wr_6, c_len_7, c_ld_7, c_st_7, c_rd_7, c_wr_7, c_len_8, c_ld_8, c_st_8, c_rd_8, c_wr_8, c_len_9, c_ld_9, c_st_9, c_rd_9, c_wr_9, bI_rI, bL_rL, bA_rA, bV_rV, bI_th, bL_th, bA_th, bV_th, rZ_0, rZ_1]
    rw [wr_nI (by omega) (by decide), cSet_arr, nI_add, y_spareL hp hb hlen hv d n (j + 1) _ (by omega) (by omega) (by rw [cArr_ne (by decide)]; exact h3) (by rw [cArr_ne (by decide)]; exact h4) (by rw [cArr_ne (by decide)]; exact hc), cArr_cArr, cArr_at]
    congr 3
    funext i
    simp only [upd]
    by_cases e : i = j
    · rw [e, if_neg (by omega), if_pos rfl, if_pos ⟨Nat.le_refl _, by omega⟩]
    · by_cases h2 : j ≤ i ∧ i < len
      · rw [if_pos (by omega), if_pos h2]
      · rw [if_neg (by omega), if_neg e, if_neg h2]
theorem seg_ok {A : mS} {m r s n : Nat} (ht : ∀ t, t ∈ A.1 r → mTok m t) (hm : m ≤ 600) {i : Nat} {t : Nat × Nat × Nat} (h : (sSeg A r s n)[i]? = some t) : t.2.1 < 31 ∧ t.2.2 < 600 := by
  have := ht t (sSeg_mem (List.mem_of_getElem? h))
  exact ⟨this.1, by have := this.2; omega⟩
theorem x_copySpare {exc : Int32} {σ : cS} {A : mS} {p r s m : Nat} (h : CRepx exc σ A) (hw : mInw exc p A) (hv : mV A p) (hr : mRw A.2.1 zDp p = some (r, s)) (ht : ∀ t, t ∈ A.1 r → mTok m t) (hm : m ≤ 600) :
    ∃ f5, f_I_copyToSpare (cPut b σ G) (b + 1) (nI p) = rV (cPut b (cArr σ 5 f5) G) ∧ cSp f5 0 (sEn 0 (sSeg A r s (mLen A p))) := by
  have hr2 := mRw_lt _ _ _ _ hr
  have hp := hv.lt hw.1
  have hf := hw.2.1.rw _ _ _ _ hr
  have h31 := hw.2.2.1 r hr2
  obtain ⟨e3, e4⟩ := h.2.2.2.2.1 p r s hp hr
  have hsl := sSeg_len hf
  generalize hval : (fun i : Nat => match (sSeg A r s (mLen A p))[i]? with
    | some t => 32 * t.2.2 + t.2.1
    | none => 0) = val
  have hvat : ∀ i t, (sSeg A r s (mLen A p))[i]? = some t → val i = 32 * t.2.2 + t.2.1 := by
    intro i t hi
    rw [← hval]
    show (match (sSeg A r s (mLen A p))[i]? with
      | some t => 32 * t.2.2 + t.2.1
      | none => 0) = _
    rw [hi]
  refine ⟨fun i => if 0 ≤ i ∧ i < mLen A p then nI (32 * val i + i) else σ.1 5 i, ?_, fun i e he => ?_⟩
  · unfold f_I_copyToSpare
    rw [c_ob_1, x_len h hw.1 hv, bI_rI, y_spareL (r := r) (s := s) (val := val) hp (by omega) (by omega) (fun i hi => by
      have hi' : i < (sSeg A r s (mLen A p)).length := by omega
      have e := hvat i _ (List.getElem?_eq_getElem hi')
      have := seg_ok ht hm (List.getElem?_eq_getElem hi')
      omega) (mLen A p) zFu 0 σ (by omega) (by unfold zFu; omega) e3 e4 (fun i hi => by
      have hi' : i < (sSeg A r s (mLen A p)).length := by omega
      have e := hvat i _ (List.getElem?_eq_getElem hi')
      have h2 := List.getElem?_eq_getElem hi'
      rw [sSeg_at hi] at h2
      rw [e, Nat.add_assoc, h.1 r (s + i) _ hr2 h2]; rfl)]
  · rw [sEn_at] at he
    cases hx : (sSeg A r s (mLen A p))[i]? with
    | none => rw [hx] at he; cases he
    | some t =>
      rw [hx] at he
      have hi : i < mLen A p := by
        have := (List.getElem?_eq_some_iff.mp hx).1
        omega
      have e1 : e = (t.2, 0 + i) := by cases he; rfl
      rw [Nat.zero_add]
      simp only
      rw [if_pos ⟨Nat.zero_le _, hi⟩, hvat i t hx, e1]
      unfold cN
      simp only
      rw [Nat.zero_add]
theorem CRepx.spare {exc : Int32} {σ : cS} {A : mS} (h : CRepx exc σ A) (f : Nat → Int32) : CRepx exc (cArr σ 5 f) A := h
theorem y_arrL {K : gH → Int32 → gR} {p r s len m : Nat} {sg : List (Nat × Nat × Nat)} {so : List ((Nat × Nat) × Nat)} {v : Nat → Int32} (hp : p < 6) (hb : 31 * r + s + len ≤ 62) (hlen : len ≤ 31) (hsl : sg.length = len) (hol : so.length = len) (hsg : ∀ t, t ∈ sg → mTok m t) (hm : m ≤ 600) (hso : ∀ e, e ∈ so → eOk e) (hv : ∀ i e, so[i]? = some e → v i = nI (32 * e.1.2 + e.1.1)) : ∀ (d n j c : Nat) (σ : cS), j + d = len → d < n → σ.1 3 p = nI r → σ.1 4 p = nI s → (∀ i t, j ≤ i → sg[i]? = some t → σ.1 0 (31 * r + s + i) = cE t) → cSp (σ.1 5) 0 so →
    f_I_arrange_L23 K n (cPut b σ G) (b + 1) (nI p) (nI len) (nI c) (nI j) = K (cPut b (cArr σ 0 (cWr (σ.1 0) (31 * r + s) j len v)) G) (nI (c + sDf (sg.map Prod.snd) (so.map Prod.fst) j d))
  | _, 0, _, _, _, _, h, _, _, _, _ => absurd h (Nat.not_lt_zero _)
  | 0, n + 1, j, c, σ, hj, _, _, _, _, _ => by
    unfold f_I_arrange_L23
    rw [if_pos (nI_le (by omega) (by omega)), show j = len by omega, cWr_same, cArr_id]; rfl
  | d + 1, n + 1, j, c, σ, hj, hn, h3, h4, hc, h5 => by
    have hjs : j < sg.length := by omega
    have hjo : j < so.length := by omega
    have hs := List.getElem?_eq_getElem hjs
    have ho := List.getElem?_eq_getElem hjo
    generalize sg[j] = t at hs
    generalize so[j] = e at ho
    have htk := hsg t (List.mem_of_getElem? hs)
    have hek := hso e (List.mem_of_getElem? ho)
    have e5 : σ.1 5 j = nI (cN e) := by
      have := h5 j e ho
      rw [Nat.zero_add] at this; exact this
    have hvj := hv j e ho
    have ih : ∀ c, f_I_arrange_L23 K n (cPut b (cArr σ 0 (upd (σ.1 0) (31 * r + s + j) (v j))) G) (b + 1) (nI p) (nI len) (nI c) (nI (j + 1)) = K (cPut b (cArr σ 0 (cWr (σ.1 0) (31 * r + s) j len v)) G) (nI (c + sDf (sg.map Prod.snd) (so.map Prod.fst) (j + 1) d)) := by
      intro c
      rw [y_arrL hp hb hlen hsl hol hsg hm hso hv d n (j + 1) c _ (by omega) (by omega) (by rw [cArr_ne (by decide)]; exact h3) (by rw [cArr_ne (by decide)]; exact h4) (fun i t' hi ht' => by
        rw [cArr_at]
        simp only [upd]
        rw [if_neg (by omega)]
        exact hc i t' (by omega) ht') (by rw [cArr_ne (by decide)]; exact h5), cArr_cArr, cArr_at, cWr_step (by omega)]
    have hdf : sDf (sg.map Prod.snd) (so.map Prod.fst) j (d + 1) = (if t.2.2 = e.1.2 then 0 else 1) + sDf (sg.map Prod.snd) (so.map Prod.fst) (j + 1) d := by
      rw [sDf]
      unfold tgs
      rw [List.getElem?_map, List.getElem?_map, hs, ho]
      simp only [Option.map_some, Option.some.injEq]
    unfold f_I_arrange_L23
    rw [if_neg (nI_ge (by omega) (by omega)), c_ob_1, y_inSpare (by omega) hek e5, bI_rI, x_tagOf (by have := hek.1; omega) hek.2.1, bI_rI, c_ob_1, y_thing hp h3 h4 (by omega), bI_rI, hc j t (Nat.le_refl _) hs]
    unfold cE
    rw [x_tagOf (by have := htk.1; omega) (by have := htk.2; omega), bI_rI, hdf]
    by_cases hh : t.2.2 = e.1.2
    · rw [if_pos (by rw [hh]), if_pos hh, c_ob_1, y_write hp h3 h4 (by omega), bV_rV, nI_add, ← hvj, ih c, Nat.zero_add]
    · rw [if_neg (fun q => hh ((nI_eq (by have := hek.2.1; omega) (by have := htk.2; omega)).mp q).symm), if_neg hh, c_ob_1, y_write hp h3 h4 (by omega), bV_rV, nI_add, nI_add, ← hvj, ih (c + 1), Nat.add_assoc]
/-- a list is put in order: any new things in the place of its own, alike in keys and tags -/
theorem x_arrange {exc : Int32} {σ : cS} {A : mS} {p r s m ord : Nat} {new : List (Nat × Nat × Nat)} (h : CRepx exc σ A) (hw : mInw exc p A) (hv : mV A p) (hr : mRw A.2.1 zDp p = some (r, s)) (ht : ∀ t, t ∈ A.1 r → mTok m t) (hm : m ≤ 600) (ho : ord < 5) (hnew : new.map Prod.snd = sSo (sR ord) [] ((sSeg A r s (mLen A p)).map Prod.snd)) :
    ∃ σ', f_I_arrange (cPut b σ G) (b + 1) (nI p) (nI ord) = rI (nI (sDf ((sSeg A r s (mLen A p)).map Prod.snd) (new.map Prod.snd) 0 (mLen A p))) (cPut b σ' G) ∧ CRepx exc σ' (mRows A r (sSpl (A.1 r) s new)) := by
  have hr2 := mRw_lt _ _ _ _ hr
  have hp := hv.lt hw.1
  have hf := hw.2.1.rw _ _ _ _ hr
  have h31 := hw.2.2.1 r hr2
  obtain ⟨e3, e4⟩ := h.2.2.2.2.1 p r s hp hr
  have hsl := sSeg_len hf
  obtain ⟨f5, a1, a2⟩ := x_copySpare (b := b) (G := G) h hw hv hr ht hm
  have hEl : (sEn 0 (sSeg A r s (mLen A p))).length = mLen A p := by rw [sEn_len, hsl]
  have hEok : ∀ e, e ∈ sEn 0 (sSeg A r s (mLen A p)) → eOk e := by
    intro e he
    obtain ⟨i, hi⟩ := List.getElem?_of_mem he
    have hil : i < mLen A p := by
      have := (List.getElem?_eq_some_iff.mp hi).1
      omega
    rw [sEn_at] at hi
    cases hx : (sSeg A r s (mLen A p))[i]? with
    | none => rw [hx] at hi; cases hi
    | some t =>
      rw [hx] at hi
      have e1 : e = (t.2, 0 + i) := by cases hi; rfl
      have := seg_ok ht hm hx
      rw [e1]
      exact ⟨this.1, by simp only; omega, by simp only; omega⟩
  obtain ⟨f6, c1, c2⟩ := y_arrange (b := b) (G := G) (σ := cArr σ 5 f5) (ord := ord) (l := sEn 0 (sSeg A r s (mLen A p))) ho (by omega) hEok (by rw [cArr_at]; exact a2)
  rw [hEl, cArr_cArr] at c1
  generalize hsoD : sSo (eR ord) [] (sEn 0 (sSeg A r s (mLen A p))) = so at c2
  have hsol : so.length = mLen A p := by rw [← hsoD, sSo_len, hEl]; simp
  have hsoF : so.map Prod.fst = new.map Prod.snd := by
    rw [← hsoD, hnew, sSo_map (R := eR ord) (S := sR ord) Prod.fst (fun _ _ => rfl), sEn_fst]; rfl
  have hsok : ∀ e, e ∈ so → eOk e := by
    intro e he
    rw [← hsoD] at he
    rcases sSo_mem _ _ he with k | k
    · cases k
    · exact hEok e k
  have hnl : new.length = mLen A p := by
    have := congrArg List.length hsoF
    rw [List.length_map, List.length_map] at this
    omega
  generalize hvD : (fun i : Nat => match so[i]? with
    | some e => nI (32 * e.1.2 + e.1.1)
    | none => 0) = v
  have hv1 : ∀ i e, so[i]? = some e → v i = nI (32 * e.1.2 + e.1.1) := by
    intro i e hi
    rw [← hvD]
    show (match so[i]? with
      | some e => nI (32 * e.1.2 + e.1.1)
      | none => 0) = _
    rw [hi]
  have hv2 : ∀ i t, new[i]? = some t → v i = cE t := by
    intro i t hi
    have h1 : (new.map Prod.snd)[i]? = some t.2 := by rw [List.getElem?_map, hi]; rfl
    rw [← hsoF, List.getElem?_map] at h1
    cases hx : so[i]? with
    | none => rw [hx] at h1; cases h1
    | some e =>
      rw [hx] at h1
      have e1 : e.1 = t.2 := Option.some.inj h1
      rw [hv1 i e hx, e1]; rfl
  refine ⟨cArr (cArr σ 5 f6) 0 (cWr (σ.1 0) (31 * r + s) 0 (mLen A p) v), ?_, ?_⟩
  · unfold f_I_arrange
    rw [c_ob_1, x_len h hw.1 hv, bI_rI, c_ob_1, a1, bV_rV, c_ob_1, c1, bV_rV,
      y_arrL (r := r) (s := s) (sg := sSeg A r s (mLen A p)) (so := so) (v := v) hp (by omega) (by omega) hsl hsol (fun t h1 => ht t (sSeg_mem h1)) hm hsok hv1 (mLen A p) zFu 0 0 (cArr σ 5 f6) (by omega) (by unfold zFu; omega) (by rw [cArr_ne (by decide)]; exact e3) (by rw [cArr_ne (by decide)]; exact e4) (fun i t _ hi => by
        have hil : i < mLen A p := by
          have := (List.getElem?_eq_some_iff.mp hi).1
          omega
        rw [sSeg_at hil] at hi
        rw [cArr_ne (by decide), Nat.add_assoc]
        exact h.1 r (s + i) t hr2 hi) (by rw [cArr_at]; exact c2), Nat.zero_add, hsoF, cArr_ne (by decide)]
  · have hseg : cSeg (σ.1 0) (31 * r) (A.1 r) := h.1.seg hr2
    have z := hseg.spl (s := s) (new := new) (v := v) (by omega) hv2
    rw [hnl] at z
    exact (h.spare f6).rows hw.2.2.1 (sSpl_len (by omega)) (cWr_out (by omega)) z
theorem y_repL {K : gH → Nat → Int32 → Int32 → gR} {p r s len m t1 m1 : Nat} {sg : List (Nat × Nat × Nat)} {v : Nat → Int32} (hp : p < 6) (hb : 31 * r + s + len ≤ 62) (hlen : len ≤ 31) (hsl : sg.length = len) (hsg : ∀ t, t ∈ sg → mTok m t) (hm : m ≤ 600) (ht1 : t1 < 31) (hm1 : m1 < 31) (hv : ∀ i t, sg[i]? = some t → v i = nI (32 * t.2.2 + (t.2.1 * t1 + m1) % 31)) : ∀ (d n j : Nat) (σ : cS), j + d = len → d < n → σ.1 3 p = nI r → σ.1 4 p = nI s → (∀ i t, j ≤ i → sg[i]? = some t → σ.1 0 (31 * r + s + i) = cE t) →
    f_X_replaceAll_L58 K n (cPut b σ G) b (nI p) (nI t1) (nI m1) (nI len) (nI j) = K (cPut b (cArr σ 0 (cWr (σ.1 0) (31 * r + s) j len v)) G) b (nI p) (nI len)
  | _, 0, _, _, _, h, _, _, _ => absurd h (Nat.not_lt_zero _)
  | 0, n + 1, j, σ, hj, _, _, _, _ => by
    unfold f_X_replaceAll_L58
    rw [if_pos (nI_le (by omega) (by omega)), show j = len by omega, cWr_same, cArr_id]
  | d + 1, n + 1, j, σ, hj, hn, h3, h4, hc => by
    have hjs : j < sg.length := by omega
    have hs := List.getElem?_eq_getElem hjs
    generalize sg[j] = t at hs
    have htk := hsg t (List.mem_of_getElem? hs)
    have hvj := hv j t hs
    have hkt : t.2.1 * t1 ≤ 30 * 30 := Nat.mul_le_mul (by have := htk.1; omega) (by omega)
    unfold f_X_replaceAll_L58
    rw [if_neg (nI_ge (by omega) (by omega)), c_fa_0_0, c_ob_1, y_thing hp h3 h4 (by omega), bI_rI, c_fa_0_0, hc j t (Nat.le_refl _) hs]
    unfold cE
    rw [x_tagOf (by have := htk.1; omega) (by have := htk.2; omega), bI_rI, x_keyOf (by have := htk.1; omega), bI_rI, nI_mul, nI_add, gRem_of (by omega) (by omega) (by omega)]
    unfold f_X_thingOf
    rw [nI_shl5, nI_or5 _ (by omega), bI_rI, c_ob_1, y_write hp h3 h4 (by omega), bV_rV, nI_add, ← hvj,
      y_repL hp hb hlen hsl hsg hm ht1 hm1 hv d n (j + 1) _ (by omega) (by omega) (by rw [cArr_ne (by decide)]; exact h3) (by rw [cArr_ne (by decide)]; exact h4) (fun i t' hi ht' => by
        rw [cArr_at]
        simp only [upd]
        rw [if_neg (by omega)]
        exact hc i t' (by omega) ht'), cArr_cArr, cArr_at, cWr_step (by omega)]
theorem y_toRowL {K : gH → Nat → Int32 → Int32 → gR} {p r s r1 len : Nat} {f : Nat → Int32} (hp : p < 6) (hr1 : r1 < 2) (hb : s + len ≤ 31) (hr : r < 2) : ∀ (d n j : Nat) (σ : cS), j + d = len → d < n → σ.1 3 p = nI r → σ.1 4 p = nI s → σ.1 3 r1 = nI r1 → σ.1 4 r1 = nI 0 → (∀ i, j ≤ i → i < len → σ.1 0 (31 * r + s + i) = f (31 * r + s + i)) →
    f_I_copyToRow_L9 K n (cPut b σ G) (b + 1) (nI r1) (nI p) (nI len) (nI j) = K (cPut b (cArr σ 0 (cWr (σ.1 0) (31 * r1) j len (fun i => f (31 * r + s + i)))) G) (b + 1) (nI r1) (nI len)
  | _, 0, _, _, _, h, _, _, _, _, _ => absurd h (Nat.not_lt_zero _)
  | 0, n + 1, j, σ, hj, _, _, _, _, _, _ => by
    unfold f_I_copyToRow_L9
    rw [if_pos (nI_le (by omega) (by omega)), show j = len by omega, cWr_same, cArr_id]
  | d + 1, n + 1, j, σ, hj, hn, h3, h4, g3, g4, hc => by
    unfold f_I_copyToRow_L9
    rw [if_neg (nI_ge (by omega) (by omega)), c_ob_1, y_thing hp h3 h4 (by omega), bI_rI, c_ob_1, y_write (by omega) g3 g4 (by omega), bV_rV, nI_add, hc j (Nat.le_refl _) (by omega), Nat.add_zero,
      y_toRowL (f := f) hp hr1 hb hr d n (j + 1) _ (by omega) (by omega) (by rw [cArr_ne (by decide)]; exact h3) (by rw [cArr_ne (by decide)]; exact h4) (by rw [cArr_ne (by decide)]; exact g3) (by rw [cArr_ne (by decide)]; exact g4) (fun i hi hi2 => by
        rw [cArr_at]
        simp only [upd]
        rw [if_neg (by omega)]
        exact hc i (by omega) hi2), cArr_cArr, cArr_at, cWr_step (v := fun i => f (31 * r + s + i)) (by omega)]
end All
end
