-- the class: what ends
section Ends
variable {b : Nat} {G : gH}
def eC (P : mP) (r p q : Nat) : Bool := (P q).isSome && (decide (mRo P q = r) && !mAb P zDp q p)
def eW (P : mP) (x q : Nat) : Bool := (P q).isSome && mAb P zDp x q
def eCt (C : Nat → Bool) : Nat → Nat → Nat
  | _, 0 => 0
  | j, k + 1 => (if C j = true then 1 else 0) + eCt C (j + 1) k
def cAI (σ : cS) (k i : Nat) (f : Nat → Int32) (v : Int32) : cS := cSetI (cArr σ k f) i v
theorem cAI_at {σ : cS} {k i : Nat} {f : Nat → Int32} {v : Int32} : (cAI σ k i f v).1 k = f := if_pos rfl
theorem cAI_ne {σ : cS} {k i j : Nat} {f : Nat → Int32} {v : Int32} (h : j ≠ k) : (cAI σ k i f v).1 j = σ.1 j := if_neg h
theorem cAI_i {σ : cS} {k i : Nat} {f : Nat → Int32} {v : Int32} : (cAI σ k i f v).2 i = v := if_pos rfl
theorem cAI_ine {σ : cS} {k i j : Nat} {f : Nat → Int32} {v : Int32} (h : j ≠ i) : (cAI σ k i f v).2 j = σ.2 j := if_neg h
theorem cAI_cAI {σ : cS} {k i : Nat} {f g : Nat → Int32} {v u : Int32} : cAI (cAI σ k i f v) k i g u = cAI σ k i g u := by
  unfold cAI
  rw [cSetI_arr, cSetI_arr, cSetI_arr, cArr_cArr, cSetI_cSetI]
  rfl
theorem cAI_same {σ : cS} {k i : Nat} {f : Nat → Int32} {v : Int32} (hf : f = σ.1 k) (hv : v = σ.2 i) : cAI σ k i f v = σ := by
  unfold cAI
  rw [hf, hv, cSetI_arr, cSetI_id, cArr_id]
theorem cAI_eq {σ : cS} {k i : Nat} {f g : Nat → Int32} {v u : Int32} (hf : f = g) (hv : v = u) : cAI σ k i f v = cAI σ k i g u := by rw [hf, hv]
theorem cK {α : Type} {K : gH → α → gR} {σ τ : cS} {x y : α} (hs : σ = τ) (hx : x = y) : K (cPut b σ G) x = K (cPut b τ G) y := by rw [hs, hx]
theorem cK1 {K : gH → gR} {σ τ : cS} (hs : σ = τ) : K (cPut b σ G) = K (cPut b τ G) := by rw [hs]
theorem y_endOthersL {K : gH → Int32 → gR} {P : mP} {r p s : Nat} (hok : mOk P) (hp : p < 6) (hv : p < 2 ∨ P p ≠ none) (hr : mRw P zDp p = some (r, s)) : ∀ (k n j c : Nat) (σ : cS), 2 ≤ j → j + k = 6 → k < n → cHa (σ.1 2) P → cHp (σ.1 3) (σ.1 4) P → (∀ q, j ≤ q → q < 6 → (σ.1 1 q = -1 ↔ P q = none)) →
    f_I_endOthers_L4 K n (cPut b σ G) (b + 1) (nI p) (nI c) (nI j) = K (cPut b (cAI σ 1 0 (fun q => if j ≤ q ∧ q < 6 ∧ eC P r p q = true then -1 else σ.1 1 q) (σ.2 0 + nI (eCt (eC P r p) j k))) G) (nI (c + eCt (eC P r p) j k))
  | _, 0, _, _, _, _, _, h, _, _, _ => absurd h (Nat.not_lt_zero _)
  | 0, n + 1, j, c, σ, hj2, hj, _, ha, h3, hl => by
    unfold f_I_endOthers_L4
    rw [if_pos (nI_le (by omega) (by omega))]
    exact (cK (cAI_same (funext fun q => if_neg (by omega)) (add_nI0 _)) rfl).symm
  | k + 1, n + 1, j, c, σ, hj2, hj, hn, ha, h3, hl => by
    have ih := y_endOthersL (K := K) hok hp hv hr k n (j + 1)
    have hj6 : j < 6 := by omega
    have hth := hl j (Nat.le_refl _) hj6
    unfold f_I_endOthers_L4
    rw [if_neg (nI_ge hj6 (by decide)), c_ob_1]
    have skip : ∀ c, eC P r p j = false → K (cPut b (cAI σ 1 0 (fun q => if j + 1 ≤ q ∧ q < 6 ∧ eC P r p q = true then -1 else σ.1 1 q) (σ.2 0 + nI (eCt (eC P r p) (j + 1) k))) G) (nI (c + eCt (eC P r p) (j + 1) k)) =
        K (cPut b (cAI σ 1 0 (fun q => if j ≤ q ∧ q < 6 ∧ eC P r p q = true then -1 else σ.1 1 q) (σ.2 0 + nI (eCt (eC P r p) j (k + 1)))) G) (nI (c + eCt (eC P r p) j (k + 1))) := by
      intro c hc
      have e : eCt (eC P r p) j (k + 1) = eCt (eC P r p) (j + 1) k := by
        show (if eC P r p j = true then 1 else 0) + _ = _
        rw [hc, if_neg (by decide), Nat.zero_add]
      rw [e]
      refine cK (cAI_eq (funext fun q => ?_) rfl) rfl
      by_cases hq : q = j
      · rw [hq, if_neg (by omega), if_neg (fun z => by rw [hc] at z; exact absurd z.2.2 (by decide))]
      · by_cases hz : j ≤ q ∧ q < 6 ∧ eC P r p q = true
        · rw [if_pos ⟨by omega, hz.2⟩, if_pos hz]
        · rw [if_neg (fun z => hz ⟨by omega, z.2⟩), if_neg hz]
    cases hP : P j with
    | none =>
      rw [y_isThere (t := false) (by rw [rd_nI hj6 (by decide)]; exact ⟨fun _ => rfl, fun _ => hth.mpr hP⟩), bI_rI, mB_if, if_neg (by decide), nI_add, ih c σ (by omega) (by omega) (by omega) ha h3 (fun q hq => hl q (by omega))]
      exact skip c (by unfold eC; rw [hP]; rfl)
    | some x =>
      have hPj : P j ≠ none := by rw [hP]; exact Option.some_ne_none _
      obtain ⟨rj, sj, hrj⟩ := hok.rw' (p := j) (Or.inr hPj)
      have e3 := (h3 j rj sj hj6 hrj).1
      have e4 := (h3 p r s hp hr).1
      have l1 := mRw_lt _ _ _ _ hrj
      have l2 := mRw_lt _ _ _ _ hr
      have hro : mRo P j = rj := mRo_of hrj
      rw [y_isThere (t := true) (by rw [rd_nI hj6 (by decide)]; exact ⟨fun q => absurd (hth.mp q) hPj, fun q => by cases q⟩), bI_rI, mB_if, if_pos rfl, c_ob_1, y_rowOf, bI_rI, c_ob_1, y_rowOf, bI_rI, rd_nI hj6 (by decide), rd_nI hp (by decide), e3, e4]
      by_cases hrr : rj = r
      · rw [if_pos (by rw [hrr]), c_ob_1, y_isWithin hok ha hp hv hj6, bI_rI, mB_if]
        by_cases hab : mAb P zDp j p = true
        · rw [if_pos hab, nI_add, ih c σ (by omega) (by omega) (by omega) ha h3 (fun q hq => hl q (by omega))]
          exact skip c (by unfold eC; rw [hab]; simp)
        · have hab' : mAb P zDp j p = false := Bool.eq_false_iff.mpr hab
          have hc : eC P r p j = true := by unfold eC; rw [hab', hP, hro, hrr]; simp
          have e : eCt (eC P r p) j (k + 1) = 1 + eCt (eC P r p) (j + 1) k := by
            show (if eC P r p j = true then 1 else 0) + _ = _
            rw [if_pos hc]
          rw [if_neg hab, c_ob_1, y_finish hj6, bV_rV, nI_add, nI_add]
          have := ih (c + 1) (cAI σ 1 0 (upd (σ.1 1) j (-1)) (σ.2 0 + nI 1)) (by omega) (by omega) (by omega) (by rw [cAI_ne (by decide)]; exact ha) (by rw [cAI_ne (by decide), cAI_ne (by decide)]; exact h3) (fun q hq h6 => by
            rw [cAI_at]
            simp only [upd]
            rw [if_neg (by omega)]
            exact hl q (by omega) h6)
          rw [show cSetI (cArr σ 1 (upd (σ.1 1) j (-1))) 0 (σ.2 0 + nI 1) = cAI σ 1 0 (upd (σ.1 1) j (-1)) (σ.2 0 + nI 1) from rfl, this, cAI_cAI, cAI_at, cAI_i, add_nI, e]
          refine cK (cAI_eq (funext fun q => ?_) rfl) (congrArg nI (by omega))
          · skip
            simp only [upd]
            by_cases hq : q = j
            · rw [hq, if_neg (by omega), if_pos rfl, if_pos ⟨Nat.le_refl _, hj6, hc⟩]
            · rw [if_neg hq]
              by_cases hz : j ≤ q ∧ q < 6 ∧ eC P r p q = true
              · rw [if_pos ⟨by omega, hz.2⟩, if_pos hz]
              · rw [if_neg (fun z => hz ⟨by omega, z.2⟩), if_neg hz]
      · rw [if_neg (fun q => hrr ((nI_eq (by omega) (by omega)).mp q)), nI_add, ih c σ (by omega) (by omega) (by omega) ha h3 (fun q hq => hl q (by omega))]
        exact skip c (by unfold eC; rw [hro, decide_eq_false hrr]; simp)
theorem y_endOthers {P : mP} {σ : cS} {r p s : Nat} (hok : mOk P) (hp : p < 6) (hv : p < 2 ∨ P p ≠ none) (hr : mRw P zDp p = some (r, s)) (ha : cHa (σ.1 2) P) (h3 : cHp (σ.1 3) (σ.1 4) P) (hl : cHl (σ.1 1) P) :
    f_I_endOthers (cPut b σ G) (b + 1) (nI p) = rI (nI (eCt (eC P r p) 2 4)) (cPut b (cAI σ 1 0 (fun q => if 2 ≤ q ∧ q < 6 ∧ eC P r p q = true then -1 else σ.1 1 q) (σ.2 0 + nI (eCt (eC P r p) 2 4))) G) := by
  unfold f_I_endOthers
  rw [y_endOthersL hok hp hv hr 4 zFu 2 0 σ (by omega) (by omega) (by unfold zFu; omega) ha h3 (fun q h2 h6 => hl q h2 h6), Nat.zero_add]
theorem y_endWithinL {K : gH → Int32 → gR} {P : mP} {p : Nat} (hok : mOk P) (hp : p < 6) : ∀ (k n j c : Nat) (σ : cS), 2 ≤ j → j + k = 6 → k < n → cHa (σ.1 2) P → (∀ q, j ≤ q → q < 6 → (σ.1 1 q = -1 ↔ P q = none)) →
    f_I_endWithin_L4 K n (cPut b σ G) (b + 1) (nI p) (nI c) (nI j) = K (cPut b (cAI σ 1 0 (fun q => if j ≤ q ∧ q < 6 ∧ eW P p q = true then -1 else σ.1 1 q) (σ.2 0 + nI (eCt (eW P p) j k))) G) (nI (c + eCt (eW P p) j k))
  | _, 0, _, _, _, _, _, h, _, _ => absurd h (Nat.not_lt_zero _)
  | 0, n + 1, j, c, σ, hj2, hj, _, ha, hl => by
    unfold f_I_endWithin_L4
    rw [if_pos (nI_le (by omega) (by omega))]
    exact (cK (cAI_same (funext fun q => if_neg (by omega)) (add_nI0 _)) rfl).symm
  | k + 1, n + 1, j, c, σ, hj2, hj, hn, ha, hl => by
    have ih := y_endWithinL (K := K) hok hp k n (j + 1)
    have hj6 : j < 6 := by omega
    have hth := hl j (Nat.le_refl _) hj6
    unfold f_I_endWithin_L4
    rw [if_neg (nI_ge hj6 (by decide)), c_ob_1]
    have skip : ∀ c, eW P p j = false → K (cPut b (cAI σ 1 0 (fun q => if j + 1 ≤ q ∧ q < 6 ∧ eW P p q = true then -1 else σ.1 1 q) (σ.2 0 + nI (eCt (eW P p) (j + 1) k))) G) (nI (c + eCt (eW P p) (j + 1) k)) =
        K (cPut b (cAI σ 1 0 (fun q => if j ≤ q ∧ q < 6 ∧ eW P p q = true then -1 else σ.1 1 q) (σ.2 0 + nI (eCt (eW P p) j (k + 1)))) G) (nI (c + eCt (eW P p) j (k + 1))) := by
      intro c hc
      have e : eCt (eW P p) j (k + 1) = eCt (eW P p) (j + 1) k := by
        show (if eW P p j = true then 1 else 0) + _ = _
        rw [hc, if_neg (by decide), Nat.zero_add]
      rw [e]
      refine cK (cAI_eq (funext fun q => ?_) rfl) rfl
      by_cases hq : q = j
      · rw [hq, if_neg (by omega), if_neg (fun z => by rw [hc] at z; exact absurd z.2.2 (by decide))]
      · by_cases hz : j ≤ q ∧ q < 6 ∧ eW P p q = true
        · rw [if_pos ⟨by omega, hz.2⟩, if_pos hz]
        · rw [if_neg (fun z => hz ⟨by omega, z.2⟩), if_neg hz]
    cases hP : P j with
    | none =>
      rw [y_isThere (t := false) (by rw [rd_nI hj6 (by decide)]; exact ⟨fun _ => rfl, fun _ => hth.mpr hP⟩), bI_rI, mB_if, if_neg (by decide), nI_add, ih c σ (by omega) (by omega) (by omega) ha (fun q hq => hl q (by omega))]
      exact skip c (by unfold eW; rw [hP]; rfl)
    | some x =>
      have hPj : P j ≠ none := by rw [hP]; exact Option.some_ne_none _
      rw [y_isThere (t := true) (by rw [rd_nI hj6 (by decide)]; exact ⟨fun q => absurd (hth.mp q) hPj, fun q => by cases q⟩), bI_rI, mB_if, if_pos rfl, c_ob_1, y_isWithin hok ha hj6 (Or.inr hPj) hp, bI_rI, mB_if]
      by_cases hab : mAb P zDp p j = true
      · have hc : eW P p j = true := by unfold eW; rw [hab, hP]; rfl
        have e : eCt (eW P p) j (k + 1) = 1 + eCt (eW P p) (j + 1) k := by
          show (if eW P p j = true then 1 else 0) + _ = _
          rw [if_pos hc]
        rw [if_pos hab, c_ob_1, y_finish hj6, bV_rV, nI_add, nI_add]
        have := ih (c + 1) (cAI σ 1 0 (upd (σ.1 1) j (-1)) (σ.2 0 + nI 1)) (by omega) (by omega) (by omega) (by rw [cAI_ne (by decide)]; exact ha) (fun q hq h6 => by
          rw [cAI_at]
          simp only [upd]
          rw [if_neg (by omega)]
          exact hl q (by omega) h6)
        rw [show cSetI (cArr σ 1 (upd (σ.1 1) j (-1))) 0 (σ.2 0 + nI 1) = cAI σ 1 0 (upd (σ.1 1) j (-1)) (σ.2 0 + nI 1) from rfl, this, cAI_cAI, cAI_at, cAI_i, add_nI, e]
        refine cK (cAI_eq (funext fun q => ?_) rfl) (congrArg nI (by omega))
        · skip
          simp only [upd]
          by_cases hq : q = j
          · rw [hq, if_neg (by omega), if_pos rfl, if_pos ⟨Nat.le_refl _, hj6, hc⟩]
          · rw [if_neg hq]
            by_cases hz : j ≤ q ∧ q < 6 ∧ eW P p q = true
            · rw [if_pos ⟨by omega, hz.2⟩, if_pos hz]
            · rw [if_neg (fun z => hz ⟨by omega, z.2⟩), if_neg hz]
      · rw [if_neg hab, nI_add, ih c σ (by omega) (by omega) (by omega) ha (fun q hq => hl q (by omega))]
        exact skip c (by unfold eW; rw [Bool.eq_false_iff.mpr hab]; simp)
theorem y_endWithin {P : mP} {σ : cS} {p : Nat} (hok : mOk P) (hp : p < 6) (ha : cHa (σ.1 2) P) (hl : cHl (σ.1 1) P) :
    f_I_endWithin (cPut b σ G) (b + 1) (nI p) = rI (nI (eCt (eW P p) 2 4)) (cPut b (cAI σ 1 0 (fun q => if 2 ≤ q ∧ q < 6 ∧ eW P p q = true then -1 else σ.1 1 q) (σ.2 0 + nI (eCt (eW P p) 2 4))) G) := by
  unfold f_I_endWithin
  rw [y_endWithinL hok hp 4 zFu 2 0 σ (by omega) (by omega) (by unfold zFu; omega) ha (fun q h2 h6 => hl q h2 h6), Nat.zero_add]
-- cursors
abbrev mC : Type := Nat → Option (Nat × Nat × Int32 × Int32)
/-- how the arrays tell of a cursor -/
def cHc (f6 f7 f8 f9 : Nat → Int32) (C : mC) : Prop := ∀ c, c < 3 → match C c with
  | none => f6 c = nI 0
  | some x => f6 c = (if x.2.2.2 = 0 then nI 1 else nI 2) ∧ f7 c = nI x.1 ∧ f8 c = nI x.2.1 ∧ f9 c = x.2.2.1
def cOn (f6 f7 : Nat → Int32) (C : mC) (c : Nat) : Prop := match C c with
  | none => f6 c = nI 0
  | some x => (f6 c = nI 1 ∨ f6 c = nI 2) ∧ f7 c = nI x.1 ∧ x.1 < 6
theorem cHc.on {f6 f7 f8 f9 : Nat → Int32} {C : mC} (h : cHc f6 f7 f8 f9 C) {c : Nat} (hc : c < 3) (h6 : ∀ x, C c = some x → x.1 < 6) : cOn f6 f7 C c := by
  have := h c hc
  unfold cOn
  cases hx : C c with
  | none => rw [hx] at this; exact this
  | some x =>
    rw [hx] at this
    simp only at this ⊢
    refine ⟨?_, this.2.1, h6 x hx⟩
    rw [this.1]
    split
    · exact Or.inl rfl
    · exact Or.inr rfl
def cRr (R : Nat → Nat) (r : Nat) (C : mC) (c : Nat) : Bool := match C c with
  | none => false
  | some x => decide (R x.1 = r)
theorem y_isOnRowOf {σ : cS} {C : mC} {R : Nat → Nat} {c p r : Nat} (hc : c < 3) (h : cOn (σ.1 6) (σ.1 7) C c) (hp : p < 6) (hpr : σ.1 3 p = nI r) (hr2 : r < 2) (hR : ∀ x, C c = some x → σ.1 3 x.1 = nI (R x.1) ∧ R x.1 < 2) :
    f_X_isOnRowOf (cPut b σ G) b (nI c) (nI p) = rI (mB (cRr R r C c)) (cPut b σ G) := by
  unfold f_X_isOnRowOf cRr
  simp only [y_cThere, y_listOf, y_rowOf, c_ob_0, c_fa_0_0, c_fa_0_1, c_fi_0_2, c_put_0_2, c_fi_0_3, c_put_0_3, c_fi_0_4, c_put_0_4, c_ob_1, c_fa_1_0, c_fa_1_1, c_fa_1_2, c_fa_1_3, c_fa_1_4, c_fa_1_5, c_fi_1_6, c_put_1_6, c_ob_2, c_fa_2_0, c_ob_4, c_fa_4_0, c_ob_6, c_fa_6_0, c_ob_8, c_fa_8_0, c_ob_10, c_fa_10_0, c_ob_12, c_fa_12_0, c_ob_14, c_fa_14_0, c_fa_14_1, c_fa_14_2, c_fa_14_3, c_fi_14_4, c_put_14_4, c_ob_15, c_fa_15_0, c_ob_17, c_fa_17_0, c_ob_19, c_fa_19_0, c_ob_21, c_fa_21_0, c_len_0, c_ld_0, c_st_0, c_rd_0, c_wr_0, c_len_1, c_ld_1, c_st_1, c_rd_1, c_wr_1, c_len_2, c_ld_2, c_st_2, c_rd_2, c_wr_2, c_len_3, c_ld_3, c_st_3, c_rd_3, c_wr_3, c_len_4, c_ld_4, c_st_4, c_rd_4, c_wr_4, c_len_5, c_ld_5, c_st_5, c_rd_5, c_wr_5, c_len_6, c_ld_6, c_st_6, c_rd_6, c_wr_6, c_len_7, c_ld_7, c_st_7, c_rd_7, c_wr_7, c_len_8, c_ld_8, c_st_8, c_rd_8, c_wr_8, c_len_9, c_ld_9, c_st_9, c_rd_9, c_wr_9, bI_rI, bL_rL, bA_rA, bV_rV, bI_th, bL_th, bA_th, bV_th, rZ_0, rZ_1]
  rw [rd_nI hc (by decide), rd_nI hc (by decide), rd_nI hp (by decide), hpr, mB_if]
  unfold cOn at h
  cases hx : C c with
  | none =>
    rw [hx] at h
    have h0 : ¬ (σ.1 6 c = nI 2 ∨ σ.1 6 c = nI 1) := by
      simp only at h
      rw [h]; decide
    rw [if_neg (by rw [decide_eq_false h0]; decide)]; rfl
  | some x =>
    rw [hx] at h
    simp only at h ⊢
    obtain ⟨e1, e2⟩ := hR x hx
    rw [if_pos (decide_eq_true (h.1.elim Or.inr Or.inl)), h.2.1, rd_nI h.2.2 (by decide), e1]
    by_cases hh : R x.1 = r
    · rw [if_pos (by rw [hh]), decide_eq_true hh]; rfl
    · rw [if_neg (fun q => hh ((nI_eq (by omega) (by omega)).mp q)), decide_eq_false hh]; rfl
/-- states behind a change of length, by another than exc -/
def eU (R : Nat → Nat) (r : Nat) (exc : Int32) (C : mC) (f : Nat → Int32) (c : Nat) : Int32 := if nI c = exc then f c else match C c with
  | none => f c
  | some x => if R x.1 = r then (if x.1 < 2 then nI 2 else nI 0) else f c
def eUc (R : Nat → Nat) (r : Nat) (exc : Int32) (C : mC) (c : Nat) : Bool := !decide (nI c = exc) && match C c with
  | none => false
  | some x => decide (R x.1 = r) && !decide (x.1 < 2)
theorem y_byLengthL {K : gH → gR} {C : mC} {R : Nat → Nat} {p r : Nat} {exc : Int32} (hp : p < 6) (hr2 : r < 2) : ∀ (k n j : Nat) (σ : cS), j + k = 3 → k < n → σ.1 3 p = nI r → (∀ c, j ≤ c → c < 3 → cOn (σ.1 6) (σ.1 7) C c ∧ ∀ x, C c = some x → σ.1 3 x.1 = nI (R x.1) ∧ R x.1 < 2) →
    f_X_endByLength_L11 K n (cPut b σ G) b (nI p) exc (nI j) = K (cPut b (cAI σ 6 1 (fun c => if j ≤ c ∧ c < 3 then eU R r exc C (σ.1 6) c else σ.1 6 c) (σ.2 1 + nI (eCt (eUc R r exc C) j k))) G)
  | _, 0, _, _, _, h, _, _ => absurd h (Nat.not_lt_zero _)
  | 0, n + 1, j, σ, hj, _, h3, hc => by
    unfold f_X_endByLength_L11
    rw [if_pos (nI_le (by omega) (by omega))]
    exact (cK1 (cAI_same (funext fun q => if_neg (by omega)) (add_nI0 _))).symm
  | k + 1, n + 1, j, σ, hj, hn, h3, hc => by
    have hj3 : j < 3 := by omega
    obtain ⟨hon, hR⟩ := hc j (Nat.le_refl _) hj3
    unfold f_X_endByLength_L11
    rw [if_neg (nI_ge hj3 (by decide))]
    -- the rest, from a state that has this cursor's place done
    have rest : ∀ (σ1 : cS) (f : Nat → Int32) (a : Nat), σ1 = cAI σ 6 1 f (σ.2 1 + nI a) → f j = eU R r exc C (σ.1 6) j → (∀ c, c ≠ j → f c = σ.1 6 c) → a = (if eUc R r exc C j = true then 1 else 0) →
        f_X_endByLength_L11 K n (cPut b σ1 G) b (nI p) exc (nI j + nI 1) = K (cPut b (cAI σ 6 1 (fun c => if j ≤ c ∧ c < 3 then eU R r exc C (σ.1 6) c else σ.1 6 c) (σ.2 1 + nI (eCt (eUc R r exc C) j (k + 1)))) G) := by
      intro σ1 f a e1 e2 e3 e4
      subst e1
      have hu : ∀ c, c ≠ j → eU R r exc C f c = eU R r exc C (σ.1 6) c := by
        intro c hcj
        unfold eU; rw [e3 c hcj]
      rw [nI_add, y_byLengthL hp hr2 k n (j + 1) _ (by omega) (by omega) (by rw [cAI_ne (by decide)]; exact h3) (fun c hcj h3' => by
        rw [cAI_at, cAI_ne (by decide), cAI_ne (by decide)]
        refine ⟨?_, (hc c (by omega) h3').2⟩
        have := (hc c (by omega) h3').1
        unfold cOn at this ⊢
        rw [e3 c (by omega)]; exact this), cAI_cAI, cAI_at, cAI_i, add_nI]
      refine cK1 (cAI_eq (funext fun c => ?_) ?_)
      · by_cases hcj : c = j
        · rw [hcj, if_neg (by omega), if_pos ⟨Nat.le_refl _, hj3⟩, e2]
        · by_cases hz : j ≤ c ∧ c < 3
          · rw [if_pos hz, if_pos ⟨by omega, hz.2⟩, hu c hcj]
          · rw [if_neg hz, if_neg (by omega), e3 c hcj]
      · rw [e4]; rfl
    by_cases hex : nI j = exc
    · rw [if_pos hex]
      refine rest σ (σ.1 6) 0 (cAI_same rfl (add_nI0 _)).symm ?_ (fun _ _ => rfl) ?_
      · unfold eU; rw [if_pos hex]
      · unfold eUc; rw [decide_eq_true hex]; rfl
    · rw [if_neg hex, c_ob_0, y_isOnRowOf hj3 hon hp h3 hr2 hR, bI_rI, mB_if]
      have hu0 : eUc R r exc C j = (match C j with
          | none => false
          | some x => decide (R x.1 = r) && !decide (x.1 < 2)) := by
        unfold eUc; rw [decide_eq_false hex]; rfl
      unfold cRr
      cases hx : C j with
      | none =>
        rw [hx] at hu0
        show (if false = true then _ else _) = _
        rw [if_neg (by decide)]
        refine rest σ (σ.1 6) 0 (cAI_same rfl (add_nI0 _)).symm ?_ (fun _ _ => rfl) (by rw [hu0]; rfl)
        unfold eU; rw [if_neg hex, hx]
      | some x =>
        rw [hx] at hu0
        simp only at hu0 ⊢
        unfold cOn at hon
        rw [hx] at hon
        simp only at hon
        by_cases hh : R x.1 = r
        · rw [if_pos (decide_eq_true hh), c_fa_0_1, c_ob_14, y_unsettle hj3 hon.2.2 hon.2.1, bV_rV]
          by_cases h2 : x.1 < 2
          · rw [if_pos h2]
            refine rest _ (upd (σ.1 6) j (nI 2)) 0 ?_ ?_ (fun c hcj => by simp [upd, hcj]) (by rw [hu0, decide_eq_true h2]; simp)
            · unfold cAI; rw [add_nI0, cSetI_arr, cSetI_id]
            · unfold eU; rw [if_neg hex, hx]; simp [upd, hh, h2]
          · rw [if_neg h2]
            refine rest _ (upd (σ.1 6) j (nI 0)) 1 rfl ?_ (fun c hcj => by simp [upd, hcj]) (by rw [hu0, decide_eq_false h2, decide_eq_true hh]; rfl)
            unfold eU; rw [if_neg hex, hx]; simp [upd, hh, h2]
        · rw [if_neg (by rw [decide_eq_false hh]; decide)]
          refine rest σ (σ.1 6) 0 (cAI_same rfl (add_nI0 _)).symm ?_ (fun _ _ => rfl) (by rw [hu0, decide_eq_false hh]; rfl)
          unfold eU; rw [if_neg hex, hx]; simp [hh]
/-- states behind the end of all on a row -/
def eA (R : Nat → Nat) (r : Nat) (C : mC) (f : Nat → Int32) (c : Nat) : Int32 := match C c with
  | none => f c
  | some x => if R x.1 = r then nI 0 else f c
theorem y_aroundL {K : gH → Int32 → gR} {C : mC} {R : Nat → Nat} {p r : Nat} {y : Int32} (hp : p < 6) (hr2 : r < 2) : ∀ (k n j : Nat) (σ : cS), j + k = 3 → k < n → σ.1 3 p = nI r → (∀ c, j ≤ c → c < 3 → cOn (σ.1 6) (σ.1 7) C c ∧ ∀ x, C c = some x → σ.1 3 x.1 = nI (R x.1) ∧ R x.1 < 2) →
    f_X_endAround_L11 K n (cPut b σ G) b (nI p) y (nI j) = K (cPut b (cAI σ 6 1 (fun c => if j ≤ c ∧ c < 3 then eA R r C (σ.1 6) c else σ.1 6 c) (σ.2 1 + nI (eCt (cRr R r C) j k))) G) y
  | _, 0, _, _, _, h, _, _ => absurd h (Nat.not_lt_zero _)
  | 0, n + 1, j, σ, hj, _, h3, hc => by
    unfold f_X_endAround_L11
    rw [if_pos (nI_le (by omega) (by omega))]
    exact (cK (cAI_same (funext fun q => if_neg (by omega)) (add_nI0 _)) rfl).symm
  | k + 1, n + 1, j, σ, hj, hn, h3, hc => by
    have hj3 : j < 3 := by omega
    obtain ⟨hon, hR⟩ := hc j (Nat.le_refl _) hj3
    unfold f_X_endAround_L11
    rw [if_neg (nI_ge hj3 (by decide))]
    have rest : ∀ (σ1 : cS) (f : Nat → Int32) (a : Nat), σ1 = cAI σ 6 1 f (σ.2 1 + nI a) → f j = eA R r C (σ.1 6) j → (∀ c, c ≠ j → f c = σ.1 6 c) → a = (if cRr R r C j = true then 1 else 0) →
        f_X_endAround_L11 K n (cPut b σ1 G) b (nI p) y (nI j + nI 1) = K (cPut b (cAI σ 6 1 (fun c => if j ≤ c ∧ c < 3 then eA R r C (σ.1 6) c else σ.1 6 c) (σ.2 1 + nI (eCt (cRr R r C) j (k + 1)))) G) y := by
      intro σ1 f a e1 e2 e3 e4
      subst e1
      have hu : ∀ c, c ≠ j → eA R r C f c = eA R r C (σ.1 6) c := by
        intro c hcj
        unfold eA; rw [e3 c hcj]
      rw [nI_add, y_aroundL hp hr2 k n (j + 1) _ (by omega) (by omega) (by rw [cAI_ne (by decide)]; exact h3) (fun c hcj h3' => by
        rw [cAI_at, cAI_ne (by decide), cAI_ne (by decide)]
        refine ⟨?_, (hc c (by omega) h3').2⟩
        have := (hc c (by omega) h3').1
        unfold cOn at this ⊢
        rw [e3 c (by omega)]; exact this), cAI_cAI, cAI_at, cAI_i, add_nI]
      refine cK (cAI_eq (funext fun c => ?_) ?_) rfl
      · by_cases hcj : c = j
        · rw [hcj, if_neg (by omega), if_pos ⟨Nat.le_refl _, hj3⟩, e2]
        · by_cases hz : j ≤ c ∧ c < 3
          · rw [if_pos hz, if_pos ⟨by omega, hz.2⟩, hu c hcj]
          · rw [if_neg hz, if_neg (by omega), e3 c hcj]
      · rw [e4]; rfl
    rw [c_ob_0, y_isOnRowOf hj3 hon hp h3 hr2 hR, bI_rI, mB_if]
    by_cases hz : cRr R r C j = true
    · rw [if_pos hz, c_fa_0_1, c_ob_14, y_cFinish hj3, bV_rV]
      refine rest _ (upd (σ.1 6) j (nI 0)) 1 rfl ?_ (fun c hcj => by simp [upd, hcj]) (by rw [if_pos hz])
      unfold eA
      unfold cRr at hz
      cases hx : C j with
      | none => rw [hx] at hz; cases hz
      | some x =>
        rw [hx] at hz
        simp only at hz ⊢
        rw [if_pos (of_decide_eq_true hz)]; simp [upd]
    · rw [if_neg hz]
      refine rest σ (σ.1 6) 0 (cAI_same rfl (add_nI0 _)).symm ?_ (fun _ _ => rfl) (by rw [if_neg hz])
      unfold eA
      unfold cRr at hz
      cases hx : C j with
      | none => rfl
      | some x =>
        rw [hx] at hz
        simp only at hz ⊢
        rw [if_neg (fun q => hz (decide_eq_true q))]
/-- states behind the end of parts: P tells which lists are there now -/
def eX (T : Nat → Bool) (C : mC) (c : Nat) : Bool := match C c with
  | none => false
  | some x => !T x.1
theorem y_closeL {K : gH → Int32 → gR} {C : mC} {T : Nat → Bool} {y : Int32} : ∀ (k n j : Nat) (σ : cS), j + k = 3 → k < n → (∀ c, j ≤ c → c < 3 → cOn (σ.1 6) (σ.1 7) C c) → (∀ q, q < 6 → (σ.1 1 q = -1 ↔ T q = false)) →
    f_X_close_L16 K n (cPut b σ G) b y (nI j) = K (cPut b (cAI σ 6 1 (fun c => if j ≤ c ∧ c < 3 ∧ eX T C c = true then nI 0 else σ.1 6 c) (σ.2 1 + nI (eCt (eX T C) j k))) G) y
  | _, 0, _, _, _, h, _, _ => absurd h (Nat.not_lt_zero _)
  | 0, n + 1, j, σ, hj, _, hc, hT => by
    unfold f_X_close_L16
    rw [if_pos (nI_le (by omega) (by omega))]
    exact (cK (cAI_same (funext fun q => if_neg (by omega)) (add_nI0 _)) rfl).symm
  | k + 1, n + 1, j, σ, hj, hn, hc, hT => by
    have hj3 : j < 3 := by omega
    have hon := hc j (Nat.le_refl _) hj3
    unfold f_X_close_L16
    rw [if_neg (nI_ge hj3 (by decide))]
    have rest : ∀ (σ1 : cS) (f : Nat → Int32) (a : Nat), σ1 = cAI σ 6 1 f (σ.2 1 + nI a) → f j = (if eX T C j = true then nI 0 else σ.1 6 j) → (∀ c, c ≠ j → f c = σ.1 6 c) → a = (if eX T C j = true then 1 else 0) →
        f_X_close_L16 K n (cPut b σ1 G) b y (nI j + nI 1) = K (cPut b (cAI σ 6 1 (fun c => if j ≤ c ∧ c < 3 ∧ eX T C c = true then nI 0 else σ.1 6 c) (σ.2 1 + nI (eCt (eX T C) j (k + 1)))) G) y := by
      intro σ1 f a e1 e2 e3 e4
      subst e1
      rw [nI_add, y_closeL k n (j + 1) _ (by omega) (by omega) (fun c hcj h3' => by
        rw [cAI_at, cAI_ne (by decide)]
        have := hc c (by omega) h3'
        unfold cOn at this ⊢
        rw [e3 c (by omega)]; exact this) (fun q hq => by rw [cAI_ne (by decide)]; exact hT q hq), cAI_cAI, cAI_at, cAI_i, add_nI]
      refine cK (cAI_eq (funext fun c => ?_) ?_) rfl
      · by_cases hcj : c = j
        · rw [hcj, if_neg (by omega), e2]
          by_cases hz : eX T C j = true
          · rw [if_pos hz, if_pos ⟨Nat.le_refl _, hj3, hz⟩]
          · rw [if_neg hz, if_neg (fun q => hz q.2.2)]
        · rw [e3 c hcj]
          by_cases hz : j ≤ c ∧ c < 3 ∧ eX T C c = true
          · rw [if_pos hz, if_pos ⟨by omega, hz.2⟩]
          · rw [if_neg hz, if_neg (fun q => hz ⟨by omega, q.2⟩)]
      · rw [e4]; rfl
    rw [c_fa_0_1, c_ob_14, y_cThere, bI_rI, mB_if, rd_nI hj3 (by decide)]
    unfold cOn at hon
    cases hx : C j with
    | none =>
      rw [hx] at hon
      have hz : eX T C j = false := by unfold eX; rw [hx]
      have h0 : ¬ (σ.1 6 j = nI 2 ∨ σ.1 6 j = nI 1) := by
        simp only at hon
        rw [hon]; decide
      rw [if_neg (by rw [decide_eq_false h0]; decide)]
      exact rest σ (σ.1 6) 0 (cAI_same rfl (add_nI0 _)).symm (by rw [hz]; rfl) (fun _ _ => rfl) (by rw [hz]; rfl)
    | some x =>
      rw [hx] at hon
      simp only at hon
      have hz : eX T C j = !T x.1 := by unfold eX; rw [hx]
      rw [if_pos (decide_eq_true (hon.1.elim Or.inr Or.inl)), c_fa_0_0, c_fa_0_1, c_ob_14, y_listOf, bI_rI, rd_nI hj3 (by decide), hon.2.1, c_ob_1,
        y_isThere (t := T x.1) (by rw [rd_nI hon.2.2 (by decide)]; exact hT x.1 hon.2.2), bI_rI, mB_if]
      cases hT1 : T x.1 with
      | true =>
        rw [hT1] at hz
        rw [if_pos rfl]
        exact rest σ (σ.1 6) 0 (cAI_same rfl (add_nI0 _)).symm (by rw [hz]; rfl) (fun _ _ => rfl) (by rw [hz]; rfl)
      | false =>
        rw [hT1] at hz
        rw [if_neg (by decide), c_fa_0_1, c_ob_14, y_cFinish hj3, bV_rV]
        exact rest _ (upd (σ.1 6) j (nI 0)) 1 rfl (by rw [hz]; simp [upd]) (fun c hcj => by simp [upd, hcj]) (by rw [hz]; rfl)
end Ends
