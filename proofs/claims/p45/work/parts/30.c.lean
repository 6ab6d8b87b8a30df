section
-- the class: made anew, assigned, turned, moved
def sMv (fm : Nat → Nat) (src : List (Nat × Nat × Nat)) (s : Nat) : Nat → Nat → List (Nat × Nat × Nat) → List (Nat × Nat × Nat)
  | _, 0, L => L
  | j, d + 1, L => sMv fm src s (j + 1) d (match src[j]? with
    | some t => L.set (s + fm j) t
    | none => L)
theorem sMv_len {fm : Nat → Nat} {src : List (Nat × Nat × Nat)} {s : Nat} : ∀ (d j : Nat) (L : List (Nat × Nat × Nat)), (sMv fm src s j d L).length = L.length
  | 0, _, _ => rfl
  | d + 1, j, L => by
    rw [sMv, sMv_len d]
    cases src[j]? with
    | none => rfl
    | some t => exact List.length_set
theorem set_mem {α : Type} {a c : α} : ∀ {l : List α} {i : Nat}, a ∈ l.set i c → a ∈ l ∨ a = c
  | [], i, h => by simp at h
  | x :: l, 0, h => by
    rw [List.set_cons_zero] at h
    rcases List.mem_cons.mp h with k | k
    · exact Or.inr k
    · exact Or.inl (List.mem_cons_of_mem _ k)
  | x :: l, i + 1, h => by
    rw [List.set_cons_succ] at h
    rcases List.mem_cons.mp h with k | k
    · exact Or.inl (by rw [k]; exact List.mem_cons_self ..)
    · rcases set_mem k with k | k
      · exact Or.inl (List.mem_cons_of_mem _ k)
      · exact Or.inr k
theorem sMv_mem {fm : Nat → Nat} {src : List (Nat × Nat × Nat)} {s : Nat} {t : Nat × Nat × Nat} : ∀ (d j : Nat) (L : List (Nat × Nat × Nat)), t ∈ sMv fm src s j d L → t ∈ L ∨ t ∈ src
  | 0, _, _, h => Or.inl h
  | d + 1, j, L, h => by
    rw [sMv] at h
    rcases sMv_mem d _ _ h with k | k
    · cases hx : src[j]? with
      | none => rw [hx] at k; exact Or.inl k
      | some u =>
        rw [hx] at k
        rcases set_mem k with k | k
        · exact Or.inl k
        · exact Or.inr (by rw [k]; exact List.mem_of_getElem? hx)
    · exact Or.inr k
theorem fm_all : ∀ a : Nat, a < 111 → ∀ l, l < 31 → (if 0 ≤ Int32.ofInt ((a : Int) - 40) ^^^ nI (l + 1) then Int32.ofInt ((a : Int) - 40) - Int32.ofInt ((a : Int) - 40) / nI (l + 1) * nI (l + 1) else if Int32.ofInt ((a : Int) - 40) - Int32.ofInt ((a : Int) - 40) / nI (l + 1) * nI (l + 1) = 0 then Int32.ofInt ((a : Int) - 40) - Int32.ofInt ((a : Int) - 40) / nI (l + 1) * nI (l + 1) else Int32.ofInt ((a : Int) - 40) - Int32.ofInt ((a : Int) - 40) / nI (l + 1) * nI (l + 1) + nI (l + 1)) = nI (((a : Int) - 40) % ((l : Int) + 1)).toNat := by decide +kernel
/-- whither a place goes -/
def sFm (z len j : Nat) : Nat := ((((j + z : Nat) : Int) - 40) % (len : Int)).toNat
theorem fm_of {z len j : Nat} {G : gH} (hz : z < 81) (h1 : 0 < len) (hl : len ≤ 31) (hj : j < 30 + 1) : f_MA_floorMod G (nI j + Int32.ofInt ((z : Int) - 40)) (nI len) = rI (nI (sFm z len j)) G ∧ sFm z len j < len := by
  have e : nI j + Int32.ofInt ((z : Int) - 40) = Int32.ofInt (((j + z : Nat) : Int) - 40) := by
    rw [← ofInt_nI j, ← Int32.ofInt_add]
    congr 1
    omega
  have h := fm_all (j + z) (by omega) (len - 1) (by omega)
  rw [show len - 1 + 1 = len by omega, show ((len - 1 : Nat) : Int) + 1 = (len : Int) by omega] at h
  have hm : (((j + z : Nat) : Int) - 40) % (len : Int) < len ∧ 0 ≤ (((j + z : Nat) : Int) - 40) % (len : Int) := ⟨Int.emod_lt_of_pos _ (by omega), Int.emod_nonneg _ (by omega)⟩
  refine ⟨?_, by unfold sFm; omega⟩
  unfold f_MA_floorMod gRem
  rw [e, if_neg (nI_ne0 h1 (by omega))]
  generalize Int32.ofInt (((j + z : Nat) : Int) - 40) = x at h ⊢
  unfold sFm
  rw [← h]
  generalize x - x / nI len * nI len = v
  show (if 0 ≤ x ^^^ nI len then rI v G else if v = 0 then rI v G else rI (v + nI len) G) = _
  split
  · rfl
  · split <;> rfl
theorem by_of {x : Int32} (h1 : ¬ x < -40) (h2 : x ≤ nI 40) : ∃ z, z < 81 ∧ x = Int32.ofInt ((z : Int) - 40) := by
  rw [Int32.lt_iff_toInt_lt] at h1
  rw [Int32.le_iff_toInt_le, nI_toInt (by omega)] at h2
  rw [show (-40 : Int32).toInt = -40 by decide] at h1
  refine ⟨(x.toInt + 40).toNat, by omega, ?_⟩
  rw [show (((x.toInt + 40).toNat : Nat) : Int) - 40 = x.toInt by omega, Int32.ofInt_toInt]
section All2
variable {b : Nat} {G : gH}
theorem x_replace {exc : Int32} {σ : cS} {A : mS} {p r s m t1 m1 : Nat} {new : List (Nat × Nat × Nat)} {K : gH → Nat → Int32 → Int32 → gR} (h : CRepx exc σ A) (hw : mInw exc p A) (hv : mV A p) (hr : mRw A.2.1 zDp p = some (r, s)) (ht : ∀ t, t ∈ A.1 r → mTok m t) (hm : m ≤ 600) (ht1 : t1 < 31) (hm1 : m1 < 31)
    (hnew : new.map Prod.snd = (sSeg A r s (mLen A p)).map (fun t => ((t.2.1 * t1 + m1) % 31, t.2.2))) :
    ∃ σ', f_X_replaceAll_L58 K zFu (cPut b σ G) b (nI p) (nI t1) (nI m1) (nI (mLen A p)) (nI 0) = K (cPut b σ' G) b (nI p) (nI (mLen A p)) ∧ CRepx exc σ' (mRows A r (sSpl (A.1 r) s new)) := by
  have hr2 := mRw_lt _ _ _ _ hr
  have hp := hv.lt hw.1
  have hf := hw.2.1.rw _ _ _ _ hr
  have h31 := hw.2.2.1 r hr2
  obtain ⟨e3, e4⟩ := h.2.2.2.2.1 p r s hp hr
  have hsl := sSeg_len hf
  have hnl : new.length = mLen A p := by
    have := congrArg List.length hnew
    rw [List.length_map, List.length_map] at this
    omega
  generalize hvD : (fun i : Nat => match new[i]? with
    | some u => cE u
    | none => 0) = v
  have hv2 : ∀ i t, new[i]? = some t → v i = cE t := by
    intro i t hi
    rw [← hvD]
    show (match new[i]? with
      | some u => cE u
      | none => 0) = _
    rw [hi]
  refine ⟨cArr σ 0 (cWr (σ.1 0) (31 * r + s) 0 (mLen A p) v), ?_, ?_⟩
  · rw [y_repL (r := r) (s := s) (sg := sSeg A r s (mLen A p)) (m := m) (v := v) hp (by omega) (by omega) hsl (fun t h1 => ht t (sSeg_mem h1)) hm ht1 hm1 (fun i t hi => by
      have h1 : (new.map Prod.snd)[i]? = some ((t.2.1 * t1 + m1) % 31, t.2.2) := by rw [hnew, List.getElem?_map, hi]; rfl
      rw [List.getElem?_map] at h1
      cases hx : new[i]? with
      | none => rw [hx] at h1; cases h1
      | some u =>
        rw [hx] at h1
        have e1 : u.2 = ((t.2.1 * t1 + m1) % 31, t.2.2) := Option.some.inj h1
        rw [hv2 i u hx]
        unfold cE
        rw [e1]) (mLen A p) zFu 0 σ (by omega) (by unfold zFu; omega) e3 e4 (fun i t _ hi => by
      have hil : i < mLen A p := by
        have := (List.getElem?_eq_some_iff.mp hi).1
        omega
      rw [sSeg_at hil] at hi
      rw [Nat.add_assoc]
      exact h.1 r (s + i) t hr2 hi)]
  · have hseg : cSeg (σ.1 0) (31 * r) (A.1 r) := h.1.seg hr2
    have z := hseg.spl (s := s) (new := new) (v := v) (by omega) hv2
    rw [hnl] at z
    exact h.rows hw.2.2.1 (sSpl_len (by omega)) (cWr_out (by omega)) z
theorem x_copyToRow {exc : Int32} {σ : cS} {A : mS} {p r s r1 : Nat} (h : CRepx exc σ A) (hw : mInw exc p A) (hv : mV A p) (hr : mRw A.2.1 zDp p = some (r, s)) (hr1 : r1 < 2) :
    ∃ σ', f_I_copyToRow (cPut b σ G) (b + 1) (nI r1) (nI p) = rV (cPut b σ' G) ∧ CRepx exc σ' (mRows A r1 (sSeg A r s (mLen A p))) := by
  have hr2 := mRw_lt _ _ _ _ hr
  have hp := hv.lt hw.1
  have hf := hw.2.1.rw _ _ _ _ hr
  have h31 := hw.2.2.1 r hr2
  have hrr : mRw A.2.1 zDp r1 = some (r1, 0) := by
    show mRw A.2.1 (7 + 1) r1 = _
    unfold mRw; rw [if_pos hr1]
  obtain ⟨e3, e4⟩ := h.2.2.2.2.1 p r s hp hr
  obtain ⟨f3, f4⟩ := h.2.2.2.2.1 r1 r1 0 (by omega) hrr
  have hsl := sSeg_len hf
  have hsq := h.1.seg hr2
  generalize hf' : cWr (σ.1 0) (31 * r1) 0 (mLen A p) (fun i => σ.1 0 (31 * r + s + i)) = f'
  refine ⟨cArr (cArr σ 0 f') 1 (upd (σ.1 1) r1 (nI (mLen A p))), ?_, ?_, fun r' hr' => ?_, ?_, h.2.2.2⟩
  · unfold f_I_copyToRow
    rw [c_ob_1, x_len h hw.1 hv, bI_rI, y_toRowL (r := r) (s := s) (f := σ.1 0) hp hr1 (by omega) hr2 (mLen A p) zFu 0 σ (by omega) (by unfold zFu; omega) e3 e4 f3 f4 (fun _ _ _ => rfl), hf']
    simp only [c_ob_0, c_fa_0_0, c_fa_0_1, c_fi_0_2, c_put_0_2, c_fi_0_3, c_put_0_3, c_fi_0_4, c_put_0_4, c_ob_1, c_fa_1_0, c_fa_1_1, c_fa_1_2, c_fa_1_3, c_fa_1_4, c_fa_1_5, c_fi_1_6, c_put_1_6, c_ob_2, c_fa_2_0, c_ob_4, c_fa_4_0, c_ob_6, c_fa_6_0, c_ob_8, c_fa_8_0, c_ob_10, c_fa_10_0, c_ob_12, c_fa_12_0, c_ob_14, c_fa_14_0, c_fa_14_1, c_fa_14_2, c_fa_14_3, c_fi_14_4, c_put_14_4, c_ob_15, c_fa_15_0, c_ob_17, c_fa_17_0, c_ob_19, c_fa_19_0, c_ob_21, c_fa_21_0, c_len_0, c_ld_0, c_st_0, c_rd_0, c_wr_0, c_len_1, c_ld_1, c_st_1, c_rd_1, c_wr_1, c_len_2, c_ld_2, c_st_2, c_rd_2, c_wr_2, c_len_3, c_ld_3, c_st_3, c_rd_3, c_wr_3, c_len_4, c_ld_4, c_st_4, c_rd_4, c_wr_4, c_len_5, c_ld_5, c_st_5, c_rd_5, c_wr_5, c_len_6, c_ld_6, c_st_6, c_rd_6, c_wr_6, c_len_7, c_ld_7, c_st_7, c_rd_7, c_wr_7, c_len_8, c_ld_8, c_st_8, c_rd_8, c_wr_8, c_len_9, c_ld_9, c_st_9, c_rd_9, c_wr_9, bI_rI, bL_rL, bA_rA, bV_rV, bI_th, bL_th, bA_th, bV_th, rZ_0, rZ_1]
    rw [wr_nI (by omega) (by decide), cSet_arr, cArr_ne (by decide)]
  · rw [cArr_ne (by decide), cArr_at]
    refine h.1.row hw.2.2.1 (fun q hq => ?_) (fun i t ht => ?_)
    · rw [← hf']
      exact if_neg (by omega)
    · have hi : i < mLen A p := by
        have := (List.getElem?_eq_some_iff.mp ht).1
        omega
      rw [← hf']
      show (if _ then _ else _) = _
      rw [if_pos (by omega), show 31 * r1 + i - 31 * r1 = i by omega]
      exact (hsq.drop (n := s)).take i t ht
  · rw [cArr_at]
    show upd (σ.1 1) r1 (nI (mLen A p)) r' = nI (if r' = r1 then sSeg A r s (mLen A p) else A.1 r').length
    simp only [upd]
    by_cases e : r' = r1
    · rw [if_pos e, if_pos e, hsl]
    · rw [if_neg e, if_neg e]; exact h.2.1 r' hr'
  · rw [cArr_at]
    intro q h2 h6
    have h0 := h.2.2.1 q h2 h6
    show match A.2.1 q with
      | none => upd (σ.1 1) r1 (nI (mLen A p)) q = -1
      | some x => upd (σ.1 1) r1 (nI (mLen A p)) q = nI x.2.2
    simp only [upd]
    rw [if_neg (by omega)]; exact h0
theorem y_swap {σ : cS} {p r s i j : Nat} (hp : p < 6) (h3 : σ.1 3 p = nI r) (h4 : σ.1 4 p = nI s) (hi : 31 * r + s + i < 62) (hj : 31 * r + s + j < 62) :
    f_I_swap (cPut b σ G) (b + 1) (nI p) (nI i) (nI j) = rV (cPut b (cArr σ 0 (upd (upd (σ.1 0) (31 * r + s + i) (σ.1 0 (31 * r + s + j))) (31 * r + s + j) (σ.1 0 (31 * r + s + i)))) G) := by
  unfold f_I_swap
  rw [c_ob_1, y_thing hp h3 h4 hi, bI_rI, c_ob_1, y_thing hp h3 h4 hj, bI_rI, c_ob_1, y_write hp h3 h4 hi, bV_rV, c_ob_1, y_write hp (by rw [cArr_ne (by decide)]; exact h3) (by rw [cArr_ne (by decide)]; exact h4) hj, bV_rV, cArr_cArr, cArr_at]
theorem gDiv_of {a c : Nat} {k : Int32 → gR} (ha : a < 2 ^ 31) (hc : c < 2 ^ 31) (h0 : 0 < c) : gDiv (nI a) (nI c) k = k (nI (a / c)) := by
  unfold gDiv
  rw [if_neg (nI_ne0 h0 hc), nI_divI ha hc]
def cRv (f : Nat → Int32) (o len j : Nat) : Nat → Int32 := fun q => if o ≤ q ∧ q < o + len ∧ (q - o < j ∨ len ≤ q - o + j) then f (o + (len - 1 - (q - o))) else f q
theorem y_turnL {K : gH → Int32 → gR} {p r s len : Nat} {f : Nat → Int32} (hp : p < 6) (hb : 31 * r + s + len ≤ 62) (hlen : len ≤ 31) : ∀ (d n j : Nat) (σ : cS), j + d = len / 2 → d < n → σ.1 3 p = nI r → σ.1 4 p = nI s → σ.1 0 = cRv f (31 * r + s) len j →
    f_X_turn_L16 K n (cPut b σ G) b (nI p) (nI len) (nI j) = K (cPut b (cArr σ 0 (cRv f (31 * r + s) len (len / 2))) G) (nI len)
  | _, 0, _, _, _, h, _, _, _ => absurd h (Nat.not_lt_zero _)
  | 0, n + 1, j, σ, hj, _, h3, h4, hf => by
    unfold f_X_turn_L16
    rw [gDiv_of (by omega) (by omega) (by omega), if_pos (nI_le (by omega) (by omega)), show len / 2 = j by omega, ← hf, cArr_id]
  | d + 1, n + 1, j, σ, hj, hn, h3, h4, hf => by
    unfold f_X_turn_L16
    rw [gDiv_of (by omega) (by omega) (by omega), if_neg (nI_ge (by omega) (by omega)), c_fa_0_0, c_ob_1, nI_sub (by omega), nI_sub (by omega), y_swap hp h3 h4 (by omega) (by omega), bV_rV, nI_add,
      y_turnL hp hb hlen d n (j + 1) _ (by omega) (by omega) (by rw [cArr_ne (by decide)]; exact h3) (by rw [cArr_ne (by decide)]; exact h4) (by
        rw [cArr_at, hf]
        funext q
        simp only [upd, cRv]
        by_cases h1 : q = 31 * r + s + (len - 1 - j)
        · rw [if_pos h1, if_neg (by omega), if_pos (by omega)]
          refine congrArg f ?_; omega
        · rw [if_neg h1]
          by_cases h2 : q = 31 * r + s + j
          · rw [if_pos h2, if_neg (by omega), if_pos (by omega)]
            refine congrArg f ?_; omega
          · rw [if_neg h2]
            by_cases h5 : 31 * r + s ≤ q ∧ q < 31 * r + s + len ∧ (q - (31 * r + s) < j ∨ len ≤ q - (31 * r + s) + j)
            · rw [if_pos h5, if_pos (by omega)]
            · rw [if_neg h5, if_neg (by omega)]), cArr_cArr]
theorem x_turn {exc : Int32} {σ : cS} {A : mS} {p r s : Nat} {K : gH → Int32 → gR} (h : CRepx exc σ A) (hw : mInw exc p A) (hv : mV A p) (hr : mRw A.2.1 zDp p = some (r, s)) :
    ∃ σ', f_X_turn_L16 K zFu (cPut b σ G) b (nI p) (nI (mLen A p)) (nI 0) = K (cPut b σ' G) (nI (mLen A p)) ∧ CRepx exc σ' (mRows A r (sSpl (A.1 r) s (sSeg A r s (mLen A p)).reverse)) := by
  have hr2 := mRw_lt _ _ _ _ hr
  have hp := hv.lt hw.1
  have hf := hw.2.1.rw _ _ _ _ hr
  have h31 := hw.2.2.1 r hr2
  obtain ⟨e3, e4⟩ := h.2.2.2.2.1 p r s hp hr
  have hsl := sSeg_len hf
  have hsq := h.1.seg hr2
  refine ⟨_, y_turnL (r := r) (s := s) (f := σ.1 0) hp (by omega) (by omega) (mLen A p / 2) zFu 0 σ (by omega) (by unfold zFu; omega) e3 e4 (by
    funext q
    simp only [cRv]
    rw [if_neg (by omega)]), ?_⟩
  have hrl : (sSeg A r s (mLen A p)).reverse.length = mLen A p := by rw [List.length_reverse, hsl]
  refine h.rows hw.2.2.1 (sSpl_len (by omega)) (fun q hq => if_neg (by omega)) ?_
  have z := hsq.spl (s := s) (new := (sSeg A r s (mLen A p)).reverse) (v := fun i => σ.1 0 (31 * r + s + (mLen A p - 1 - i))) (by omega) (fun i t hi => by
    have hil : i < mLen A p := by
      have := (List.getElem?_eq_some_iff.mp hi).1
      omega
    rw [List.getElem?_reverse (by omega), hsl] at hi
    exact (hsq.drop (n := s)).take (mLen A p - 1 - i) t hi)
  rw [hrl] at z
  have e : cWr (σ.1 0) (31 * r + s) 0 (mLen A p) (fun i => σ.1 0 (31 * r + s + (mLen A p - 1 - i))) = cRv (σ.1 0) (31 * r + s) (mLen A p) (mLen A p / 2) := by
    funext q
    simp only [cWr, cRv]
    by_cases h1 : 31 * r + s + 0 ≤ q ∧ q < 31 * r + s + mLen A p
    · rw [if_pos h1]
      by_cases h2 : q - (31 * r + s) < mLen A p / 2 ∨ mLen A p ≤ q - (31 * r + s) + mLen A p / 2
      · rw [if_pos ⟨by omega, by omega, h2⟩]
      · rw [if_neg (fun k => h2 k.2.2)]
        refine congrArg (σ.1 0) ?_; omega
    · rw [if_neg h1, if_neg (by omega)]
  rw [← e]; exact z
theorem y_moveL {K : gH → gR} {p r s len z : Nat} {sg : List (Nat × Nat × Nat)} (hp : p < 6) (hr : r < 2) (hb : s + len ≤ 31) (hz : z < 81) (hsl : sg.length = len) (hsg : ∀ (i : Nat) (t : Nat × Nat × Nat), sg[i]? = some t → t.2.1 < 31 ∧ t.2.2 < 600) : ∀ (d n j : Nat) (σ : cS) (L : List (Nat × Nat × Nat)), j + d = len → d < n → σ.1 3 p = nI r → σ.1 4 p = nI s → cSp (σ.1 5) 0 (sEn 0 sg) → cSeg (σ.1 0) (31 * r) L →
    ∃ f', f_I_moveOn_L20 K n (cPut b σ G) (b + 1) (nI p) (Int32.ofInt ((z : Int) - 40)) (nI len) (nI j) = K (cPut b (cArr σ 0 f') G) ∧ cOut r (σ.1 0) f' ∧ cSeg f' (31 * r) (sMv (sFm z len) sg s j d L)
  | _, 0, _, _, _, _, h, _, _, _, _ => absurd h (Nat.not_lt_zero _)
  | 0, n + 1, j, σ, L, hj, _, _, _, _, hL => by
    refine ⟨σ.1 0, ?_, cOut.refl, hL⟩
    unfold f_I_moveOn_L20
    rw [if_pos (nI_le (by omega) (by omega)), cArr_id]
  | d + 1, n + 1, j, σ, L, hj, hn, h3, h4, h5, hL => by
    have hjs : j < sg.length := by omega
    have hs := List.getElem?_eq_getElem hjs
    generalize sg[j] = t at hs
    have htk := hsg j t hs
    obtain ⟨m1, m2⟩ := fm_of (z := z) (len := len) (j := j) (G := cPut b σ G) hz (by omega) (by omega) (by omega)
    have e5 : σ.1 5 j = nI (cN (t.2, j)) := by
      have := h5 j (t.2, 0 + j) (by rw [sEn_at, hs]; rfl)
      rw [Nat.zero_add] at this; exact this
    obtain ⟨f', a1, a2, a3⟩ := y_moveL (K := K) hp hr hb hz hsl hsg d n (j + 1) (cArr σ 0 (upd (σ.1 0) (31 * r + s + sFm z len j) (cE t))) (L.set (s + sFm z len j) t) (by omega) (by omega) (by rw [cArr_ne (by decide)]; exact h3) (by rw [cArr_ne (by decide)]; exact h4) (by rw [cArr_ne (by decide)]; exact h5) (by rw [cArr_at, Nat.add_assoc]; exact hL.set)
    rw [cArr_at] at a2
    refine ⟨f', ?_, cOut.trans (fun q hq => ?_) a2, ?_⟩
    · unfold f_I_moveOn_L20
      rw [if_neg (nI_ge (by omega) (by omega)), m1, bI_rI, c_ob_1, y_inSpare (e := (t.2, j)) (by omega) ⟨htk.1, by have := htk.2; simp only; omega, by simp only; omega⟩ e5, bI_rI, c_ob_1, y_write hp h3 h4 (by omega), bV_rV, nI_add]
      have : nI (32 * t.2.2 + t.2.1) = cE t := rfl
      rw [this, a1, cArr_cArr]
    · simp only [upd]
      rw [if_neg (by omega)]
    · rw [sMv, hs]; exact a3
theorem x_moveOn {exc : Int32} {σ : cS} {A : mS} {p r s m z : Nat} (h : CRepx exc σ A) (hw : mInw exc p A) (hv : mV A p) (hr : mRw A.2.1 zDp p = some (r, s)) (ht : ∀ t, t ∈ A.1 r → mTok m t) (hm : m ≤ 600) (hz : z < 81) (h1 : 0 < mLen A p) :
    ∃ σ', f_I_moveOn (cPut b σ G) (b + 1) (nI p) (Int32.ofInt ((z : Int) - 40)) = rV (cPut b σ' G) ∧ CRepx exc σ' (mRows A r (sMv (sFm z (mLen A p)) (sSeg A r s (mLen A p)) s 0 (mLen A p) (A.1 r))) := by
  have hr2 := mRw_lt _ _ _ _ hr
  have hp := hv.lt hw.1
  have hf := hw.2.1.rw _ _ _ _ hr
  have h31 := hw.2.2.1 r hr2
  obtain ⟨e3, e4⟩ := h.2.2.2.2.1 p r s hp hr
  have hsl := sSeg_len hf
  obtain ⟨f5, a1, a2⟩ := x_copySpare (b := b) (G := G) h hw hv hr ht hm
  obtain ⟨f', c1, c2, c3⟩ := y_moveL (b := b) (G := G) (K := fun G23 => rV G23) (r := r) (s := s) (z := z) (sg := sSeg A r s (mLen A p)) hp hr2 (by omega) hz hsl (fun i t hi => seg_ok ht hm hi) (mLen A p) zFu 0 (cArr σ 5 f5) (A.1 r) (by omega) (by unfold zFu; omega) (by rw [cArr_ne (by decide)]; exact e3) (by rw [cArr_ne (by decide)]; exact e4) (by rw [cArr_at]; exact a2) (by rw [cArr_ne (by decide)]; exact h.1.seg hr2)
  refine ⟨_, ?_, (h.spare f5).rows hw.2.2.1 (sMv_len _ _ _) c2 c3⟩
  unfold f_I_moveOn
  rw [c_ob_1, x_len h hw.1 hv, bI_rI, if_pos (nI_le (by omega) (by omega)), c_ob_1, a1, bV_rV, c1]
end All2
end
section
-- the reference: lists with their room told; copies
def alCap (len : Nat) : Nat := if len = 0 then 10 else len + (if 1 < len / 2 then len / 2 else 1)
def isALc (w : Nat → Nat) (G : gH) (a e cap : Nat) (xs : List Nat) : Prop := ∃ (m : Int32) (κ : Nat) (f : Nat → Option Nat), G.2.2 a = some (.inr (9, [.ref e, .int (nI xs.length), .int m])) ∧ G.2.2 e = some (zQ κ cap f) ∧ ((κ = 103 ∧ 0 < cap) ∨ (κ = 1103 ∧ e = w 0 ∧ cap = 0)) ∧ xs.length ≤ cap ∧ cap ≤ 1000 ∧ (∀ i, i < xs.length → f i = xs[i]?) ∧ ∀ i, i < xs.length → ∀ y, f i = some y → gEl G y
theorem isALc.al {w : Nat → Nat} {G : gH} {a e cap : Nat} {xs : List Nat} (h : isALc w G a e cap xs) : isAL w G a e xs := by
  obtain ⟨m, κ, f, h1, h2, h3, h4, h5, h6, h7⟩ := h
  exact ⟨m, κ, cap, f, h1, h2, h3, h4, h5, h6, h7⟩
theorem al_growc {w : Nat → Nat} {G : gH} {a e cap κ : Nat} {len : Nat} {m : Int32} {f : Nat → Option Nat} (hw : gWf G) (h1 : G.2.2 a = some (.inr (9, [.ref e, .int (nI len), .int m]))) (h2 : G.2.2 e = some (zQ κ cap f)) (h3 : (κ = 103 ∧ 0 < cap) ∨ (κ = 1103 ∧ e = w 0 ∧ cap = 0)) (hl : len = cap) (hb : len ≤ 40)
    (hel : ∀ i, i < len → ∀ y, f i = some y → gEl G y) :
    ∃ (cap' : Nat) (f' : Nat → Option Nat) (G' : gH), len < cap' ∧ (cap' ≤ 61 ∧ cap' = alCap len) ∧ (∀ i, i < len → f' i = f i) ∧ f_AL_grow1 w G a = rA G.2.1 G' ∧ G'.2.2 a = some (.inr (9, [.ref G.2.1, .int (nI len), .int m])) ∧ G'.2.2 G.2.1 = some (zQ 103 cap' f') ∧ gFr (fun q => q = a) 1 cap' G G' := by
  subst hl
  have ha : a < G.2.1 := hw _ _ h1
  have he : e < G.2.1 := hw _ _ h2
  have hk : κ % 1000 = 103 := by rcases h3 with ⟨rfl, -⟩ | ⟨rfl, -⟩ <;> rfl
  have e1 : nI len + nI 1 = nI (len + 1) := nI_add _ _
  have hgrow : ∃ (cap' : Nat) (f' : Nat → Option Nat) (G' : gH), len < cap' ∧ (cap' ≤ 61 ∧ cap' = alCap len) ∧ (∀ i, i < len → f' i = f i) ∧ f_AL_grow2 w G a (nI (len + 1)) = rA G.2.1 G' ∧ G'.2.2 a = some (.inr (9, [.ref G.2.1, .int (nI len), .int m])) ∧ G'.2.2 G.2.1 = some (zQ 103 cap' f') ∧ gFr (fun q => q = a) 1 cap' G G' := by
    unfold f_AL_grow2
    rw [gFA_of h1 rfl rfl, gLenq_of h2 hk]
    by_cases hz : len = 0
    · subst hz
      have hew : e = w 0 := by
        rcases h3 with ⟨-, h⟩ | ⟨-, h, -⟩
        · omega
        · exact h
      refine ⟨10, fun _ => none, gUp (gNew G 10 (zQ 103 10 (fun _ => none))) a (.inr (9, [.ref G.2.1, .int (nI 0), .int m])), by omega, ⟨by omega, rfl⟩, fun i hi => by omega, ?_, gUp_at, ?_, ?_⟩
      · rw [if_neg (show ¬ (0 : Int32) < nI 0 by decide), gFA_of h1 rfl rfl, if_pos hew, show (if nI 10 < nI (0 + 1) then nI (0 + 1) else nI 10) = nI 10 by decide, gNewQ_of (by omega), gPut_of (fs := [.ref e, .int (nI 0), .int m]) (by rw [gNew_ne (by omega)]; exact h1) (by simp)]
        rfl
      · rw [gUp_ne (by omega)]; exact gNew_at
      · refine ((gFr.new (P := fun q => q = a)).trans (gFr.up (G := gNew G 10 _) (a := a) (by show a < G.2.1 + 1; omega))).mono (fun q _ h => h) (by omega) (by omega)
    · have hκ : κ = 103 := by
        rcases h3 with ⟨h, -⟩ | ⟨-, -, h⟩
        · exact h
        · omega
      subst hκ
      generalize hc : len + (if 1 < len / 2 then len / 2 else 1) = cap'
      have hc1 : len < cap' := by rw [← hc]; split <;> omega
      have hc2 : cap' ≤ 61 := by rw [← hc]; split <;> omega
      have hc3 : cap' = alCap len := by rw [← hc]; unfold alCap; rw [if_neg hz]
      have hgl := gr_len len (by omega) (by omega)
      rw [hc] at hgl
      refine ⟨cap', va_cpy f (fun _ => none) 0 0 len, gUp (gUp (gNew G cap' (zQ 103 cap' (fun _ => none))) G.2.1 (zQ 103 cap' (va_cpy f (fun _ => none) 0 0 len))) a (.inr (9, [.ref G.2.1, .int (nI len), .int m])), hc1, ⟨hc2, hc3⟩, ?_, ?_, gUp_at, ?_, ?_⟩
      · intro i hi
        simp [va_cpy, hi]
      · rw [if_pos (show (0 : Int32) < nI len from nI_lt (a := 0) (by omega) (by omega))]
        unfold f_AS_newLength
        rw [hgl, if_neg (show ¬ nI cap' ≤ nI 0 from nI_ge (by omega) (by omega)), if_neg (nI_nlt (by omega) (by decide))]
        show gFA G a 9 0 _ = _
        rw [gFA_of h1 rfl rfl]
        unfold f_AR_copyOf2
        rw [gCaQ_of h2 rfl]
        unfold f_AR_copyOf3
        rw [if_pos rfl, gNewQ_of (by omega), gLenq_of (c := 103) (n := len) (f := f) (by rw [gNew_ne (by omega)]; exact h2) rfl, if_neg (nI_nlt (by omega) (by omega))]
        rw [gCpQ_of (c := 103) (n0 := len) (n1 := cap') (f := f) (g := fun _ => none) (by rw [gNew_ne (by omega)]; exact h2) rfl gNew_at (by omega) (by omega) (by omega) (by omega) (fun i hi y hy => ?_)]
        · show gPut _ a 9 0 _ _ = _
          rw [gPut_of (fs := [.ref e, .int (nI len), .int m]) (by rw [gUp_ne (by omega), gNew_ne (by omega)]; exact h1) (by simp)]
          rfl
        · rw [Nat.zero_add] at hy
          exact (hel i hi y hy).fr (gFr.new (P := fun _ => False)) hw (fun h => h)
      · rw [gUp_ne (by omega)]; exact gUp_at
      · refine ⟨Nat.le_succ _, Nat.le_refl _, Nat.le_add_right _ _, Nat.le_refl _, fun h => ?_, fun q hq hp => ?_⟩
        · exact (h.new.up (Nat.lt_succ_self _)).up (Nat.lt_succ_of_lt ha)
        · rw [gUp_ne hp, gUp_ne (by omega), gNew_ne (by omega)]
  obtain ⟨cap', f', G', g1, g2, g3, g4, g5⟩ := hgrow
  refine ⟨cap', f', G', g1, g2, g3, ?_, g5⟩
  unfold f_AL_grow1
  rw [gFI_of h1 rfl rfl, gOb_of h1 rfl, e1, g4]
  rfl
theorem al_addc {w : Nat → Nat} {G : gH} {a e y cap : Nat} {xs : List Nat} (hw : gWf G) (h : isALc w G a e cap xs) (hl : xs.length ≤ 40) (hy : gEl G y) (hae : a ≠ e) :
    ∃ (e' cap' : Nat) (G' : gH), f_AL_add2 w G a y = rI 1 G' ∧ isALc w G' a e' cap' (xs ++ [y]) ∧ a ≠ e' ∧ ((e' = e ∧ ∃ cap f, G.2.2 e = some (zQ 103 cap f)) ∨ e' = G.2.1) ∧ gFr (fun q => q = a ∨ (q = e ∧ e' = e)) (if xs.length = cap then 1 else 0) (if xs.length = cap then alCap cap else 0) G G' ∧ cap' = (if xs.length = cap then alCap cap else cap) ∧ ∀ z, gEl G z → gEl G' z := by
  obtain ⟨m, κ, f, h1, h2, h3, h4, h5, h6, h7⟩ := h
  have ha : a < G.2.1 := hw _ _ h1
  have he : e < G.2.1 := hw _ _ h2
  have hk : κ % 1000 = 103 := by rcases h3 with ⟨rfl, -⟩ | ⟨rfl, -⟩ <;> rfl
  generalize hG2 : gUp G a (.inr (9, [.ref e, .int (nI xs.length), .int (m + nI 1)])) = G2
  have b1 : G2.2.2 a = some (.inr (9, [.ref e, .int (nI xs.length), .int (m + nI 1)])) := by rw [← hG2]; exact gUp_at
  have b2 : G2.2.2 e = some (zQ κ cap f) := by rw [← hG2, gUp_ne (fun q => hae q.symm)]; exact h2
  have bw : gWf G2 := by rw [← hG2]; exact hw.up ha
  have bs : G2.2.1 = G.2.1 := by rw [← hG2]; rfl
  have bel : ∀ z, gEl G z → gEl G2 z := fun z hz => by rw [← hG2]; exact hz.upA h1
  have e1 : nI xs.length + nI 1 = nI (xs.length + 1) := nI_add _ _
  have start : ∀ r, f_AL_add3 w G2 a y e (nI xs.length) = r → f_AL_add2 w G a y = bV r fun G8 => rZ (nI 1) G8 := by
    intro r hr
    unfold f_AL_add2
    have hset : gUp G a (.inr (9, ([.ref e, .int (nI xs.length), .int m] : List Value).set 2 (.int (m + nI 1)))) = G2 := hG2
    rw [gFI_of h1 rfl rfl, gPut_of (ci := 9) h1 (by simp), hset, gFA_of b1 rfl rfl, gFI_of b1 rfl rfl, gOb_of b1 rfl, hr]
  by_cases hfull : xs.length = cap
  · rw [if_pos hfull, if_pos hfull, if_pos hfull]
    obtain ⟨cap', f', G3, c1, ⟨c2, cc⟩, c3, c4, c5, c6, c7⟩ := al_growc (w := w) bw b1 b2 h3 hfull (by omega) (fun i hi z hz => bel z (h7 i hi z hz))
    rw [bs] at c4 c5 c6
    have cel : ∀ z, gEl G z → gEl G3 z := fun z hz => by
      by_cases hza : z = a
      · exact Or.inl ⟨_, by rw [hza]; exact c5⟩
      · exact (bel z hz).fr c7 bw hza
    have hna : a ≠ G.2.1 := by omega
    have c5' : (gUp G3 G.2.1 (zQ 103 cap' (va_up f' xs.length (some y)))).2.2 a = some (.inr (9, [.ref G.2.1, .int (nI xs.length), .int (m + nI 1)])) := by rw [gUp_ne hna]; exact c5
    refine ⟨G.2.1, cap', gUp (gUp G3 G.2.1 (zQ 103 cap' (va_up f' xs.length (some y)))) a (.inr (9, [.ref G.2.1, .int (nI (xs.length + 1)), .int (m + nI 1)])), ?_, ?_, hna, Or.inr rfl, ?_, by rw [cc, hfull], ?_⟩
    · rw [start _ rfl]
      unfold f_AL_add3
      rw [gLenq_of b2 hk, hfull, if_pos rfl, gOb_of b1 rfl, c4]
      show bV (gStX G3 G.2.1 103 (nI cap) y _) _ = _
      rw [← hfull, gStX_of c6 c1 (by omega) (cel y hy), gPut_of (ci := 9) c5' (by simp), e1]
      exact rZ_1
    · refine ⟨m + nI 1, 103, va_up f' xs.length (some y), ?_, ?_, Or.inl ⟨rfl, by omega⟩, by simp; omega, by omega, ?_, ?_⟩
      · rw [gUp_at, List.length_append]; rfl
      · rw [gUp_ne (fun q => hna q.symm)]; exact gUp_at
      · intro i hi
        rw [List.length_append, List.length_singleton] at hi
        by_cases hix : i = xs.length
        · subst hix; simp [va_up]
        · simp only [va_up, if_neg hix]
          rw [c3 i (by omega), h6 i (by omega), List.getElem?_append_left (by omega)]
      · intro i hi z hz
        rw [List.length_append, List.length_singleton] at hi
        have hz2 : gEl G z := by
          by_cases hix : i = xs.length
          · subst hix; simp [va_up] at hz; subst hz; exact hy
          · simp only [va_up, if_neg hix] at hz
            rw [c3 i (by omega)] at hz
            exact h7 i (by omega) z hz
        exact ((cel z hz2).upQ c6).upA c5'
    · obtain ⟨d1, d2, d3, d4, d5, d6⟩ := c7
      have hs0 : G2.1 = G.1 := by rw [← hG2]; rfl
      rw [bs] at d1 d2
      rw [hs0] at d3 d4
      refine ⟨d1, d2, d3, by rw [← hfull, ← cc]; exact d4, fun h => ((d5 bw).up (d5 bw _ _ c6)).up (d5 bw _ _ c5), fun q hq hp => ?_⟩
      have hqa : q ≠ a := fun z => hp (Or.inl z)
      rw [gUp_ne hqa, gUp_ne (by omega), d6 q (by omega) hqa, ← hG2, gUp_ne hqa]
    · intro z hz
      exact ((cel z hz).upQ c6).upA c5'
  · have hlt : xs.length < cap := by omega
    have hκ : κ = 103 := by
      rcases h3 with ⟨h, -⟩ | ⟨-, -, h⟩
      · exact h
      · omega
    subst hκ
    rw [if_neg hfull, if_neg hfull, if_neg hfull]
    refine ⟨e, cap, gUp (gUp G2 e (zQ 103 cap (va_up f xs.length (some y)))) a (.inr (9, [.ref e, .int (nI (xs.length + 1)), .int (m + nI 1)])), ?_, ?_, hae, Or.inl ⟨rfl, cap, f, h2⟩, ?_, rfl, ?_⟩
    · rw [start _ rfl]
      unfold f_AL_add3
      rw [gLenq_of b2 rfl, if_neg (fun q => hfull ((nI_eq (by omega) (by omega)).mp q)), gStX_of b2 hlt (by omega) (bel y hy), gPut_of (ci := 9) (fs := [.ref e, .int (nI xs.length), .int (m + nI 1)]) (by rw [gUp_ne hae]; exact b1) (by simp), e1]
      exact rZ_1
    · refine ⟨m + nI 1, 103, va_up f xs.length (some y), ?_, ?_, Or.inl ⟨rfl, by omega⟩, by simp; omega, h5, ?_, ?_⟩
      · rw [gUp_at, List.length_append]; rfl
      · rw [gUp_ne (fun q => hae q.symm)]; exact gUp_at
      · intro i hi
        rw [List.length_append, List.length_singleton] at hi
        by_cases hix : i = xs.length
        · subst hix; simp [va_up]
        · simp only [va_up, if_neg hix]
          rw [h6 i (by omega), List.getElem?_append_left (by omega)]
      · intro i hi z hz
        rw [List.length_append, List.length_singleton] at hi
        have hz2 : gEl G z := by
          by_cases hix : i = xs.length
          · subst hix; simp [va_up] at hz; subst hz; exact hy
          · simp only [va_up, if_neg hix] at hz
            exact h7 i (by omega) z hz
        exact ((bel z hz2).upQ b2).upA (by rw [gUp_ne hae]; exact b1)
    · rw [← hG2]
      refine ⟨Nat.le_refl _, Nat.le_refl _, Nat.le_refl _, Nat.le_refl _, fun h => ((h.up ha).up he).up ha, fun q hq hp => ?_⟩
      rw [gUp_ne (fun z => hp (Or.inl z)), gUp_ne (fun z => hp (Or.inr ⟨z, rfl⟩)), gUp_ne (fun z => hp (Or.inl z))]
    · intro z hz
      exact ((bel z hz).upQ b2).upA (by rw [gUp_ne hae]; exact b1)
/-- the reference, its heap in order -/
def MS (w : Nat → Nat) (o : Nat) (G : gH) (A : mS) (D : mD) : Prop := gWf G ∧ mW0 w G ∧ MRep w G o A D
theorem mSt.old {k n : Nat} {G G' : gH} (h : mSt k n G G') (hw : gWf G) {q : Nat} {e : zE} (hq : G.2.2 q = some e) (he : ¬ mKd e) : G'.2.2 q = some e := by
  rw [h.1.2.2.2.2.2 q (hw _ _ hq) (fun ⟨z, hz, hk⟩ => he (by rw [hq] at hz; cases hz; exact hk)), hq]
theorem mSt.w0 {w : Nat → Nat} {k n : Nat} {G G' : gH} (h : mSt k n G G') (hw : gWf G) (h0 : mW0 w G) : mW0 w G' := by
  obtain ⟨f, hf⟩ := h0
  refine ⟨f, h.old hw hf ?_⟩
  rintro (⟨c, fs, e, -⟩ | ⟨c, n, f', e, hc⟩)
  · cases e
  · obtain ⟨rfl, -, -⟩ := zQ_inj (congrArg some e)
    omega
theorem MS.step {w : Nat → Nat} {o k n : Nat} {G G' : gH} {A A' : mS} {D D' : mD} (h : MS w o G A D) (hs : mSt k n G G') (hr : MRep w G' o A' D') : MS w o G' A' D' := ⟨hs.wf h.1, hs.w0 h.1 h.2.1, hr⟩
theorem mSet_mSet {A : mS} {j : Nat} {u v : Int32} : mSet (mSet A j u) j v = mSet A j v := by
  refine Prod.ext rfl (Prod.ext rfl (Prod.ext rfl ?_))
  funext k
  show (if k = j then v else if k = j then u else A.2.2.2 k) = if k = j then v else A.2.2.2 k
  by_cases e : k = j
  · rw [if_pos e, if_pos e]
  · rw [if_neg e, if_neg e, if_neg e]
theorem mSet_same {A : mS} {j : Nat} {v : Int32} (h : A.2.2.2 j = v) : mSet A j v = A := by
  refine Prod.ext rfl (Prod.ext rfl (Prod.ext rfl ?_))
  funext k
  show (if k = j then v else A.2.2.2 k) = A.2.2.2 k
  by_cases e : k = j
  · rw [if_pos e, e, h]
  · rw [if_neg e]
theorem mSt.own {k n : Nat} {G G' : gH} {o : Nat} {fs : List Value} (h : gFr (fun q => q = o) k n G G') (hk : gKeep G G') (ho : G.2.2 o = some (.inr (6, fs))) : mSt k n G G' :=
  ⟨h.mono (fun q _ e => by rw [e]; exact ⟨_, ho, Or.inl ⟨6, fs, rfl, by omega⟩⟩) (Nat.le_refl _) (Nat.le_refl _), hk⟩
section Ref1
variable {w : Nat → Nat} {G : gH} {o : Nat} {A : mS} {D : mD}
theorem MS.set (h : MS w o G A D) (j : Nat) (v : Int32) : MS w o (gUp G o (.inr (6, mOb (mSet A j v) D))) (mSet A j v) D ∧ mSt 0 0 G (gUp G o (.inr (6, mOb (mSet A j v) D))) := by
  have s := mSt.up (e' := .inr (6, mOb (mSet A j v) D)) h.1 h.2.2.1 (Or.inl ⟨6, _, rfl, by omega⟩) (fun _ q => by cases q)
  exact ⟨h.step s (h.2.2.setI j v), s⟩
theorem s_start0 (h : MS w o G A D) (code : Int32) : ∃ G', f_M_start G o 0 code = rI 0 G' ∧ MS w o G' (mSet A 0 0) D ∧ mSt 0 0 G G' := by
  have e0 : (mSet A 0 (nI 0)).2.2.2 0 = 0 := rfl
  obtain ⟨h1, s1⟩ := h.set 0 (nI 0)
  refine ⟨_, ?_, h1, s1⟩
  unfold f_M_start f_M_refuse
  rw [m_put h.2.2 (j := 0) (i := 0) (by omega) rfl, gOb_of h1.2.2.1 rfl, if_pos rfl, m_int h1.2.2 (j := 0) (i := 0) (by omega) rfl, e0, if_pos (by decide), rZ_0]; rfl
theorem s_start1 (h : MS w o G A D) {code : Int32} (hc : ¬ code ≤ 0) : ∃ G', f_M_start G o 1 code = rI 1 G' ∧ MS w o G' (mSet A 0 code) D ∧ mSt 0 0 G G' := by
  have e0 : (mSet A 0 (nI 0)).2.2.2 0 = 0 := rfl
  obtain ⟨h1, s1⟩ := h.set 0 (nI 0)
  obtain ⟨h2, s2⟩ := h1.set 0 code
  rw [mSet_mSet] at h2 s2
  refine ⟨_, ?_, h2, (s1.trans s2).mono (by omega) (by omega)⟩
  unfold f_M_start f_M_refuse
  rw [m_put h.2.2 (j := 0) (i := 0) (by omega) rfl, gOb_of h1.2.2.1 rfl, if_neg (by decide), m_int h1.2.2 (j := 0) (i := 0) (by omega) rfl, e0, if_pos rfl, m_put h1.2.2 (j := 0) (i := 0) (by omega) rfl, mSet_mSet, m_int h2.2.2 (j := 0) (i := 0) (by omega) rfl]
  show bI (if code ≤ 0 then _ else _) _ = _
  rw [if_neg hc, rZ_1]; rfl
theorem s_refuse0 (h : MS w o G A D) (code : Int32) (h0 : A.2.2.2 0 = 0) : f_M_refuse G o 0 code = rI 0 G := by
  unfold f_M_refuse
  rw [if_pos rfl, m_int h.2.2 (j := 0) (i := 0) (by omega) rfl, h0, if_pos (by decide), rZ_0]
theorem s_refuse1 (h : MS w o G A D) {code : Int32} (hc : ¬ code ≤ 0) (h0 : A.2.2.2 0 = 0) : ∃ G', f_M_refuse G o 1 code = rI 1 G' ∧ MS w o G' (mSet A 0 code) D ∧ mSt 0 0 G G' := by
  obtain ⟨h2, s2⟩ := h.set 0 code
  refine ⟨_, ?_, h2, s2⟩
  unfold f_M_refuse
  rw [if_neg (by decide), m_int h.2.2 (j := 0) (i := 0) (by omega) rfl, h0, if_pos rfl, m_put h.2.2 (j := 0) (i := 0) (by omega) rfl, m_int h2.2.2 (j := 0) (i := 0) (by omega) rfl]
  show (if code ≤ 0 then _ else _) = _
  rw [if_neg hc, rZ_1]
theorem s_noList (h : MS w o G A D) (x : Int32) : (mIsL A x → f_M_isNoList G o x = rI 0 G) ∧ (¬ mIsL A x → f_M_isNoList G o x = rI 1 G) := by
  have dd : Decidable (mIsL A x) := Classical.propDecidable _
  have e := m_isNoList h.2.2 x
  refine ⟨fun k => ?_, fun k => ?_⟩
  · rw [e, decide_eq_false (fun q => q k)]
    show rZ (nI 0) G = _
    exact rZ_0
  · rw [e, decide_eq_true k]
    show rZ (nI 1) G = _
    exact rZ_1
theorem s_isIn (G : gH) (L : Nat) (hL : L < 100) (x : Int32) : (mIsG L x → f_M_isIn G x (nI 0) (nI L) = rI 1 G) ∧ (¬ mIsG L x → f_M_isIn G x (nI 0) (nI L) = rI 0 G) := by
  have e := nI_gap (L := L) (x := x) (by omega)
  have e0 : nI 0 = (0 : Int32) := rfl
  unfold f_M_isIn
  rw [e0]
  refine ⟨fun k => ?_, fun k => ?_⟩
  · rw [if_neg (e.mp k).1]
    have h2 := (e.mp k).2
    rw [if_neg (fun q => Int32.lt_irrefl (Int32.lt_of_lt_of_le q h2)), rZ_1]
  · by_cases h1 : x < 0
    · rw [if_pos h1]; exact rZ_0
    · rw [if_neg h1]
      by_cases h2 : nI L < x
      · rw [if_pos h2]; exact rZ_0
      · exact absurd (e.mpr ⟨h1, Int32.not_lt.mp h2⟩) k
theorem s_len (h : MS w o G A D) (hok : mOk A.2.1) {p : Nat} (hv : mV A p) : f_M_length G o (nI p) = rI (nI (mLen A p)) G := m_length h.2.2 (hv.lt hok) hv
theorem s_at (h : MS w o G A D) (hok : mOk A.2.1) {p r s i : Nat} {t : Nat × Nat × Nat} (hv : mV A p) (hr : mRw A.2.1 zDp p = some (r, s)) (ht : (A.1 r)[s + i]? = some t) : f_M_at G o (nI p) (nI i) = rA t.1 G := m_at h.2.2 (hv.lt hok) hr ht
theorem s_th (h : MS w o G A D) {r i : Nat} {t : Nat × Nat × Nat} (hr : r < 2) (ht : (A.1 r)[i]? = some t) : mTh G t.1 t.2 := h.2.2.2.2.2.2.2.1 r hr t (List.mem_of_getElem? ht)
theorem mTh.key {x : Nat} {t : Nat × Nat} {k : Int32 → gR} (h : mTh G x t) : gLd G x 100 (nI 0) k = k (nI t.1) := by
  obtain ⟨g, h1, h2, -⟩ := h
  unfold gLd gAr; rw [h1]
  simp only [zI]
  rw [if_pos trivial, if_pos (gIn_nI (by omega) (by omega)), nI_clamp (by omega), h2]
theorem mTh.tag {x : Nat} {t : Nat × Nat} {k : Int32 → gR} (h : mTh G x t) : gLd G x 100 (nI 1) k = k (nI t.2) := by
  obtain ⟨g, h1, -, h2⟩ := h
  unfold gLd gAr; rw [h1]
  simp only [zI]
  rw [if_pos trivial, if_pos (gIn_nI (by omega) (by omega)), nI_clamp (by omega), h2]
theorem mTh.cast {x : Nat} {t : Nat × Nat} {k : gR} (h : mTh G x t) : gCaA G x 100 k = k := by
  obtain ⟨g, h1, -, -⟩ := h
  unfold gCaA gAr; rw [h1]
  simp only [zI]
  rw [if_pos trivial]
/-- a copy's room: its cells' number, their slots -/
def alT (cap c s : Nat) : Prop := (cap = 0 ∧ c = 0 ∧ s = 0) ∨ (cap = 10 ∧ c = 1 ∧ s = 10) ∨ (cap = 15 ∧ c = 2 ∧ s = 25) ∨ (cap = 22 ∧ c = 3 ∧ s = 47) ∨ (cap = 33 ∧ c = 4 ∧ s = 80)
theorem alT.next {cap c s : Nat} (h : alT cap c s) (hc : cap ≤ 30) : alT (alCap cap) (c + 1) (s + alCap cap) := by
  rcases h with ⟨rfl, rfl, rfl⟩ | ⟨rfl, rfl, rfl⟩ | ⟨rfl, rfl, rfl⟩ | ⟨rfl, rfl, rfl⟩ | ⟨rfl, rfl, rfl⟩
  · exact Or.inr (Or.inl ⟨rfl, rfl, rfl⟩)
  · exact Or.inr (Or.inr (Or.inl ⟨rfl, rfl, rfl⟩))
  · exact Or.inr (Or.inr (Or.inr (Or.inl ⟨rfl, rfl, rfl⟩)))
  · exact Or.inr (Or.inr (Or.inr (Or.inr ⟨rfl, rfl, rfl⟩)))
  · omega
/-- the same below z -/
def gB (z : Nat) (G G' : gH) : Prop := ∀ q, q < z → G'.2.2 q = G.2.2 q
theorem m_copyL {K : gH → Nat → gR} {G0 : gH} {p r s a : Nat} (h0 : MS w o G0 A D) (hok : mOk A.2.1) (hv : mV A p) (hr : mRw A.2.1 zDp p = some (r, s)) (hfit : s + mLen A p ≤ (A.1 r).length) (h31 : (A.1 r).length ≤ 31) (ha : G0.2.1 ≤ a) : ∀ (d n j c sl cap e : Nat) (G : gH), j + d = mLen A p → d < n → gB G0.2.1 G0 G → gWf G → isALc w G a e cap (((sSeg A r s (mLen A p)).take j).map fun t => t.1) → a ≠ e → (G0.2.1 ≤ e ∨ e = w 0) → G0.2.1 ≤ G.2.1 → G.2.1 ≤ G0.2.1 + 1 + c → G0.1 ≤ G.1 → G.1 ≤ G0.1 + 3 + sl → alT cap c sl →
    ∃ G' e' cap', f_M_copy_L10 w K n G o (nI p) a (nI j) = K G' a ∧ isALc w G' a e' cap' ((sSeg A r s (mLen A p)).map fun t => t.1) ∧ a ≠ e' ∧ (G0.2.1 ≤ e' ∨ e' = w 0) ∧ gB G0.2.1 G0 G' ∧ gWf G' ∧ G0.2.1 ≤ G'.2.1 ∧ G'.2.1 ≤ G0.2.1 + 5 ∧ G0.1 ≤ G'.1 ∧ G'.1 ≤ G0.1 + 83
  | _, 0, _, _, _, _, _, _, _, h, _, _, _, _, _, _, _, _, _, _ => absurd h (Nat.not_lt_zero _)
  | 0, n + 1, j, c, sl, cap, e, G, hj, _, hB, hw, hal, hae, he, g1, g2, g3, g4, hT => by
    have hsl := sSeg_len hfit
    have hM : MS w o G A D := ⟨hw, by obtain ⟨f, hf⟩ := h0.2.1; exact ⟨f, by rw [hB _ (h0.1 _ _ hf)]; exact hf⟩, h0.2.2.new h0.1 hB⟩
    have e1 : (sSeg A r s (mLen A p)).take j = sSeg A r s (mLen A p) := List.take_of_length_le (by omega)
    rw [e1] at hal
    refine ⟨G, e, cap, ?_, hal, hae, he, hB, hw, g1, ?_, g3, ?_⟩
    · unfold f_M_copy_L10
      rw [gOb_of hM.2.2.1 rfl, s_len hM hok hv, bI_rI, if_pos (nI_le (by omega) (by omega))]
    · rcases hT with ⟨-, rfl, -⟩ | ⟨-, rfl, -⟩ | ⟨-, rfl, -⟩ | ⟨-, rfl, -⟩ | ⟨-, rfl, -⟩ <;> omega
    · rcases hT with ⟨-, -, rfl⟩ | ⟨-, -, rfl⟩ | ⟨-, -, rfl⟩ | ⟨-, -, rfl⟩ | ⟨-, -, rfl⟩ <;> omega
  | d + 1, n + 1, j, c, sl, cap, e, G, hj, hn, hB, hw, hal, hae, he, g1, g2, g3, g4, hT => by
    have hsl := sSeg_len hfit
    have hM : MS w o G A D := ⟨hw, by obtain ⟨f, hf⟩ := h0.2.1; exact ⟨f, by rw [hB _ (h0.1 _ _ hf)]; exact hf⟩, h0.2.2.new h0.1 hB⟩
    have hjs : j < (sSeg A r s (mLen A p)).length := by omega
    have hs := List.getElem?_eq_getElem hjs
    generalize ht : (sSeg A r s (mLen A p))[j] = t at hs
    have hs' : (A.1 r)[s + j]? = some t := by rw [← sSeg_at (n := mLen A p) (by omega)]; exact hs
    have hth := s_th hM (mRw_lt _ _ _ _ hr) hs'
    obtain ⟨gg, hg1, -, -⟩ := id hth
    have hlen : ((((sSeg A r s (mLen A p)).take j).map fun t => t.1)).length = j := by rw [List.length_map, List.length_take]; omega
    have hcap : j ≤ cap := by
      obtain ⟨m, κ, f, -, -, -, q, -⟩ := hal
      omega
    obtain ⟨f0, hf0⟩ := hM.2.1
    obtain ⟨e', cap', G', z1, z2, z3, z4, z5, z6, z7⟩ := al_addc (y := t.1) hw hal (by omega) (Or.inr ⟨_, _, hg1⟩) hae
    rw [hlen] at z5 z6
    have hxs : (((sSeg A r s (mLen A p)).take j).map fun t => t.1) ++ [t.1] = (((sSeg A r s (mLen A p)).take (j + 1)).map fun t => t.1) := by
      rw [List.take_succ, hs]; simp
    rw [hxs] at z2
    have hnw : e' = e → e ≠ w 0 := by
      intro e1 e2
      rcases z4 with ⟨-, cp, fp, q⟩ | q
      · rw [e2, hf0] at q
        have := (zQ_inj q).1
        omega
      · obtain ⟨m, κ, f, -, q2, -⟩ := hal
        have := hw _ _ q2
        omega
    have hB' : gB G0.2.1 G0 G' := by
      intro q hq
      rw [z5.2.2.2.2.2 q (by omega) (by
        rintro (q1 | ⟨q1, q2⟩)
        · omega
        · rcases he with k | k
          · omega
          · exact hnw q2 k)]
      exact hB q hq
    have he' : G0.2.1 ≤ e' ∨ e' = w 0 := by
      rcases z4 with ⟨q, -⟩ | q
      · rw [q]; exact he
      · exact Or.inl (by omega)
    have hstep : f_M_copy_L10 w K (n + 1) G o (nI p) a (nI j) = f_M_copy_L10 w K n G' o (nI p) a (nI (j + 1)) := by
      obtain ⟨m, κ, f, q1, -⟩ := hal
      rw [f_M_copy_L10, gOb_of hM.2.2.1 rfl, s_len hM hok hv, bI_rI, if_neg (nI_ge (by omega) (by omega)), gOb_of hM.2.2.1 rfl, s_at hM hok hv hr hs', bA_rA, gOb_of q1 rfl, z1, bI_rI, nI_add]
    obtain ⟨y1, y2, y3, y4, y5, -⟩ := z5
    by_cases hf : j = cap
    · rw [if_pos hf] at y2 y4 z6
      obtain ⟨G'', e'', cap'', r1, r2⟩ := m_copyL (K := K) h0 hok hv hr hfit h31 ha d n (j + 1) (c + 1) (sl + alCap cap) cap' e' G' (by omega) (by omega) hB' (y5 hw) z2 z3 he' (by omega) (by omega) (by omega) (by omega) (by rw [z6]; exact hT.next (by omega))
      exact ⟨G'', e'', cap'', hstep.trans r1, r2⟩
    · rw [if_neg hf] at y2 y4 z6
      obtain ⟨G'', e'', cap'', r1, r2⟩ := m_copyL (K := K) h0 hok hv hr hfit h31 ha d n (j + 1) c sl cap' e' G' (by omega) (by omega) hB' (y5 hw) z2 z3 he' (by omega) (by omega) (by omega) (by omega) (by rw [z6]; exact hT)
      exact ⟨G'', e'', cap'', hstep.trans r1, r2⟩
/-- a list's things, copied -/
theorem s_copy {p r s : Nat} (h : MS w o G A D) (hok : mOk A.2.1) (hv : mV A p) (hr : mRw A.2.1 zDp p = some (r, s)) (hfit : s + mLen A p ≤ (A.1 r).length) (h31 : (A.1 r).length ≤ 31) :
    ∃ G' e cap, f_M_copy w G o (nI p) = rA G.2.1 G' ∧ isALc w G' G.2.1 e cap ((sSeg A r s (mLen A p)).map fun t => t.1) ∧ G.2.1 ≠ e ∧ (G.2.1 ≤ e ∨ e = w 0) ∧ gB G.2.1 G G' ∧ MS w o G' A D ∧ mSt 5 83 G G' := by
  obtain ⟨f0, hf0⟩ := h.2.1
  have hw0 : w 0 < G.2.1 := h.1 _ _ hf0
  have hwN : gWf (gNew G 3 (.inr (9, [.null, .int 0, .int 0]))) := h.1.new
  obtain ⟨G1, a1, a2, a3, a4⟩ := al_init (w := w) (G := gNew G 3 (.inr (9, [.null, .int 0, .int 0]))) (a := G.2.1) hwN gNew_at rfl (by rw [gNew_ne (by omega)]; exact hf0) (by omega)
  have hB1 : gB G.2.1 G G1 := by
    intro q hq
    rw [a3.2.2.2.2.2 q (show q < G.2.1 + 1 by omega) (by omega), gNew_ne (by omega)]
  have hb : G1.2.1 = G.2.1 + 1 ∧ G1.1 = G.1 + 3 := by
    obtain ⟨b1, b2, b3, b4, -⟩ := a3
    have e1 : (gNew G 3 (.inr (9, [.null, .int 0, .int 0]))).2.1 = G.2.1 + 1 := rfl
    have e2 : (gNew G 3 (.inr (9, [.null, .int 0, .int 0]))).1 = G.1 + 3 := rfl
    omega
  have hc : isALc w G1 G.2.1 (w 0) 0 (((sSeg A r s (mLen A p)).take 0).map fun t => t.1) := by
    obtain ⟨m, κ, cap, f, q1, q2, q3, q4, q5, q6, q7⟩ := a2
    have e0 : G1.2.2 (w 0) = some (zQ 1103 0 f0) := by rw [hB1 _ hw0]; exact hf0
    rw [e0] at q2
    obtain ⟨rfl, rfl, rfl⟩ := zQ_inj q2
    exact ⟨m, 1103, f0, q1, e0, Or.inr ⟨rfl, rfl, rfl⟩, by simp, by omega, fun i hi => by simp at hi, fun i hi => by simp at hi⟩
  obtain ⟨G', e', cap', r1, r2, r3, r4, r5, r6, r7, r8, r9, r10⟩ := m_copyL (K := fun G22 x21 => rA x21 G22) (a := G.2.1) h hok hv hr hfit h31 (Nat.le_refl _) (mLen A p) zFu 0 0 0 0 (w 0) G1 (by omega) (by unfold zFu; omega) hB1 (a3.2.2.2.2.1 hwN) hc (by omega) (Or.inr rfl) (by omega) (by omega) (by omega) (by omega) (Or.inl ⟨rfl, rfl, rfl⟩)
  have hS : mSt 5 83 G G' := ⟨⟨r7, r8, r9, r10, fun _ => r6, fun q hq _ => r5 q hq⟩, gKeep.new h.1 r5⟩
  refine ⟨G', e', cap', ?_, r2, r3, r4, r5, h.step hS (h.2.2.new h.1 r5), hS⟩
  unfold f_M_copy gNewO
  show bV (f_AL_init w (gNew G 3 (.inr (9, [.null, .int 0, .int 0]))) G.2.1) _ = _
  rw [a1, bV_rV]
  exact r1
end Ref1
end
section
-- the reference: its rows
theorem dRow_id {D : mD} {r : Nat} : dRow D r (D.2.2.1 r) = D := by
  refine Prod.ext rfl (Prod.ext rfl (Prod.ext ?_ rfl))
  funext i
  show (if i = r then D.2.2.1 r else D.2.2.1 i) = D.2.2.1 i
  by_cases e : i = r
  · rw [if_pos e, e]
  · rw [if_neg e]
theorem isALc.frame {w : Nat → Nat} {G G' : gH} {a e cap : Nat} {xs : List Nat} (h : isALc w G a e cap xs) (ha : G'.2.2 a = G.2.2 a) (he : G'.2.2 e = G.2.2 e) (hk : gKeep G G') : isALc w G' a e cap xs := by
  obtain ⟨m, κ, f, h1, h2, h3, h4, h5, h6, h7⟩ := h
  exact ⟨m, κ, f, by rw [ha]; exact h1, by rw [he]; exact h2, h3, h4, h5, h6, fun i hi y hy => hk y (h7 i hi y hy)⟩
/-- a list of one's own, apart from the reference's -/
def mAp (w : Nat → Nat) (D : mD) (a e : Nat) : Prop := ∀ i, i < 2 → a ≠ D.2.1 i ∧ (e ≠ D.2.2.1 i ∨ e = w 0)
theorem mChOk_of {z : Int} {ρ : Nat → Nat} : ∀ (d : Nat) (A : mS) (p : Nat), (∀ q x, A.2.1 q = some x → x.1 < 2 ∨ (A.2.1 x.1 ≠ none ∧ ρ x.1 < ρ q)) → (∀ q x, 2 ≤ q → A.2.1 q = some x → mAb A.2.1 d q p = true → 0 ≤ (x.2.2 : Int) + z ∧ (x.2.2 : Int) + z < 100) → mChOk z d A p
  | 0, _, _, _, _ => True.intro
  | d + 1, A, p, hρ, h => by
    unfold mChOk
    by_cases h2 : p < 2
    · exact Or.inl h2
    · refine Or.inr ?_
      cases hx : A.2.1 p with
      | none => exact True.intro
      | some y =>
        refine ⟨h p y (by omega) hx (by rw [mAb_s, if_pos rfl]), mChOk_of (ρ := ρ) d _ _ ?_ ?_⟩
        · intro q x hq
          have hq' : va_up A.2.1 p (some (y.1, y.2.1, ((y.2.2 : Int) + z).toNat)) q = some x := hq
          have hz : x.1 < 2 ∨ (A.2.1 x.1 ≠ none ∧ ρ x.1 < ρ q) := by
            simp only [va_up] at hq'
            by_cases e : q = p
            · rw [if_pos e] at hq'; cases hq'; rw [e]; exact hρ p y hx
            · rw [if_neg e] at hq'; exact hρ q x hq'
          refine hz.imp_right (fun k => ⟨?_, k.2⟩)
          show va_up A.2.1 p _ x.1 ≠ none
          simp only [va_up]
          by_cases e : x.1 = p
          · rw [if_pos e]; exact Option.some_ne_none _
          · rw [if_neg e]; exact k.1
        · intro q x hq2 hq hab
          have hab' : mAb A.2.1 d q y.1 = true := by
            have : mAb (va_up A.2.1 p (some (y.1, y.2.1, ((y.2.2 : Int) + z).toNat))) d q y.1 = true := hab
            rw [mAb_va hx] at this; exact this
          have hqp : q ≠ p := by
            rintro rfl
            have h5 := mAb_rank hρ d q y.1 hq2 hab'
            rcases hρ q y hx with k | k
            · omega
            · have := k.2; omega
          have hq' : va_up A.2.1 p (some (y.1, y.2.1, ((y.2.2 : Int) + z).toNat)) q = some x := hq
          simp only [va_up, if_neg hqp] at hq'
          exact h q x hq2 hq' (by rw [mAb_s, if_neg hqp, if_neg h2, hx]; exact hab')
section Ref2
variable {w : Nat → Nat} {G : gH} {o : Nat} {A : mS} {D : mD}
theorem s_take {p r s i : Nat} {t : Nat × Nat × Nat} (h : MS w o G A D) (hok : mOk A.2.1) (hv : mV A p) (hr : mRw A.2.1 zDp p = some (r, s)) (hi : (A.1 r)[s + i]? = some t) :
    ∃ G', f_M_take G o (nI p) (nI i) = rA t.1 G' ∧ MS w o G' (mRows A r ((A.1 r).eraseIdx (s + i))) D ∧ mSt 0 0 G G' ∧ mTh G' t.1 t.2 ∧ gFr (fun q => q = D.2.1 r ∨ q = D.2.2.1 r) 0 0 G G' := by
  obtain ⟨G', a1, a2, a3, a4, a5⟩ := m_take h.1 h.2.2 h.2.1 (hv.lt hok) hr hi
  rw [dRow_id] at a2
  exact ⟨G', a1, h.step a3 a2, a3, a4, a5⟩
theorem s_come {p r s i : Nat} {t : Nat × Nat × Nat} (h : MS w o G A D) (hok : mOk A.2.1) (hv : mV A p) (hr : mRw A.2.1 zDp p = some (r, s)) (hi : s + i ≤ (A.1 r).length) (hl : (A.1 r).length ≤ 30) (ht : mTh G t.1 t.2) :
    ∃ G' e', f_M_come w G o (nI p) (nI i) t.1 = rV G' ∧ MS w o G' (mRows A r ((A.1 r).insertIdx (s + i) t)) (dRow D r e') ∧ mSt 1 61 G G' ∧ ((e' = D.2.2.1 r ∧ ∃ cap f, G.2.2 (D.2.2.1 r) = some (zQ 103 cap f)) ∨ e' = G.2.1) ∧ gFr (fun q => q = D.2.1 r ∨ (q = D.2.2.1 r ∧ e' = D.2.2.1 r)) 1 61 G G' := by
  obtain ⟨G', e', a1, a2, a3, a4, a5⟩ := m_come h.1 h.2.2 h.2.1 (hv.lt hok) hr hi hl ht
  exact ⟨G', e', a1, h.step a3 a2, a3, a4, a5⟩
theorem s_comeL {r a e cap : Nat} {e' : Nat} {xs : List Nat} {G' : gH} (h : MS w o G A D) (hr : r < 2) (hl : isALc w G a e cap xs) (hap : mAp w D a e) (h4 : (e' = D.2.2.1 r ∧ ∃ cap f, G.2.2 (D.2.2.1 r) = some (zQ 103 cap f)) ∨ e' = G.2.1) (h5 : gFr (fun q => q = D.2.1 r ∨ (q = D.2.2.1 r ∧ e' = D.2.2.1 r)) 1 61 G G') (hk : gKeep G G') : isALc w G' a e cap xs ∧ mAp w (dRow D r e') a e := by
  have hrow := h.2.2.2.2.1 r hr
  have n1 := hl.al.ne hrow
  have n2 := hrow.ne hl.al
  have p1 := hap r hr
  obtain ⟨f0, hf0⟩ := h.2.1
  obtain ⟨m, κ, f, q1, q2, -⟩ := id hl
  have ha := h.1 _ _ q1
  have he := h.1 _ _ q2
  refine ⟨hl.frame (h5.2.2.2.2.2 a ha ?_) (h5.2.2.2.2.2 e he ?_) hk, fun i hi => ⟨(hap i hi).1, ?_⟩⟩
  · rintro (q | ⟨q, -⟩)
    · exact p1.1 q
    · exact n1 q
  · rintro (q | ⟨q, q3⟩)
    · exact n2 q.symm
    · rcases p1.2 with k | k
      · exact k q
      · rcases h4 with ⟨-, cp, fp, z⟩ | z
        · rw [← q, k, hf0] at z
          have := (zQ_inj z).1
          omega
        · have : D.2.2.1 r < G.2.1 := by
            obtain ⟨m', κ', cap', f', -, z2, -⟩ := hrow
            exact h.1 _ _ z2
          omega
  · show e ≠ (if i = r then e' else D.2.2.1 i) ∨ e = w 0
    by_cases hir : i = r
    · rw [if_pos hir]
      rcases h4 with ⟨z, -⟩ | z
      · rw [z]; exact p1.2
      · exact Or.inl (by omega)
    · rw [if_neg hir]; exact (hap i hi).2
theorem s_write {p r s i : Nat} {t u : Nat × Nat × Nat} (h : MS w o G A D) (hok : mOk A.2.1) (hv : mV A p) (hr : mRw A.2.1 zDp p = some (r, s)) (hi : (A.1 r)[s + i]? = some t) (hu : mTh G u.1 u.2) :
    ∃ G', f_M_write G o (nI p) (nI i) u.1 = rA t.1 G' ∧ MS w o G' (mRows A r ((A.1 r).set (s + i) u)) D ∧ mSt 0 0 G G' ∧ mTh G' t.1 t.2 ∧ gFr (fun q => q = D.2.2.1 r) 0 0 G G' := by
  have hr2 := mRw_lt _ _ _ _ hr
  have hp := hv.lt hok
  have hrow := h.2.2.2.2.1 r hr2
  have hlt : s + i < (A.1 r).length := (List.getElem?_eq_some_iff.mp hi).1
  have ht := s_th h hr2 hi
  obtain ⟨gu, hu1, -, -⟩ := id hu
  obtain ⟨cap, f, a1, a2⟩ := al_set (i := s + i) (x := t.1) (y := u.1) hrow (by rw [List.getElem?_map, hi]; rfl) (Or.inr ⟨_, _, hu1⟩)
  have hae := hrow.ne hrow
  generalize hG' : gUp G (D.2.2.1 r) (zQ 103 cap (va_up f (s + i) (some u.1))) = G' at a2
  have hfr : gFr (fun q => q = D.2.2.1 r) 0 0 G G' := by rw [← hG']; exact gFr.up (h.1 _ _ a1)
  have hk : gKeep G G' := fun y hy => by rw [← hG']; exact hy.upQ a1
  have hS : mSt 0 0 G G' := ⟨hfr.mono (fun q _ e => by rw [e]; exact ⟨_, a1, Or.inr ⟨_, _, _, rfl, by decide⟩⟩) (Nat.le_refl _) (Nat.le_refl _), hk⟩
  have hsame : ∀ q z, G.2.2 q = some z → (∀ c n f, z ≠ zQ c n f) → G'.2.2 q = some z := by
    intro q z hq hz
    rw [← hG', gUp_ne, hq]
    rintro rfl
    rw [a1] at hq
    exact hz _ _ _ (Option.some.inj hq).symm
  have hth : ∀ x, mTh G x.1 x.2 → ∀ x' : Nat × Nat × Nat, x' = x → mTh G' x'.1 x'.2 := by
    intro x hx x' e
    obtain ⟨g', j1, j2⟩ := hx
    rw [e]
    exact ⟨g', hsame _ _ j1 (fun _ _ _ q => by cases q), j2⟩
  have hal := hrow.set (i := s + i) (by rw [List.length_map]; exact hlt) (Or.inr ⟨_, _, hu1⟩) a1 hae
  rw [hG'] at hal
  have hR : MRep w G' o (mRows A r ((A.1 r).set (s + i) u)) D := by
    have z := h.2.2.row (e' := D.2.2.1 r) (ts := (A.1 r).set (s + i) u) h.1 h.2.1 hr2 (by rw [List.map_set]; exact hal) (Or.inl ⟨rfl, cap, f, a1⟩) (fun q hq hn => hfr.2.2.2.2.2 q hq (fun e => hn (Or.inr ⟨e, rfl⟩))) hk (fun t' ht' => ?_) (by rw [List.length_set]; exact h.2.2.2.2.2.2.2.2.2.2.2 r hr2)
    · rw [dRow_id] at z; exact z
    · rcases set_mem ht' with k | k
      · exact hth _ (h.2.2.2.2.2.2.2.1 r hr2 t' k) _ rfl
      · exact hth u hu _ k
  refine ⟨G', ?_, h.step hS hR, hS, hth t ht _ rfl, hfr⟩
  obtain ⟨m, κ, cap', f', q1, -⟩ := id hrow
  obtain ⟨g', j1, -⟩ := hth t ht _ rfl
  unfold f_M_write
  rw [gOb_of h.2.2.1 rfl, m_row h.2.2 hp hr, bA_rA, gOb_of h.2.2.1 rfl, m_base h.2.2 _ _ _ _ hp hr, bI_rI, gOb_of q1 rfl, nI_add, a2, bA_rA]
  unfold gCaA gAr
  rw [j1]; rfl
theorem s_writeL {r a e cap : Nat} {xs : List Nat} {G' : gH} (h : MS w o G A D) (hr : r < 2) (hne : A.1 r ≠ []) (hl : isALc w G a e cap xs) (hap : mAp w D a e) (h5 : gFr (fun q => q = D.2.2.1 r) 0 0 G G') (hk : gKeep G G') : isALc w G' a e cap xs := by
  have hrow := h.2.2.2.2.1 r hr
  have n1 := hl.al.ne hrow
  have p1 := hap r hr
  obtain ⟨f0, hf0⟩ := h.2.1
  obtain ⟨m, κ, f, q1, q2, -⟩ := id hl
  refine hl.frame (h5.2.2.2.2.2 a (h.1 _ _ q1) n1) (h5.2.2.2.2.2 e (h.1 _ _ q2) (fun q => ?_)) hk
  rcases p1.2 with k | k
  · exact k q
  · obtain ⟨m', κ', cap', f', z1, z2, z3, z4, -⟩ := hrow
    rw [← q, k, hf0] at z2
    obtain ⟨-, e2, -⟩ := zQ_inj z2
    rw [List.length_map] at z4
    have : (A.1 r).length = 0 := by omega
    exact hne (List.length_eq_zero_iff.mp this)
theorem s_change {exc : Int32} {p r s : Nat} {z : Int} {ts : List (Nat × Nat × Nat)} (h : MS w o G (mRows A r ts) D) (hw : mInw exc p A) (hv : mV A p) (hr : mRw A.2.1 zDp p = some (r, s)) (hz : -100 < z ∧ z < 100) (hpos : 0 ≤ (mLen A p : Int) + z) (hup : ((A.1 r).length : Int) + z ≤ 31) :
    ∃ (G' : gH) (D' : (Nat → Option Nat) × (Nat → Option Nat)), f_M_change G o (nI p) (Int32.ofInt z) exc = rV G' ∧ MS w o G' (mChange (mRows A r ts) p z exc) (dS D D') ∧ mSq 0 0 G G' := by
  obtain ⟨-, ρ, -, hρ⟩ := id hw.1
  have hro := mRo_of hr
  obtain ⟨G', D', a1, a2, a3, -⟩ := m_change (A := mRows A r ts) (z := z) (exc := exc) h.1 h.2.2 hw.1 (fun c x hx => (hw.2.2.2 c x hx).2.2.1) (hv.lt hw.1) hv hz (mChOk_of (ρ := ρ) zDp (mRows A r ts) p hρ (fun q x hq2 hx hab => by
    have hx' : A.2.1 q = some x := hx
    have hab' : mAb A.2.1 zDp q p = true := hab
    have l1 := mAb_len hw.2.1 zDp p q r s hr hab'
    have hq : mV A q := Or.inr (by rw [hx']; exact Option.some_ne_none _)
    have l2 := mLen_part (A := A) (p := q) (by omega) hx'
    obtain ⟨r1, s1, b1, b2, b3, b4, -⟩ := hw.len hq
    have e : r1 = r := by
      have := (mAb_ro hw.1 hv zDp q r s hr hab').2
      rw [← this]; exact (mRo_of b1).symm
    rw [e] at b3
    omega))
  exact ⟨G', D', a1, h.step a3.st a2, a3⟩
end Ref2
end
section
-- the reference: all on a row ends; cursors; parts
def mECr (r : Nat) (A : mS) (c : Nat) : mS := match A.2.2.1 c with
  | some x => if mRo A.2.1 x.1 = r then mEndC A c else A
  | none => A
def mECa (A : mS) (r : Nat) : mS := (List.range' 0 3).foldl (mECr r) A
def mAround (A : mS) (r p : Nat) : mS := mECa (mES A r p).1 r
theorem mECr_one {r : Nat} (A : mS) {c : Nat} (hc : c < 3) : (mECr r A c).1 = A.1 ∧ (mECr r A c).2.1 = A.2.1 ∧ (mECr r A c).2.2.1 = va_up A.2.2.1 c (match A.2.2.1 c with
    | some x => if mRo A.2.1 x.1 = r then none else some x
    | none => none) ∧ (∀ j, j ≠ 3 → (mECr r A c).2.2.2 j = A.2.2.2 j) ∧ ∃ k, (mECr r A c).2.2.2 3 = A.2.2.2 3 + nI k ∧ k + mKk (mECr r A c).2.2.1 = mKk A.2.2.1 := by
  have no : ∀ v, v = A.2.2.1 c → A.1 = A.1 ∧ A.2.1 = A.2.1 ∧ A.2.2.1 = va_up A.2.2.1 c v ∧ (∀ j, j ≠ 3 → A.2.2.2 j = A.2.2.2 j) ∧ ∃ k, A.2.2.2 3 = A.2.2.2 3 + nI k ∧ k + mKk A.2.2.1 = mKk A.2.2.1 :=
    fun v hv => ⟨rfl, rfl, by rw [hv, va_up_id], fun _ _ => rfl, 0, (add_nI0 _).symm, Nat.zero_add _⟩
  unfold mECr
  cases hx : A.2.2.1 c with
  | none => exact no _ hx.symm
  | some x =>
    simp only
    by_cases hr : mRo A.2.1 x.1 = r
    · rw [if_pos hr, if_pos hr]
      exact ⟨rfl, rfl, rfl, fun j hj => if_neg hj, 1, rfl, mKk_up hc (by rw [hx]; exact Option.some_ne_none _)⟩
    · rw [if_neg hr, if_neg hr]; exact no _ hx.symm
def mCr (P : mP) (r : Nat) (C : mC) (c : Nat) : Option (Nat × Nat × Int32 × Int32) := match C c with
  | some x => if mRo P x.1 = r then none else some x
  | none => none
theorem mECa_char (A : mS) (r : Nat) : (mECa A r).1 = A.1 ∧ (mECa A r).2.1 = A.2.1 ∧ (∀ c, (mECa A r).2.2.1 c = if c < 3 then mCr A.2.1 r A.2.2.1 c else A.2.2.1 c) ∧ (∀ j, j ≠ 3 → (mECa A r).2.2.2 j = A.2.2.2 j) ∧ ∃ k, (mECa A r).2.2.2 3 = A.2.2.2 3 + nI k ∧ k + mKk (mECa A r).2.2.1 = mKk A.2.2.1 := by
  have e0 : mECa A r = mECr r (mECr r (mECr r A 0) 1) 2 := rfl
  rw [e0]
  obtain ⟨a1, a2, a3, a4, ka, a5, a6⟩ := mECr_one (r := r) A (c := 0) (by omega)
  obtain ⟨b1, b2, b3, b4, kb, b5, b6⟩ := mECr_one (r := r) (mECr r A 0) (c := 1) (by omega)
  obtain ⟨c1, c2, c3, c4, kc, c5, c6⟩ := mECr_one (r := r) (mECr r (mECr r A 0) 1) (c := 2) (by omega)
  refine ⟨c1.trans (b1.trans a1), c2.trans (b2.trans a2), fun c => ?_, fun j hj => (c4 j hj).trans ((b4 j hj).trans (a4 j hj)), ka + kb + kc, by rw [c5, b5, a5, add_nI, add_nI, Nat.add_assoc], by omega⟩
  rw [c3, b3, a3, b2, a2]
  unfold mCr
  by_cases h0 : c = 0
  · subst h0; simp [va_up]
  · by_cases h1 : c = 1
    · subst h1; simp [va_up]
    · by_cases h2 : c = 2
      · subst h2; simp [va_up]
      · rw [if_neg (by omega)]
        simp [va_up, h0, h1, h2]
theorem mArd.of {A : mS} {r p : Nat} (hok : mOk A.2.1) (hv : mV A p) (hcv : ∀ c x, A.2.2.1 c = some x → c < 3 ∧ mV A x.1) : mArd A (mAround A r p) p r (mES A r p).2 ∧ mOk (mAround A r p).2.1 := by
  obtain ⟨⟨d1, d2, d3, d4, d5, d6, d7, kd, d8, d9⟩, e2, e3⟩ := mES_char (A := A) (r := r) (exc := p) hok hv
  obtain ⟨c1, c2, c3, c4, kc, c5, c6⟩ := mECa_char (mES A r p).1 r
  have e0 : mAround A r p = mECa (mES A r p).1 r := rfl
  rw [e0]
  generalize mECa (mES A r p).1 r = A' at c1 c2 c3 c4 c5 c6 ⊢
  generalize mES A r p = E at d1 d2 d3 d4 d5 d6 d7 d8 d9 e2 e3 c1 c2 c3 c4 c5 c6 ⊢
  have ro : ∀ q, mV E.1 q → mRo E.1.2.1 q = mRo A.2.1 q := fun q hq => by
    unfold mRo
    rw [mRw_sub d2 e2.cl zDp q hq]
  refine ⟨⟨c1.trans d1, fun q hq => ?_, fun q x hx => by rw [c2]; exact e3 q x hx, fun c hc => ?_, fun c x hx => ?_, fun j h2 h3 => (c4 j h3).trans (d5 j h2 h3), (c4 2 (by omega)).trans d6, by rw [c2]; exact d7, kd + kc, by rw [c5, d8, add_nI], by omega⟩, by rw [c2]; exact e2⟩
  · rw [c2]
    cases hz : E.1.2.1 q with
    | none => rfl
    | some z => rw [d2 q z hz] at hq; cases hq
  · have hE : E.1.2.2.1 c = none := by
      rcases d3 c with k | ⟨k, -⟩
      · rw [k, hc]
      · exact k
    rw [c3]
    unfold mCr
    rw [hE]
    split <;> rfl
  · obtain ⟨hc3, hxv⟩ := hcv c x hx
    rw [c3, if_pos hc3]
    unfold mCr
    rcases d3 c with k | ⟨k, y, f1, f2, f3⟩
    · rw [k, hx]
      have hv' : mV E.1 x.1 := by
        by_cases h2 : x.1 < 2
        · exact Or.inl h2
        · exact Or.inr (d4 c x hc3 (k.trans hx) (by omega) (hxv.elim (fun q => absurd q h2) id))
      simp only
      rw [ro x.1 hv']
    · rw [k]
      simp only
      rw [hx] at f1
      have e := Option.some.inj f1
      rw [← e] at f2 f3
      have hh : mRo A.2.1 x.1 = r := by
        rcases hxv with q | q
        · omega
        · cases hy : A.2.1 x.1 with
          | none => exact absurd hy q
          | some z =>
            have := e3 x.1 z hy
            rw [f3] at this
            by_cases hcd : mRo A.2.1 x.1 = r ∧ mAb A.2.1 zDp x.1 p = false
            · exact hcd.1
            · rw [if_neg hcd] at this; cases this
      rw [if_pos hh]
theorem mInv.ard {m n p r : Nat} {A A' : mS} (h : mInv m A) (hd : mArd A A' p r n) (hok : mOk A'.2.1) : mInv m A' := by
  obtain ⟨d1, d2, d3, d4, d5, d6, -⟩ := hd
  have hp : ∀ q x, A'.2.1 q = some x → A.2.1 q = some x := by
    intro q x hx
    cases hy : A.2.1 q with
    | none => rw [d2 q hy] at hx; cases hx
    | some y =>
      have := d3 q y hy
      rw [hx] at this
      split at this
      · cases this
      · exact this.symm
  have hl : ∀ q, mV A' q → mLen A' q = mLen A q := by
    intro q hq
    by_cases h2 : q < 2
    · rw [mLen_row h2, mLen_row h2, d1]
    · rcases hq with k | k
      · exact absurd k h2
      · cases hx : A'.2.1 q with
        | none => exact absurd hx k
        | some x => rw [mLen_part h2 hx, mLen_part h2 (hp q x hx)]
  refine ⟨hok, fun q x hx => ?_, fun r' hr' => by rw [d1]; exact h.2.2.1 r' hr', fun c x hx => ?_, by rw [d6 1 (by omega) (by omega)]; exact h.2.2.2.2.1, h.2.2.2.2.2⟩
  · rw [hl x.1 (hok.cl q x hx)]; exact h.2.1 q x (hp q x hx)
  · cases hy : A.2.2.1 c with
    | none => rw [d4 c hy] at hx; cases hx
    | some y =>
      have e := d5 c y hy
      rw [hx] at e
      by_cases hr : mRo A.2.1 y.1 = r
      · rw [if_pos hr] at e; cases e
      · rw [if_neg hr] at e
        have e' := Option.some.inj e
        have hc := h.2.2.2.1 c y hy
        rw [e']
        have hv : mV A' y.1 := by
          rcases hc.2.2.1 with k | k
          · exact Or.inl k
          · cases hz : A.2.1 y.1 with
            | none => exact absurd hz k
            | some z =>
              have := d3 y.1 z hz
              rw [if_neg (fun q => hr q.1)] at this
              exact Or.inr (by rw [this]; exact Option.some_ne_none _)
        refine ⟨hc.1, hc.2.1, hv, ?_⟩
        rw [hl _ hv]; exact hc.2.2.2
theorem mInv.ends {m n : Nat} {A A' : mS} (h : mInv m A) (hE : mEnds A A' n) (hok : mOk A'.2.1) : mInv m A' := by
  obtain ⟨d1, d2, d3, d4, d5, -⟩ := hE
  have hl : ∀ q, mV A' q → mLen A' q = mLen A q := by
    intro q hq
    by_cases h2 : q < 2
    · rw [mLen_row h2, mLen_row h2, d1]
    · rcases hq with k | k
      · exact absurd k h2
      · cases hx : A'.2.1 q with
        | none => exact absurd hx k
        | some x => rw [mLen_part h2 hx, mLen_part h2 (d2 q x hx)]
  refine ⟨hok, fun q x hx => ?_, fun r' hr' => by rw [d1]; exact h.2.2.1 r' hr', fun c x hx => ?_, by rw [d5 1 (by omega) (by omega)]; exact h.2.2.2.2.1, h.2.2.2.2.2⟩
  · rw [hl x.1 (hok.cl q x hx)]; exact h.2.1 q x (d2 q x hx)
  · have e : A.2.2.1 c = some x := by
      rcases d3 c with k | ⟨k, -⟩
      · rw [← k]; exact hx
      · rw [k] at hx; cases hx
    have hc := h.2.2.2.1 c x e
    have hv : mV A' x.1 := by
      by_cases h2 : x.1 < 2
      · exact Or.inl h2
      · exact Or.inr (d4 c x hc.1 hx (by omega) (hc.2.2.1.elim (fun q => absurd q h2) id))
    refine ⟨hc.1, hc.2.1, hv, ?_⟩
    rw [hl _ hv]; exact hc.2.2.2
theorem mSq.loc {w : Nat → Nat} {k n a e cap : Nat} {xs : List Nat} {G G' : gH} (h : mSq k n G G') (hw : gWf G) (hl : isALc w G a e cap xs) : isALc w G' a e cap xs := by
  obtain ⟨m, κ, f, q1, q2, q3, -⟩ := id hl
  refine hl.frame (h.1.2.2.2.2.2 a (hw _ _ q1) ?_) (h.1.2.2.2.2.2 e (hw _ _ q2) ?_) h.2
  · rintro ⟨z, hz, hk⟩
    rw [q1] at hz
    cases hz
    rcases hk with ⟨c, fs, e1, e2⟩ | ⟨c, n, f, e1, -⟩
    · cases e1; omega
    · cases e1
  · rintro ⟨z, hz, hk⟩
    rw [q2] at hz
    cases hz
    rcases hk with ⟨c, fs, e1, -⟩ | ⟨c, n, f, e1, e2⟩
    · cases e1
    · have := (zQ_inj (congrArg some e1)).1
      omega
section Ref3
variable {w : Nat → Nat} {o : Nat}
theorem m_ec {r : Nat} {K : gH → gR} (hr : r < 2) : ∀ (k j n : Nat) (G : gH) (A : mS) (D : mD), j + k = 3 → k < n → gWf G → MRep w G o A D → mOk A.2.1 → (∀ c x, j ≤ c → A.2.2.1 c = some x → x.1 < 2 ∨ A.2.1 x.1 ≠ none) →
    ∃ (G' : gH) (F : (Nat → Option Nat) × (Nat → Option Nat)), f_M_endCursors_L2 K n G o (nI r) (nI j) = K G' ∧ MRep w G' o ((List.range' j k).foldl (mECr r) A) (dS D F) ∧ mSq 0 0 G G'
  | _, _, 0, _, _, _, _, hn, _, _, _, _ => absurd hn (Nat.not_lt_zero _)
  | 0, j, n + 1, G, A, D, hj, _, hw, h, _, _ => by
    refine ⟨G, D.2.2.2.2, ?_, h, mSq.refl⟩
    unfold f_M_endCursors_L2
    rw [if_pos (nI_le (by omega) (by omega))]
  | k + 1, j, n + 1, G, A, D, hj, hn, hw, h, hok, hcv => by
    have hj3 : j < 3 := by omega
    have hcv' : ∀ c x, j + 1 ≤ c → A.2.2.1 c = some x → x.1 < 2 ∨ A.2.1 x.1 ≠ none := fun c x hc => hcv c x (by omega)
    unfold f_M_endCursors_L2
    rw [if_neg (nI_ge hj3 (by omega)), List.range'_succ, List.foldl_cons, nI_add, gFA_of h.1 rfl rfl]
    cases hc : A.2.2.1 j with
    | none =>
      rw [gLdq_no h.2.2.2.2.1 rfl hj3 (by omega) (h.nocur hj3 hc)]
      have e : mECr r A j = A := by unfold mECr; rw [hc]
      rw [e]
      exact m_ec hr k (j + 1) n G A D (by omega) (by omega) hw h hok hcv'
    | some x =>
      obtain ⟨q, e1, e2, e3, e4⟩ := h.cur hj3 hc
      obtain ⟨r', b', hrw⟩ := hok.rw' (hcv j x (Nat.le_refl _) hc)
      have hr' := mRw_lt _ _ _ _ hrw
      have hRo : mRo A.2.1 x.1 = r' := mRo_of hrw
      rw [gLdq_of h.2.2.2.2.1 rfl hj3 (by omega) e1, gFA_of h.1 rfl rfl, gLdq_of h.2.2.2.2.1 rfl hj3 (by omega) e1, gFI_of e4 rfl rfl, gOb_of h.1 rfl, m_rowOf h _ _ _ _ e2 hrw, bI_rI]
      by_cases hrr : r' = r
      · have e : mECr r A j = mEndC A j := by unfold mECr; rw [hc]; exact if_pos (hRo.trans hrr)
        obtain ⟨G1, r1, r2, r3⟩ := m_endCursor hw h hj3
        obtain ⟨G', D', z1, z2, z3⟩ := m_ec (K := K) hr k (j + 1) n G1 _ _ (by omega) (by omega) (r3.wf hw) r2 hok (fun c y hc' hy => by
          have hy' : va_up A.2.2.1 j none c = some y := hy
          simp only [va_up] at hy'
          rw [if_neg (by omega)] at hy'
          exact hcv' c y hc' hy')
        refine ⟨G', D', ?_, by rw [e]; exact z2, r3.trans z3⟩
        rw [if_pos (by rw [hrr]), gOb_of h.1 rfl, r1]
        exact z1
      · have e : mECr r A j = A := by unfold mECr; rw [hc]; exact if_neg (fun q => hrr (hRo.symm.trans q))
        rw [if_neg (fun q => hrr ((nI_eq (by omega) (by omega)).mp q)), e]
        exact m_ec hr k (j + 1) n G A D (by omega) (by omega) hw h hok hcv'
variable {G : gH} {A : mS} {D : mD}
theorem s_rowOf (h : MS w o G A D) (hok : mOk A.2.1) {p r s : Nat} (hv : mV A p) (hr : mRw A.2.1 zDp p = some (r, s)) : f_M_rowOf zDp G o (nI p) = rI (nI r) G := m_rowOf h.2.2 _ _ _ _ (hv.lt hok) hr
/-- endParts and endCursors, one behind the other -/
theorem s_around {r p : Nat} (h : MS w o G A D) (hok : mOk A.2.1) (hv : mV A p) (hr : r < 2) (hcv : ∀ c x, A.2.2.1 c = some x → c < 3 ∧ mV A x.1) :
    ∃ (G1 G2 : gH) (F1 F2 : (Nat → Option Nat) × (Nat → Option Nat)), f_M_endParts G o (nI r) (nI p) = rI (nI (mES A r p).2) G1 ∧ MS w o G1 (mES A r p).1 (dS D F1) ∧ mSq 0 0 G G1 ∧ f_M_endCursors G1 o (nI r) = rV G2 ∧ MS w o G2 (mAround A r p) (dS D F2) ∧ mSq 0 0 G1 G2 ∧ (∀ q, mAb A.2.1 zDp q p = true → 2 ≤ q → (mES A r p).1.2.1 q = A.2.1 q) := by
  obtain ⟨G1, F1, a1, a2, a3, a4, a5, a6⟩ := m_endParts (r := r) (exc := p) h.1 h.2.2 hok hr (hv.lt hok) hv
  have h1 := h.step a3.st a2
  obtain ⟨⟨-, -, d3, d4, -⟩, -, -⟩ := mES_char (A := A) (r := r) (exc := p) hok hv
  obtain ⟨G2, F2, b1, b2, b3⟩ := m_ec (w := w) (o := o) (K := fun G17 => rV G17) hr 3 0 zFu G1 (mES A r p).1 (dS D F1) rfl (by unfold zFu; omega) h1.1 h1.2.2 a5 (fun c x _ hx => by
    have e : A.2.2.1 c = some x := by
      rcases d3 c with k | ⟨k, -⟩
      · rw [← k]; exact hx
      · rw [k] at hx; cases hx
    obtain ⟨c3, xv⟩ := hcv c x e
    by_cases h2 : x.1 < 2
    · exact Or.inl h2
    · exact Or.inr (d4 c x c3 hx (by omega) (xv.elim (fun q => absurd q h2) id)))
  exact ⟨G1, G2, F1, F2, a1, h1, a3, b1, h1.step b3.st b2, b3, a6⟩
end Ref3
end
section
-- the reference: searches, and things that go
def sFi (k : Nat) : List (Nat × Nat × Nat) → Nat → Option Nat
  | [], _ => none
  | t :: ts, j => if t.2.1 = k then some j else sFi k ts (j + 1)
/-- whether a key lies in it -/
def gK (l : List (Nat × Nat × Nat)) (k : Nat) : Bool := (sFi k l 0).isSome
theorem gB.refl {z : Nat} {G : gH} : gB z G G := fun _ _ => rfl
theorem gB.trans {z : Nat} {G G1 G2 : gH} (h1 : gB z G G1) (h2 : gB z G1 G2) : gB z G G2 := fun q hq => (h2 q hq).trans (h1 q hq)
theorem MS.gB {w : Nat → Nat} {o : Nat} {G G' : gH} {A : mS} {D : mD} (h : MS w o G A D) (hB : gB G.2.1 G G') (hw : gWf G') : MS w o G' A D :=
  ⟨hw, by obtain ⟨f, hf⟩ := h.2.1; exact ⟨f, by rw [hB _ (h.1 _ _ hf)]; exact hf⟩, h.2.2.new h.1 hB⟩
theorem mSt.gB {k n : Nat} {G G' : gH} (hw0 : gWf G) (hB : gB G.2.1 G G') (hw : gWf G') (h1 : G.2.1 ≤ G'.2.1) (h2 : G'.2.1 ≤ G.2.1 + k) (h3 : G.1 ≤ G'.1) (h4 : G'.1 ≤ G.1 + n) : mSt k n G G' :=
  ⟨⟨h1, h2, h3, h4, fun _ => hw, fun q hq _ => hB q hq⟩, gKeep.new hw0 hB⟩
/-- a row of truth values -/
def isBo (G : gH) (q : Nat) (g : Nat → Bool) : Prop := ∃ f, G.2.2 q = some (zI 102 31 f) ∧ ∀ k, k < 31 → f k = mB (g k)
theorem isBo.st {k n q : Nat} {g : Nat → Bool} {G G' : gH} (h : isBo G q g) (hs : mSt k n G G') (hw : gWf G) : isBo G' q g := by
  obtain ⟨f, h1, h2⟩ := h
  refine ⟨f, hs.old hw h1 ?_, h2⟩
  rintro (⟨c, fs, e, -⟩ | ⟨c, n, f', e, -⟩) <;> cases e
theorem isBo.ld {q k : Nat} {g : Nat → Bool} {G : gH} {K : Int32 → gR} (h : isBo G q g) (hk : k < 31) : gLd G q 102 (nI k) K = K (mB (g k)) := by
  obtain ⟨f, h1, h2⟩ := h
  unfold gLd gAr; rw [h1]
  simp only [zI]
  rw [if_pos trivial, if_pos (gIn_nI hk (by omega)), nI_clamp (by omega), h2 k hk]
theorem gStK_of {G : gH} {a n i c : Nat} {v : Int32} {f : Nat → Int32} {k : gH → gR} (h : G.2.2 a = some (zI c n f)) (hi : i < n) (hn : n < 2 ^ 31) : gSt G a c (nI i) v k = k (gUp G a (zI c n (upd f i v))) := by
  unfold gSt gArW; rw [h]; simp [zI, gIn_nI hi hn, nI_clamp (Nat.lt_trans hi hn)]
theorem mRows_mRows {A : mS} {r : Nat} {ts us : List (Nat × Nat × Nat)} : mRows (mRows A r ts) r us = mRows A r us := by
  refine Prod.ext ?_ rfl
  funext i
  show (if i = r then us else if i = r then ts else A.1 i) = if i = r then us else A.1 i
  by_cases e : i = r
  · rw [if_pos e, if_pos e]
  · rw [if_neg e, if_neg e, if_neg e]
theorem mRows_self {A : mS} {r : Nat} : mRows A r (A.1 r) = A := by
  refine Prod.ext ?_ rfl
  funext i
  show (if i = r then A.1 r else A.1 i) = A.1 i
  by_cases e : i = r
  · rw [if_pos e, e]
  · rw [if_neg e]
theorem mRows_at {A : mS} {r : Nat} {ts : List (Nat × Nat × Nat)} : (mRows A r ts).1 r = ts := if_pos rfl
/-- a row from whose list, from j on, such things have gone -/
def sRj (g : Nat → Bool) (L : List (Nat × Nat × Nat)) (s len j : Nat) : List (Nat × Nat × Nat) := L.take (s + j) ++ (((L.drop s).take len).drop j |>.filter fun t => !g t.2.1) ++ L.drop (s + len)
theorem sRj_top {g : Nat → Bool} {L : List (Nat × Nat × Nat)} {s len : Nat} (h : s + len ≤ L.length) : sRj g L s len len = L := by
  unfold sRj
  rw [List.drop_of_length_le (by rw [List.length_take, List.length_drop]; omega)]
  simp
theorem sRj_0 {g : Nat → Bool} {L : List (Nat × Nat × Nat)} {s len : Nat} : sRj g L s len 0 = sLeft g L s len := by
  unfold sRj sLeft
  rw [sSw_eq, List.drop_zero, Nat.add_zero, List.append_assoc, List.drop_drop]
theorem sRj_step {g : Nat → Bool} {L : List (Nat × Nat × Nat)} {s len j : Nat} {t : Nat × Nat × Nat} (hj : j < len) (ht : L[s + j]? = some t) :
    (sRj g L s len (j + 1))[s + j]? = some t ∧ (if g t.2.1 = true then (sRj g L s len (j + 1)).eraseIdx (s + j) else sRj g L s len (j + 1)) = sRj g L s len j ∧ (sRj g L s len (j + 1)).length = (sRj g L s len j).length + (if g t.2.1 = true then 1 else 0) := by
  have hlt : s + j < L.length := (List.getElem?_eq_some_iff.mp ht).1
  have e1 : L.take (s + (j + 1)) = L.take (s + j) ++ [t] := by
    rw [← Nat.add_assoc, List.take_succ, ht]; rfl
  have e2 : ((L.drop s).take len).drop j = t :: ((L.drop s).take len).drop (j + 1) := by
    have h1 : ((L.drop s).take len)[j]? = some t := by rw [List.getElem?_take, if_pos hj, List.getElem?_drop]; exact ht
    obtain ⟨h2, h3⟩ := List.getElem?_eq_some_iff.mp h1
    rw [List.drop_eq_getElem_cons h2, h3]
  have e3 : (L.take (s + j)).length = s + j := by rw [List.length_take]; omega
  unfold sRj
  rw [e1, e2]
  refine ⟨?_, ?_, ?_⟩
  · rw [List.append_assoc, List.append_assoc, List.getElem?_append_right (by omega), e3, Nat.sub_self]; rfl
  · by_cases hg : g t.2.1 = true
    · rw [if_pos hg, er_td]
      have e4 : (List.filter (fun t => !g t.2.1) (t :: ((L.drop s).take len).drop (j + 1))) = List.filter (fun t => !g t.2.1) (((L.drop s).take len).drop (j + 1)) := by
        rw [List.filter_cons, if_neg (by simp [hg])]
      rw [e4]
      generalize List.filter (fun t => !g t.2.1) (((L.drop s).take len).drop (j + 1)) = X
      generalize L.drop (s + len) = Y
      generalize L.take (s + j) = Z at e3 ⊢
      rw [← e3]
      simp
    · rw [if_neg hg, List.filter_cons, if_pos (by simp [hg])]
      simp
  · by_cases hg : g t.2.1 = true
    · rw [if_pos hg, List.filter_cons, if_neg (by simp [hg])]
      simp <;> omega
    · rw [if_neg hg, List.filter_cons, if_pos (by simp [hg])]
      simp <;> omega
section Ref4
variable {w : Nat → Nat} {G : gH} {o : Nat} {A : mS} {D : mD}
theorem m_firstL {K1 : gH → Int32 → gR} {K2 : gH → gR} {p r s k : Nat} (h : MS w o G A D) (hok : mOk A.2.1) (hv : mV A p) (hr : mRw A.2.1 zDp p = some (r, s)) (hfit : s + mLen A p ≤ (A.1 r).length) (h31 : (A.1 r).length ≤ 31) (hkk : ∀ t, t ∈ A.1 r → t.2.1 < 100) (hk : k < 100) : ∀ (l : List (Nat × Nat × Nat)) (n j : Nat), (sSeg A r s (mLen A p)).drop j = l → j ≤ mLen A p → l.length < n →
    f_M_firstOf_L2 K1 K2 n G o (nI p) (nI k) (nI j) = match sFi k l j with
      | some i => K1 G (nI i)
      | none => K2 G
  | _, 0, _, _, _, h => absurd h (Nat.not_lt_zero _)
  | [], n + 1, j, hd, hj, _ => by
    have hsl := sSeg_len hfit
    have : mLen A p ≤ j := by
      have := congrArg List.length hd
      rw [List.length_drop, hsl] at this
      simp at this; omega
    unfold f_M_firstOf_L2
    rw [gOb_of h.2.2.1 rfl, s_len h hok hv, bI_rI, if_pos (nI_le this (by omega))]; rfl
  | t :: ts, n + 1, j, hd, hj, hn => by
    have hsl := sSeg_len hfit
    have hs : (sSeg A r s (mLen A p))[j]? = some t := by
      have : ((sSeg A r s (mLen A p)).drop j)[0]? = some t := by rw [hd]; rfl
      rw [List.getElem?_drop] at this; exact this
    have hjl : j < mLen A p := by
      have := (List.getElem?_eq_some_iff.mp hs).1
      omega
    rw [sSeg_at hjl] at hs
    have hth := s_th h (mRw_lt _ _ _ _ hr) hs
    have hd' : (sSeg A r s (mLen A p)).drop (j + 1) = ts := by rw [← List.drop_drop, hd]; rfl
    have hkt := hkk t (List.mem_of_getElem? hs)
    unfold f_M_firstOf_L2
    rw [gOb_of h.2.2.1 rfl, s_len h hok hv, bI_rI, if_neg (nI_ge hjl (by omega)), gOb_of h.2.2.1 rfl, s_at h hok hv hr hs, bA_rA, hth.key]
    unfold sFi
    by_cases e : t.2.1 = k
    · rw [if_pos (by rw [e]), if_pos e]
    · rw [if_neg (fun q => e ((nI_eq (by omega) (by omega)).mp q)), if_neg e, nI_add]
      exact m_firstL h hok hv hr hfit h31 hkk hk ts n (j + 1) hd' (by omega) (by simp at hn; omega)
theorem s_first {p r s k : Nat} (h : MS w o G A D) (hok : mOk A.2.1) (hv : mV A p) (hr : mRw A.2.1 zDp p = some (r, s)) (hfit : s + mLen A p ≤ (A.1 r).length) (h31 : (A.1 r).length ≤ 31) (hkk : ∀ t, t ∈ A.1 r → t.2.1 < 100) (hk : k < 100) :
    f_M_firstOf G o (nI p) (nI k) = rI (sNo (sFi k (sSeg A r s (mLen A p)) 0)) G := by
  unfold f_M_firstOf
  rw [m_firstL h hok hv hr hfit h31 hkk hk _ zFu 0 (List.drop_zero ..) (Nat.zero_le _) (by rw [sSeg_len hfit]; unfold zFu; omega)]
  cases sFi k (sSeg A r s (mLen A p)) 0 <;> rfl
theorem m_takeAllL {K : gH → Nat → Int32 → Int32 → gR} {p r s q : Nat} {g : Nat → Bool} (hok : mOk A.2.1) (hv : mV A p) (hr : mRw A.2.1 zDp p = some (r, s)) (hfit : s + mLen A p ≤ (A.1 r).length) (h31 : (A.1 r).length ≤ 31) (hkk : ∀ t, t ∈ A.1 r → t.2.1 < 31) : ∀ (j n : Nat) (G : gH), j ≤ mLen A p → j < n → MS w o G (mRows A r (sRj g (A.1 r) s (mLen A p) j)) D → isBo G q g →
    ∃ G', f_M_takeAll_L11 K n G o (nI p) q (nI ((A.1 r).length - (sRj g (A.1 r) s (mLen A p) j).length)) (nI j + (-1)) = K G' o (nI p) (nI ((A.1 r).length - (sLeft g (A.1 r) s (mLen A p)).length)) ∧ MS w o G' (mRows A r (sLeft g (A.1 r) s (mLen A p))) D ∧ mSt 0 0 G G'
  | _, 0, _, _, h, _, _ => absurd h (Nat.not_lt_zero _)
  | 0, n + 1, G, _, _, h, _ => by
    rw [sRj_0] at h ⊢
    refine ⟨G, ?_, h, mSt.refl⟩
    unfold f_M_takeAll_L11
    rw [if_pos (by decide)]
  | j + 1, n + 1, G, hj, hn, h, hb => by
    have hr2 := mRw_lt _ _ _ _ hr
    have hjl : s + j < (A.1 r).length := by omega
    have ht := List.getElem?_eq_getElem hjl
    generalize (A.1 r)[s + j] = t at ht
    have hkt := hkk t (List.mem_of_getElem? ht)
    obtain ⟨c1, c2, c3⟩ := sRj_step (g := g) (s := s) (len := mLen A p) (j := j) (by omega) ht
    have hle : (sRj g (A.1 r) s (mLen A p) (j + 1)).length ≤ 31 := by
      have := h.2.2.2.2.2.2.2.2.2.2.2 r hr2
      rw [mRows_at] at this; exact this
    have hat : ((mRows A r (sRj g (A.1 r) s (mLen A p) (j + 1))).1 r)[s + j]? = some t := by rw [mRows_at]; exact c1
    have hth := s_th h hr2 hat
    have hsl : ∀ i, i ≤ mLen A p → (sRj g (A.1 r) s (mLen A p) i).length ≤ (A.1 r).length := by
      intro i hi
      unfold sRj
      rw [List.length_append, List.length_append, List.length_take, List.length_drop]
      have h1 := List.length_filter_le (fun t : Nat × Nat × Nat => !g t.2.1) ((((A.1 r).drop s).take (mLen A p)).drop i)
      rw [List.length_drop, List.length_take, List.length_drop] at h1
      omega
    have hl1 := hsl (j + 1) hj
    unfold f_M_takeAll_L11
    rw [nI_m1, if_neg (nI_pos (by omega)), gOb_of h.2.2.1 rfl, s_at h hok hv hr hat, bA_rA, hth.key, hb.ld hkt, mB_if]
    by_cases hg : g t.2.1 = true
    · rw [if_pos hg] at c2 c3
      obtain ⟨G1, a1, a2, a3, -⟩ := s_take h hok hv hr hat
      rw [mRows_at, mRows_mRows, c2] at a2
      obtain ⟨G', b1, b2, b3⟩ := m_takeAllL (K := K) (q := q) hok hv hr hfit h31 hkk j n G1 (by omega) (by omega) a2 (hb.st a3 h.1)
      refine ⟨G', ?_, b2, (a3.trans b3).mono (by omega) (by omega)⟩
      rw [if_pos hg, gOb_of h.2.2.1 rfl, a1, bA_rA, nI_add, show (A.1 r).length - (sRj g (A.1 r) s (mLen A p) (j + 1)).length + 1 = (A.1 r).length - (sRj g (A.1 r) s (mLen A p) j).length by omega]
      exact b1
    · rw [if_neg hg] at c2 c3
      rw [c2] at h
      obtain ⟨G', b1, b2, b3⟩ := m_takeAllL (K := K) (q := q) hok hv hr hfit h31 hkk j n G (by omega) (by omega) h hb
      refine ⟨G', ?_, b2, b3⟩
      rw [if_neg hg, show (A.1 r).length - (sRj g (A.1 r) s (mLen A p) (j + 1)).length = (A.1 r).length - (sRj g (A.1 r) s (mLen A p) j).length by omega]
      exact b1
theorem neg_nI (a : Nat) : -(nI a) = Int32.ofInt (-(a : Int)) := by rw [Int32.ofInt_neg, ofInt_nI]
theorem s_takeAll {p r s q : Nat} {g : Nat → Bool} (h : MS w o G A D) (hw : mInw (-1) p A) (hv : mV A p) (hr : mRw A.2.1 zDp p = some (r, s)) (hkk : ∀ t, t ∈ A.1 r → t.2.1 < 31) (hb : isBo G q g) :
    ∃ (G' : gH) (D' : mD), f_M_takeAll G o (nI p) q = rI (nI ((A.1 r).length - (sLeft g (A.1 r) s (mLen A p)).length)) G' ∧ MS w o G' (mChange (mRows A r (sLeft g (A.1 r) s (mLen A p))) p (((sLeft g (A.1 r) s (mLen A p)).length : Int) - ((A.1 r).length : Int)) (-1)) D' ∧ mSt 0 0 G G' := by
  have hfit := hw.2.1.rw _ _ _ _ hr
  have h31 := hw.2.2.1 r (mRw_lt _ _ _ _ hr)
  have hsl := sLeft_len g (A.1 r) hfit
  obtain ⟨G1, a1, a2, a3⟩ := m_takeAllL (K := fun G23 x20 x21 x22 => gOb G23 x20 6 fun o25 => bV (f_M_change G23 x20 x21 (-x22) (-1)) fun G27 => rI x22 G27) (q := q) (g := g) (w := w) (o := o) (D := D) hw.1 hv hr hfit h31 hkk (mLen A p) zFu G (Nat.le_refl _) (by unfold zFu; omega) (by rw [sRj_top hfit, mRows_self]; exact h) hb
  rw [sRj_top hfit, Nat.sub_self] at a1
  obtain ⟨G2, F, b1, b2, b3⟩ := s_change (exc := -1) (z := ((sLeft g (A.1 r) s (mLen A p)).length : Int) - ((A.1 r).length : Int)) a2 hw hv hr (by omega) (by omega) (by omega)
  refine ⟨G2, _, ?_, b2, (a3.trans b3.st).mono (by omega) (by omega)⟩
  unfold f_M_takeAll
  rw [gOb_of h.2.2.1 rfl, s_len h hw.1 hv, bI_rI, nI_s1, a1, gOb_of a2.2.2.1 rfl, neg_nI, show -((((A.1 r).length - (sLeft g (A.1 r) s (mLen A p)).length : Nat)) : Int) = ((sLeft g (A.1 r) s (mLen A p)).length : Int) - ((A.1 r).length : Int) by omega, b1, bV_rV]
end Ref4
end
section
-- the reference: rows of truth values, things brought in, made anew
theorem nar1 : vp_nar .boolean (nI 1) = nI 1 := by decide
theorem nar0 : vp_nar .boolean (nI 0) = nI 0 := by decide
theorem sNo_m1 {x : Option Nat} (h : ∀ i, x = some i → i < 2 ^ 31) : sNo x = -1 ↔ x = none := by
  cases x with
  | none => exact ⟨fun _ => rfl, fun _ => rfl⟩
  | some i => exact ⟨fun q => absurd q (nI_ne1 (h i rfl)), fun q => by cases q⟩
theorem sFi_lt {k : Nat} : ∀ (l : List (Nat × Nat × Nat)) (j i : Nat), sFi k l j = some i → j ≤ i ∧ i < j + l.length
  | [], _, _, h => by cases h
  | t :: ts, j, i, h => by
    unfold sFi at h
    by_cases e : t.2.1 = k
    · rw [if_pos e] at h
      cases h
      simp
    · rw [if_neg e] at h
      have := sFi_lt ts (j + 1) i h
      simp only [List.length_cons]; omega
theorem sIns_step {L M : List (Nat × Nat × Nat)} {i j : Nat} {t : Nat × Nat × Nat} (hi : i ≤ L.length) (ht : M[j]? = some t) : (sIns L (M.take j) i).insertIdx (i + j) t = sIns L (M.take (j + 1)) i := by
  have hj : j < M.length := (List.getElem?_eq_some_iff.mp ht).1
  have e1 : (L.take i).length = i := by rw [List.length_take]; omega
  have e2 : (M.take j).length = j := by rw [List.length_take]; omega
  have e3 : (L.take i ++ M.take j).length = i + j := by rw [List.length_append, e1, e2]
  unfold sIns
  rw [← List.append_assoc, ins_td _ _ _ (by rw [List.length_append, e3]; omega), List.take_succ, ht]
  rw [← e3, List.take_left', List.drop_left'] <;> simp
theorem sSpl_step {L new : List (Nat × Nat × Nat)} {s : Nat} {u : Nat × Nat × Nat} (h : s + new.length < L.length) : (sSpl L s new).set (s + new.length) u = sSpl L s (new ++ [u]) ∧ (sSpl L s new)[s + new.length]? = L[s + new.length]? := by
  have e1 : (L.take s).length = s := by rw [List.length_take]; omega
  have e2 : L.drop (s + new.length) = L[s + new.length] :: L.drop (s + new.length + 1) := List.drop_eq_getElem_cons h
  have e3 : (L.take s ++ new).length = s + new.length := by rw [List.length_append, e1]
  have e4 : sSpl L s new = (L.take s ++ new) ++ (L[s + new.length] :: L.drop (s + new.length + 1)) := by
    unfold sSpl
    rw [e2, List.append_assoc]
  rw [e4]
  refine ⟨?_, ?_⟩
  · rw [List.set_append_right _ _ (by omega), e3, Nat.sub_self, List.set_cons_zero]
    unfold sSpl
    simp [Nat.add_assoc]
  · rw [List.getElem?_append_right (by omega), e3, Nat.sub_self, List.getElem?_eq_getElem h]; rfl
section Ref5
variable {w : Nat → Nat} {G : gH} {o : Nat} {A : mS} {D : mD}
theorem m_keysL {K : gH → Nat → gR} {G0 : gH} {p r s q : Nat} {is : Bool} (h0 : MS w o G0 A D) (hok : mOk A.2.1) (hv : mV A p) (hr : mRw A.2.1 zDp p = some (r, s)) (hfit : s + mLen A p ≤ (A.1 r).length) (h31 : (A.1 r).length ≤ 31) (hkk : ∀ t, t ∈ A.1 r → t.2.1 < 31) (hq : G0.2.1 ≤ q) : ∀ (d n j : Nat) (G : gH) (f : Nat → Int32), j + d = 31 → d < n → gB G0.2.1 G0 G → gWf G → q < G.2.1 → G.2.2 q = some (zI 102 31 f) → (∀ k, k < j → f k = mB (is == gK (sSeg A r s (mLen A p)) k)) →
    ∃ G', f_M_keys_L8 K n G o (nI p) (mB is) q (nI j) = K G' q ∧ gB G0.2.1 G0 G' ∧ gWf G' ∧ G'.2.1 = G.2.1 ∧ G'.1 = G.1 ∧ isBo G' q (fun k => is == gK (sSeg A r s (mLen A p)) k)
  | _, 0, _, _, _, _, h, _, _, _, _, _ => absurd h (Nat.not_lt_zero _)
  | 0, n + 1, j, G, f, hj, _, hB, hw, hqG, he, hf => by
    refine ⟨G, ?_, hB, hw, rfl, rfl, f, he, fun k hk => hf k (by omega)⟩
    unfold f_M_keys_L8
    rw [if_pos (nI_le (by omega) (by omega))]
  | d + 1, n + 1, j, G, f, hj, hn, hB, hw, hqG, he, hf => by
    have hM := h0.gB hB hw
    have hfo := s_first (k := j) hM hok hv hr hfit h31 (fun t ht => by have := hkk t ht; omega) (by omega)
    have hsl := sSeg_len hfit
    have hno : sNo (sFi j (sSeg A r s (mLen A p)) 0) = -1 ↔ sFi j (sSeg A r s (mLen A p)) 0 = none := sNo_m1 (fun i hi => by have := sFi_lt _ _ _ hi; omega)
    -- the store, whatever it is
    have go : ∀ v : Int32, v = mB (is == gK (sSeg A r s (mLen A p)) j) → ∃ G', (gSt G q 102 (nI j) v fun G8 => f_M_keys_L8 K n G8 o (nI p) (mB is) q (nI j + nI 1)) = K G' q ∧ gB G0.2.1 G0 G' ∧ gWf G' ∧ G'.2.1 = G.2.1 ∧ G'.1 = G.1 ∧ isBo G' q (fun k => is == gK (sSeg A r s (mLen A p)) k) := by
      intro v hvv
      obtain ⟨G', z1, z2, z3, z4, z5, z6⟩ := m_keysL (K := K) (is := is) h0 hok hv hr hfit h31 hkk hq d n (j + 1) (gUp G q (zI 102 31 (upd f j v))) (upd f j v) (by omega) (by omega) (fun x hx => by rw [gUp_ne (by omega)]; exact hB x hx) (hw.up hqG) hqG gUp_at (fun k hk => by
        simp only [upd]
        by_cases e : k = j
        · rw [if_pos e, e]; exact hvv
        · rw [if_neg e]; exact hf k (by omega))
      refine ⟨G', ?_, z2, z3, z4, z5, z6⟩
      rw [gStK_of he (by omega) (by omega), nI_add]
      exact z1
    unfold f_M_keys_L8
    rw [if_neg (nI_ge (by omega) (by omega)), gOb_of hM.2.2.1 rfl, hfo, bI_rI, nar1, nar0]
    by_cases hx : sFi j (sSeg A r s (mLen A p)) 0 = none
    · have hg : gK (sSeg A r s (mLen A p)) j = false := by unfold gK; rw [hx]; rfl
      rw [if_pos (hno.mpr hx)]
      cases is with
      | true =>
        rw [if_neg (show ¬ nI 0 = mB true by decide)]
        exact go _ (by rw [hg]; rfl)
      | false =>
        rw [if_pos (show nI 0 = mB false by decide)]
        exact go _ (by rw [hg]; rfl)
    · have hg : gK (sSeg A r s (mLen A p)) j = true := by
        unfold gK
        cases hy : sFi j (sSeg A r s (mLen A p)) 0 with
        | none => exact absurd hy hx
        | some i => rfl
      rw [if_neg (fun z => hx (hno.mp z))]
      cases is with
      | true =>
        rw [if_pos (show nI 1 = mB true by decide)]
        exact go _ (by rw [hg]; rfl)
      | false =>
        rw [if_neg (show ¬ nI 1 = mB false by decide)]
        exact go _ (by rw [hg]; rfl)
theorem gNewK_of {G : gH} {ka n : Nat} {k : Nat → gH → gR} (hn : n ≤ 60000000) : gNewA G ka (nI n) k = k G.2.1 (gNew G n (zI ka n (fun _ => 0))) := gNewA_of hn
theorem s_keys {p r s : Nat} {is : Bool} (h : MS w o G A D) (hok : mOk A.2.1) (hv : mV A p) (hr : mRw A.2.1 zDp p = some (r, s)) (hfit : s + mLen A p ≤ (A.1 r).length) (h31 : (A.1 r).length ≤ 31) (hkk : ∀ t, t ∈ A.1 r → t.2.1 < 31) :
    ∃ G', f_M_keys G o (nI p) (mB is) = rA G.2.1 G' ∧ isBo G' G.2.1 (fun k => is == gK (sSeg A r s (mLen A p)) k) ∧ MS w o G' A D ∧ mSt 1 31 G G' := by
  obtain ⟨G', z1, z2, z3, z4, z5, z6⟩ := m_keysL (K := fun G17 x16 => rA x16 G17) (is := is) h hok hv hr hfit h31 hkk (Nat.le_refl _) 31 zFu 0 (gNew G 31 (zI 102 31 (fun _ => 0))) (fun _ => 0) (by omega) (by unfold zFu; omega) (fun q hq => gNew_ne (by omega)) h.1.new (Nat.lt_succ_self _) gNew_at (fun k hk => by omega)
  have e1 : (gNew G 31 (zI 102 31 (fun _ => 0))).2.1 = G.2.1 + 1 := rfl
  have e2 : (gNew G 31 (zI 102 31 (fun _ => 0))).1 = G.1 + 31 := rfl
  have hS := mSt.gB (k := 1) (n := 31) h.1 z2 z3 (by omega) (by omega) (by omega) (by omega)
  refine ⟨G', ?_, z6, h.step hS (h.2.2.new h.1 z2), hS⟩
  unfold f_M_keys
  rw [gNewK_of (by omega)]
  exact z1
theorem m_remIfL {K : gH → Nat → Int32 → Nat → gR} {by' rest p q : Nat} (hb : 0 < by') (hb9 : by' < 100) (hre : rest < 100) : ∀ (d n j : Nat) (G : gH) (f : Nat → Int32), j + d = 31 → d < n → gWf G → q < G.2.1 → G.2.2 q = some (zI 102 31 f) → (∀ k, k < j → f k = mB (decide (k % by' = rest))) →
    ∃ G', f_M_removeIf_L58 K n G o (nI p) (nI by') (nI rest) q (nI j) = K G' o (nI p) q ∧ gWf G' ∧ G'.2.1 = G.2.1 ∧ G'.1 = G.1 ∧ isBo G' q (fun k => decide (k % by' = rest)) ∧ ∀ x, x ≠ q → G'.2.2 x = G.2.2 x
  | _, 0, _, _, _, _, h, _, _, _, _ => absurd h (Nat.not_lt_zero _)
  | 0, n + 1, j, G, f, hj, _, hw, hqG, he, hf => by
    refine ⟨G, ?_, hw, rfl, rfl, ⟨f, he, fun k hk => hf k (by omega)⟩, fun _ _ => rfl⟩
    unfold f_M_removeIf_L58
    rw [if_pos (nI_le (by omega) (by omega))]
  | d + 1, n + 1, j, G, f, hj, hn, hw, hqG, he, hf => by
    have go : ∀ v : Int32, v = mB (decide (j % by' = rest)) → ∃ G', (gSt G q 102 (nI j) v fun G8 => f_M_removeIf_L58 K n G8 o (nI p) (nI by') (nI rest) q (nI j + nI 1)) = K G' o (nI p) q ∧ gWf G' ∧ G'.2.1 = G.2.1 ∧ G'.1 = G.1 ∧ isBo G' q (fun k => decide (k % by' = rest)) ∧ ∀ x, x ≠ q → G'.2.2 x = G.2.2 x := by
      intro v hvv
      obtain ⟨G', z1, z3, z4, z5, z6, z7⟩ := m_remIfL (K := K) (p := p) hb hb9 hre d n (j + 1) (gUp G q (zI 102 31 (upd f j v))) (upd f j v) (by omega) (by omega) (hw.up hqG) hqG gUp_at (fun k hk => by
        simp only [upd]
        by_cases e : k = j
        · rw [if_pos e, e]; exact hvv
        · rw [if_neg e]; exact hf k (by omega))
      refine ⟨G', ?_, z3, z4, z5, z6, fun x hx => by rw [z7 x hx, gUp_ne hx]⟩
      rw [gStK_of he (by omega) (by omega), nI_add]
      exact z1
    have hm : j % by' < by' := Nat.mod_lt _ hb
    unfold f_M_removeIf_L58
    rw [if_neg (nI_ge (by omega) (by omega)), gRem_of (by omega) (by omega) hb, nar1, nar0]
    by_cases hx : j % by' = rest
    · rw [if_pos (by rw [hx])]
      exact go _ (by rw [decide_eq_true hx]; rfl)
    · rw [if_neg (fun z => hx ((nI_eq (by omega) (by omega)).mp z))]
      exact go _ (by rw [decide_eq_false hx]; rfl)
theorem m_clearL {K : gH → Nat → Int32 → Int32 → gR} {p r s : Nat} {x2 : Int32} (hok : mOk A.2.1) (hv : mV A p) (hr : mRw A.2.1 zDp p = some (r, s)) (hfit : s + mLen A p ≤ (A.1 r).length) (h31 : (A.1 r).length ≤ 31) : ∀ (j n : Nat) (G : gH), j ≤ mLen A p → j < n → MS w o G (mRows A r (sRj (fun _ => true) (A.1 r) s (mLen A p) j)) D →
    ∃ G', f_M_clear_L25 K n G o (nI p) x2 (nI j + (-1)) = K G' o (nI p) x2 ∧ MS w o G' (mRows A r (sLeft (fun _ => true) (A.1 r) s (mLen A p))) D ∧ mSt 0 0 G G'
  | _, 0, _, _, h, _ => absurd h (Nat.not_lt_zero _)
  | 0, n + 1, G, _, _, h => by
    rw [sRj_0] at h
    refine ⟨G, ?_, h, mSt.refl⟩
    unfold f_M_clear_L25
    rw [if_pos (by decide)]
  | j + 1, n + 1, G, hj, hn, h => by
    have hr2 := mRw_lt _ _ _ _ hr
    have hjl : s + j < (A.1 r).length := by omega
    have ht := List.getElem?_eq_getElem hjl
    generalize (A.1 r)[s + j] = t at ht
    obtain ⟨c1, c2, -⟩ := sRj_step (g := fun _ => true) (s := s) (len := mLen A p) (j := j) (by omega) ht
    rw [if_pos rfl] at c2
    have hat : ((mRows A r (sRj (fun _ => true) (A.1 r) s (mLen A p) (j + 1))).1 r)[s + j]? = some t := by rw [mRows_at]; exact c1
    obtain ⟨G1, a1, a2, a3, -⟩ := s_take h hok hv hr hat
    rw [mRows_at, mRows_mRows, c2] at a2
    obtain ⟨G', b1, b2, b3⟩ := m_clearL (K := K) (x2 := x2) hok hv hr hfit h31 j n G1 (by omega) (by omega) a2
    refine ⟨G', ?_, b2, (a3.trans b3).mono (by omega) (by omega)⟩
    unfold f_M_clear_L25
    rw [nI_m1, if_neg (nI_pos (by omega)), gOb_of h.2.2.1 rfl, a1, bA_rA]
    exact b1
theorem m_bringL {K : gH → Nat → Int32 → Nat → gR} {p r s i a e cap r2 : Nat} {M : List (Nat × Nat × Nat)} (hok : mOk A.2.1) (hv : mV A p) (hr : mRw A.2.1 zDp p = some (r, s)) (hi : s + i ≤ (A.1 r).length) (hl : (A.1 r).length + M.length ≤ 31) (hr2 : r2 < 2) (hne : r2 ≠ r) (hM : ∀ t, t ∈ M → t ∈ A.1 r2) : ∀ (d n j : Nat) (G : gH) (D : mD), j + d = M.length → d < n → MS w o G (mRows A r (sIns (A.1 r) (M.take j) (s + i))) D → isALc w G a e cap (M.map fun t => t.1) → mAp w D a e →
    ∃ (G' : gH) (D' : mD), f_M_bring_L10 w K n G o (nI p) (nI i) a (nI j) = K G' o (nI p) a ∧ MS w o G' (mRows A r (sIns (A.1 r) M (s + i))) D' ∧ isALc w G' a e cap (M.map fun t => t.1) ∧ mSt d (61 * d) G G'
  | _, 0, _, _, _, _, h, _, _, _ => absurd h (Nat.not_lt_zero _)
  | 0, n + 1, j, G, D, hj, _, h, hal, _ => by
    rw [List.take_of_length_le (by omega)] at h
    refine ⟨G, D, ?_, h, hal, mSt.refl⟩
    obtain ⟨m, κ, f, q1, -⟩ := id hal
    unfold f_M_bring_L10
    rw [gOb_of q1 rfl, al_size hal.al, bI_rI, List.length_map, if_pos (nI_le (by omega) (by omega))]
  | d + 1, n + 1, j, G, D, hj, hn, h, hal, hap => by
    have hrr := mRw_lt _ _ _ _ hr
    have hjl : j < M.length := by omega
    have ht := List.getElem?_eq_getElem hjl
    generalize M[j] = t at ht
    have htM : t ∈ (mRows A r (sIns (A.1 r) (M.take j) (s + i))).1 r2 := by
      show t ∈ (if r2 = r then _ else A.1 r2)
      rw [if_neg hne]; exact hM t (List.mem_of_getElem? ht)
    have hth : mTh G t.1 t.2 := h.2.2.2.2.2.2.2.1 r2 hr2 t htM
    have hlen : (sIns (A.1 r) (M.take j) (s + i)).length = (A.1 r).length + j := by rw [sIns_len, List.length_take]; omega
    obtain ⟨G1, e', a1, a2, a3, a4, a5⟩ := s_come (i := i + j) h hok hv hr (by rw [mRows_at, hlen]; omega) (by rw [mRows_at, hlen]; omega) hth
    rw [mRows_at, mRows_mRows, ← Nat.add_assoc, sIns_step hi ht] at a2
    obtain ⟨b1, b2⟩ := s_comeL h hrr hal hap a4 a5 a3.2
    obtain ⟨G', D', c1, c2, c3, c4⟩ := m_bringL (K := K) (cap := cap) hok hv hr hi hl hr2 hne hM d n (j + 1) G1 _ (by omega) (by omega) a2 b1 b2
    refine ⟨G', D', ?_, c2, c3, (a3.trans c4).mono (by omega) (by omega)⟩
    obtain ⟨m, κ, f, q1, -⟩ := id hal
    unfold f_M_bring_L10
    rw [gOb_of q1 rfl, al_size hal.al, bI_rI, List.length_map, if_neg (nI_ge (by omega) (by omega)), gOb_of q1 rfl, al_get hal.al (i := j) (x := t.1) (by rw [List.getElem?_map, ht]; rfl), bA_rA, hth.cast, gOb_of h.2.2.1 rfl, nI_add, a1, bV_rV, nI_add]
    exact c1
end Ref5
end
section
-- the reference: lists made anew, orders
def mKey2 (t1 m1 : Nat) (t : Nat × Nat × Nat) : Nat × Nat := ((t.2.1 * t1 + m1) % 31, t.2.2)
theorem map_snoc {α β : Type} (f : α → β) (l : List α) (x : α) : (l ++ [x]).map f = l.map f ++ [f x] := by simp
theorem take_snoc {α : Type} {l : List α} {j : Nat} {t : α} (h : l[j]? = some t) : l.take (j + 1) = l.take j ++ [t] := by rw [List.take_succ, h]; rfl
theorem mTh.gB {z : Nat} {G G' : gH} {x : Nat} {t : Nat × Nat} (h : mTh G x t) (hw : gWf G) (hB : gB G.2.1 G G') : mTh G' x t := by
  obtain ⟨g, h1, h2⟩ := h
  exact ⟨g, by rw [hB _ (hw _ _ h1)]; exact h1, h2⟩
theorem isALc.set {w : Nat → Nat} {G : gH} {a e i y cap : Nat} {xs : List Nat} (h : isALc w G a e cap xs) (hi : i < xs.length) (hy : gEl G y) (hae : a ≠ e) : ∃ f, G.2.2 e = some (zQ 103 cap f) ∧ f_AL_set G a (nI i) y = rA xs[i] (gUp G e (zQ 103 cap (va_up f i (some y)))) ∧ isALc w (gUp G e (zQ 103 cap (va_up f i (some y)))) a e cap (xs.set i y) := by
  obtain ⟨cap', f, a1, a2⟩ := al_set (i := i) h.al (List.getElem?_eq_getElem hi) hy
  obtain ⟨m, κ, f', h1, h2, h3, h4, h5, h6, h7⟩ := h
  obtain ⟨rfl, rfl, rfl⟩ := zQ_inj (h2.symm.trans a1)
  refine ⟨f', h2, a2, m, 103, va_up f' i (some y), ?_, gUp_at, Or.inl ⟨rfl, by omega⟩, by simpa using h4, h5, ?_, ?_⟩
  · rw [gUp_ne hae, List.length_set]; exact h1
  · intro j hj
    rw [List.length_set] at hj
    simp only [va_up]
    rw [List.getElem?_set]
    by_cases e1 : j = i
    · rw [if_pos e1, if_pos e1.symm, if_pos (by omega)]
    · rw [if_neg e1, if_neg (fun q => e1 q.symm)]; exact h6 j hj
  · intro j hj z hz
    rw [List.length_set] at hj
    simp only [va_up] at hz
    by_cases e1 : j = i
    · rw [if_pos e1] at hz
      cases hz
      exact hy.upQ h2
    · rw [if_neg e1] at hz
      exact (h7 j hj z hz).upQ h2
/-- the inner way of one thing -/
theorem ins_swap {α : Type} {l : List α} {x y : α} {rest : List α} {g : Nat} (hg : g + 1 ≤ l.length) (hy : l[g]? = some y) :
    (l.insertIdx (g + 1) x ++ rest)[g + 1]? = some x ∧ (l.insertIdx (g + 1) x ++ rest)[g]? = some y ∧ ((l.insertIdx (g + 1) x ++ rest).set (g + 1) y).set g x = l.insertIdx g x ++ rest := by
  obtain ⟨hl, he⟩ := List.getElem?_eq_some_iff.mp hy
  have e0 : l = l.take g ++ y :: l.drop (g + 1) := by
    have := List.take_append_drop g l
    rw [List.drop_eq_getElem_cons hl, he] at this
    exact this.symm
  have e1 : (l.take g).length = g := by rw [List.length_take]; omega
  have e2 : l.insertIdx (g + 1) x = l.take g ++ y :: x :: l.drop (g + 1) := by
    rw [ins_td x l (g + 1) hg, take_snoc hy, List.append_assoc]; rfl
  have e3 : l.insertIdx g x = l.take g ++ x :: y :: l.drop (g + 1) := by
    rw [ins_td x l g (by omega), List.drop_eq_getElem_cons hl, he]
  rw [e2, e3]
  generalize l.take g = Z at e1
  generalize l.drop (g + 1) = Y
  refine ⟨?_, ?_, ?_⟩
  · rw [List.append_assoc, List.getElem?_append_right (by omega), show g + 1 - Z.length = 1 by omega]; rfl
  · rw [List.append_assoc, List.getElem?_append_right (by omega), show g - Z.length = 0 by omega]; rfl
  · rw [List.append_assoc, List.set_append_right _ _ (by omega), show g + 1 - Z.length = 1 by omega, List.set_append_right _ _ (by omega), show g - Z.length = 0 by omega, List.append_assoc]; rfl
section Ref6
variable {w : Nat → Nat} {G : gH} {o : Nat} {A : mS} {D : mD}
theorem sub_lt0 {a c : Nat} (ha : a < 2 ^ 30) (hc : c < 2 ^ 30) : (0 ≤ nI a - nI c) ↔ ¬ a < c := by
  rw [nI_dif, Int32.le_iff_toInt_le, Int32.toInt_ofInt_of_le (by omega) (by omega)]
  show (0 : Int) ≤ _ ↔ _
  omega
theorem m_ahead {ord : Nat} {x y : Nat} {t u : Nat × Nat} (ho : ord < 5) (hx : mTh G x t) (hy : mTh G y u) (ht : t.1 < 31 ∧ t.2 ≤ 1000) (hu : u.1 < 31 ∧ u.2 ≤ 1000) : ∃ v, f_M_ahead G x y (nI ord) = rI v G ∧ (0 ≤ v ↔ sR ord t u = false) := by
  unfold f_M_ahead
  rw [nI_toInt (by omega)]
  rcases (by omega : ord = 0 ∨ ord = 1 ∨ ord = 2 ∨ ord = 3 ∨ ord = 4) with rfl | rfl | rfl | rfl | rfl
  · rw [if_pos (show ((0 : Nat) : Int) = 0 from rfl), hx.key, hy.key]
    exact ⟨_, rfl, by rw [sub_lt0 (by omega) (by omega)]; unfold sR; simp⟩
  · rw [if_neg (by decide), if_pos (show ((1 : Nat) : Int) = 1 from rfl), hy.key, hx.key]
    exact ⟨_, rfl, by rw [sub_lt0 (by omega) (by omega)]; unfold sR; simp⟩
  · rw [if_neg (by decide), if_neg (by decide), if_pos (show ((2 : Nat) : Int) = 2 from rfl), hx.key, gRem_of (by omega) (by omega) (by omega), hy.key, gRem_of (by omega) (by omega) (by omega)]
    exact ⟨_, rfl, by rw [sub_lt0 (by omega) (by omega)]; unfold sR; simp⟩
  · rw [if_neg (by decide), if_neg (by decide), if_neg (by decide), if_pos (show ((3 : Nat) : Int) = 3 from rfl), hy.tag, hx.tag]
    exact ⟨_, rfl, by rw [sub_lt0 (by omega) (by omega)]; unfold sR; simp⟩
  · rw [if_neg (by decide), if_neg (by decide), if_neg (by decide), if_neg (by decide), hx.key, gRem_of (by omega) (by omega) (by omega), hy.key, gRem_of (by omega) (by omega) (by omega)]
    by_cases h : t.1 % 2 = u.1 % 2
    · rw [if_pos (by rw [h]), hx.key, hy.key]
      exact ⟨_, rfl, by rw [sub_lt0 (by omega) (by omega)]; unfold sR; simp [h]⟩
    · rw [if_neg (fun q => h ((nI_eq (by omega) (by omega)).mp q)), hy.key, gRem_of (by omega) (by omega) (by omega), hx.key, gRem_of (by omega) (by omega) (by omega)]
      exact ⟨_, rfl, by rw [sub_lt0 (by omega) (by omega)]; unfold sR; simp [h]⟩
/-- a list of things on one's own: their addresses lie in it, and they are there -/
def mTs (G : gH) (ts : List (Nat × Nat × Nat)) : Prop := ∀ t, t ∈ ts → mTh G t.1 t.2 ∧ t.2.1 < 31 ∧ t.2.2 ≤ 1000
def tR (ord : Nat) (t u : Nat × Nat × Nat) : Bool := sR ord t.2 u.2
theorem mTs.up {ts : List (Nat × Nat × Nat)} {e c n : Nat} {f g : Nat → Option Nat} (h : mTs G ts) (he : G.2.2 e = some (zQ c n f)) : mTs (gUp G e (zQ c n g)) ts := by
  intro t ht
  obtain ⟨⟨gg, h1, h2⟩, h3⟩ := h t ht
  refine ⟨⟨gg, ?_, h2⟩, h3⟩
  rw [gUp_ne, h1]
  intro q
  rw [q, he] at h1
  cases h1
theorem m_ord12 {K : gH → Nat → Int32 → Int32 → gR} {ord a e cap k z : Nat} {x : Nat × Nat × Nat} {done rest : List (Nat × Nat × Nat)} (ho : ord < 5) (hae : a ≠ e) (hk : done.length = k) (hk31 : k + rest.length < 100) (hz : z ≤ e ∨ e = w 0) (hw0 : w 0 < z) : ∀ (g n : Nat) (G : gH), g ≤ k → g < n → gWf G → isALc w G a e cap ((done.insertIdx g x ++ rest).map fun t => t.1) → mTs G (done.insertIdx g x ++ rest) →
    ∃ G', f_M_order_L12 K n G a (nI ord) (nI k) (nI g) = K G' a (nI ord) (nI k) ∧ isALc w G' a e cap ((done.insertIdx (sGap (tR ord) x done g) x ++ rest).map fun t => t.1) ∧ mTs G' (done.insertIdx (sGap (tR ord) x done g) x ++ rest) ∧ gWf G' ∧ G'.2.1 = G.2.1 ∧ G'.1 = G.1 ∧ ∀ q, q ≠ e → G'.2.2 q = G.2.2 q
  | _, 0, _, _, h, _, _, _ => absurd h (Nat.not_lt_zero _)
  | 0, n + 1, G, _, _, hw, hal, hts => by
    refine ⟨G, ?_, hal, hts, hw, rfl, rfl, fun _ _ => rfl⟩
    unfold f_M_order_L12
    rw [if_pos (by decide)]
  | g + 1, n + 1, G, hg, hn, hw, hal, hts => by
    have hgl : g < done.length := by omega
    have hy := List.getElem?_eq_getElem hgl
    generalize done[g] = y at hy
    obtain ⟨s1, s2, s3⟩ := ins_swap (x := x) (rest := rest) (g := g) (by omega) hy
    have hx := hts x (List.mem_of_getElem? s1)
    have hyt := hts y (List.mem_of_getElem? s2)
    have m1 : ((done.insertIdx (g + 1) x ++ rest).map fun t => t.1)[g + 1]? = some x.1 := by rw [List.getElem?_map, s1]; rfl
    have m2 : ((done.insertIdx (g + 1) x ++ rest).map fun t => t.1)[g]? = some y.1 := by rw [List.getElem?_map, s2]; rfl
    have hlen : ((done.insertIdx (g + 1) x ++ rest).map fun t => t.1).length = k + 1 + rest.length := by
      rw [List.length_map, List.length_append, List.length_insertIdx_of_le_length (by omega)]; omega
    obtain ⟨v, v1, v2⟩ := m_ahead (ord := ord) ho hx.1 hyt.1 hx.2 hyt.2
    obtain ⟨m, κ, f, q1, -⟩ := id hal
    have hgap : sGap (tR ord) x done (g + 1) = if sR ord x.2 y.2 = true then sGap (tR ord) x done g else g + 1 := by
      rw [sGap, hy]; rfl
    have e1 : nI (g + 1) - nI 1 = nI g := by rw [nI_sub (by omega)]; rfl
    unfold f_M_order_L12
    rw [if_neg (nI_nle (by omega) (by omega)), gOb_of q1 rfl, al_get hal.al m1, bA_rA, hx.1.cast, gOb_of q1 rfl, e1, al_get hal.al m2, bA_rA, hyt.1.cast, v1, bI_rI]
    by_cases hR : sR ord x.2 y.2 = true
    · rw [if_pos hR] at hgap
      have hv : ¬ 0 ≤ v := fun q => by rw [v2.mp q] at hR; cases hR
      rw [if_neg hv, hgap, gOb_of q1 rfl, al_get hal.al m1, bA_rA, hx.1.cast, gOb_of q1 rfl, al_get hal.al m2, bA_rA, hyt.1.cast]
      obtain ⟨g1, h1, -, -⟩ := hx.1
      obtain ⟨g2, h2, -, -⟩ := hyt.1
      obtain ⟨f1, b1, b2, b3⟩ := hal.set (i := g + 1) (y := y.1) (by omega) (Or.inr ⟨_, _, h2⟩) hae
      have b2' : f_AL_set G a (nI (g + 1)) y.1 = rA x.1 (gUp G e (zQ 103 cap (va_up f1 (g + 1) (some y.1)))) := by
        rw [b2]
        congr 1
        exact (List.getElem?_eq_some_iff.mp m1).2
      have t1 := hts.up (g := va_up f1 (g + 1) (some y.1)) b1
      have hwa := hw.up (a := e) (e := zQ 103 cap (va_up f1 (g + 1) (some y.1))) (hw _ _ b1)
      have x1 : (gUp G e (zQ 103 cap (va_up f1 (g + 1) (some y.1)))).2.2 x.1 = some (zI 100 2 g1) := by
        rw [gUp_ne, h1]
        intro q
        rw [q, b1] at h1
        cases h1
      generalize hG1 : gUp G e (zQ 103 cap (va_up f1 (g + 1) (some y.1))) = G1 at b2' b3 t1 hwa x1
      obtain ⟨f2, c1, c2, c3⟩ := b3.set (i := g) (y := x.1) (by rw [List.length_set]; omega) (Or.inr ⟨_, _, x1⟩) hae
      have t2 := t1.up (g := va_up f2 g (some x.1)) c1
      have hwb := hwa.up (a := e) (e := zQ 103 cap (va_up f2 g (some x.1))) (hwa _ _ c1)
      obtain ⟨m', κ', f', q1', -⟩ := id b3
      generalize hG2 : gUp G1 e (zQ 103 cap (va_up f2 g (some x.1))) = G2 at c2 c3 t2 hwb
      have e3 : (((done.insertIdx (g + 1) x ++ rest).map fun t => t.1).set (g + 1) y.1).set g x.1 = (done.insertIdx g x ++ rest).map fun t => t.1 := by
        rw [← s3, List.map_set, List.map_set]
      rw [e3] at c3
      have t3 : mTs G2 (done.insertIdx g x ++ rest) := by
        rw [← s3]
        intro t ht
        rcases set_mem ht with k1 | k1
        · rcases set_mem k1 with k2 | k2
          · exact t2 t k2
          · rw [k2]; exact t2 y (List.mem_of_getElem? s2)
        · rw [k1]; exact t2 x (List.mem_of_getElem? s1)
      obtain ⟨G', z1, z2, z3, z4, z5, z6, z7⟩ := m_ord12 (K := K) ho hae hk hk31 hz hw0 g n G2 (by omega) (by omega) hwb c3 t3
      refine ⟨G', ?_, z2, z3, z4, ?_, ?_, fun q hq => ?_⟩
      · rw [gOb_of q1 rfl, b2', bA_rA, gOb_of q1' rfl, c2, bA_rA, nI_m1]
        exact z1
      · rw [z5, ← hG2, ← hG1]; rfl
      · rw [z6, ← hG2, ← hG1]; rfl
      · rw [z7 q hq, ← hG2, gUp_ne hq, ← hG1, gUp_ne hq]
    · rw [if_neg hR] at hgap
      have hv : 0 ≤ v := v2.mpr (Bool.eq_false_iff.mpr hR)
      rw [if_pos hv, hgap]
      exact ⟨G, rfl, hal, hts, hw, rfl, rfl, fun _ _ => rfl⟩
theorem m_ord2 {K : gH → gR} {ord a e cap z : Nat} (ho : ord < 5) (hae : a ≠ e) (hz : z ≤ e ∨ e = w 0) (hw0 : w 0 < z) : ∀ (rest : List (Nat × Nat × Nat)) (n : Nat) (G : gH) (done : List (Nat × Nat × Nat)), done.length + rest.length < 100 → rest.length < n → gWf G → isALc w G a e cap ((done ++ rest).map fun t => t.1) → mTs G (done ++ rest) →
    ∃ G', f_M_order_L2 K n G a (nI ord) (nI done.length) = K G' ∧ isALc w G' a e cap ((sSo (tR ord) done rest).map fun t => t.1) ∧ mTs G' (sSo (tR ord) done rest) ∧ gWf G' ∧ G'.2.1 = G.2.1 ∧ G'.1 = G.1 ∧ ∀ q, q ≠ e → G'.2.2 q = G.2.2 q
  | _, 0, _, _, _, h, _, _, _ => absurd h (Nat.not_lt_zero _)
  | [], n + 1, G, done, hl, _, hw, hal, hts => by
    rw [List.append_nil] at hal hts
    refine ⟨G, ?_, hal, hts, hw, rfl, rfl, fun _ _ => rfl⟩
    obtain ⟨m, κ, f, q1, -⟩ := id hal
    unfold f_M_order_L2
    rw [gOb_of q1 rfl, al_size hal.al, bI_rI, List.length_map, if_pos (nI_le (Nat.le_refl _) (by simp at hl; omega))]
  | x :: rest, n + 1, G, done, hl, hn, hw, hal, hts => by
    simp only [List.length_cons] at hl hn
    have e0 : done ++ x :: rest = done.insertIdx done.length x ++ rest := by
      rw [ins_td x done _ (Nat.le_refl _)]; simp
    rw [e0] at hal hts
    have hlen : ((done.insertIdx done.length x ++ rest).map fun t => t.1).length = done.length + 1 + rest.length := by
      rw [List.length_map, List.length_append, List.length_insertIdx_of_le_length (Nat.le_refl _)]
    obtain ⟨m, κ, f, q1, -⟩ := id hal
    obtain ⟨G1, y1, y2, y3, y4, y5, y6, y7⟩ := m_ord12 (K := fun G44 x41 x42 x43 => f_M_order_L2 K n G44 x41 x42 (x43 + nI 1)) (rest := rest) (done := done) (x := x) ho hae rfl (by omega) hz hw0 done.length zFu G (Nat.le_refl _) (by unfold zFu; omega) hw hal hts
    have hins : (done.insertIdx (sGap (tR ord) x done done.length) x).length = done.length + 1 := List.length_insertIdx_of_le_length (sGap_le _) _
    obtain ⟨G', z1, z2, z3, z4, z5, z6, z7⟩ := m_ord2 (K := K) ho hae hz hw0 rest n G1 (done.insertIdx (sGap (tR ord) x done done.length) x) (by omega) (by omega) y4 y2 y3
    refine ⟨G', ?_, z2, z3, z4, by rw [z5, y5], by rw [z6, y6], fun q hq => by rw [z7 q hq, y7 q hq]⟩
    unfold f_M_order_L2
    rw [gOb_of q1 rfl, al_size hal.al, bI_rI, hlen, if_neg (nI_ge (by omega) (by omega)), y1, nI_add, ← hins]
    exact z1
/-- a copy is put in order -/
theorem s_order {ord a e cap z : Nat} {ts : List (Nat × Nat × Nat)} (ho : ord < 5) (hae : a ≠ e) (hz : z ≤ e ∨ e = w 0) (hw0 : w 0 < z) (hl : ts.length < 100) (hw : gWf G) (hal : isALc w G a e cap (ts.map fun t => t.1)) (hts : mTs G ts) :
    ∃ G', f_M_order G a (nI ord) = rV G' ∧ isALc w G' a e cap ((sSo (tR ord) [] ts).map fun t => t.1) ∧ mTs G' (sSo (tR ord) [] ts) ∧ gWf G' ∧ G'.2.1 = G.2.1 ∧ G'.1 = G.1 ∧ ∀ q, q ≠ e → G'.2.2 q = G.2.2 q := by
  unfold f_M_order
  cases ts with
  | nil =>
    refine ⟨G, ?_, hal, hts, hw, rfl, rfl, fun _ _ => rfl⟩
    obtain ⟨m, κ, f, q1, -⟩ := id hal
    unfold zFu f_M_order_L2
    rw [gOb_of q1 rfl, al_size hal.al, bI_rI]
    show (if nI 0 ≤ nI 1 then _ else _) = _
    rw [if_pos (by decide)]
  | cons x rest =>
    have e1 : sSo (tR ord) [] (x :: rest) = sSo (tR ord) [x] rest := rfl
    rw [e1]
    exact m_ord2 (K := fun G46 => rV G46) ho hae hz hw0 rest zFu G [x] (by simp at hl; simp; omega) (by simp at hl; unfold zFu; omega) hw hal hts
end Ref6
end
section
-- the reference: whole lists written
section Ref7
variable {w : Nat → Nat} {o : Nat} {A : mS} {D : mD}
theorem sSpl_take {L src : List (Nat × Nat × Nat)} {s j : Nat} {t : Nat × Nat × Nat} (ht : src[j]? = some t) (h : s + src.length ≤ L.length) : (sSpl L s (src.take j)).set (s + j) t = sSpl L s (src.take (j + 1)) ∧ (sSpl L s (src.take j))[s + j]? = L[s + j]? ∧ (sSpl L s (src.take j)).length = L.length := by
  have hj : j < src.length := (List.getElem?_eq_some_iff.mp ht).1
  have e : (src.take j).length = j := by rw [List.length_take]; omega
  obtain ⟨a, c⟩ := sSpl_step (L := L) (new := src.take j) (s := s) (u := t) (by omega)
  rw [e] at a c
  rw [take_snoc ht]
  exact ⟨a, c, sSpl_len (by omega)⟩
theorem seg_of {r s n i : Nat} {t : Nat × Nat × Nat} (h : (A.1 r)[s + i]? = some t) (hi : i < n) : (sSeg A r s n)[i]? = some t := by rw [sSeg_at hi]; exact h
theorem mTs.gB {G G' : gH} {ts : List (Nat × Nat × Nat)} (h : mTs G ts) (hw : gWf G) (hB : gB G.2.1 G G') : mTs G' ts := fun t ht => ⟨(h t ht).1.gB (z := 0) hw hB, (h t ht).2⟩
theorem mTs.st {k n : Nat} {G G' : gH} {ts : List (Nat × Nat × Nat)} (h : mTs G ts) (hw : gWf G) (hs : mSt k n G G') : mTs G' ts := by
  intro t ht
  obtain ⟨⟨g, h1, h2⟩, h3⟩ := h t ht
  refine ⟨⟨g, hs.old hw h1 ?_, h2⟩, h3⟩
  rintro (⟨c, fs, e, -⟩ | ⟨c, n, f', e, -⟩) <;> cases e
/-- the things of a list of the state -/
theorem MS.ts {G : gH} {m r s n : Nat} (h : MS w o G A D) (hr : r < 2) (ht : ∀ t, t ∈ A.1 r → mTok m t) (hm : m ≤ 600) : mTs G (sSeg A r s n) := by
  intro t h1
  have h2 := sSeg_mem h1
  have h3 := ht t h2
  exact ⟨h.2.2.2.2.2.2.2.1 r hr t h2, h3.1, by have := h3.2; omega⟩
theorem m_sortL {K : gH → Nat → Int32 → Int32 → gR} {p r s a e cap : Nat} {src : List (Nat × Nat × Nat)} (hok : mOk A.2.1) (hv : mV A p) (hr : mRw A.2.1 zDp p = some (r, s)) (hfit : s + mLen A p ≤ (A.1 r).length) (h31 : (A.1 r).length ≤ 31) (hsl : src.length = mLen A p) (hap : mAp w D a e) (htg : ∀ t, t ∈ sSeg A r s (mLen A p) → t.2.2 ≤ 1000) : ∀ (d n j c : Nat) (G : gH), j + d = mLen A p → d < n → MS w o G (mRows A r (sSpl (A.1 r) s (src.take j))) D → isALc w G a e cap (src.map fun t => t.1) → mTs G src →
    ∃ G', f_M_sort_L54 w K n G o (nI p) a (nI c) (nI j) = K G' o (nI p) (nI (c + sDf ((sSeg A r s (mLen A p)).map Prod.snd) (src.map Prod.snd) j d)) ∧ MS w o G' (mRows A r (sSpl (A.1 r) s src)) D ∧ isALc w G' a e cap (src.map fun t => t.1) ∧ mSt 0 0 G G'
  | _, 0, _, _, _, _, h, _, _, _ => absurd h (Nat.not_lt_zero _)
  | 0, n + 1, j, c, G, hj, _, h, hal, _ => by
    rw [List.take_of_length_le (by omega)] at h
    refine ⟨G, ?_, h, hal, mSt.refl⟩
    obtain ⟨m, κ, f, q1, -⟩ := id hal
    unfold f_M_sort_L54
    rw [gOb_of q1 rfl, al_size hal.al, bI_rI, List.length_map, if_pos (nI_le (by omega) (by omega))]; rfl
  | d + 1, n + 1, j, c, G, hj, hn, h, hal, hts => by
    have hrr := mRw_lt _ _ _ _ hr
    have hjl : j < src.length := by omega
    have ht := List.getElem?_eq_getElem hjl
    generalize src[j] = t at ht
    have hth := hts t (List.mem_of_getElem? ht)
    obtain ⟨e1, e2, e3⟩ := sSpl_take (L := A.1 r) (s := s) ht (by omega)
    have hol : s + j < (A.1 r).length := by omega
    have ho := List.getElem?_eq_getElem hol
    generalize (A.1 r)[s + j] = u at ho
    have hat : ((mRows A r (sSpl (A.1 r) s (src.take j))).1 r)[s + j]? = some u := by rw [mRows_at, e2]; exact ho
    obtain ⟨G1, a1, a2, a3, a4, a5⟩ := s_write h hok hv hr hat hth.1
    rw [mRows_at, mRows_mRows, e1] at a2
    have hal1 := s_writeL h hrr (by rw [mRows_at]; intro q; rw [q] at e3; simp at e3; omega) hal hap a5 a3.2
    have hts1 := hts.st h.1 a3
    have hth1 := hts1 t (List.mem_of_getElem? ht)
    have hso := seg_of (A := A) (n := mLen A p) ho (by omega)
    have hut := htg u (List.mem_of_getElem? hso)
    obtain ⟨m, κ, f, q1, -⟩ := id hal
    obtain ⟨m', κ', f', q1', -⟩ := id hal1
    have mt : (src.map fun t => t.1)[j]? = some t.1 := by rw [List.getElem?_map, ht]; rfl
    have hdf : sDf ((sSeg A r s (mLen A p)).map Prod.snd) (src.map Prod.snd) j (d + 1) = (if u.2.2 = t.2.2 then 0 else 1) + sDf ((sSeg A r s (mLen A p)).map Prod.snd) (src.map Prod.snd) (j + 1) d := by
      rw [sDf]
      unfold tgs
      rw [List.getElem?_map, List.getElem?_map, hso, ht]
      simp only [Option.map_some, Option.some.injEq]
    obtain ⟨G', z1, z2, z3, z4⟩ := m_sortL (K := K) hok hv hr hfit h31 hsl hap htg d n (j + 1) (c + (if u.2.2 = t.2.2 then 0 else 1)) G1 (by omega) (by omega) a2 hal1 hts1
    refine ⟨G', ?_, z2, z3, (a3.trans z4).mono (by omega) (by omega)⟩
    unfold f_M_sort_L54
    rw [gOb_of q1 rfl, al_size hal.al, bI_rI, List.length_map, if_neg (nI_ge (by omega) (by omega)), gOb_of q1 rfl, al_get hal.al mt, bA_rA, hth.1.cast, gOb_of h.2.2.1 rfl, a1, bA_rA, a4.tag, gOb_of q1' rfl, al_get hal1.al mt, bA_rA, hth1.1.cast, hth1.1.tag, hdf, ← Nat.add_assoc]
    unfold f_M_one
    by_cases hh : u.2.2 = t.2.2
    · rw [if_pos hh] at z1 ⊢
      rw [if_pos (by rw [hh]), if_pos (by decide), bI_rI, nI_add, nI_add]
      exact z1
    · rw [if_neg hh] at z1 ⊢
      rw [if_neg (fun q => hh ((nI_eq (by omega) (by have := hth.2.2; omega)).mp q)), if_neg (by decide), bI_rI, nI_add, nI_add]
      exact z1
theorem m_turnL {K : gH → Nat → gR} {p r s a e cap : Nat} {src : List (Nat × Nat × Nat)} (hok : mOk A.2.1) (hv : mV A p) (hr : mRw A.2.1 zDp p = some (r, s)) (hfit : s + mLen A p ≤ (A.1 r).length) (h31 : (A.1 r).length ≤ 31) (hsl : src.length = mLen A p) (hap : mAp w D a e) : ∀ (d n j : Nat) (G : gH), j + d = mLen A p → d < n → MS w o G (mRows A r (sSpl (A.1 r) s (src.reverse.take j))) D → isALc w G a e cap (src.map fun t => t.1) → mTs G src →
    ∃ G', f_M_turn_L23 w K n G o (nI p) a (nI j) = K G' a ∧ MS w o G' (mRows A r (sSpl (A.1 r) s src.reverse)) D ∧ isALc w G' a e cap (src.map fun t => t.1) ∧ mSt 0 0 G G'
  | _, 0, _, _, _, h, _, _, _ => absurd h (Nat.not_lt_zero _)
  | 0, n + 1, j, G, hj, _, h, hal, _ => by
    rw [List.take_of_length_le (by rw [List.length_reverse]; omega)] at h
    refine ⟨G, ?_, h, hal, mSt.refl⟩
    obtain ⟨m, κ, f, q1, -⟩ := id hal
    unfold f_M_turn_L23
    rw [gOb_of q1 rfl, al_size hal.al, bI_rI, List.length_map, if_pos (nI_le (by omega) (by omega))]
  | d + 1, n + 1, j, G, hj, hn, h, hal, hts => by
    have hrr := mRw_lt _ _ _ _ hr
    have hjl : src.length - 1 - j < src.length := by omega
    have ht := List.getElem?_eq_getElem hjl
    generalize src[src.length - 1 - j] = t at ht
    have htr : src.reverse[j]? = some t := by rw [List.getElem?_reverse (by omega)]; exact ht
    have hth := hts t (List.mem_of_getElem? ht)
    obtain ⟨e1, e2, e3⟩ := sSpl_take (L := A.1 r) (s := s) htr (by rw [List.length_reverse]; omega)
    have hol : s + j < (A.1 r).length := by omega
    have ho := List.getElem?_eq_getElem hol
    generalize (A.1 r)[s + j] = u at ho
    have hat : ((mRows A r (sSpl (A.1 r) s (src.reverse.take j))).1 r)[s + j]? = some u := by rw [mRows_at, e2]; exact ho
    obtain ⟨G1, a1, a2, a3, a4, a5⟩ := s_write h hok hv hr hat hth.1
    rw [mRows_at, mRows_mRows, e1] at a2
    have hal1 := s_writeL h hrr (by rw [mRows_at]; intro q; rw [q] at e3; simp at e3; omega) hal hap a5 a3.2
    obtain ⟨m, κ, f, q1, -⟩ := id hal
    have mt : (src.map fun t => t.1)[src.length - 1 - j]? = some t.1 := by rw [List.getElem?_map, ht]; rfl
    obtain ⟨G', z1, z2, z3, z4⟩ := m_turnL (K := K) hok hv hr hfit h31 hsl hap d n (j + 1) G1 (by omega) (by omega) a2 hal1 (hts.st h.1 a3)
    refine ⟨G', ?_, z2, z3, (a3.trans z4).mono (by omega) (by omega)⟩
    unfold f_M_turn_L23
    rw [gOb_of q1 rfl, al_size hal.al, bI_rI, List.length_map, if_neg (nI_ge (by omega) (by omega)), gOb_of q1 rfl, al_size hal.al, bI_rI, List.length_map, gOb_of q1 rfl, nI_sub (by omega), nI_sub (by omega), al_get hal.al mt, bA_rA, hth.1.cast, gOb_of h.2.2.1 rfl, a1, bA_rA, nI_add]
    exact z1
theorem m_moveL {K : gH → Nat → Int32 → Int32 → gR} {p r s a e cap z : Nat} {src : List (Nat × Nat × Nat)} (hok : mOk A.2.1) (hv : mV A p) (hr : mRw A.2.1 zDp p = some (r, s)) (hfit : s + mLen A p ≤ (A.1 r).length) (h31 : (A.1 r).length ≤ 31) (hsl : src.length = mLen A p) (hap : mAp w D a e) (hz : z < 81) : ∀ (d n j : Nat) (G : gH) (L : List (Nat × Nat × Nat)), j + d = mLen A p → d < n → L.length = (A.1 r).length → MS w o G (mRows A r L) D → isALc w G a e cap (src.map fun t => t.1) → mTs G src →
    ∃ G', f_M_move_L54 w K n G o (nI p) (Int32.ofInt ((z : Int) - 40)) a (nI (mLen A p)) (nI j) = K G' o (nI p) (nI (mLen A p)) ∧ MS w o G' (mRows A r (sMv (sFm z (mLen A p)) src s j d L)) D ∧ mSt 0 0 G G'
  | _, 0, _, _, _, _, h, _, _, _, _ => absurd h (Nat.not_lt_zero _)
  | 0, n + 1, j, G, L, hj, _, _, h, hal, _ => by
    refine ⟨G, ?_, h, mSt.refl⟩
    unfold f_M_move_L54
    rw [if_pos (nI_le (by omega) (by omega))]
  | d + 1, n + 1, j, G, L, hj, hn, hL, h, hal, hts => by
    have hrr := mRw_lt _ _ _ _ hr
    have hjl : j < src.length := by omega
    have ht := List.getElem?_eq_getElem hjl
    generalize src[j] = t at ht
    have hth := hts t (List.mem_of_getElem? ht)
    obtain ⟨m1, m2⟩ := fm_of (z := z) (len := mLen A p) (j := j) (G := G) hz (by omega) (by omega) (by omega)
    have hol : s + sFm z (mLen A p) j < L.length := by omega
    have ho := List.getElem?_eq_getElem hol
    generalize L[s + sFm z (mLen A p) j] = u at ho
    have hat : ((mRows A r L).1 r)[s + sFm z (mLen A p) j]? = some u := by rw [mRows_at]; exact ho
    obtain ⟨G1, a1, a2, a3, a4, a5⟩ := s_write h hok hv hr hat hth.1
    rw [mRows_at, mRows_mRows] at a2
    have hal1 := s_writeL h hrr (by rw [mRows_at]; intro q; rw [q] at hL; simp at hL; omega) hal hap a5 a3.2
    obtain ⟨m, κ, f, q1, -⟩ := id hal
    have mt : (src.map fun t => t.1)[j]? = some t.1 := by rw [List.getElem?_map, ht]; rfl
    obtain ⟨G', z1, z2, z3⟩ := m_moveL (K := K) (z := z) hok hv hr hfit h31 hsl hap hz d n (j + 1) G1 (L.set (s + sFm z (mLen A p) j) t) (by omega) (by omega) (by rw [List.length_set]; exact hL) a2 hal1 (hts.st h.1 a3)
    refine ⟨G', ?_, by rw [sMv, ht]; exact z2, (a3.trans z3).mono (by omega) (by omega)⟩
    unfold f_M_move_L54
    rw [if_neg (nI_ge (by omega) (by omega)), m1, bI_rI, gOb_of q1 rfl, al_get hal.al mt, bA_rA, hth.1.cast, gOb_of h.2.2.1 rfl, a1, bA_rA, nI_add]
    exact z1
theorem m_repL {K : gH → Nat → Int32 → gR} {p r s m t1 m1 : Nat} (hok : mOk A.2.1) (hv : mV A p) (hr : mRw A.2.1 zDp p = some (r, s)) (hfit : s + mLen A p ≤ (A.1 r).length) (h31 : (A.1 r).length ≤ 31) (htk : ∀ t, t ∈ A.1 r → mTok m t) (hm : m ≤ 600) (ht1 : t1 < 31) (hm1 : m1 < 31) : ∀ (d n : Nat) (G : gH) (new : List (Nat × Nat × Nat)), new.length + d = mLen A p → d < n → MS w o G (mRows A r (sSpl (A.1 r) s new)) D → new.map Prod.snd = ((sSeg A r s (mLen A p)).take new.length).map (mKey2 t1 m1) →
    ∃ (G' : gH) (new' : List (Nat × Nat × Nat)), f_M_replaceAll_L47 K n G o (nI p) (nI t1) (nI m1) (nI new.length) = K G' o (nI p) ∧ MS w o G' (mRows A r (sSpl (A.1 r) s new')) D ∧ new'.map Prod.snd = (sSeg A r s (mLen A p)).map (mKey2 t1 m1) ∧ mSt d (2 * d) G G'
  | _, 0, _, _, _, h, _, _ => absurd h (Nat.not_lt_zero _)
  | 0, n + 1, G, new, hj, _, h, hnew => by
    have hsl := sSeg_len hfit
    rw [List.take_of_length_le (by omega)] at hnew
    refine ⟨G, new, ?_, h, hnew, mSt.refl⟩
    unfold f_M_replaceAll_L47
    rw [gOb_of h.2.2.1 rfl, s_len h hok hv, mLen_rows, bI_rI, if_pos]
    have : (if p = r ∧ p < 2 then (sSpl (A.1 r) s new).length else mLen A p) = mLen A p := by
      split
      · next k => rw [sSpl_len (by omega), k.1, mLen_row (by rw [← k.1]; exact k.2)]
      · rfl
    rw [this]
    exact nI_le (by omega) (by omega)
  | d + 1, n + 1, G, new, hj, hn, h, hnew => by
    have hrr := mRw_lt _ _ _ _ hr
    have hsl := sSeg_len hfit
    have hlen : mLen (mRows A r (sSpl (A.1 r) s new)) p = mLen A p := by
      rw [mLen_rows]
      split
      · next k => rw [sSpl_len (by omega), k.1, mLen_row (by rw [← k.1]; exact k.2)]
      · rfl
    have hol : s + new.length < (A.1 r).length := by omega
    have ho := List.getElem?_eq_getElem hol
    generalize (A.1 r)[s + new.length] = u at ho
    have huk := htk u (List.mem_of_getElem? ho)
    have hkm : u.2.1 * t1 ≤ 30 * 30 := Nat.mul_le_mul (by have := huk.1; omega) (by omega)
    have hso := seg_of (A := A) (n := mLen A p) ho (by omega)
    have hat0 : ((mRows A r (sSpl (A.1 r) s new)).1 r)[s + new.length]? = some u := by rw [mRows_at, (sSpl_step (u := u) hol).2]; exact ho
    -- a new thing
    have hB1 : gB G.2.1 G (gNew G 2 (zI 100 2 (fun _ => 0))) := fun q hq => gNew_ne (by omega)
    have w1 : gWf (gNew G 2 (zI 100 2 (fun _ => 0))) := h.1.new
    have h1 := h.gB hB1 w1
    have hth1 := s_th h1 hrr hat0
    have B2 : ∀ f, gB G.2.1 G (gUp (gNew G 2 (zI 100 2 (fun _ => 0))) G.2.1 (zI 100 2 f)) := fun f q hq => by rw [gUp_ne (by omega)]; exact hB1 q hq
    have w2 : ∀ f, gWf (gUp (gNew G 2 (zI 100 2 (fun _ => 0))) G.2.1 (zI 100 2 f)) := fun f => w1.up (Nat.lt_succ_self _)
    have h2 := h.gB (B2 (upd (fun _ => 0) 0 (nI ((u.2.1 * t1 + m1) % 31)))) (w2 _)
    have hth2 := s_th h2 hrr hat0
    have B3 : ∀ f1 f2, gB G.2.1 G (gUp (gUp (gNew G 2 (zI 100 2 (fun _ => 0))) G.2.1 (zI 100 2 f1)) G.2.1 (zI 100 2 f2)) := fun f1 f2 q hq => by rw [gUp_ne (by omega)]; exact B2 f1 q hq
    have w3 : ∀ f1 f2, gWf (gUp (gUp (gNew G 2 (zI 100 2 (fun _ => 0))) G.2.1 (zI 100 2 f1)) G.2.1 (zI 100 2 f2)) := fun f1 f2 => (w2 f1).up (Nat.lt_succ_self _)
    generalize hG3 : gUp (gUp (gNew G 2 (zI 100 2 (fun _ => 0))) G.2.1 (zI 100 2 (upd (fun _ => 0) 0 (nI ((u.2.1 * t1 + m1) % 31))))) G.2.1 (zI 100 2 (upd (upd (fun _ => 0) 0 (nI ((u.2.1 * t1 + m1) % 31))) 1 (nI u.2.2))) = G3
    have B3' : gB G.2.1 G G3 := by rw [← hG3]; exact B3 _ _
    have w3' : gWf G3 := by rw [← hG3]; exact w3 _ _
    have h3 := h.gB B3' w3'
    have hs3 : G3.2.1 = G.2.1 + 1 := by rw [← hG3]; rfl
    have hs4 : G3.1 = G.1 + 2 := by rw [← hG3]; rfl
    have hnt : mTh G3 G.2.1 ((u.2.1 * t1 + m1) % 31, u.2.2) := by
      refine ⟨upd (upd (fun _ => 0) 0 (nI ((u.2.1 * t1 + m1) % 31))) 1 (nI u.2.2), by rw [← hG3]; exact gUp_at, ?_, ?_⟩
      · simp [upd]
      · simp [upd]
    have S3 : mSt 1 2 G G3 := mSt.gB h.1 B3' w3' (by omega) (by omega) (by omega) (by omega)
    obtain ⟨G4, a1, a2, a3, a4, a5⟩ := s_write (u := (G.2.1, (u.2.1 * t1 + m1) % 31, u.2.2)) h3 hok hv hr hat0 hnt
    rw [mRows_at, mRows_mRows, (sSpl_step hol).1] at a2
    have hnl : (new ++ [(G.2.1, (u.2.1 * t1 + m1) % 31, u.2.2)]).length = new.length + 1 := by simp
    obtain ⟨G', new', z1, z2, z3, z4⟩ := m_repL (K := K) (t1 := t1) (m1 := m1) hok hv hr hfit h31 htk hm ht1 hm1 d n G4 (new ++ [(G.2.1, (u.2.1 * t1 + m1) % 31, u.2.2)]) (by omega) (by omega) a2 (by
      rw [map_snoc, hnl, take_snoc hso, map_snoc, hnew]; rfl)
    refine ⟨G', new', ?_, z2, z3, ((S3.trans a3).trans z4).mono (by omega) (by omega)⟩
    rw [f_M_replaceAll_L47, gOb_of h.2.2.1 rfl, s_len h hok hv, hlen, bI_rI, if_neg (nI_ge (by omega) (by omega)), gNewA_of (by omega), gOb_of h1.2.2.1 rfl, s_at h1 hok hv hr hat0, bA_rA, hth1.key, nI_mul, nI_add, gRem_of (by omega) (by omega) (by omega), gStI_of gNew_at (by omega) (by omega), gOb_of h2.2.2.1 rfl, s_at h2 hok hv hr hat0, bA_rA, hth2.tag, gStI_of gUp_at (by omega) (by omega), hG3, gOb_of h3.2.2.1 rfl, a1, bA_rA, nI_add, ← hnl]
    exact z1
end Ref7
end
section
-- the reference: cursors, parts, rows anew
def dAsg (D : mD) (r a e : Nat) : mD := (D.1, (fun i => if i = r then a else D.2.1 i), (fun i => if i = r then e else D.2.2.1 i), D.2.2.2)
section Ref8
variable {w : Nat → Nat} {G : gH} {o : Nat} {A : mS} {D : mD}
theorem MRep.asg {r a e cap : Nat} {src : List (Nat × Nat × Nat)} (hw : gWf G) (h0 : mW0 w G) (h : MRep w G o A D) (hr : r < 2) (hal : isALc w G a e cap (src.map fun t => t.1)) (hap : mAp w D a e) (h1 : a ≠ D.1.1) (h2 : e ≠ D.1.2.1) (hts : ∀ t, t ∈ src → mTh G t.1 t.2) (hl : src.length ≤ 31) :
    ∃ G', f_AL_set G D.1.1 (nI r) a = rA (D.2.1 r) G' ∧ MRep w G' o (mRows A r src) (dAsg D r a e) ∧ mSt 0 0 G G' := by
  obtain ⟨k1, k2, k3, k4, k5, k6, k7, k8, k9, k10⟩ := h
  obtain ⟨m, κ, f, q1, q2, q3, -⟩ := id hal
  have hgel : gEl G a := Or.inl ⟨_, q1⟩
  have hlt : r < [D.2.1 0, D.2.1 1].length := hr
  obtain ⟨cp, f1, a1, a2⟩ := al_set (i := r) (x := D.2.1 r) k2 (by rcases (by omega : r = 0 ∨ r = 1) with rfl | rfl <;> rfl) hgel
  have hne := k2.ne k2
  generalize hG' : gUp G D.1.2.1 (zQ 103 cp (va_up f1 r (some a))) = G' at a2
  have hfr : gFr (fun q => q = D.1.2.1) 0 0 G G' := by rw [← hG']; exact gFr.up (hw _ _ a1)
  have hk : gKeep G G' := fun y hy => by rw [← hG']; exact hy.upQ a1
  have hS : mSt 0 0 G G' := ⟨hfr.mono (fun q _ e => by rw [e]; exact ⟨_, a1, Or.inr ⟨_, _, _, rfl, by decide⟩⟩) (Nat.le_refl _) (Nat.le_refl _), hk⟩
  have hsm : gSm (fun z => ∀ n f, z ≠ zQ 103 n f) G G' := by
    intro q z hq hz
    rw [← hG', gUp_ne, hq]
    rintro rfl
    rw [a1] at hq
    exact hz _ _ (Option.some.inj hq).symm
  have hsame : ∀ q, q < G.2.1 → q ≠ D.1.2.1 → G'.2.2 q = G.2.2 q := fun q hq hn => hfr.2.2.2.2.2 q hq hn
  have hset := k2.set (i := r) hlt hgel a1 hne
  rw [hG'] at hset
  have frA : ∀ a' e' xs, isAL w G a' e' xs → a' ≠ D.1.2.1 → (e' ≠ D.1.2.1) → isAL w G' a' e' xs := by
    intro a' e' xs hh n1 n2
    obtain ⟨m', κ', cap', f', z1, z2, -⟩ := id hh
    exact hh.cell (hsame _ (hw _ _ z1) n1) (hsame _ (hw _ _ z2) n2) hk
  refine ⟨G', a2, ⟨?_, ?_, fun i hi => ?_, ?_, ?_, fun i hi t ht => ?_, fun p hp => ?_, fun c hc => ?_, ⟨?_, fun i hi => ?_, ?_, k9.2.2.2.1, k9.2.2.2.2⟩, fun i hi => ?_⟩, hS⟩
  · exact hsm _ _ k1 (fun _ _ q => by cases q)
  · have e1 : ([D.2.1 0, D.2.1 1] : List Nat).set r a = [(dAsg D r a e).2.1 0, (dAsg D r a e).2.1 1] := by
      rcases (by omega : r = 0 ∨ r = 1) with rfl | rfl <;> rfl
    rw [e1] at hset
    exact hset
  · show isAL w G' (if i = r then a else D.2.1 i) (if i = r then e else D.2.2.1 i) ((if i = r then src else A.1 i).map fun t => t.1)
    by_cases e1 : i = r
    · rw [if_pos e1, if_pos e1, if_pos e1]
      exact frA a e _ hal.al (hal.al.ne k2) h2
    · rw [if_neg e1, if_neg e1, if_neg e1]
      exact frA _ _ _ (k3 i hi) ((k3 i hi).ne k2) (fun q => (k9.2.1 i hi).2 q.symm)
  · exact hsm _ _ k4 (fun _ _ q => by have := (zQ_inj (congrArg some q)).1; omega)
  · exact hsm _ _ k5 (fun _ _ q => by have := (zQ_inj (congrArg some q)).1; omega)
  · have ht' : t ∈ (if i = r then src else A.1 i) := ht
    have hh : mTh G t.1 t.2 := by
      by_cases e1 : i = r
      · rw [if_pos e1] at ht'; exact hts t ht'
      · rw [if_neg e1] at ht'; exact k6 i hi t ht'
    exact hh.trs (fun g _ _ q => by cases q) hsm
  · exact (k7 p hp).tr (fun fs _ _ q => by cases q) hsm
  · exact (k8 c hc).tr (fun fs _ _ q => by cases q) hsm
  · show (if 0 = r then a else D.2.1 0) ≠ (if 1 = r then a else D.2.1 1)
    rcases (by omega : r = 0 ∨ r = 1) with rfl | rfl
    · rw [if_pos rfl, if_neg (by omega)]; exact (hap 1 (by omega)).1
    · rw [if_neg (by omega), if_pos rfl]; exact fun q => (hap 0 (by omega)).1 q.symm
  · show D.1.1 ≠ (if i = r then a else D.2.1 i) ∧ D.1.2.1 ≠ (if i = r then e else D.2.2.1 i)
    by_cases e1 : i = r
    · rw [if_pos e1, if_pos e1]; exact ⟨fun q => h1 q.symm, fun q => h2 q.symm⟩
    · rw [if_neg e1, if_neg e1]; exact k9.2.1 i hi
  · show (if 0 = r then e else D.2.2.1 0) = (if 1 = r then e else D.2.2.1 1) → (if 0 = r then e else D.2.2.1 0) = w 0
    rcases (by omega : r = 0 ∨ r = 1) with rfl | rfl
    · rw [if_pos rfl, if_neg (by omega)]
      intro q
      rcases (hap 1 (by omega)).2 with z | z
      · exact absurd q z
      · exact z
    · rw [if_neg (by omega), if_pos rfl]
      intro q
      rcases (hap 0 (by omega)).2 with z | z
      · exact absurd q.symm z
      · rw [q]; exact z
  · show (if i = r then src else A.1 i).length ≤ 31
    by_cases e1 : i = r
    · rw [if_pos e1]; exact hl
    · rw [if_neg e1]; exact k10 i hi
-- cursors
theorem s_noCursor (h : MS w o G A D) (x : Int32) : (mIsC A x → f_M_isNoCursor G o x = rI 0 G) ∧ (¬ mIsC A x → f_M_isNoCursor G o x = rI 1 G) := by
  unfold f_M_isNoCursor
  obtain ⟨i1, i2⟩ := s_isIn G 2 (by omega) x
  have nc : ∀ {c : Nat}, c < 3 → A.2.2.1 c = none → D.2.2.2.2.2 c = none := fun hc hx => h.2.2.nocur hc hx
  refine ⟨fun k => ?_, fun k => ?_⟩
  · obtain ⟨c, hc, rfl, hx⟩ := k
    cases hy : A.2.2.1 c with
    | none => exact absurd hy hx
    | some y =>
      obtain ⟨q, e1, -⟩ := h.2.2.cur hc hy
      rw [i1 ⟨c, by omega, rfl⟩, bI_rI, if_neg (by decide), gFA_of h.2.2.1 rfl rfl, gLdq_of h.2.2.2.2.2.2.1 rfl hc (by omega) e1]
      exact rZ_0
  · by_cases hh : mIsG 2 x
    · obtain ⟨c, hc, rfl⟩ := hh
      have hx : A.2.2.1 c = none := by
        cases hy : A.2.2.1 c with
        | none => rfl
        | some y => exact absurd ⟨c, by omega, rfl, by rw [hy]; exact Option.some_ne_none _⟩ k
      rw [i1 ⟨c, hc, rfl⟩, bI_rI, if_neg (by decide), gFA_of h.2.2.1 rfl rfl, gLdq_no h.2.2.2.2.2.2.1 rfl (by omega) (by omega) (nc (by omega) hx)]
      exact rZ_1
    · rw [i2 hh, bI_rI, if_pos rfl]
      exact rZ_1
theorem s_curq (h : MS w o G A D) {c : Nat} {x : Nat × Nat × Int32 × Int32} (hc : c < 3) (hx : A.2.2.1 c = some x) : ∃ q, D.2.2.2.2.2 c = some q ∧ x.1 < 6 ∧ x.2.1 < 100 ∧ G.2.2 q = some (.inr (4, [.int (nI x.1), .int (nI x.2.1), .int x.2.2.1, .int x.2.2.2])) := by
  obtain ⟨q, e1, e2, e3, e4⟩ := h.2.2.cur hc hx
  exact ⟨q, e1, e2, e3, e4⟩
theorem s_ldC (h : MS w o G A D) {c q : Nat} (hc : c < 3) (hq : D.2.2.2.2.2 c = some q) {k0 : gR} {k : Nat → gR} : (gFA G o 6 3 fun v => gLdq G v 105 (nI c) k0 k) = k q := by
  rw [gFA_of h.2.2.1 rfl rfl, gLdq_of h.2.2.2.2.2.2.1 rfl hc (by omega) hq]
theorem MS.putC (h : MS w o G A D) {c q : Nat} {x y : Nat × Nat × Int32 × Int32} (hc : c < 3) (hx : A.2.2.1 c = some x) (hq : D.2.2.2.2.2 c = some q) (b1 : y.1 < 6) (b2 : y.2.1 < 100) : MS w o (gUp G q (.inr (4, [.int (nI y.1), .int (nI y.2.1), .int y.2.2.1, .int y.2.2.2]))) (mSetC A c y) D ∧ mSq 0 0 G (gUp G q (.inr (4, [.int (nI y.1), .int (nI y.2.1), .int y.2.2.1, .int y.2.2.2]))) := by
  obtain ⟨q', e1, e2, e3, e4⟩ := h.2.2.cur hc hx
  have hqq : q' = q := Option.some.inj (e1.symm.trans hq)
  subst hqq
  have s : mSq 0 0 G (gUp G q' (.inr (4, [.int (nI y.1), .int (nI y.2.1), .int y.2.2.1, .int y.2.2.2]))) := mSq.up h.1 e4 (Or.inl ⟨4, _, rfl, by omega⟩) (fun _ q => by cases q)
  exact ⟨h.step s.st (h.2.2.setC hc hx hq b1 b2), s⟩
theorem s_fault (h : MS w o G A D) (v : Int32) : ∃ G', f_M_fault G o v = rI v G' ∧ MS w o G' (mSet A 4 (A.2.2.2 4 + nI 1)) D ∧ mSt 0 0 G G' := by
  obtain ⟨h1, s1⟩ := h.set 4 (A.2.2.2 4 + nI 1)
  refine ⟨_, ?_, h1, s1⟩
  unfold f_M_fault
  rw [m_int h.2.2 (j := 4) (i := 7) (by omega) rfl, m_put h.2.2 (j := 4) (i := 7) (by omega) rfl]
theorem s_make (h : MS w o G A D) {k m : Nat} (hm : A.2.2.2 1 = nI m) : ∃ G', f_M_make G o (nI k) = rA G.2.1 G' ∧ MS w o G' (mSet A 1 (nI (m + 1))) D ∧ mSt 1 2 G G' ∧ mTh G' G.2.1 (k, m) := by
  obtain ⟨G', a1, a2, a3, a4, -⟩ := m_make h.1 h.2.2 k m hm
  rw [hm, nI_add] at a2
  exact ⟨G', a1, h.step a3.st a2, a3.st, a4⟩
theorem s_freeCursor (h : MS w o G A D) : f_M_freeCursor G o = rI (sNo (sFree (fun c => (A.2.2.1 c).isNone) 0 3)) G := by
  have key : ∀ (k n j : Nat), j + k = 3 → k < n → f_M_freeCursor_L2 (fun G5 x4 => rI x4 G5) (fun G6 => rI (-1) G6) n G o (nI j) = rI (sNo (sFree (fun c => (A.2.2.1 c).isNone) j k)) G := by
    intro k
    induction k with
    | zero =>
      intro n j hj hn
      cases n with
      | zero => omega
      | succ n =>
        unfold f_M_freeCursor_L2
        rw [if_pos (nI_le (by omega) (by omega))]; rfl
    | succ k ih =>
      intro n j hj hn
      cases n with
      | zero => omega
      | succ n =>
        unfold f_M_freeCursor_L2 sFree
        rw [if_neg (nI_ge (by omega) (by omega)), gFA_of h.2.2.1 rfl rfl]
        cases hx : A.2.2.1 j with
        | none => rw [gLdq_no h.2.2.2.2.2.2.1 rfl (by omega) (by omega) (h.2.2.nocur (by omega) hx)]; rfl
        | some x =>
          obtain ⟨q, e1, -⟩ := h.2.2.cur (by omega) hx
          rw [gLdq_of h.2.2.2.2.2.2.1 rfl (by omega) (by omega) e1, nI_add, ih n (j + 1) (by omega) (by omega), if_neg (by simp)]
  unfold f_M_freeCursor
  exact key 3 zFu 0 rfl (by unfold zFu; omega)
theorem s_freePart (h : MS w o G A D) : f_M_freePart G o = rI (sNo (sFree (fun c => (A.2.1 c).isNone) 2 4)) G := by
  have key : ∀ (k n j : Nat), j + k = 6 → k < n → f_M_freePart_L2 (fun G5 x4 => rI x4 G5) (fun G6 => rI (-1) G6) n G o (nI j) = rI (sNo (sFree (fun c => (A.2.1 c).isNone) j k)) G := by
    intro k
    induction k with
    | zero =>
      intro n j hj hn
      cases n with
      | zero => omega
      | succ n =>
        unfold f_M_freePart_L2
        rw [if_pos (nI_le (by omega) (by omega))]; rfl
    | succ k ih =>
      intro n j hj hn
      cases n with
      | zero => omega
      | succ n =>
        unfold f_M_freePart_L2 sFree
        rw [if_neg (nI_ge (by omega) (by omega)), gFA_of h.2.2.1 rfl rfl]
        cases hx : A.2.1 j with
        | none => rw [gLdq_no h.2.2.2.2.2.1 rfl (by omega) (by omega) (h.2.2.nopart (by omega) hx)]; rfl
        | some x =>
          obtain ⟨q, e1, -⟩ := h.2.2.part (by omega) hx
          rw [gLdq_of h.2.2.2.2.2.1 rfl (by omega) (by omega) e1, nI_add, ih n (j + 1) (by omega) (by omega), if_neg (by simp)]
  unfold f_M_freePart
  exact key 4 zFu 2 rfl (by unfold zFu; omega)
-- new cursors and parts
theorem gStq_of {a ka ci n i b : Nat} {f : Nat → Option Nat} {fs : List Value} {k : gH → gR} (h : G.2.2 a = some (zQ ka n f)) (hi : i < n) (hn : n < 2 ^ 31) (hb : G.2.2 b = some (.inr (ci, fs))) (hc : ci < 1000) : gStq G a ka ci (nI i) b k = k (gUp G a (zQ ka n (va_up f i (some b)))) := by
  unfold gStq gAqW
  rw [h]
  simp only [zQ]
  rw [if_pos trivial, if_pos (gIn_nI hi hn), nI_clamp (by omega), gOb_of hb (by omega)]
theorem mIn.put {n : Nat} {f : Nat → Option Nat} (h : mIn n f) {i q : Nat} (hq : ∀ j, j < n → f j ≠ some q) : mIn n (va_up f i (some q)) := by
  intro a b x la lb ha hb
  simp only [va_up] at ha hb
  by_cases h1 : a = i
  · by_cases h2 : b = i
    · rw [h1, h2]
    · rw [if_pos h1] at ha
      rw [if_neg h2] at hb
      cases ha
      exact absurd hb (hq b lb)
  · by_cases h2 : b = i
    · rw [if_neg h1] at ha
      rw [if_pos h2] at hb
      cases hb
      exact absurd ha (hq a la)
    · rw [if_neg h1] at ha
      rw [if_neg h2] at hb
      exact h a b x la lb ha hb
/-- every address of the state's parts and cursors lies in the heap -/
theorem MRep.lt (hw : gWf G) (h : MRep w G o A D) : (∀ p q, p < 6 → D.2.2.2.2.1 p = some q → q < G.2.1) ∧ ∀ c q, c < 3 → D.2.2.2.2.2 c = some q → q < G.2.1 := by
  refine ⟨fun p q hp hq => ?_, fun c q hc hq => ?_⟩
  · cases hx : A.2.1 p with
    | none => rw [h.nopart hp hx] at hq; cases hq
    | some x =>
      obtain ⟨q', e1, -, -, -, e2⟩ := h.part hp hx
      rw [hq] at e1
      cases e1
      exact hw _ _ e2
  · cases hx : A.2.2.1 c with
    | none => rw [h.nocur hc hx] at hq; cases hq
    | some x =>
      obtain ⟨q', e1, -, -, e2⟩ := h.cur hc hx
      rw [hq] at e1
      cases e1
      exact hw _ _ e2
end Ref8
end
section
-- both sides at once
section Rel
theorem q_EndC {a a' : Nat → List (Nat × Nat × Nat)} {S : mP × mC × (Nat → Int32)} {c : Nat} : (mEndC (a, S) c).2 = (mEndC (a', S) c).2 := rfl
def qRel (A B : mS) : Prop := A.2 = B.2
theorem qRel.endC {A B : mS} (h : qRel A B) (c : Nat) : qRel (mEndC A c) (mEndC B c) := by
  obtain ⟨a, s⟩ := A
  obtain ⟨b, t⟩ := B
  cases (show s = t from h)
  rfl
theorem qRel.ecst {A B : mS} (h : qRel A B) (p c : Nat) : qRel (mECst p A c) (mECst p B c) := by
  have e : A.2.2.1 c = B.2.2.1 c := by rw [show A.2 = B.2 from h]
  unfold mECst
  rw [e]
  cases B.2.2.1 c with
  | none => exact h
  | some x =>
    simp only
    split
    · exact h.endC c
    · exact h
theorem qRel.ecsts {p : Nat} : ∀ (l : List Nat) {A B : mS}, qRel A B → qRel (l.foldl (mECst p) A) (l.foldl (mECst p) B)
  | [], _, _, h => h
  | c :: l, _, _, h => qRel.ecsts l (h.ecst p c)
theorem qRel.epz {A B : mS} (h : qRel A B) (p : Nat) : qRel (mEPz p A) (mEPz p B) := by
  obtain ⟨a, s⟩ := A
  obtain ⟨b, t⟩ := B
  cases (show s = t from h)
  rfl
def qRel2 (s t : mS × Nat) : Prop := qRel s.1 t.1 ∧ s.2 = t.2
theorem qRel.eps {r : mS → Nat → mS × Nat} (hr : ∀ A B q, qRel A B → qRel2 (r A q) (r B q)) {p : Nat} : ∀ (l : List Nat) {s t : mS × Nat}, qRel2 s t → qRel2 (l.foldl (mEPst r p) s) (l.foldl (mEPst r p) t)
  | [], _, _, h => h
  | q :: l, s, t, h => by
    refine qRel.eps hr l ?_
    have e : s.1.2.1 q = t.1.2.1 q := by rw [show s.1.2 = t.1.2 from h.1]
    unfold mEPst
    rw [e]
    cases t.1.2.1 q with
    | none => exact h
    | some x =>
      simp only
      split
      · have := hr s.1 t.1 q h.1
        exact ⟨this.1, by show s.2 + _ = t.2 + _; rw [h.2, this.2]⟩
      · exact h
theorem qRel.ep : ∀ (d : Nat) (A B : mS) (p : Nat), qRel A B → qRel2 (mEP d A p) (mEP d B p)
  | 0, _, _, _, h => ⟨h, rfl⟩
  | d + 1, A, B, p, h => by
    have h1 := qRel.eps (qRel.ep d) (p := p) (List.range' 2 4) (s := (A, 1)) (t := (B, 1)) ⟨h, rfl⟩
    exact ⟨(qRel.ecsts (List.range' 0 3) h1.1).epz p, h1.2⟩
theorem qRel.es {r exc : Nat} : ∀ (l : List Nat) {s t : mS × Nat}, qRel2 s t → qRel2 (l.foldl (mESt r exc) s) (l.foldl (mESt r exc) t)
  | [], _, _, h => h
  | q :: l, s, t, h => by
    refine qRel.es l ?_
    have e : s.1.2.1 = t.1.2.1 := by rw [show s.1.2 = t.1.2 from h.1]
    unfold mESt
    rw [e]
    cases t.1.2.1 q with
    | none => exact h
    | some x =>
      simp only
      split
      · have := qRel.ep zDp s.1 t.1 q h.1
        exact ⟨this.1, by show s.2 + _ = t.2 + _; rw [h.2, this.2]⟩
      · exact h
theorem qRel.eS {A B : mS} (h : qRel A B) (r exc : Nat) : qRel2 (mES A r exc) (mES B r exc) := qRel.es _ ⟨h, rfl⟩
theorem qRel.ecr {r : Nat} : ∀ (l : List Nat) {A B : mS}, qRel A B → qRel (l.foldl (mECr r) A) (l.foldl (mECr r) B)
  | [], _, _, h => h
  | c :: l, A, B, h => by
    refine qRel.ecr l ?_
    have e : A.2.2.1 c = B.2.2.1 c := by rw [show A.2 = B.2 from h]
    have e2 : A.2.1 = B.2.1 := by rw [show A.2 = B.2 from h]
    unfold mECr
    rw [e, e2]
    cases B.2.2.1 c with
    | none => exact h
    | some x =>
      simp only
      split
      · exact h.endC c
      · exact h
theorem qRel.around {A B : mS} (h : qRel A B) (r p : Nat) : qRel (mAround A r p) (mAround B r p) := qRel.ecr _ (h.eS r p).1
theorem qRel.cc {r : Nat} {exc : Int32} : ∀ (l : List Nat) {A B : mS}, qRel A B → qRel (l.foldl (mCC r exc) A) (l.foldl (mCC r exc) B)
  | [], _, _, h => h
  | c :: l, A, B, h => by
    refine qRel.cc l ?_
    obtain ⟨a, s⟩ := A
    obtain ⟨b, t⟩ := B
    cases (show s = t from h)
    show (mCC r exc (a, s) c).2 = (mCC r exc (b, s) c).2
    unfold mCC
    split
    · rfl
    · show (match s.2.1 c with
        | some x => if mRo s.1 x.1 = r then (if x.1 < 2 then (a, s.1, va_up s.2.1 c (some (x.1, x.2.1, x.2.2.1, nI 1)), s.2.2) else mEndC (a, s) c) else (a, s)
        | none => (a, s)).2 = (match s.2.1 c with
        | some x => if mRo s.1 x.1 = r then (if x.1 < 2 then (b, s.1, va_up s.2.1 c (some (x.1, x.2.1, x.2.2.1, nI 1)), s.2.2) else mEndC (b, s) c) else (b, s)
        | none => (b, s)).2
      cases s.2.1 c with
      | none => rfl
      | some x =>
        simp only
        split
        · split <;> rfl
        · rfl
theorem qRel.chl {z : Int} : ∀ (d : Nat) {A B : mS} (p : Nat), qRel A B → qRel (mChL z d A p) (mChL z d B p)
  | 0, _, _, _, h => h
  | d + 1, A, B, p, h => by
    obtain ⟨a, s⟩ := A
    obtain ⟨b, t⟩ := B
    cases (show s = t from h)
    unfold mChL
    split
    · rfl
    · show qRel (match s.1 p with
        | none => (a, s)
        | some x => mChL z d (a, va_up s.1 p (some (x.1, x.2.1, ((x.2.2 : Int) + z).toNat)), s.2.1, s.2.2) x.1) (match s.1 p with
        | none => (b, s)
        | some x => mChL z d (b, va_up s.1 p (some (x.1, x.2.1, ((x.2.2 : Int) + z).toNat)), s.2.1, s.2.2) x.1)
      cases s.1 p with
      | none => rfl
      | some x => exact qRel.chl d x.1 rfl
theorem qRel.change {A B : mS} (h : qRel A B) (p : Nat) (z : Int) (exc : Int32) : qRel (mChange A p z exc) (mChange B p z exc) := by
  have e2 : A.2.1 = B.2.1 := by rw [show A.2 = B.2 from h]
  unfold mChange
  rw [e2]
  split
  · exact h
  · exact ((qRel.cc _ (qRel.chl zDp p h)).eS _ p).1
theorem mEnds_1 {A A' : mS} {n : Nat} (h : mEnds A A' n) : A'.1 = A.1 := h.1
end Rel
theorem CRepx.cong {exc : Int32} {σ : cS} {A B : mS} (h : CRepx exc σ A) (h1 : ∀ r, r < 2 → (A.1 r).map Prod.snd = (B.1 r).map Prod.snd) (h2 : qRel A B) : CRepx exc σ B := by
  obtain ⟨t1, t2, t3⟩ := h
  refine ⟨fun r i t hr ht => ?_, fun r hr => ?_, ?_⟩
  · have e := congrArg (fun l => l[i]?) (h1 r hr)
    simp only [List.getElem?_map, ht] at e
    cases hx : (A.1 r)[i]? with
    | none => rw [hx] at e; cases e
    | some u =>
      rw [hx] at e
      have e1 : u.2 = t.2 := Option.some.inj e
      rw [t1 r i u hr hx]
      exact cE_sn e1
  · have e := congrArg List.length (h1 r hr)
    rw [List.length_map, List.length_map] at e
    rw [t2 r hr, e]
  · unfold cRx at t3 ⊢
    rw [show A.2 = B.2 from h2] at t3
    exact t3
def xIAS : Nat × (Nat → String) := (3, fun c => if c = 1 then "java/lang/IndexOutOfBoundsException" else if c = 2 then "java/lang/IllegalArgumentException" else "java/lang/IllegalStateException")
def xIS : Nat × (Nat → String) := (2, fun c => if c = 1 then "java/lang/IndexOutOfBoundsException" else "java/lang/IllegalStateException")
def xIG : Nat × (Nat → String) := (2, fun c => if c = 1 then "java/lang/IndexOutOfBoundsException" else "java/lang/IllegalArgumentException")
def xI1 : Nat × (Nat → String) := (1, fun _ => "java/lang/IndexOutOfBoundsException")
def xA1 : Nat × (Nat → String) := (1, fun _ => "java/lang/IllegalArgumentException")
def oI (E : Nat × (Nat → String)) (c : Nat) (a : Int32) (G : gH) : gR := if c = 0 then rI a G else gThrow (E.2 c) G
/-- a call of the class and of the reference: the same refusal, the same answer, the same state -/
def SimOp (w : Nat → Nat) (b o : Nat) (A : mS) (m : Nat) (σ : cS) (H : gH) (E : Nat × (Nat → String)) (F : gR) (R : gH → gR) : Prop :=
  ∃ (c : Nat) (a : Int32) (σ' : cS), c ≤ E.1 ∧ F = oI E c a (cPut b σ' H) ∧
    ∀ (G : gH) (D : mD), MS w o G A D → ∃ (A' : mS) (D' : mD) (G' : gH) (m' : Nat), R G = rI (if c = 0 then a else 0) G' ∧ MS w o G' A' D' ∧ CRep σ' A' ∧ mInv m' A' ∧ m' ≤ m + 1 ∧ A'.2.2.2 0 = nI c ∧ mSt 400 12000 G G'
section Sim
variable {w : Nat → Nat} {b o m : Nat} {A : mS} {σ : cS} {H : gH} {E : Nat × (Nat → String)} {F : gR} {R : gH → gR}
theorem Sim.no (hR : CRep σ A) (hI : mInv m A) (c : Nat) (hc : 0 < c) (hc3 : c ≤ E.1) (hF : F = gThrow (E.2 c) (cPut b σ H)) (hM : ∀ (G : gH) (D : mD), MS w o G A D → ∃ G', R G = rI 0 G' ∧ MS w o G' (mSet A 0 (nI c)) D ∧ mSt 0 0 G G') : SimOp w b o A m σ H E F R := by
  refine ⟨c, 0, σ, hc3, ?_, fun G D h => ?_⟩
  · unfold oI
    rw [if_neg (by omega)]; exact hF
  · obtain ⟨G', a1, a2, a3⟩ := hM G D h
    refine ⟨mSet A 0 (nI c), D, G', m, ?_, a2, hR, hI, by omega, rfl, a3.mono (by omega) (by omega)⟩
    rw [if_neg (by omega)]; exact a1
theorem Sim.yes (a : Int32) (σ' : cS) (hF : F = rI a (cPut b σ' H)) (hM : ∀ (G : gH) (D : mD), MS w o G A D → ∃ (A' : mS) (D' : mD) (G' : gH) (m' : Nat), R G = rI a G' ∧ MS w o G' A' D' ∧ CRep σ' A' ∧ mInv m' A' ∧ m' ≤ m + 1 ∧ A'.2.2.2 0 = 0 ∧ mSt 400 12000 G G') : SimOp w b o A m σ H E F R := by
  refine ⟨0, a, σ', Nat.zero_le _, ?_, fun G D h => ?_⟩
  · unfold oI
    rw [if_pos rfl]; exact hF
  · obtain ⟨A', D', G', m', z⟩ := hM G D h
    exact ⟨A', D', G', m', z⟩
end Sim
section Pre
variable {w : Nat → Nat} {G : gH} {o : Nat} {A : mS} {D : mD}
theorem r_list1 (h : MS w o G A D) {x : Int32} (hx : mIsL A x) : ∃ G', (∀ X Y : gH → gR, (gOb G o 6 fun o2 => bI (f_M_isNoList G o x) fun v5 G4 => gOb G4 o 6 fun o7 => bI (f_M_start G4 o v5 (nI 1)) fun v10 G9 => if v10 = 0 then X G9 else Y G9) = X G') ∧ MS w o G' (mSet A 0 0) D ∧ mSt 0 0 G G' := by
  obtain ⟨G', a1, a2, a3⟩ := s_start0 h (nI 1)
  refine ⟨G', fun X Y => ?_, a2, a3⟩
  rw [gOb_of h.2.2.1 rfl, (s_noList h x).1 hx, bI_rI, gOb_of h.2.2.1 rfl, a1, bI_rI, if_pos rfl]
theorem r_list0 (h : MS w o G A D) {x : Int32} (hx : ¬ mIsL A x) : ∃ G', (∀ X Y : gH → gR, (gOb G o 6 fun o2 => bI (f_M_isNoList G o x) fun v5 G4 => gOb G4 o 6 fun o7 => bI (f_M_start G4 o v5 (nI 1)) fun v10 G9 => if v10 = 0 then X G9 else Y G9) = Y G') ∧ MS w o G' (mSet A 0 (nI 1)) D ∧ mSt 0 0 G G' := by
  obtain ⟨G', a1, a2, a3⟩ := s_start1 h (code := nI 1) (by decide)
  refine ⟨G', fun X Y => ?_, a2, a3⟩
  rw [gOb_of h.2.2.1 rfl, (s_noList h x).2 hx, bI_rI, gOb_of h.2.2.1 rfl, a1, bI_rI, if_neg (by decide)]
theorem r_cur1 (h : MS w o G A D) {x : Int32} (hx : mIsC A x) : ∃ G', (∀ X Y : gH → gR, (gOb G o 6 fun o2 => bI (f_M_isNoCursor G o x) fun v5 G4 => gOb G4 o 6 fun o7 => bI (f_M_start G4 o v5 (nI 1)) fun v10 G9 => if v10 = 0 then X G9 else Y G9) = X G') ∧ MS w o G' (mSet A 0 0) D ∧ mSt 0 0 G G' := by
  obtain ⟨G', a1, a2, a3⟩ := s_start0 h (nI 1)
  refine ⟨G', fun X Y => ?_, a2, a3⟩
  rw [gOb_of h.2.2.1 rfl, (s_noCursor h x).1 hx, bI_rI, gOb_of h.2.2.1 rfl, a1, bI_rI, if_pos rfl]
theorem r_cur0 (h : MS w o G A D) {x : Int32} (hx : ¬ mIsC A x) : ∃ G', (∀ X Y : gH → gR, (gOb G o 6 fun o2 => bI (f_M_isNoCursor G o x) fun v5 G4 => gOb G4 o 6 fun o7 => bI (f_M_start G4 o v5 (nI 1)) fun v10 G9 => if v10 = 0 then X G9 else Y G9) = Y G') ∧ MS w o G' (mSet A 0 (nI 1)) D ∧ mSt 0 0 G G' := by
  obtain ⟨G', a1, a2, a3⟩ := s_start1 h (code := nI 1) (by decide)
  refine ⟨G', fun X Y => ?_, a2, a3⟩
  rw [gOb_of h.2.2.1 rfl, (s_noCursor h x).2 hx, bI_rI, gOb_of h.2.2.1 rfl, a1, bI_rI, if_neg (by decide)]
theorem r_ref0 (h : MS w o G A D) (h0 : A.2.2.2 0 = 0) {code : Int32} : ∀ X Y : gH → gR, (gOb G o 6 fun o2 => bI (f_M_refuse G o (nI 0) code) fun v10 G9 => if v10 = 0 then X G9 else Y G9) = X G := by
  intro X Y
  have e : nI 0 = (0 : Int32) := rfl
  rw [gOb_of h.2.2.1 rfl, e, s_refuse0 h code h0, bI_rI, if_pos rfl]
theorem r_ref0b (h : MS w o G A D) (h0 : A.2.2.2 0 = 0) {code : Int32} : ∀ X Y : gH → gR, (gOb G o 6 fun o2 => bI (f_M_refuse G o 0 code) fun v10 G9 => if v10 = 0 then X G9 else Y G9) = X G := by
  intro X Y
  rw [gOb_of h.2.2.1 rfl, s_refuse0 h code h0, bI_rI, if_pos rfl]
theorem r_ref1 (h : MS w o G A D) (h0 : A.2.2.2 0 = 0) {code : Int32} (hc : ¬ code ≤ 0) : ∃ G', (∀ X Y : gH → gR, (gOb G o 6 fun o2 => bI (f_M_refuse G o (nI 1) code) fun v10 G9 => if v10 = 0 then X G9 else Y G9) = Y G') ∧ MS w o G' (mSet A 0 code) D ∧ mSt 0 0 G G' := by
  obtain ⟨G', a1, a2, a3⟩ := s_refuse1 h hc h0
  refine ⟨G', fun X Y => ?_, a2, a3⟩
  have e : nI 1 = (1 : Int32) := rfl
  rw [gOb_of h.2.2.1 rfl, e, a1, bI_rI, if_neg (by decide)]
theorem r_ref1b (h : MS w o G A D) (h0 : A.2.2.2 0 = 0) {code : Int32} (hc : ¬ code ≤ 0) : ∃ G', (∀ X Y : gH → gR, (gOb G o 6 fun o2 => bI (f_M_refuse G o 1 code) fun v10 G9 => if v10 = 0 then X G9 else Y G9) = Y G') ∧ MS w o G' (mSet A 0 code) D ∧ mSt 0 0 G G' := by
  obtain ⟨G', a1, a2, a3⟩ := s_refuse1 h hc h0
  refine ⟨G', fun X Y => ?_, a2, a3⟩
  rw [gOb_of h.2.2.1 rfl, a1, bI_rI, if_neg (by decide)]
theorem s_inK (G : gH) (x : Int32) : (mIsP 31 x → f_M_isIn G x (nI 0) (nI 30) = rI 1 G) ∧ (¬ mIsP 31 x → f_M_isIn G x (nI 0) (nI 30) = rI 0 G) := by
  obtain ⟨i1, i2⟩ := s_isIn G 30 (by omega) x
  have e : mIsG 30 x ↔ mIsP 31 x := ⟨fun ⟨i, hi, e⟩ => ⟨i, by omega, e⟩, fun ⟨i, hi, e⟩ => ⟨i, by omega, e⟩⟩
  exact ⟨fun k => i1 (e.mpr k), fun k => i2 (fun q => k (e.mp q))⟩
theorem s_noKey (G : gH) (o : Nat) (x : Int32) : (mIsP 31 x → f_M_isNoKey G o x = rI 0 G) ∧ (¬ mIsP 31 x → f_M_isNoKey G o x = rI 1 G) := by
  obtain ⟨i1, i2⟩ := s_inK G x
  unfold f_M_isNoKey
  refine ⟨fun k => ?_, fun k => ?_⟩
  · rw [i1 k, bI_rI, if_neg (by decide)]; exact rZ_0
  · rw [i2 k, bI_rI, if_pos rfl]; exact rZ_1
theorem s_noPlace (h : MS w o G A D) (hok : mOk A.2.1) {p : Nat} (hv : mV A p) (hl : mLen A p < 100) (x : Int32) : (mIsP (mLen A p) x → f_M_isNoPlace G o (nI p) x = rI 0 G) ∧ (¬ mIsP (mLen A p) x → f_M_isNoPlace G o (nI p) x = rI 1 G) := by
  unfold f_M_isNoPlace
  rw [gOb_of h.2.2.1 rfl, s_len h hok hv, bI_rI]
  by_cases hz : mLen A p = 0
  · have e : f_M_isIn G x (nI 0) (nI (mLen A p) - nI 1) = rI 0 G := by
      rw [hz]
      unfold f_M_isIn
      by_cases h1 : x < nI 0
      · rw [if_pos h1]; exact rZ_0
      · rw [if_neg h1, if_pos]
        · exact rZ_0
        · rw [show nI 0 - nI 1 = (-1 : Int32) by decide]
          exact Int32.lt_of_lt_of_le (by decide : (-1 : Int32) < nI 0) (Int32.not_lt.mp h1)
    refine ⟨fun k => ?_, fun _ => ?_⟩
    · obtain ⟨i, hi, -⟩ := k
      omega
    · rw [e, bI_rI, if_pos rfl]; exact rZ_1
  · obtain ⟨i1, i2⟩ := s_isIn G (mLen A p - 1) (by omega) x
    have e : mIsG (mLen A p - 1) x ↔ mIsP (mLen A p) x := ⟨fun ⟨i, hi, e⟩ => ⟨i, by omega, e⟩, fun ⟨i, hi, e⟩ => ⟨i, by omega, e⟩⟩
    rw [nI_sub (by omega)]
    refine ⟨fun k => ?_, fun k => ?_⟩
    · rw [i1 (e.mpr k), bI_rI, if_neg (by decide)]; exact rZ_0
    · rw [i2 (fun q => k (e.mp q)), bI_rI, if_pos rfl]; exact rZ_1
theorem s_isFull (h : MS w o G A D) (hok : mOk A.2.1) {p r s n : Nat} (hv : mV A p) (hr : mRw A.2.1 zDp p = some (r, s)) (hn : n < 100) : ((A.1 r).length + n ≤ 31 → f_M_isFull G o (nI p) (nI n) = rI 0 G) ∧ (31 < (A.1 r).length + n → f_M_isFull G o (nI p) (nI n) = rI 1 G) := by
  have e := m_isFull h.2.2 (hv.lt hok) hr hn
  refine ⟨fun k => ?_, fun k => ?_⟩
  · rw [e, decide_eq_false (by omega)]; exact rZ_0
  · rw [e, decide_eq_true k]; exact rZ_1
end Pre
end
