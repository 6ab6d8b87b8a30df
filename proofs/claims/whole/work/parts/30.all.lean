-- the class: made anew, assigned, turned, moved
def sMv (fm : Nat → Nat) (src : List (Nat × Nat × Nat)) (s : Nat) : Nat → Nat → List (Nat × Nat × Nat) → List (Nat × Nat × Nat)
  | _, 0, L => L
  | j, d + 1, L => sMv fm src s (j + 1) d (match src[j]? with
    | some t => L.set (s + fm j) t
    | none => L)
theorem sMv_len {fm : Nat → Nat} {src : List (Nat × Nat × Nat)} {s : Nat} : ∀ (d j : Nat) (L : List (Nat × Nat × Nat)), (sMv fm src s j d L).length = L.length
  | 0, _, _ => rfl
  | d + 1, j, L => by
    rw [sMv, sMv_len d]
    cases src[j]? with
    | none => rfl
    | some t => exact List.length_set
theorem set_mem {α : Type} {a c : α} : ∀ {l : List α} {i : Nat}, a ∈ l.set i c → a ∈ l ∨ a = c
  | [], i, h => by simp at h
  | x :: l, 0, h => by
    rw [List.set_cons_zero] at h
    rcases List.mem_cons.mp h with k | k
    · exact Or.inr k
    · exact Or.inl (List.mem_cons_of_mem _ k)
  | x :: l, i + 1, h => by
    rw [List.set_cons_succ] at h
    rcases List.mem_cons.mp h with k | k
    · exact Or.inl (by rw [k]; exact List.mem_cons_self ..)
    · rcases set_mem k with k | k
      · exact Or.inl (List.mem_cons_of_mem _ k)
      · exact Or.inr k
theorem sMv_mem {fm : Nat → Nat} {src : List (Nat × Nat × Nat)} {s : Nat} {t : Nat × Nat × Nat} : ∀ (d j : Nat) (L : List (Nat × Nat × Nat)), t ∈ sMv fm src s j d L → t ∈ L ∨ t ∈ src
  | 0, _, _, h => Or.inl h
  | d + 1, j, L, h => by
    rw [sMv] at h
    rcases sMv_mem d _ _ h with k | k
    · cases hx : src[j]? with
      | none => rw [hx] at k; exact Or.inl k
      | some u =>
        rw [hx] at k
        rcases set_mem k with k | k
        · exact Or.inl k
        · exact Or.inr (by rw [k]; exact List.mem_of_getElem? hx)
    · exact Or.inr k
theorem fm_all : ∀ a : Nat, a < 111 → ∀ l, l < 31 → (if 0 ≤ Int32.ofInt ((a : Int) - 40) ^^^ nI (l + 1) then Int32.ofInt ((a : Int) - 40) - Int32.ofInt ((a : Int) - 40) / nI (l + 1) * nI (l + 1) else if Int32.ofInt ((a : Int) - 40) - Int32.ofInt ((a : Int) - 40) / nI (l + 1) * nI (l + 1) = 0 then Int32.ofInt ((a : Int) - 40) - Int32.ofInt ((a : Int) - 40) / nI (l + 1) * nI (l + 1) else Int32.ofInt ((a : Int) - 40) - Int32.ofInt ((a : Int) - 40) / nI (l + 1) * nI (l + 1) + nI (l + 1)) = nI (((a : Int) - 40) % ((l : Int) + 1)).toNat := by decide +kernel
/-- whither a place goes -/
def sFm (z len j : Nat) : Nat := ((((j + z : Nat) : Int) - 40) % (len : Int)).toNat
theorem fm_of {z len j : Nat} {G : gH} (hz : z < 81) (h1 : 0 < len) (hl : len ≤ 31) (hj : j < 30 + 1) : f_MA_floorMod G (nI j + Int32.ofInt ((z : Int) - 40)) (nI len) = rI (nI (sFm z len j)) G ∧ sFm z len j < len := by
  have e : nI j + Int32.ofInt ((z : Int) - 40) = Int32.ofInt (((j + z : Nat) : Int) - 40) := by
    rw [← ofInt_nI j, ← Int32.ofInt_add]
    congr 1
    omega
  have h := fm_all (j + z) (by omega) (len - 1) (by omega)
  rw [show len - 1 + 1 = len by omega, show ((len - 1 : Nat) : Int) + 1 = (len : Int) by omega] at h
  have hm : (((j + z : Nat) : Int) - 40) % (len : Int) < len ∧ 0 ≤ (((j + z : Nat) : Int) - 40) % (len : Int) := ⟨Int.emod_lt_of_pos _ (by omega), Int.emod_nonneg _ (by omega)⟩
  refine ⟨?_, by unfold sFm; omega⟩
  unfold f_MA_floorMod gRem
  rw [e, if_neg (nI_ne0 h1 (by omega))]
  generalize Int32.ofInt (((j + z : Nat) : Int) - 40) = x at h ⊢
  unfold sFm
  rw [← h]
  generalize x - x / nI len * nI len = v
  show (if 0 ≤ x ^^^ nI len then rI v G else if v = 0 then rI v G else rI (v + nI len) G) = _
  split
  · rfl
  · split <;> rfl
theorem by_of {x : Int32} (h1 : ¬ x < -40) (h2 : x ≤ nI 40) : ∃ z, z < 81 ∧ x = Int32.ofInt ((z : Int) - 40) := by
  rw [Int32.lt_iff_toInt_lt] at h1
  rw [Int32.le_iff_toInt_le, nI_toInt (by omega)] at h2
  rw [show (-40 : Int32).toInt = -40 by decide] at h1
  refine ⟨(x.toInt + 40).toNat, by omega, ?_⟩
  rw [show (((x.toInt + 40).toNat : Nat) : Int) - 40 = x.toInt by omega, Int32.ofInt_toInt]
section All2
variable {b : Nat} {G : gH}
theorem x_replace {exc : Int32} {σ : cS} {A : mS} {p r s m t1 m1 : Nat} {new : List (Nat × Nat × Nat)} {K : gH → Nat → Int32 → Int32 → gR} (h : CRepx exc σ A) (hw : mInw exc p A) (hv : mV A p) (hr : mRw A.2.1 zDp p = some (r, s)) (ht : ∀ t, t ∈ A.1 r → mTok m t) (hm : m ≤ 600) (ht1 : t1 < 31) (hm1 : m1 < 31)
    (hnew : new.map Prod.snd = (sSeg A r s (mLen A p)).map (fun t => ((t.2.1 * t1 + m1) % 31, t.2.2))) :
    ∃ σ', f_X_replaceAll_L58 K zFu (cPut b σ G) b (nI p) (nI t1) (nI m1) (nI (mLen A p)) (nI 0) = K (cPut b σ' G) b (nI p) (nI (mLen A p)) ∧ CRepx exc σ' (mRows A r (sSpl (A.1 r) s new)) := by
  have hr2 := mRw_lt _ _ _ _ hr
  have hp := hv.lt hw.1
  have hf := hw.2.1.rw _ _ _ _ hr
  have h31 := hw.2.2.1 r hr2
  obtain ⟨e3, e4⟩ := h.2.2.2.2.1 p r s hp hr
  have hsl := sSeg_len hf
  have hnl : new.length = mLen A p := by
    have := congrArg List.length hnew
    rw [List.length_map, List.length_map] at this
    omega
  generalize hvD : (fun i : Nat => match new[i]? with
    | some u => cE u
    | none => 0) = v
  have hv2 : ∀ i t, new[i]? = some t → v i = cE t := by
    intro i t hi
    rw [← hvD]
    show (match new[i]? with
      | some u => cE u
      | none => 0) = _
    rw [hi]
  refine ⟨cArr σ 0 (cWr (σ.1 0) (31 * r + s) 0 (mLen A p) v), ?_, ?_⟩
  · rw [y_repL (r := r) (s := s) (sg := sSeg A r s (mLen A p)) (m := m) (v := v) hp (by omega) (by omega) hsl (fun t h1 => ht t (sSeg_mem h1)) hm ht1 hm1 (fun i t hi => by
      have h1 : (new.map Prod.snd)[i]? = some ((t.2.1 * t1 + m1) % 31, t.2.2) := by rw [hnew, List.getElem?_map, hi]; rfl
      rw [List.getElem?_map] at h1
      cases hx : new[i]? with
      | none => rw [hx] at h1; cases h1
      | some u =>
        rw [hx] at h1
        have e1 : u.2 = ((t.2.1 * t1 + m1) % 31, t.2.2) := Option.some.inj h1
        rw [hv2 i u hx]
        unfold cE
        rw [e1]) (mLen A p) zFu 0 σ (by omega) (by unfold zFu; omega) e3 e4 (fun i t _ hi => by
      have hil : i < mLen A p := by
        have := (List.getElem?_eq_some_iff.mp hi).1
        omega
      rw [sSeg_at hil] at hi
      rw [Nat.add_assoc]
      exact h.1 r (s + i) t hr2 hi)]
  · have hseg : cSeg (σ.1 0) (31 * r) (A.1 r) := h.1.seg hr2
    have z := hseg.spl (s := s) (new := new) (v := v) (by omega) hv2
    rw [hnl] at z
    exact h.rows hw.2.2.1 (sSpl_len (by omega)) (cWr_out (by omega)) z
theorem x_copyToRow {exc : Int32} {σ : cS} {A : mS} {p r s r1 : Nat} (h : CRepx exc σ A) (hw : mInw exc p A) (hv : mV A p) (hr : mRw A.2.1 zDp p = some (r, s)) (hr1 : r1 < 2) :
    ∃ σ', f_I_copyToRow (cPut b σ G) (b + 1) (nI r1) (nI p) = rV (cPut b σ' G) ∧ CRepx exc σ' (mRows A r1 (sSeg A r s (mLen A p))) := by
  have hr2 := mRw_lt _ _ _ _ hr
  have hp := hv.lt hw.1
  have hf := hw.2.1.rw _ _ _ _ hr
  have h31 := hw.2.2.1 r hr2
  have hrr : mRw A.2.1 zDp r1 = some (r1, 0) := by
    show mRw A.2.1 (7 + 1) r1 = _
    unfold mRw; rw [if_pos hr1]
  obtain ⟨e3, e4⟩ := h.2.2.2.2.1 p r s hp hr
  obtain ⟨f3, f4⟩ := h.2.2.2.2.1 r1 r1 0 (by omega) hrr
  have hsl := sSeg_len hf
  have hsq := h.1.seg hr2
  generalize hf' : cWr (σ.1 0) (31 * r1) 0 (mLen A p) (fun i => σ.1 0 (31 * r + s + i)) = f'
  refine ⟨cArr (cArr σ 0 f') 1 (upd (σ.1 1) r1 (nI (mLen A p))), ?_, ?_, fun r' hr' => ?_, ?_, h.2.2.2⟩
  · unfold f_I_copyToRow
    rw [c_ob_1, x_len h hw.1 hv, bI_rI, y_toRowL (r := r) (s := s) (f := σ.1 0) hp hr1 (by omega) hr2 (mLen A p) zFu 0 σ (by omega) (by unfold zFu; omega) e3 e4 f3 f4 (fun _ _ _ => rfl), hf']
    simp only [c_ob_0, c_fa_0_0, c_fa_0_1, c_fi_0_2, c_put_0_2, c_fi_0_3, c_put_0_3, c_fi_0_4, c_put_0_4, c_ob_1, c_fa_1_0, c_fa_1_1, c_fa_1_2, c_fa_1_3, c_fa_1_4, c_fa_1_5, c_fi_1_6, c_put_1_6, c_ob_2, c_fa_2_0, c_ob_4, c_fa_4_0, c_ob_6, c_fa_6_0, c_ob_8, c_fa_8_0, c_ob_10, c_fa_10_0, c_ob_12, c_fa_12_0, c_ob_14, c_fa_14_0, c_fa_14_1, c_fa_14_2, c_fa_14_3, c_fi_14_4, c_put_14_4, c_ob_15, c_fa_15_0, c_ob_17, c_fa_17_0, c_ob_19, c_fa_19_0, c_ob_21, c_fa_21_0, c_len_0, c_ld_0, c_st_0, c_rd_0, c_wr_0, c_len_1, c_ld_1, c_st_1, c_rd_1, c_wr_1, c_len_2, c_ld_2, c_st_2, c_rd_2, c_wr_2, c_len_3, c_ld_3, c_st_3, c_rd_3, c_wr_3, c_len_4, c_ld_4, c_st_4, c_rd_4, c_wr_4, c_len_5, c_ld_5, c_st_5, c_rd_5, c_wr_5, c_len_6, c_ld_6, c_st_6, c_rd_6, c_wr_6, c_len_7, c_ld_7, c_st_7, c_rd_7, c_wr_7, c_len_8, c_ld_8, c_st_8, c_rd_8, c_wr_8, c_len_9, c_ld_9, c_st_9, c_rd_9, c_wr_9, bI_rI, bL_rL, bA_rA, bV_rV, bI_th, bL_th, bA_th, bV_th, rZ_0, rZ_1]
    rw [wr_nI (by omega) (by decide), cSet_arr, cArr_ne (by decide)]
  · rw [cArr_ne (by decide), cArr_at]
    refine h.1.row hw.2.2.1 (fun q hq => ?_) (fun i t ht => ?_)
    · rw [← hf']
      exact if_neg (by omega)
    · have hi : i < mLen A p := by
        have := (List.getElem?_eq_some_iff.mp ht).1
        omega
      rw [← hf']
      show (if _ then _ else _) = _
      rw [if_pos (by omega), show 31 * r1 + i - 31 * r1 = i by omega]
      exact (hsq.drop (n := s)).take i t ht
  · rw [cArr_at]
    show upd (σ.1 1) r1 (nI (mLen A p)) r' = nI (if r' = r1 then sSeg A r s (mLen A p) else A.1 r').length
    simp only [upd]
    by_cases e : r' = r1
    · rw [if_pos e, if_pos e, hsl]
    · rw [if_neg e, if_neg e]; exact h.2.1 r' hr'
  · rw [cArr_at]
    intro q h2 h6
    have h0 := h.2.2.1 q h2 h6
    show match A.2.1 q with
      | none => upd (σ.1 1) r1 (nI (mLen A p)) q = -1
      | some x => upd (σ.1 1) r1 (nI (mLen A p)) q = nI x.2.2
    simp only [upd]
    rw [if_neg (by omega)]; exact h0
theorem y_swap {σ : cS} {p r s i j : Nat} (hp : p < 6) (h3 : σ.1 3 p = nI r) (h4 : σ.1 4 p = nI s) (hi : 31 * r + s + i < 62) (hj : 31 * r + s + j < 62) :
    f_I_swap (cPut b σ G) (b + 1) (nI p) (nI i) (nI j) = rV (cPut b (cArr σ 0 (upd (upd (σ.1 0) (31 * r + s + i) (σ.1 0 (31 * r + s + j))) (31 * r + s + j) (σ.1 0 (31 * r + s + i)))) G) := by
  unfold f_I_swap
  rw [c_ob_1, y_thing hp h3 h4 hi, bI_rI, c_ob_1, y_thing hp h3 h4 hj, bI_rI, c_ob_1, y_write hp h3 h4 hi, bV_rV, c_ob_1, y_write hp (by rw [cArr_ne (by decide)]; exact h3) (by rw [cArr_ne (by decide)]; exact h4) hj, bV_rV, cArr_cArr, cArr_at]
theorem gDiv_of {a c : Nat} {k : Int32 → gR} (ha : a < 2 ^ 31) (hc : c < 2 ^ 31) (h0 : 0 < c) : gDiv (nI a) (nI c) k = k (nI (a / c)) := by
  unfold gDiv
  rw [if_neg (nI_ne0 h0 hc), nI_divI ha hc]
def cRv (f : Nat → Int32) (o len j : Nat) : Nat → Int32 := fun q => if o ≤ q ∧ q < o + len ∧ (q - o < j ∨ len ≤ q - o + j) then f (o + (len - 1 - (q - o))) else f q
theorem y_turnL {K : gH → Int32 → gR} {p r s len : Nat} {f : Nat → Int32} (hp : p < 6) (hb : 31 * r + s + len ≤ 62) (hlen : len ≤ 31) : ∀ (d n j : Nat) (σ : cS), j + d = len / 2 → d < n → σ.1 3 p = nI r → σ.1 4 p = nI s → σ.1 0 = cRv f (31 * r + s) len j →
    f_X_turn_L16 K n (cPut b σ G) b (nI p) (nI len) (nI j) = K (cPut b (cArr σ 0 (cRv f (31 * r + s) len (len / 2))) G) (nI len)
  | _, 0, _, _, _, h, _, _, _ => absurd h (Nat.not_lt_zero _)
  | 0, n + 1, j, σ, hj, _, h3, h4, hf => by
    unfold f_X_turn_L16
    rw [gDiv_of (by omega) (by omega) (by omega), if_pos (nI_le (by omega) (by omega)), show len / 2 = j by omega, ← hf, cArr_id]
  | d + 1, n + 1, j, σ, hj, hn, h3, h4, hf => by
    unfold f_X_turn_L16
    rw [gDiv_of (by omega) (by omega) (by omega), if_neg (nI_ge (by omega) (by omega)), c_fa_0_0, c_ob_1, nI_sub (by omega), nI_sub (by omega), y_swap hp h3 h4 (by omega) (by omega), bV_rV, nI_add,
      y_turnL hp hb hlen d n (j + 1) _ (by omega) (by omega) (by rw [cArr_ne (by decide)]; exact h3) (by rw [cArr_ne (by decide)]; exact h4) (by
        rw [cArr_at, hf]
        funext q
        simp only [upd, cRv]
        by_cases h1 : q = 31 * r + s + (len - 1 - j)
        · rw [if_pos h1, if_neg (by omega), if_pos (by omega)]
          refine congrArg f ?_; omega
        · rw [if_neg h1]
          by_cases h2 : q = 31 * r + s + j
          · rw [if_pos h2, if_neg (by omega), if_pos (by omega)]
            refine congrArg f ?_; omega
          · rw [if_neg h2]
            by_cases h5 : 31 * r + s ≤ q ∧ q < 31 * r + s + len ∧ (q - (31 * r + s) < j ∨ len ≤ q - (31 * r + s) + j)
            · rw [if_pos h5, if_pos (by omega)]
            · rw [if_neg h5, if_neg (by omega)]), cArr_cArr]
theorem x_turn {exc : Int32} {σ : cS} {A : mS} {p r s : Nat} {K : gH → Int32 → gR} (h : CRepx exc σ A) (hw : mInw exc p A) (hv : mV A p) (hr : mRw A.2.1 zDp p = some (r, s)) :
    ∃ σ', f_X_turn_L16 K zFu (cPut b σ G) b (nI p) (nI (mLen A p)) (nI 0) = K (cPut b σ' G) (nI (mLen A p)) ∧ CRepx exc σ' (mRows A r (sSpl (A.1 r) s (sSeg A r s (mLen A p)).reverse)) := by
  have hr2 := mRw_lt _ _ _ _ hr
  have hp := hv.lt hw.1
  have hf := hw.2.1.rw _ _ _ _ hr
  have h31 := hw.2.2.1 r hr2
  obtain ⟨e3, e4⟩ := h.2.2.2.2.1 p r s hp hr
  have hsl := sSeg_len hf
  have hsq := h.1.seg hr2
  refine ⟨_, y_turnL (r := r) (s := s) (f := σ.1 0) hp (by omega) (by omega) (mLen A p / 2) zFu 0 σ (by omega) (by unfold zFu; omega) e3 e4 (by
    funext q
    simp only [cRv]
    rw [if_neg (by omega)]), ?_⟩
  have hrl : (sSeg A r s (mLen A p)).reverse.length = mLen A p := by rw [List.length_reverse, hsl]
  refine h.rows hw.2.2.1 (sSpl_len (by omega)) (fun q hq => if_neg (by omega)) ?_
  have z := hsq.spl (s := s) (new := (sSeg A r s (mLen A p)).reverse) (v := fun i => σ.1 0 (31 * r + s + (mLen A p - 1 - i))) (by omega) (fun i t hi => by
    have hil : i < mLen A p := by
      have := (List.getElem?_eq_some_iff.mp hi).1
      omega
    rw [List.getElem?_reverse (by omega), hsl] at hi
    exact (hsq.drop (n := s)).take (mLen A p - 1 - i) t hi)
  rw [hrl] at z
  have e : cWr (σ.1 0) (31 * r + s) 0 (mLen A p) (fun i => σ.1 0 (31 * r + s + (mLen A p - 1 - i))) = cRv (σ.1 0) (31 * r + s) (mLen A p) (mLen A p / 2) := by
    funext q
    simp only [cWr, cRv]
    by_cases h1 : 31 * r + s + 0 ≤ q ∧ q < 31 * r + s + mLen A p
    · rw [if_pos h1]
      by_cases h2 : q - (31 * r + s) < mLen A p / 2 ∨ mLen A p ≤ q - (31 * r + s) + mLen A p / 2
      · rw [if_pos ⟨by omega, by omega, h2⟩]
      · rw [if_neg (fun k => h2 k.2.2)]
        refine congrArg (σ.1 0) ?_; omega
    · rw [if_neg h1, if_neg (by omega)]
  rw [← e]; exact z
theorem y_moveL {K : gH → gR} {p r s len z : Nat} {sg : List (Nat × Nat × Nat)} (hp : p < 6) (hr : r < 2) (hb : s + len ≤ 31) (hz : z < 81) (hsl : sg.length = len) (hsg : ∀ (i : Nat) (t : Nat × Nat × Nat), sg[i]? = some t → t.2.1 < 31 ∧ t.2.2 < 600) : ∀ (d n j : Nat) (σ : cS) (L : List (Nat × Nat × Nat)), j + d = len → d < n → σ.1 3 p = nI r → σ.1 4 p = nI s → cSp (σ.1 5) 0 (sEn 0 sg) → cSeg (σ.1 0) (31 * r) L →
    ∃ f', f_I_moveOn_L20 K n (cPut b σ G) (b + 1) (nI p) (Int32.ofInt ((z : Int) - 40)) (nI len) (nI j) = K (cPut b (cArr σ 0 f') G) ∧ cOut r (σ.1 0) f' ∧ cSeg f' (31 * r) (sMv (sFm z len) sg s j d L)
  | _, 0, _, _, _, _, h, _, _, _, _ => absurd h (Nat.not_lt_zero _)
  | 0, n + 1, j, σ, L, hj, _, _, _, _, hL => by
    refine ⟨σ.1 0, ?_, cOut.refl, hL⟩
    unfold f_I_moveOn_L20
    rw [if_pos (nI_le (by omega) (by omega)), cArr_id]
  | d + 1, n + 1, j, σ, L, hj, hn, h3, h4, h5, hL => by
    have hjs : j < sg.length := by omega
    have hs := List.getElem?_eq_getElem hjs
    generalize sg[j] = t at hs
    have htk := hsg j t hs
    obtain ⟨m1, m2⟩ := fm_of (z := z) (len := len) (j := j) (G := cPut b σ G) hz (by omega) (by omega) (by omega)
    have e5 : σ.1 5 j = nI (cN (t.2, j)) := by
      have := h5 j (t.2, 0 + j) (by rw [sEn_at, hs]; rfl)
      rw [Nat.zero_add] at this; exact this
    obtain ⟨f', a1, a2, a3⟩ := y_moveL (K := K) hp hr hb hz hsl hsg d n (j + 1) (cArr σ 0 (upd (σ.1 0) (31 * r + s + sFm z len j) (cE t))) (L.set (s + sFm z len j) t) (by omega) (by omega) (by rw [cArr_ne (by decide)]; exact h3) (by rw [cArr_ne (by decide)]; exact h4) (by rw [cArr_ne (by decide)]; exact h5) (by rw [cArr_at, Nat.add_assoc]; exact hL.set)
    rw [cArr_at] at a2
    refine ⟨f', ?_, cOut.trans (fun q hq => ?_) a2, ?_⟩
    · unfold f_I_moveOn_L20
      rw [if_neg (nI_ge (by omega) (by omega)), m1, bI_rI, c_ob_1, y_inSpare (e := (t.2, j)) (by omega) ⟨htk.1, by have := htk.2; simp only; omega, by simp only; omega⟩ e5, bI_rI, c_ob_1, y_write hp h3 h4 (by omega), bV_rV, nI_add]
      have : nI (32 * t.2.2 + t.2.1) = cE t := rfl
      rw [this, a1, cArr_cArr]
    · simp only [upd]
      rw [if_neg (by omega)]
    · rw [sMv, hs]; exact a3
theorem x_moveOn {exc : Int32} {σ : cS} {A : mS} {p r s m z : Nat} (h : CRepx exc σ A) (hw : mInw exc p A) (hv : mV A p) (hr : mRw A.2.1 zDp p = some (r, s)) (ht : ∀ t, t ∈ A.1 r → mTok m t) (hm : m ≤ 600) (hz : z < 81) (h1 : 0 < mLen A p) :
    ∃ σ', f_I_moveOn (cPut b σ G) (b + 1) (nI p) (Int32.ofInt ((z : Int) - 40)) = rV (cPut b σ' G) ∧ CRepx exc σ' (mRows A r (sMv (sFm z (mLen A p)) (sSeg A r s (mLen A p)) s 0 (mLen A p) (A.1 r))) := by
  have hr2 := mRw_lt _ _ _ _ hr
  have hp := hv.lt hw.1
  have hf := hw.2.1.rw _ _ _ _ hr
  have h31 := hw.2.2.1 r hr2
  obtain ⟨e3, e4⟩ := h.2.2.2.2.1 p r s hp hr
  have hsl := sSeg_len hf
  obtain ⟨f5, a1, a2⟩ := x_copySpare (b := b) (G := G) h hw hv hr ht hm
  obtain ⟨f', c1, c2, c3⟩ := y_moveL (b := b) (G := G) (K := fun G23 => rV G23) (r := r) (s := s) (z := z) (sg := sSeg A r s (mLen A p)) hp hr2 (by omega) hz hsl (fun i t hi => seg_ok ht hm hi) (mLen A p) zFu 0 (cArr σ 5 f5) (A.1 r) (by omega) (by unfold zFu; omega) (by rw [cArr_ne (by decide)]; exact e3) (by rw [cArr_ne (by decide)]; exact e4) (by rw [cArr_at]; exact a2) (by rw [cArr_ne (by decide)]; exact h.1.seg hr2)
  refine ⟨_, ?_, (h.spare f5).rows hw.2.2.1 (sMv_len _ _ _) c2 c3⟩
  unfold f_I_moveOn
  rw [c_ob_1, x_len h hw.1 hv, bI_rI, if_pos (nI_le (by omega) (by omega)), c_ob_1, a1, bV_rV, c1]
end All2
