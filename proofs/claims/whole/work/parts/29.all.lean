-- the class: whole lists written anew
def sEn : Nat → List (Nat × Nat × Nat) → List ((Nat × Nat) × Nat)
  | _, [] => []
  | i, t :: ts => (t.2, i) :: sEn (i + 1) ts
theorem sEn_at : ∀ (l : List (Nat × Nat × Nat)) (j i : Nat), (sEn j l)[i]? = l[i]?.map (fun t => (t.2, j + i))
  | [], j, i => by simp [sEn]
  | t :: ts, j, 0 => by simp [sEn]
  | t :: ts, j, i + 1 => by
    unfold sEn
    rw [List.getElem?_cons_succ, List.getElem?_cons_succ, sEn_at ts (j + 1) i, show j + 1 + i = j + (i + 1) by omega]
theorem sEn_len : ∀ (l : List (Nat × Nat × Nat)) (j : Nat), (sEn j l).length = l.length
  | [], _ => rfl
  | t :: ts, j => by
    show (sEn (j + 1) ts).length + 1 = ts.length + 1
    rw [sEn_len ts (j + 1)]
theorem sEn_fst : ∀ (l : List (Nat × Nat × Nat)) (j : Nat), (sEn j l).map Prod.fst = l.map Prod.snd
  | [], _ => rfl
  | t :: ts, j => by
    show t.2 :: (sEn (j + 1) ts).map Prod.fst = t.2 :: ts.map Prod.snd
    rw [sEn_fst ts (j + 1)]
def tgs (l : List (Nat × Nat)) (i : Nat) : Option Nat := l[i]?.map Prod.snd
/-- at how many places two rows of things have other tags -/
def sDf (a c : List (Nat × Nat)) : Nat → Nat → Nat
  | _, 0 => 0
  | j, k + 1 => (if tgs a j = tgs c j then 0 else 1) + sDf a c (j + 1) k
theorem cWr_same {f : Nat → Int32} {o n : Nat} {v : Nat → Int32} : cWr f o n n v = f := by
  funext q
  exact if_neg (by omega)
theorem cWr_step {f : Nat → Int32} {o j n : Nat} {v : Nat → Int32} (h : j < n) : cWr (upd f (o + j) (v j)) o (j + 1) n v = cWr f o j n v := by
  funext q
  simp only [cWr, upd]
  by_cases h1 : q = o + j
  · rw [if_neg (by omega), if_pos h1, if_pos (by omega), h1, show o + j - o = j by omega]
  · by_cases h2 : o + j ≤ q ∧ q < o + n
    · rw [if_pos h2, if_pos (by omega)]
    · rw [if_neg h2, if_neg (by omega), if_neg h1]
section All
variable {b : Nat} {G : gH}
theorem y_spareL {K : gH → gR} {p r s len : Nat} {val : Nat → Nat} (hp : p < 6) (hb : 31 * r + s + len ≤ 62) (hlen : len ≤ 31) (hv : ∀ i, i < len → val i < 2 ^ 20) : ∀ (d n j : Nat) (σ : cS), j + d = len → d < n → σ.1 3 p = nI r → σ.1 4 p = nI s → (∀ i, i < len → σ.1 0 (31 * r + s + i) = nI (val i)) →
    f_I_copyToSpare_L8 K n (cPut b σ G) (b + 1) (nI p) (nI len) (nI j) = K (cPut b (cArr σ 5 (fun i => if j ≤ i ∧ i < len then nI (32 * val i + i) else σ.1 5 i)) G)
  | _, 0, _, _, _, h, _, _, _ => absurd h (Nat.not_lt_zero _)
  | 0, n + 1, j, σ, hj, _, h3, h4, hc => by
    unfold f_I_copyToSpare_L8
    rw [if_pos (nI_le (by omega) (by omega))]
    have e : (fun i => if j ≤ i ∧ i < len then nI (32 * val i + i) else σ.1 5 i) = σ.1 5 := funext fun i => if_neg (by omega)
    rw [e, cArr_id]
  | d + 1, n + 1, j, σ, hj, hn, h3, h4, hc => by
    unfold f_I_copyToSpare_L8
    rw [if_neg (nI_ge (by omega) (by omega)), c_fa_1_5, c_ob_1, y_thing hp h3 h4 (by omega), bI_rI, hc j (by omega), nI_shl5, nI_or5 _ (by omega)]
    simp only [c_ob_0, c_fa_0_0, c_fa_0_1, c_fi_0_2, c_put_0_2, c_fi_0_3, c_put_0_3, c_fi_0_4, c_put_0_4, c_ob_1, c_fa_1_0, c_fa_1_1, c_fa_1_2, c_fa_1_3, c_fa_1_4, c_fa_1_5, c_fi_1_6, c_put_1_6, c_ob_2, c_fa_2_0, c_ob_4, c_fa_4_0, c_ob_6, c_fa_6_0, c_ob_8, c_fa_8_0, c_ob_10, c_fa_10_0, c_ob_12, c_fa_12_0, c_ob_14, c_fa_14_0, c_fa_14_1, c_fa_14_2, c_fa_14_3, c_fi_14_4, c_put_14_4, c_ob_15, c_fa_15_0, c_ob_17, c_fa_17_0, c_ob_19, c_fa_19_0, c_ob_21, c_fa_21_0, c_len_0, c_ld_0, c_st_0, c_rd_0, c_wr_0, c_len_1, c_ld_1, c_st_1, c_rd_1, c_wr_1, c_len_2, c_ld_2, c_st_2, c_rd_2, c_wr_2, c_len_3, c_ld_3, c_st_3, c_rd_3, c_wr_3, c_len_4, c_ld_4, c_st_4, c_rd_4, c_wr_4, c_len_5, c_ld_5, c_st_5, c_rd_5, c_wr_5, c_len_6, c_ld_6, c_st_6, c_rd_6, c_wr_6, c_len_7, c_ld_7, c_st_7, c_rd_7, c_wr_7, c_len_8, c_ld_8, c_st_8, c_rd_8, c_wr_8, c_len_9, c_ld_9, c_st_9, c_rd_9, c_wr_9, bI_rI, bL_rL, bA_rA, bV_rV, bI_th, bL_th, bA_th, bV_th, rZ_0, rZ_1]
    rw [wr_nI (by omega) (by decide), cSet_arr, nI_add, y_spareL hp hb hlen hv d n (j + 1) _ (by omega) (by omega) (by rw [cArr_ne (by decide)]; exact h3) (by rw [cArr_ne (by decide)]; exact h4) (by rw [cArr_ne (by decide)]; exact hc), cArr_cArr, cArr_at]
    congr 3
    funext i
    simp only [upd]
    by_cases e : i = j
    · rw [e, if_neg (by omega), if_pos rfl, if_pos ⟨Nat.le_refl _, by omega⟩]
    · by_cases h2 : j ≤ i ∧ i < len
      · rw [if_pos (by omega), if_pos h2]
      · rw [if_neg (by omega), if_neg e, if_neg h2]
theorem seg_ok {A : mS} {m r s n : Nat} (ht : ∀ t, t ∈ A.1 r → mTok m t) (hm : m ≤ 600) {i : Nat} {t : Nat × Nat × Nat} (h : (sSeg A r s n)[i]? = some t) : t.2.1 < 31 ∧ t.2.2 < 600 := by
  have := ht t (sSeg_mem (List.mem_of_getElem? h))
  exact ⟨this.1, by have := this.2; omega⟩
theorem x_copySpare {exc : Int32} {σ : cS} {A : mS} {p r s m : Nat} (h : CRepx exc σ A) (hw : mInw exc p A) (hv : mV A p) (hr : mRw A.2.1 zDp p = some (r, s)) (ht : ∀ t, t ∈ A.1 r → mTok m t) (hm : m ≤ 600) :
    ∃ f5, f_I_copyToSpare (cPut b σ G) (b + 1) (nI p) = rV (cPut b (cArr σ 5 f5) G) ∧ cSp f5 0 (sEn 0 (sSeg A r s (mLen A p))) := by
  have hr2 := mRw_lt _ _ _ _ hr
  have hp := hv.lt hw.1
  have hf := hw.2.1.rw _ _ _ _ hr
  have h31 := hw.2.2.1 r hr2
  obtain ⟨e3, e4⟩ := h.2.2.2.2.1 p r s hp hr
  have hsl := sSeg_len hf
  generalize hval : (fun i : Nat => match (sSeg A r s (mLen A p))[i]? with
    | some t => 32 * t.2.2 + t.2.1
    | none => 0) = val
  have hvat : ∀ i t, (sSeg A r s (mLen A p))[i]? = some t → val i = 32 * t.2.2 + t.2.1 := by
    intro i t hi
    rw [← hval]
    show (match (sSeg A r s (mLen A p))[i]? with
      | some t => 32 * t.2.2 + t.2.1
      | none => 0) = _
    rw [hi]
  refine ⟨fun i => if 0 ≤ i ∧ i < mLen A p then nI (32 * val i + i) else σ.1 5 i, ?_, fun i e he => ?_⟩
  · unfold f_I_copyToSpare
    rw [c_ob_1, x_len h hw.1 hv, bI_rI, y_spareL (r := r) (s := s) (val := val) hp (by omega) (by omega) (fun i hi => by
      have hi' : i < (sSeg A r s (mLen A p)).length := by omega
      have e := hvat i _ (List.getElem?_eq_getElem hi')
      have := seg_ok ht hm (List.getElem?_eq_getElem hi')
      omega) (mLen A p) zFu 0 σ (by omega) (by unfold zFu; omega) e3 e4 (fun i hi => by
      have hi' : i < (sSeg A r s (mLen A p)).length := by omega
      have e := hvat i _ (List.getElem?_eq_getElem hi')
      have h2 := List.getElem?_eq_getElem hi'
      rw [sSeg_at hi] at h2
      rw [e, Nat.add_assoc, h.1 r (s + i) _ hr2 h2]; rfl)]
  · rw [sEn_at] at he
    cases hx : (sSeg A r s (mLen A p))[i]? with
    | none => rw [hx] at he; cases he
    | some t =>
      rw [hx] at he
      have hi : i < mLen A p := by
        have := (List.getElem?_eq_some_iff.mp hx).1
        omega
      have e1 : e = (t.2, 0 + i) := by cases he; rfl
      rw [Nat.zero_add]
      simp only
      rw [if_pos ⟨Nat.zero_le _, hi⟩, hvat i t hx, e1]
      unfold cN
      simp only
      rw [Nat.zero_add]
theorem CRepx.spare {exc : Int32} {σ : cS} {A : mS} (h : CRepx exc σ A) (f : Nat → Int32) : CRepx exc (cArr σ 5 f) A := h
theorem y_arrL {K : gH → Int32 → gR} {p r s len m : Nat} {sg : List (Nat × Nat × Nat)} {so : List ((Nat × Nat) × Nat)} {v : Nat → Int32} (hp : p < 6) (hb : 31 * r + s + len ≤ 62) (hlen : len ≤ 31) (hsl : sg.length = len) (hol : so.length = len) (hsg : ∀ t, t ∈ sg → mTok m t) (hm : m ≤ 600) (hso : ∀ e, e ∈ so → eOk e) (hv : ∀ i e, so[i]? = some e → v i = nI (32 * e.1.2 + e.1.1)) : ∀ (d n j c : Nat) (σ : cS), j + d = len → d < n → σ.1 3 p = nI r → σ.1 4 p = nI s → (∀ i t, j ≤ i → sg[i]? = some t → σ.1 0 (31 * r + s + i) = cE t) → cSp (σ.1 5) 0 so →
    f_I_arrange_L23 K n (cPut b σ G) (b + 1) (nI p) (nI len) (nI c) (nI j) = K (cPut b (cArr σ 0 (cWr (σ.1 0) (31 * r + s) j len v)) G) (nI (c + sDf (sg.map Prod.snd) (so.map Prod.fst) j d))
  | _, 0, _, _, _, _, h, _, _, _, _ => absurd h (Nat.not_lt_zero _)
  | 0, n + 1, j, c, σ, hj, _, _, _, _, _ => by
    unfold f_I_arrange_L23
    rw [if_pos (nI_le (by omega) (by omega)), show j = len by omega, cWr_same, cArr_id]; rfl
  | d + 1, n + 1, j, c, σ, hj, hn, h3, h4, hc, h5 => by
    have hjs : j < sg.length := by omega
    have hjo : j < so.length := by omega
    have hs := List.getElem?_eq_getElem hjs
    have ho := List.getElem?_eq_getElem hjo
    generalize sg[j] = t at hs
    generalize so[j] = e at ho
    have htk := hsg t (List.mem_of_getElem? hs)
    have hek := hso e (List.mem_of_getElem? ho)
    have e5 : σ.1 5 j = nI (cN e) := by
      have := h5 j e ho
      rw [Nat.zero_add] at this; exact this
    have hvj := hv j e ho
    have ih : ∀ c, f_I_arrange_L23 K n (cPut b (cArr σ 0 (upd (σ.1 0) (31 * r + s + j) (v j))) G) (b + 1) (nI p) (nI len) (nI c) (nI (j + 1)) = K (cPut b (cArr σ 0 (cWr (σ.1 0) (31 * r + s) j len v)) G) (nI (c + sDf (sg.map Prod.snd) (so.map Prod.fst) (j + 1) d)) := by
      intro c
      rw [y_arrL hp hb hlen hsl hol hsg hm hso hv d n (j + 1) c _ (by omega) (by omega) (by rw [cArr_ne (by decide)]; exact h3) (by rw [cArr_ne (by decide)]; exact h4) (fun i t' hi ht' => by
        rw [cArr_at]
        simp only [upd]
        rw [if_neg (by omega)]
        exact hc i t' (by omega) ht') (by rw [cArr_ne (by decide)]; exact h5), cArr_cArr, cArr_at, cWr_step (by omega)]
    have hdf : sDf (sg.map Prod.snd) (so.map Prod.fst) j (d + 1) = (if t.2.2 = e.1.2 then 0 else 1) + sDf (sg.map Prod.snd) (so.map Prod.fst) (j + 1) d := by
      rw [sDf]
      unfold tgs
      rw [List.getElem?_map, List.getElem?_map, hs, ho]
      simp only [Option.map_some, Option.some.injEq]
    unfold f_I_arrange_L23
    rw [if_neg (nI_ge (by omega) (by omega)), c_ob_1, y_inSpare (by omega) hek e5, bI_rI, x_tagOf (by have := hek.1; omega) hek.2.1, bI_rI, c_ob_1, y_thing hp h3 h4 (by omega), bI_rI, hc j t (Nat.le_refl _) hs]
    unfold cE
    rw [x_tagOf (by have := htk.1; omega) (by have := htk.2; omega), bI_rI, hdf]
    by_cases hh : t.2.2 = e.1.2
    · rw [if_pos (by rw [hh]), if_pos hh, c_ob_1, y_write hp h3 h4 (by omega), bV_rV, nI_add, ← hvj, ih c, Nat.zero_add]
    · rw [if_neg (fun q => hh ((nI_eq (by have := hek.2.1; omega) (by have := htk.2; omega)).mp q).symm), if_neg hh, c_ob_1, y_write hp h3 h4 (by omega), bV_rV, nI_add, nI_add, ← hvj, ih (c + 1), Nat.add_assoc]
/-- a list is put in order: any new things in the place of its own, alike in keys and tags -/
theorem x_arrange {exc : Int32} {σ : cS} {A : mS} {p r s m ord : Nat} {new : List (Nat × Nat × Nat)} (h : CRepx exc σ A) (hw : mInw exc p A) (hv : mV A p) (hr : mRw A.2.1 zDp p = some (r, s)) (ht : ∀ t, t ∈ A.1 r → mTok m t) (hm : m ≤ 600) (ho : ord < 5) (hnew : new.map Prod.snd = sSo (sR ord) [] ((sSeg A r s (mLen A p)).map Prod.snd)) :
    ∃ σ', f_I_arrange (cPut b σ G) (b + 1) (nI p) (nI ord) = rI (nI (sDf ((sSeg A r s (mLen A p)).map Prod.snd) (new.map Prod.snd) 0 (mLen A p))) (cPut b σ' G) ∧ CRepx exc σ' (mRows A r (sSpl (A.1 r) s new)) := by
  have hr2 := mRw_lt _ _ _ _ hr
  have hp := hv.lt hw.1
  have hf := hw.2.1.rw _ _ _ _ hr
  have h31 := hw.2.2.1 r hr2
  obtain ⟨e3, e4⟩ := h.2.2.2.2.1 p r s hp hr
  have hsl := sSeg_len hf
  obtain ⟨f5, a1, a2⟩ := x_copySpare (b := b) (G := G) h hw hv hr ht hm
  have hEl : (sEn 0 (sSeg A r s (mLen A p))).length = mLen A p := by rw [sEn_len, hsl]
  have hEok : ∀ e, e ∈ sEn 0 (sSeg A r s (mLen A p)) → eOk e := by
    intro e he
    obtain ⟨i, hi⟩ := List.getElem?_of_mem he
    have hil : i < mLen A p := by
      have := (List.getElem?_eq_some_iff.mp hi).1
      omega
    rw [sEn_at] at hi
    cases hx : (sSeg A r s (mLen A p))[i]? with
    | none => rw [hx] at hi; cases hi
    | some t =>
      rw [hx] at hi
      have e1 : e = (t.2, 0 + i) := by cases hi; rfl
      have := seg_ok ht hm hx
      rw [e1]
      exact ⟨this.1, by simp only; omega, by simp only; omega⟩
  obtain ⟨f6, c1, c2⟩ := y_arrange (b := b) (G := G) (σ := cArr σ 5 f5) (ord := ord) (l := sEn 0 (sSeg A r s (mLen A p))) ho (by omega) hEok (by rw [cArr_at]; exact a2)
  rw [hEl, cArr_cArr] at c1
  generalize hsoD : sSo (eR ord) [] (sEn 0 (sSeg A r s (mLen A p))) = so at c2
  have hsol : so.length = mLen A p := by rw [← hsoD, sSo_len, hEl]; simp
  have hsoF : so.map Prod.fst = new.map Prod.snd := by
    rw [← hsoD, hnew, sSo_map (R := eR ord) (S := sR ord) Prod.fst (fun _ _ => rfl), sEn_fst]; rfl
  have hsok : ∀ e, e ∈ so → eOk e := by
    intro e he
    rw [← hsoD] at he
    rcases sSo_mem _ _ he with k | k
    · cases k
    · exact hEok e k
  have hnl : new.length = mLen A p := by
    have := congrArg List.length hsoF
    rw [List.length_map, List.length_map] at this
    omega
  generalize hvD : (fun i : Nat => match so[i]? with
    | some e => nI (32 * e.1.2 + e.1.1)
    | none => 0) = v
  have hv1 : ∀ i e, so[i]? = some e → v i = nI (32 * e.1.2 + e.1.1) := by
    intro i e hi
    rw [← hvD]
    show (match so[i]? with
      | some e => nI (32 * e.1.2 + e.1.1)
      | none => 0) = _
    rw [hi]
  have hv2 : ∀ i t, new[i]? = some t → v i = cE t := by
    intro i t hi
    have h1 : (new.map Prod.snd)[i]? = some t.2 := by rw [List.getElem?_map, hi]; rfl
    rw [← hsoF, List.getElem?_map] at h1
    cases hx : so[i]? with
    | none => rw [hx] at h1; cases h1
    | some e =>
      rw [hx] at h1
      have e1 : e.1 = t.2 := Option.some.inj h1
      rw [hv1 i e hx, e1]; rfl
  refine ⟨cArr (cArr σ 5 f6) 0 (cWr (σ.1 0) (31 * r + s) 0 (mLen A p) v), ?_, ?_⟩
  · unfold f_I_arrange
    rw [c_ob_1, x_len h hw.1 hv, bI_rI, c_ob_1, a1, bV_rV, c_ob_1, c1, bV_rV,
      y_arrL (r := r) (s := s) (sg := sSeg A r s (mLen A p)) (so := so) (v := v) hp (by omega) (by omega) hsl hsol (fun t h1 => ht t (sSeg_mem h1)) hm hsok hv1 (mLen A p) zFu 0 0 (cArr σ 5 f6) (by omega) (by unfold zFu; omega) (by rw [cArr_ne (by decide)]; exact e3) (by rw [cArr_ne (by decide)]; exact e4) (fun i t _ hi => by
        have hil : i < mLen A p := by
          have := (List.getElem?_eq_some_iff.mp hi).1
          omega
        rw [sSeg_at hil] at hi
        rw [cArr_ne (by decide), Nat.add_assoc]
        exact h.1 r (s + i) t hr2 hi) (by rw [cArr_at]; exact c2), Nat.zero_add, hsoF, cArr_ne (by decide)]
  · have hseg : cSeg (σ.1 0) (31 * r) (A.1 r) := h.1.seg hr2
    have z := hseg.spl (s := s) (new := new) (v := v) (by omega) hv2
    rw [hnl] at z
    exact (h.spare f6).rows hw.2.2.1 (sSpl_len (by omega)) (cWr_out (by omega)) z
theorem y_repL {K : gH → Nat → Int32 → Int32 → gR} {p r s len m t1 m1 : Nat} {sg : List (Nat × Nat × Nat)} {v : Nat → Int32} (hp : p < 6) (hb : 31 * r + s + len ≤ 62) (hlen : len ≤ 31) (hsl : sg.length = len) (hsg : ∀ t, t ∈ sg → mTok m t) (hm : m ≤ 600) (ht1 : t1 < 31) (hm1 : m1 < 31) (hv : ∀ i t, sg[i]? = some t → v i = nI (32 * t.2.2 + (t.2.1 * t1 + m1) % 31)) : ∀ (d n j : Nat) (σ : cS), j + d = len → d < n → σ.1 3 p = nI r → σ.1 4 p = nI s → (∀ i t, j ≤ i → sg[i]? = some t → σ.1 0 (31 * r + s + i) = cE t) →
    f_X_replaceAll_L58 K n (cPut b σ G) b (nI p) (nI t1) (nI m1) (nI len) (nI j) = K (cPut b (cArr σ 0 (cWr (σ.1 0) (31 * r + s) j len v)) G) b (nI p) (nI len)
  | _, 0, _, _, _, h, _, _, _ => absurd h (Nat.not_lt_zero _)
  | 0, n + 1, j, σ, hj, _, _, _, _ => by
    unfold f_X_replaceAll_L58
    rw [if_pos (nI_le (by omega) (by omega)), show j = len by omega, cWr_same, cArr_id]
  | d + 1, n + 1, j, σ, hj, hn, h3, h4, hc => by
    have hjs : j < sg.length := by omega
    have hs := List.getElem?_eq_getElem hjs
    generalize sg[j] = t at hs
    have htk := hsg t (List.mem_of_getElem? hs)
    have hvj := hv j t hs
    have hkt : t.2.1 * t1 ≤ 30 * 30 := Nat.mul_le_mul (by have := htk.1; omega) (by omega)
    unfold f_X_replaceAll_L58
    rw [if_neg (nI_ge (by omega) (by omega)), c_fa_0_0, c_ob_1, y_thing hp h3 h4 (by omega), bI_rI, c_fa_0_0, hc j t (Nat.le_refl _) hs]
    unfold cE
    rw [x_tagOf (by have := htk.1; omega) (by have := htk.2; omega), bI_rI, x_keyOf (by have := htk.1; omega), bI_rI, nI_mul, nI_add, gRem_of (by omega) (by omega) (by omega)]
    unfold f_X_thingOf
    rw [nI_shl5, nI_or5 _ (by omega), bI_rI, c_ob_1, y_write hp h3 h4 (by omega), bV_rV, nI_add, ← hvj,
      y_repL hp hb hlen hsl hsg hm ht1 hm1 hv d n (j + 1) _ (by omega) (by omega) (by rw [cArr_ne (by decide)]; exact h3) (by rw [cArr_ne (by decide)]; exact h4) (fun i t' hi ht' => by
        rw [cArr_at]
        simp only [upd]
        rw [if_neg (by omega)]
        exact hc i t' (by omega) ht'), cArr_cArr, cArr_at, cWr_step (by omega)]
theorem y_toRowL {K : gH → Nat → Int32 → Int32 → gR} {p r s r1 len : Nat} {f : Nat → Int32} (hp : p < 6) (hr1 : r1 < 2) (hb : s + len ≤ 31) (hr : r < 2) : ∀ (d n j : Nat) (σ : cS), j + d = len → d < n → σ.1 3 p = nI r → σ.1 4 p = nI s → σ.1 3 r1 = nI r1 → σ.1 4 r1 = nI 0 → (∀ i, j ≤ i → i < len → σ.1 0 (31 * r + s + i) = f (31 * r + s + i)) →
    f_I_copyToRow_L9 K n (cPut b σ G) (b + 1) (nI r1) (nI p) (nI len) (nI j) = K (cPut b (cArr σ 0 (cWr (σ.1 0) (31 * r1) j len (fun i => f (31 * r + s + i)))) G) (b + 1) (nI r1) (nI len)
  | _, 0, _, _, _, h, _, _, _, _, _ => absurd h (Nat.not_lt_zero _)
  | 0, n + 1, j, σ, hj, _, _, _, _, _, _ => by
    unfold f_I_copyToRow_L9
    rw [if_pos (nI_le (by omega) (by omega)), show j = len by omega, cWr_same, cArr_id]
  | d + 1, n + 1, j, σ, hj, hn, h3, h4, g3, g4, hc => by
    unfold f_I_copyToRow_L9
    rw [if_neg (nI_ge (by omega) (by omega)), c_ob_1, y_thing hp h3 h4 (by omega), bI_rI, c_ob_1, y_write (by omega) g3 g4 (by omega), bV_rV, nI_add, hc j (Nat.le_refl _) (by omega), Nat.add_zero,
      y_toRowL (f := f) hp hr1 hb hr d n (j + 1) _ (by omega) (by omega) (by rw [cArr_ne (by decide)]; exact h3) (by rw [cArr_ne (by decide)]; exact h4) (by rw [cArr_ne (by decide)]; exact g3) (by rw [cArr_ne (by decide)]; exact g4) (fun i hi hi2 => by
        rw [cArr_at]
        simp only [upd]
        rw [if_neg (by omega)]
        exact hc i (by omega) hi2), cArr_cArr, cArr_at, cWr_step (v := fun i => f (31 * r + s + i)) (by omega)]
end All
