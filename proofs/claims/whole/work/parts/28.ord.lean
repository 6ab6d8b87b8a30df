-- the class: orders
def sR (ord : Nat) (t u : Nat × Nat) : Bool := match ord with
  | 0 => decide (t.1 < u.1)
  | 1 => decide (u.1 < t.1)
  | 2 => decide (t.1 % 5 < u.1 % 5)
  | 3 => decide (u.2 < t.2)
  | _ => if t.1 % 2 = u.1 % 2 then decide (t.1 < u.1) else decide (u.1 % 2 < t.1 % 2)
def sGap {α : Type} (R : α → α → Bool) (x : α) (l : List α) : Nat → Nat
  | 0 => 0
  | g + 1 => match l[g]? with
    | some y => if R x y = true then sGap R x l g else g + 1
    | none => g + 1
def sSo {α : Type} (R : α → α → Bool) : List α → List α → List α
  | done, [] => done
  | done, x :: rest => sSo R (done.insertIdx (sGap R x done done.length) x) rest
theorem sGap_le {α : Type} {R : α → α → Bool} {x : α} {l : List α} : ∀ g, sGap R x l g ≤ g
  | 0 => Nat.le_refl _
  | g + 1 => by
    unfold sGap
    split
    · split
      · have := sGap_le (R := R) (x := x) (l := l) g; omega
      · exact Nat.le_refl _
    · exact Nat.le_refl _
theorem sGap_map {α β : Type} {R : α → α → Bool} {S : β → β → Bool} (f : α → β) (h : ∀ a c, R a c = S (f a) (f c)) {x : α} {l : List α} : ∀ g, sGap R x l g = sGap S (f x) (l.map f) g
  | 0 => rfl
  | g + 1 => by
    unfold sGap
    rw [List.getElem?_map]
    cases l[g]? with
    | none => rfl
    | some y =>
      simp only [Option.map_some, h]
      rw [sGap_map f h g]
theorem sSo_map {α β : Type} {R : α → α → Bool} {S : β → β → Bool} (f : α → β) (h : ∀ a c, R a c = S (f a) (f c)) : ∀ (rest done : List α), (sSo R done rest).map f = sSo S (done.map f) (rest.map f)
  | [], done => rfl
  | x :: rest, done => by
    show (sSo R (done.insertIdx (sGap R x done done.length) x) rest).map f = sSo S ((done.map f).insertIdx (sGap S (f x) (done.map f) (done.map f).length) (f x)) (rest.map f)
    rw [sSo_map f h rest, ins_map, sGap_map f h, List.length_map]
theorem sSo_len {α : Type} {R : α → α → Bool} : ∀ (rest done : List α), (sSo R done rest).length = done.length + rest.length
  | [], done => rfl
  | x :: rest, done => by
    show (sSo R (done.insertIdx (sGap R x done done.length) x) rest).length = _
    rw [sSo_len rest, List.length_insertIdx_of_le_length (sGap_le _)]
    simp only [List.length_cons]; omega
theorem sSo_mem {α : Type} {R : α → α → Bool} {a : α} : ∀ (rest done : List α), a ∈ sSo R done rest → a ∈ done ∨ a ∈ rest
  | [], done, h => Or.inl h
  | x :: rest, done, h => by
    have h' : a ∈ sSo R (done.insertIdx (sGap R x done done.length) x) rest := h
    rcases sSo_mem rest _ h' with k | k
    · rcases ins_mem _ _ k with e | e
      · exact Or.inr (by rw [e]; exact List.mem_cons_self ..)
      · exact Or.inl e
    · exact Or.inr (List.mem_cons_of_mem _ k)
/-- a row with other things in place of a list's -/
def sSpl (L : List (Nat × Nat × Nat)) (s : Nat) (new : List (Nat × Nat × Nat)) : List (Nat × Nat × Nat) := L.take s ++ (new ++ L.drop (s + new.length))
theorem sSpl_len {L new : List (Nat × Nat × Nat)} {s : Nat} (h : s + new.length ≤ L.length) : (sSpl L s new).length = L.length := by
  unfold sSpl
  rw [List.length_append, List.length_append, List.length_take, List.length_drop]; omega
theorem sSpl_mem {L new : List (Nat × Nat × Nat)} {s : Nat} {t : Nat × Nat × Nat} (h : t ∈ sSpl L s new) : t ∈ L ∨ t ∈ new := by
  unfold sSpl at h
  rcases List.mem_append.mp h with k | k
  · exact Or.inl (List.mem_of_mem_take k)
  · rcases List.mem_append.mp k with k | k
    · exact Or.inr k
    · exact Or.inl (List.mem_of_mem_drop k)
theorem sSeg_mem {A : mS} {r s n : Nat} {t : Nat × Nat × Nat} (h : t ∈ sSeg A r s n) : t ∈ A.1 r := List.mem_of_mem_drop (List.mem_of_mem_take h)
theorem sSeg_at {A : mS} {r s n i : Nat} (hi : i < n) : (sSeg A r s n)[i]? = (A.1 r)[s + i]? := by
  unfold sSeg
  rw [List.getElem?_take, if_pos hi, List.getElem?_drop]
def cWr (f : Nat → Int32) (o j n : Nat) (v : Nat → Int32) : Nat → Int32 := fun q => if o + j ≤ q ∧ q < o + n then v (q - o) else f q
theorem cSeg.spl {f : Nat → Int32} {r s : Nat} {L new : List (Nat × Nat × Nat)} {v : Nat → Int32} (h : cSeg f (31 * r) L) (hl : s + new.length ≤ L.length) (hv : ∀ i t, new[i]? = some t → v i = cE t) : cSeg (cWr f (31 * r + s) 0 new.length v) (31 * r) (sSpl L s new) := by
  unfold sSpl
  have hz : 31 * r + (L.take s).length + new.length = 31 * r + (s + new.length) := by
    rw [List.length_take]; omega
  refine cSeg.app (h.take.cong (fun i hi => ?_)) (cSeg.app (fun i t ht => ?_) ?_)
  · rw [List.length_take] at hi
    exact if_neg (by omega)
  · have hi : i < new.length := (List.getElem?_eq_some_iff.mp ht).1
    rw [List.length_take, Nat.min_eq_left (by omega)]
    show (if _ then _ else _) = _
    rw [if_pos (by omega), show 31 * r + s + i - (31 * r + s) = i by omega]; exact hv i t ht
  · rw [hz]
    refine (h.drop (n := s + new.length)).cong (fun i hi => ?_)
    exact if_neg (by omega)
theorem cWr_out {f : Nat → Int32} {r s n : Nat} {v : Nat → Int32} (h : s + n ≤ 31) : cOut r f (cWr f (31 * r + s) 0 n v) := by
  intro q hq
  exact if_neg (by omega)
section Ord
variable {b : Nat} {G : gH}
theorem le_mB {a c : Nat} (ha : a < 2 ^ 31) (hc : c < 2 ^ 31) : (if nI c ≤ nI a then rZ (nI 0) G else rZ (nI 1) G) = rI (mB (decide (a < c))) G := by
  by_cases h : c ≤ a
  · rw [if_pos (nI_le h ha), rZ_0, decide_eq_false (by omega)]; rfl
  · rw [if_neg (nI_ge (by omega) hc), rZ_1, decide_eq_true (by omega)]; rfl
theorem y_ahead {ord k g k' g' : Nat} (ho : ord < 5) (hk : k < 31) (hk' : k' < 31) (hg : g ≤ 1000) (hg' : g' ≤ 1000) : f_X_hasToBeAhead G (nI (32 * g + k)) (nI (32 * g' + k')) (nI ord) = rI (mB (sR ord (k, g) (k', g'))) G := by
  unfold f_X_hasToBeAhead
  rw [x_keyOf (by omega), bI_rI, x_keyOf (by omega), bI_rI, nI_toInt (by omega)]
  rcases (by omega : ord = 0 ∨ ord = 1 ∨ ord = 2 ∨ ord = 3 ∨ ord = 4) with rfl | rfl | rfl | rfl | rfl
  · rw [if_pos (show ((0 : Nat) : Int) = 0 from rfl), le_mB (by omega) (by omega)]; rfl
  · rw [if_neg (by decide), if_pos (show ((1 : Nat) : Int) = 1 from rfl), le_mB (by omega) (by omega)]; rfl
  · rw [if_neg (by decide), if_neg (by decide), if_pos (show ((2 : Nat) : Int) = 2 from rfl), gRem_of (by omega) (by omega) (by omega), gRem_of (by omega) (by omega) (by omega), le_mB (by omega) (by omega)]; rfl
  · rw [if_neg (by decide), if_neg (by decide), if_neg (by decide), if_pos (show ((3 : Nat) : Int) = 3 from rfl), x_tagOf (by omega) hg, bI_rI, x_tagOf (by omega) hg', bI_rI, le_mB (by omega) (by omega)]; rfl
  · rw [if_neg (by decide), if_neg (by decide), if_neg (by decide), if_neg (by decide), gRem_of (by omega) (by omega) (by omega), gRem_of (by omega) (by omega) (by omega), gRem_of (by omega) (by omega) (by omega), gRem_of (by omega) (by omega) (by omega), le_mB (by omega) (by omega), le_mB (by omega) (by omega)]
    show _ = rI (mB (if k % 2 = k' % 2 then decide (k < k') else decide (k' % 2 < k % 2))) G
    by_cases h : k % 2 = k' % 2
    · rw [if_pos (by rw [h]), if_pos h]
    · rw [if_neg (fun q => h ((nI_eq (by omega) (by omega)).mp q)), if_neg h]
/-- an entry of the spare row: a thing (key, tag) and whence it comes -/
def cN (e : (Nat × Nat) × Nat) : Nat := 32 * (32 * e.1.2 + e.1.1) + e.2
def eOk (e : (Nat × Nat) × Nat) : Prop := e.1.1 < 31 ∧ e.1.2 ≤ 1000 ∧ e.2 < 32
def cSp (f : Nat → Int32) (o : Nat) (l : List ((Nat × Nat) × Nat)) : Prop := ∀ i e, l[i]? = some e → f (o + i) = nI (cN e)
theorem y_inSpare {σ : cS} {i : Nat} {e : (Nat × Nat) × Nat} (hi : i < 31) (he : eOk e) (hf : σ.1 5 i = nI (cN e)) : f_I_thingInSpare (cPut b σ G) (b + 1) (nI i) = rI (nI (32 * e.1.2 + e.1.1)) (cPut b σ G) := by
  obtain ⟨h1, h2, h3⟩ := he
  unfold f_I_thingInSpare
  simp only [c_ob_0, c_fa_0_0, c_fa_0_1, c_fi_0_2, c_put_0_2, c_fi_0_3, c_put_0_3, c_fi_0_4, c_put_0_4, c_ob_1, c_fa_1_0, c_fa_1_1, c_fa_1_2, c_fa_1_3, c_fa_1_4, c_fa_1_5, c_fi_1_6, c_put_1_6, c_ob_2, c_fa_2_0, c_ob_4, c_fa_4_0, c_ob_6, c_fa_6_0, c_ob_8, c_fa_8_0, c_ob_10, c_fa_10_0, c_ob_12, c_fa_12_0, c_ob_14, c_fa_14_0, c_fa_14_1, c_fa_14_2, c_fa_14_3, c_fi_14_4, c_put_14_4, c_ob_15, c_fa_15_0, c_ob_17, c_fa_17_0, c_ob_19, c_fa_19_0, c_ob_21, c_fa_21_0, c_len_0, c_ld_0, c_st_0, c_rd_0, c_wr_0, c_len_1, c_ld_1, c_st_1, c_rd_1, c_wr_1, c_len_2, c_ld_2, c_st_2, c_rd_2, c_wr_2, c_len_3, c_ld_3, c_st_3, c_rd_3, c_wr_3, c_len_4, c_ld_4, c_st_4, c_rd_4, c_wr_4, c_len_5, c_ld_5, c_st_5, c_rd_5, c_wr_5, c_len_6, c_ld_6, c_st_6, c_rd_6, c_wr_6, c_len_7, c_ld_7, c_st_7, c_rd_7, c_wr_7, c_len_8, c_ld_8, c_st_8, c_rd_8, c_wr_8, c_len_9, c_ld_9, c_st_9, c_rd_9, c_wr_9, bI_rI, bL_rL, bA_rA, bV_rV, bI_th, bL_th, bA_th, bV_th, rZ_0, rZ_1]
  rw [rd_nI hi (by decide), hf]
  unfold cN
  rw [nI_shr5 (by omega), show (32 * (32 * e.1.2 + e.1.1) + e.2) / 32 = 32 * e.1.2 + e.1.1 by omega]
def cSh (f : Nat → Int32) (g p : Nat) : Nat → Int32 := fun i => if g < i ∧ i ≤ p then f (i - 1) else f i
def eR (ord : Nat) (e e' : (Nat × Nat) × Nat) : Bool := sR ord e.1 e'.1
theorem y_arr20 {K : gH → Nat → Int32 → Int32 → Int32 → Int32 → Int32 → gR} {x1 : Int32} {ord p : Nat} {x : (Nat × Nat) × Nat} {done : List ((Nat × Nat) × Nat)} {f : Nat → Int32} (ho : ord < 5) (hp : p < 31) (hd : done.length = p) (hx : eOk x) (hok : ∀ e, e ∈ done → eOk e) (hf : cSp f 0 done) : ∀ (g n : Nat) (σ : cS), g ≤ p → g < n → σ.1 5 = cSh f g p →
    f_I_arrangeSpare_L20 K n (cPut b σ G) (b + 1) x1 (nI ord) (nI p) (nI (cN x)) (nI g) = K (cPut b (cArr σ 5 (cSh f (sGap (eR ord) x done g) p)) G) (b + 1) x1 (nI ord) (nI p) (nI (cN x)) (nI (sGap (eR ord) x done g))
  | _, 0, _, _, h, _ => absurd h (Nat.not_lt_zero _)
  | 0, n + 1, σ, _, _, hs => by
    unfold f_I_arrangeSpare_L20
    rw [if_pos (show nI 0 ≤ 0 by decide)]
    show K (cPut b σ G) _ _ _ _ _ (nI 0) = K (cPut b (cArr σ 5 (cSh f 0 p)) G) _ _ _ _ _ (nI 0)
    rw [← hs, cArr_id]
  | g + 1, n + 1, σ, hg, hn, hs => by
    have hgl : g < done.length := by omega
    have he : done[g]? = some done[g] := List.getElem?_eq_getElem hgl
    generalize done[g] = e at he
    have hem := hok e (List.mem_of_getElem? he)
    have hfg : σ.1 5 g = nI (cN e) := by
      rw [hs]
      show (if _ then _ else _) = _
      rw [if_neg (by omega)]
      have := hf g e he
      rw [Nat.zero_add] at this; exact this
    unfold f_I_arrangeSpare_L20
    rw [if_neg (nI_nle (by omega) (by omega)), c_ob_1, nI_sub (by omega), show g + 1 - 1 = g by omega, y_inSpare (by omega) hem hfg, bI_rI]
    have hsh : nI (cN x) >>> (nI 5 &&& 31) = nI (32 * x.1.2 + x.1.1) := by
      obtain ⟨h1, h2, h3⟩ := hx
      unfold cN
      rw [nI_shr5 (by omega), show (32 * (32 * x.1.2 + x.1.1) + x.2) / 32 = 32 * x.1.2 + x.1.1 by omega]
    rw [hsh, y_ahead ho hx.1 hem.1 hx.2.1 hem.2.1, bI_rI, mB_if]
    have hgap : sGap (eR ord) x done (g + 1) = if sR ord x.1 e.1 = true then sGap (eR ord) x done g else g + 1 := by
      rw [sGap, he]; rfl
    by_cases hR : sR ord x.1 e.1 = true
    · rw [if_pos hR] at hgap
      rw [if_pos hR, hgap]
      simp only [c_ob_0, c_fa_0_0, c_fa_0_1, c_fi_0_2, c_put_0_2, c_fi_0_3, c_put_0_3, c_fi_0_4, c_put_0_4, c_ob_1, c_fa_1_0, c_fa_1_1, c_fa_1_2, c_fa_1_3, c_fa_1_4, c_fa_1_5, c_fi_1_6, c_put_1_6, c_ob_2, c_fa_2_0, c_ob_4, c_fa_4_0, c_ob_6, c_fa_6_0, c_ob_8, c_fa_8_0, c_ob_10, c_fa_10_0, c_ob_12, c_fa_12_0, c_ob_14, c_fa_14_0, c_fa_14_1, c_fa_14_2, c_fa_14_3, c_fi_14_4, c_put_14_4, c_ob_15, c_fa_15_0, c_ob_17, c_fa_17_0, c_ob_19, c_fa_19_0, c_ob_21, c_fa_21_0, c_len_0, c_ld_0, c_st_0, c_rd_0, c_wr_0, c_len_1, c_ld_1, c_st_1, c_rd_1, c_wr_1, c_len_2, c_ld_2, c_st_2, c_rd_2, c_wr_2, c_len_3, c_ld_3, c_st_3, c_rd_3, c_wr_3, c_len_4, c_ld_4, c_st_4, c_rd_4, c_wr_4, c_len_5, c_ld_5, c_st_5, c_rd_5, c_wr_5, c_len_6, c_ld_6, c_st_6, c_rd_6, c_wr_6, c_len_7, c_ld_7, c_st_7, c_rd_7, c_wr_7, c_len_8, c_ld_8, c_st_8, c_rd_8, c_wr_8, c_len_9, c_ld_9, c_st_9, c_rd_9, c_wr_9, bI_rI, bL_rL, bA_rA, bV_rV, bI_th, bL_th, bA_th, bV_th, rZ_0, rZ_1]
      rw [rd_nI (by omega) (by decide), wr_nI (by omega) (by decide), cSet_arr, hfg, nI_m1,
        y_arr20 ho hp hd hx hok hf g n _ (by omega) (by omega) (by
          rw [cArr_at, hs, ← hfg, hs]
          funext i
          simp only [cSh, upd]
          (repeat' split) <;> first | rfl | (exfalso; omega) | (refine congrArg f ?_; omega)), cArr_cArr]
    · rw [if_neg hR] at hgap
      rw [if_neg hR, hgap, ← hs, cArr_id]
theorem y_arr2 {K : gH → gR} {ord len : Nat} (ho : ord < 5) (hlen : len ≤ 31) : ∀ (rest : List ((Nat × Nat) × Nat)) (n : Nat) (σ : cS) (done : List ((Nat × Nat) × Nat)), done.length + rest.length = len → rest.length < n → (∀ e, e ∈ done → eOk e) → (∀ e, e ∈ rest → eOk e) → cSp (σ.1 5) 0 done → cSp (σ.1 5) done.length rest →
    ∃ f', f_I_arrangeSpare_L2 K n (cPut b σ G) (b + 1) (nI len) (nI ord) (nI done.length) = K (cPut b (cArr σ 5 f') G) ∧ cSp f' 0 (sSo (eR ord) done rest)
  | _, 0, _, _, _, h, _, _, _, _ => absurd h (Nat.not_lt_zero _)
  | [], n + 1, σ, done, hl, _, _, _, h1, _ => by
    refine ⟨σ.1 5, ?_, h1⟩
    unfold f_I_arrangeSpare_L2
    simp only [List.length_nil] at hl
    rw [if_pos (nI_le (by omega) (by omega)), cArr_id]
  | x :: rest, n + 1, σ, done, hl, hn, hd, hr, h1, h2 => by
    simp only [List.length_cons] at hl hn
    have hx := hr x (List.mem_cons_self ..)
    have hfx : σ.1 5 done.length = nI (cN x) := by
      have := h2 0 x rfl
      rw [Nat.add_zero] at this; exact this
    have hgl := sGap_le (R := eR ord) (x := x) (l := done) done.length
    generalize hg : sGap (eR ord) x done done.length = g at hgl
    have hins : (done.insertIdx g x).length = done.length + 1 := List.length_insertIdx_of_le_length hgl _
    obtain ⟨f', z1, z2⟩ := y_arr2 (K := K) ho hlen rest n (cArr σ 5 (upd (cSh (σ.1 5) g done.length) g (nI (cN x)))) (done.insertIdx g x) (by omega) (by omega)
      (fun e he => by
        rcases ins_mem _ _ he with k | k
        · rw [k]; exact hx
        · exact hd e k) (fun e he => hr e (List.mem_cons_of_mem _ he))
      (by
        rw [cArr_at, ins_td x done g hgl]
        intro i e he
        rw [Nat.zero_add]
        simp only [upd, cSh]
        rw [List.getElem?_append, List.length_take, Nat.min_eq_left hgl] at he
        by_cases h3 : i < g
        · rw [if_pos h3, List.getElem?_take, if_pos h3] at he
          rw [if_neg (by omega), if_neg (by omega)]
          have := h1 i e he
          rw [Nat.zero_add] at this; exact this
        · rw [if_neg h3] at he
          by_cases h4 : i = g
          · subst h4
            rw [Nat.sub_self] at he
            rw [if_pos rfl]
            cases he; rfl
          · rw [show i - g = (i - g - 1) + 1 by omega, List.getElem?_cons_succ, List.getElem?_drop, show g + (i - g - 1) = i - 1 by omega] at he
            have hi : i - 1 < done.length := (List.getElem?_eq_some_iff.mp he).1
            rw [if_neg h4, if_pos (by omega)]
            have := h1 (i - 1) e he
            rw [Nat.zero_add] at this; exact this)
      (by
        rw [cArr_at, hins]
        intro i e he
        simp only [upd, cSh]
        rw [if_neg (by omega), if_neg (by omega)]
        have := h2 (i + 1) e (by simpa using he)
        rw [show done.length + 1 + i = done.length + (i + 1) by omega]; exact this)
    refine ⟨f', ?_, ?_⟩
    · unfold f_I_arrangeSpare_L2
      rw [if_neg (nI_ge (by omega) (by omega))]
      simp only [c_ob_0, c_fa_0_0, c_fa_0_1, c_fi_0_2, c_put_0_2, c_fi_0_3, c_put_0_3, c_fi_0_4, c_put_0_4, c_ob_1, c_fa_1_0, c_fa_1_1, c_fa_1_2, c_fa_1_3, c_fa_1_4, c_fa_1_5, c_fi_1_6, c_put_1_6, c_ob_2, c_fa_2_0, c_ob_4, c_fa_4_0, c_ob_6, c_fa_6_0, c_ob_8, c_fa_8_0, c_ob_10, c_fa_10_0, c_ob_12, c_fa_12_0, c_ob_14, c_fa_14_0, c_fa_14_1, c_fa_14_2, c_fa_14_3, c_fi_14_4, c_put_14_4, c_ob_15, c_fa_15_0, c_ob_17, c_fa_17_0, c_ob_19, c_fa_19_0, c_ob_21, c_fa_21_0, c_len_0, c_ld_0, c_st_0, c_rd_0, c_wr_0, c_len_1, c_ld_1, c_st_1, c_rd_1, c_wr_1, c_len_2, c_ld_2, c_st_2, c_rd_2, c_wr_2, c_len_3, c_ld_3, c_st_3, c_rd_3, c_wr_3, c_len_4, c_ld_4, c_st_4, c_rd_4, c_wr_4, c_len_5, c_ld_5, c_st_5, c_rd_5, c_wr_5, c_len_6, c_ld_6, c_st_6, c_rd_6, c_wr_6, c_len_7, c_ld_7, c_st_7, c_rd_7, c_wr_7, c_len_8, c_ld_8, c_st_8, c_rd_8, c_wr_8, c_len_9, c_ld_9, c_st_9, c_rd_9, c_wr_9, bI_rI, bL_rL, bA_rA, bV_rV, bI_th, bL_th, bA_th, bV_th, rZ_0, rZ_1]
      rw [rd_nI (by omega) (by decide), hfx, y_arr20 (f := σ.1 5) ho (by omega) rfl hx hd h1 done.length zFu σ (Nat.le_refl _) (by unfold zFu; omega) (by
        funext i
        show _ = if _ then _ else _
        rw [if_neg (by omega)]), hg]
      simp only [c_ob_0, c_fa_0_0, c_fa_0_1, c_fi_0_2, c_put_0_2, c_fi_0_3, c_put_0_3, c_fi_0_4, c_put_0_4, c_ob_1, c_fa_1_0, c_fa_1_1, c_fa_1_2, c_fa_1_3, c_fa_1_4, c_fa_1_5, c_fi_1_6, c_put_1_6, c_ob_2, c_fa_2_0, c_ob_4, c_fa_4_0, c_ob_6, c_fa_6_0, c_ob_8, c_fa_8_0, c_ob_10, c_fa_10_0, c_ob_12, c_fa_12_0, c_ob_14, c_fa_14_0, c_fa_14_1, c_fa_14_2, c_fa_14_3, c_fi_14_4, c_put_14_4, c_ob_15, c_fa_15_0, c_ob_17, c_fa_17_0, c_ob_19, c_fa_19_0, c_ob_21, c_fa_21_0, c_len_0, c_ld_0, c_st_0, c_rd_0, c_wr_0, c_len_1, c_ld_1, c_st_1, c_rd_1, c_wr_1, c_len_2, c_ld_2, c_st_2, c_rd_2, c_wr_2, c_len_3, c_ld_3, c_st_3, c_rd_3, c_wr_3, c_len_4, c_ld_4, c_st_4, c_rd_4, c_wr_4, c_len_5, c_ld_5, c_st_5, c_rd_5, c_wr_5, c_len_6, c_ld_6, c_st_6, c_rd_6, c_wr_6, c_len_7, c_ld_7, c_st_7, c_rd_7, c_wr_7, c_len_8, c_ld_8, c_st_8, c_rd_8, c_wr_8, c_len_9, c_ld_9, c_st_9, c_rd_9, c_wr_9, bI_rI, bL_rL, bA_rA, bV_rV, bI_th, bL_th, bA_th, bV_th, rZ_0, rZ_1]
      rw [wr_nI (by omega) (by decide), cSet_arr, cArr_at, cArr_cArr, nI_add, ← hins, z1, cArr_cArr]
    · show cSp f' 0 (sSo (eR ord) (done.insertIdx (sGap (eR ord) x done done.length) x) rest)
      rw [hg]; exact z2
theorem y_arrange {σ : cS} {ord : Nat} {l : List ((Nat × Nat) × Nat)} (ho : ord < 5) (hlen : l.length ≤ 31) (hok : ∀ e, e ∈ l → eOk e) (h : cSp (σ.1 5) 0 l) :
    ∃ f', f_I_arrangeSpare (cPut b σ G) (b + 1) (nI l.length) (nI ord) = rV (cPut b (cArr σ 5 f') G) ∧ cSp f' 0 (sSo (eR ord) [] l) := by
  unfold f_I_arrangeSpare
  cases l with
  | nil =>
    refine ⟨σ.1 5, ?_, fun i e he => by simp [sSo] at he⟩
    unfold zFu f_I_arrangeSpare_L2
    rw [if_pos (by decide), cArr_id]
  | cons x rest =>
    have e1 : sSo (eR ord) [] (x :: rest) = sSo (eR ord) [x] rest := rfl
    obtain ⟨f', z1, z2⟩ := y_arr2 (b := b) (G := G) (K := fun G41 => rV G41) ho hlen rest zFu σ [x] (by simp; omega) (by simp at hlen; unfold zFu; omega) (fun e he => hok e (by simp at he; rw [he]; exact List.mem_cons_self ..)) (fun e he => hok e (List.mem_cons_of_mem _ he))
      (fun i e he => by
        cases i with
        | zero => simp at he; subst he; exact h 0 x rfl
        | succ i => simp at he)
      (fun i e he => by
        have := h (i + 1) e (by simpa using he)
        rw [Nat.zero_add] at this
        rw [List.length_singleton, Nat.add_comm 1 i]; exact this)
    exact ⟨f', z1, by rw [e1]; exact z2⟩
end Ord
