-- orders leave a row in order, and as it was; the class is sound
section SoSt
def kKap (ord : Nat) (t : Nat × Nat) : Int := match ord with
  | 0 => t.1
  | 1 => -(t.1 : Int)
  | 2 => ((t.1 % 5 : Nat) : Int)
  | 3 => -(t.2 : Int)
  | _ => if t.1 % 2 = 0 then 1000 + (t.1 : Int) else t.1
theorem sR_kap {ord : Nat} {t u : Nat × Nat} (ho : ord < 5) (ht : t.1 < 1000) (hu : u.1 < 1000) : sR ord t u = decide (kKap ord t < kKap ord u) := by
  rcases (by omega : ord = 0 ∨ ord = 1 ∨ ord = 2 ∨ ord = 3 ∨ ord = 4) with rfl | rfl | rfl | rfl | rfl
  · show decide (t.1 < u.1) = decide ((t.1 : Int) < (u.1 : Int))
    exact decide_eq_decide.mpr (by omega)
  · show decide (u.1 < t.1) = decide (-(t.1 : Int) < -(u.1 : Int))
    exact decide_eq_decide.mpr (by omega)
  · show decide (t.1 % 5 < u.1 % 5) = decide (((t.1 % 5 : Nat) : Int) < ((u.1 % 5 : Nat) : Int))
    exact decide_eq_decide.mpr (by omega)
  · show decide (u.2 < t.2) = decide (-(t.2 : Int) < -(u.2 : Int))
    exact decide_eq_decide.mpr (by omega)
  · show (if t.1 % 2 = u.1 % 2 then decide (t.1 < u.1) else decide (u.1 % 2 < t.1 % 2)) = decide ((if t.1 % 2 = 0 then 1000 + (t.1 : Int) else (t.1 : Int)) < (if u.1 % 2 = 0 then 1000 + (u.1 : Int) else (u.1 : Int)))
    by_cases h1 : t.1 % 2 = 0
    · by_cases h2 : u.1 % 2 = 0
      · rw [if_pos (by omega), if_pos h1, if_pos h2]; exact decide_eq_decide.mpr (by omega)
      · rw [if_neg (by omega), if_pos h1, if_neg h2]; exact decide_eq_decide.mpr (by omega)
    · by_cases h2 : u.1 % 2 = 0
      · rw [if_neg (by omega), if_neg h1, if_pos h2]; exact decide_eq_decide.mpr (by omega)
      · rw [if_pos (by omega), if_neg h1, if_neg h2]; exact decide_eq_decide.mpr (by omega)
theorem sGap_sp {α : Type} {R : α → α → Bool} {x : α} {l : List α} : ∀ g, g ≤ l.length → (∀ k y, sGap R x l g ≤ k → k < g → l[k]? = some y → R x y = true) ∧ ∀ y, 0 < sGap R x l g → l[sGap R x l g - 1]? = some y → R x y = false
  | 0, _ => ⟨fun k y _ h => absurd h (Nat.not_lt_zero _), fun y h => absurd h (Nat.lt_irrefl _)⟩
  | g + 1, hg => by
    have e := List.getElem?_eq_getElem (show g < l.length by omega)
    generalize l[g] = z at e
    obtain ⟨h1, h2⟩ := sGap_sp (R := R) (x := x) (l := l) g (by omega)
    have hle := sGap_le (R := R) (x := x) (l := l) g
    have u : sGap R x l (g + 1) = if R x z = true then sGap R x l g else g + 1 := by
      show (match l[g]? with
        | some y => if R x y = true then sGap R x l g else g + 1
        | none => g + 1) = _
      rw [e]
    rw [u]
    by_cases hz : R x z = true
    · rw [if_pos hz]
      refine ⟨fun k y a1 a2 a3 => ?_, h2⟩
      by_cases hk : k = g
      · subst hk
        rw [e] at a3
        cases a3
        exact hz
      · exact h1 k y a1 (by omega) a3
    · rw [if_neg hz]
      refine ⟨fun k y a1 a2 _ => by omega, fun y _ a => ?_⟩
      rw [Nat.add_sub_cancel, e] at a
      cases a
      exact Bool.eq_false_iff.mpr hz
/-- in order, and what is alike in the sequence of its numbers -/
def kStb {α : Type} (κ : α → Int) (ν : α → Nat) (l : List α) : Prop := ∀ (i j : Nat) (x y : α), i < j → l[i]? = some x → l[j]? = some y → κ x ≤ κ y ∧ (κ x = κ y → ν x < ν y)
theorem ins_stb {α : Type} {R : α → α → Bool} {κ : α → Int} {ν : α → Nat} {x : α} {l : List α} (h : kStb κ ν l) (hR : ∀ y, y ∈ l → R x y = decide (κ x < κ y)) (hν : ∀ y, y ∈ l → ν y < ν x) : kStb κ ν (l.insertIdx (sGap R x l l.length) x) := by
  obtain ⟨g1, g2⟩ := sGap_sp (R := R) (x := x) (l := l) l.length (Nat.le_refl _)
  have gl := sGap_le (R := R) (x := x) (l := l) l.length
  generalize sGap R x l l.length = g at g1 g2 gl
  -- what lies ahead of the gap, and behind it
  have lo : ∀ i y, i < g → l[i]? = some y → κ y ≤ κ x := fun i y hi hy => by
    have e := List.getElem?_eq_getElem (show g - 1 < l.length by omega)
    generalize l[g - 1] = z at e
    have hz := g2 z (by omega) e
    rw [hR z (List.mem_of_getElem? e)] at hz
    have hz' := of_decide_eq_false hz
    by_cases hi1 : i = g - 1
    · subst hi1
      rw [e] at hy
      cases hy
      omega
    · have := (h i (g - 1) y z (by omega) hy e).1
      omega
  have hi' : ∀ k y, g ≤ k → l[k]? = some y → κ x < κ y := fun k y hk hy => by
    have := g1 k y hk (List.getElem?_eq_some_iff.mp hy).1 hy
    rw [hR y (List.mem_of_getElem? hy)] at this
    exact of_decide_eq_true this
  intro i j a c hij ha hc
  rw [List.getElem?_insertIdx] at ha hc
  by_cases i1 : i < g
  · rw [if_pos i1] at ha
    by_cases j1 : j < g
    · rw [if_pos j1] at hc
      exact h i j a c hij ha hc
    · rw [if_neg j1] at hc
      by_cases j2 : j = g
      · rw [if_pos j2, if_pos (by omega)] at hc
        cases hc
        exact ⟨lo i a i1 ha, fun _ => hν a (List.mem_of_getElem? ha)⟩
      · rw [if_neg j2] at hc
        exact h i (j - 1) a c (by omega) ha hc
  · rw [if_neg i1] at ha
    rw [if_neg (by omega), if_neg (by omega)] at hc
    by_cases i2 : i = g
    · rw [if_pos i2, if_pos (by omega)] at ha
      cases ha
      have := hi' (j - 1) c (by omega) hc
      exact ⟨by omega, fun q => by omega⟩
    · rw [if_neg i2] at ha
      exact h (i - 1) (j - 1) a c (by omega) ha hc
/-- sorted by insertion: things numbered as they lay -/
theorem so_stb {α : Type} {R : α → α → Bool} {κ : α → Int} {ν : α → Nat} {P : α → Prop} (hR : ∀ x y, P x → P y → R x y = decide (κ x < κ y)) : ∀ (rest done : List α), (∀ e, e ∈ done → P e) → (∀ e, e ∈ rest → P e) → (∀ e x, e ∈ done → x ∈ rest → ν e < ν x) → (∀ (i j : Nat) (x y : α), i < j → rest[i]? = some x → rest[j]? = some y → ν x < ν y) → kStb κ ν done → kStb κ ν (sSo R done rest)
  | [], done, _, _, _, _, h => h
  | x :: rest, done, hd, hr, hn, hn2, h => by
    show kStb κ ν (sSo R (done.insertIdx (sGap R x done done.length) x) rest)
    have hx : P x := hr x (List.mem_cons_self ..)
    refine so_stb hR rest _ (fun e he => ?_) (fun e he => hr e (List.mem_cons_of_mem _ he)) (fun e y he hy => ?_) (fun i j a c hij ha hc => hn2 (i + 1) (j + 1) a c (by omega) (by simpa using ha) (by simpa using hc)) (ins_stb h (fun y hy => hR x y hx (hd y hy)) (fun y hy => hn y x hy (List.mem_cons_self ..)))
    · rcases ins_mem _ _ he with q | q
      · rw [q]; exact hx
      · exact hd e q
    · rcases ins_mem _ _ he with q | q
      · rw [q]
        obtain ⟨k, hk⟩ := List.getElem?_of_mem hy
        exact hn2 0 (k + 1) x y (by omega) rfl (by simpa using hk)
      · exact hn e y q (List.mem_cons_of_mem _ hy)
theorem ins_mem2 {α : Type} {a c : α} {l : List α} {i : Nat} (hi : i ≤ l.length) (h : a = c ∨ a ∈ l) : a ∈ l.insertIdx i c := by
  rw [ins_td _ _ _ hi]
  rcases h with h | h
  · rw [h]; simp
  · rw [← List.take_append_drop i l] at h
    rcases List.mem_append.mp h with q | q
    · exact List.mem_append.mpr (Or.inl q)
    · exact List.mem_append.mpr (Or.inr (List.mem_cons_of_mem _ q))
theorem sSo_mem2 {α : Type} {R : α → α → Bool} {a : α} : ∀ (rest done : List α), a ∈ done ∨ a ∈ rest → a ∈ sSo R done rest
  | [], done, h => h.elim id (fun q => by cases q)
  | x :: rest, done, h => by
    show a ∈ sSo R (done.insertIdx (sGap R x done done.length) x) rest
    refine sSo_mem2 rest _ ?_
    rcases h with h | h
    · exact Or.inl (ins_mem2 (sGap_le _) (Or.inr h))
    · rcases List.mem_cons.mp h with q | q
      · exact Or.inl (ins_mem2 (sGap_le _) (Or.inl q))
      · exact Or.inr q
end SoSt
section Snd
variable {w : Nat → Nat} {b o m : Nat} {A : mS} {σ : cS} {H : gH} {p r s : Nat}
theorem x_lies (hX : CRepx (-1) σ A) (hI : mInv m A) (hv : mV A p) : f_I_liesInAbove (cPut b σ H) (b + 1) (nI p) = rI 1 (cPut b σ H) := by
  obtain ⟨r, s, hr, hr2, hfit, h31, hp6, -⟩ := hI.pl hv
  have hW := hI.w p
  unfold f_I_liesInAbove
  rw [c_fa_1_2, c_ob_6, c_rd_2, rd_nI hp6 (by omega), bI_rI]
  by_cases h2 : p < 2
  · rw [hX.2.2.2.1.1 p h2, if_pos rfl, if_neg (nI_ge h2 (by omega)), rZ_1]
  · cases hx : A.2.1 p with
    | none => rcases hv with h | h
              · exact absurd h h2
              · exact absurd hx h
    | some x =>
      have ha : σ.1 2 p = nI x.1 := hX.2.2.2.1.2 p x hx
      obtain ⟨b3, b4⟩ := hX.2.2.2.2.1 p r s hp6 hr
      have hvo : mV A x.1 := hI.1.cl p x hx
      obtain ⟨ro, so, hro, hro2, hfo, h31o, ho6, -⟩ := hI.pl hvo
      have hrp := mRw_of hI.1 hx hro
      rw [hr] at hrp
      have e1 : r = ro := by cases hrp; rfl
      have e2 : s = x.2.1 + so := by cases hrp; rfl
      obtain ⟨-, b4o⟩ := hX.2.2.2.2.1 x.1 ro so ho6 hro
      have c2 : f_N_read (cPut b σ H) (b + 10) (nI p) = rI (nI s) (cPut b σ H) := by rw [c_rd_4, rd_nI hp6 (by omega), b4]
      have c3 : f_N_read (cPut b σ H) (b + 10) (nI x.1) = rI (nI so) (cPut b σ H) := by rw [c_rd_4, rd_nI ho6 (by omega), b4o]
      have hl := mLen_part (A := A) h2 hx
      have hf := hI.2.1 p x hx
      have e3 : nI s - nI so = nI x.2.1 := by rw [e2, nI_sub (by omega), Nat.add_sub_cancel]
      have L : ∀ (d n j : Nat), j + d = mLen A p → d < n → f_I_liesInAbove_L71 (fun G42 => rZ (nI 0) G42) (fun G43 => rZ (nI 1) G43) n (cPut b σ H) (b + 1) (nI p) (nI x.1) (nI x.2.1) (nI (mLen A p)) (nI j) = rI 1 (cPut b σ H) := by
        intro d
        induction d with
        | zero =>
          intro n j hj hn
          cases n with
          | zero => omega
          | succ n =>
            unfold f_I_liesInAbove_L71
            rw [if_pos (nI_le (by omega) (by omega)), rZ_1]
        | succ d ih =>
          intro n j hj hn
          cases n with
          | zero => omega
          | succ n =>
            have ht := List.getElem?_eq_getElem (show s + j < (A.1 r).length by omega)
            generalize (A.1 r)[s + j] = t at ht
            have ht2 : (A.1 ro)[so + (x.2.1 + j)]? = some t := by rw [← e1, show so + (x.2.1 + j) = s + j by omega]; exact ht
            unfold f_I_liesInAbove_L71
            rw [if_neg (nI_ge (by omega) (by omega)), c_ob_1, x_at hX hW hv hr ht, bI_rI, c_ob_1, nI_add, x_at hX (hI.w x.1) hvo hro ht2, bI_rI, if_pos rfl, nI_add]
            exact ih n (j + 1) (by omega) (by omega)
      rw [ha, if_neg (nI_ne1 (by omega)), c_fa_1_4, c_ob_10, c2, bI_rI, c_fa_1_4, c_ob_10, c3, bI_rI, c_ob_1, x_len hX hI.1 hv, bI_rI, e3, if_neg (nI_pos (by omega)), c_ob_1, x_len hX hI.1 hvo, bI_rI, nI_add, if_pos (nI_le (by omega) (by omega)), L (mLen A p) zFu 0 (by omega) (by unfold zFu; omega)]
theorem x_pInSpare {σ : cS} {i : Nat} {e : (Nat × Nat) × Nat} (hi : i < 31) (he : eOk e) (hf : σ.1 5 i = nI (cN e)) : f_I_placeInSpare (cPut b σ H) (b + 1) (nI i) = rI (nI e.2) (cPut b σ H) := by
  obtain ⟨h1, h2, h3⟩ := he
  unfold f_I_placeInSpare
  rw [c_fa_1_5, c_ob_12, c_rd_5, rd_nI hi (by omega), hf, bI_rI]
  unfold cN
  rw [nI_and31, show (32 * (32 * e.1.2 + e.1.1) + e.2) % 32 = e.2 by omega]
theorem sEn_ok (hI : mInv m A) (hr2 : r < 2) {n : Nat} (hn : n ≤ 31) : ∀ e, e ∈ sEn 0 (sSeg A r s n) → eOk e ∧ ∃ t, (A.1 r)[s + e.2]? = some t ∧ t.2 = e.1 ∧ e.2 < n := by
  intro e he
  obtain ⟨i, hi⟩ := List.getElem?_of_mem he
  rw [sEn_at] at hi
  cases hx : (sSeg A r s n)[i]? with
  | none => rw [hx] at hi; cases hi
  | some t =>
    rw [hx] at hi
    have e1 : (t.2, 0 + i) = e := Option.some.inj hi
    have hin : i < n := by
      have := (List.getElem?_eq_some_iff.mp hx).1
      have h2 : (sSeg A r s n).length ≤ n := by unfold sSeg; rw [List.length_take]; omega
      omega
    have ok := seg_ok (hI.2.2.1 r hr2).2 hI.2.2.2.2.2 hx
    rw [sSeg_at hin] at hx
    rw [← e1, Nat.zero_add]
    exact ⟨⟨ok.1, by show t.2.2 ≤ 1000; have := ok.2; omega, by show i < 32; omega⟩, t, hx, rfl, hin⟩
theorem x_back (hX : CRepx (-1) σ A) (hI : mInv m A) (hv : mV A p) : ∃ f5, f_I_isSameBackward (cPut b σ H) (b + 1) (nI p) = rI 1 (cPut b (cArr σ 5 f5) H) := by
  obtain ⟨r, s, hr, hr2, hfit, h31, hp6, -⟩ := hI.pl hv
  have hW := hI.w p
  have hl31 := hI.l31 hv
  obtain ⟨f5, y1, y2⟩ := x_copySpare (b := b) (G := H) hX hW hv hr (hI.2.2.1 r hr2).2 hI.2.2.2.2.2
  have hX' := hX.spare f5
  have hsp : ∀ i e, (sEn 0 (sSeg A r s (mLen A p)))[i]? = some e → (cArr σ 5 f5).1 5 i = nI (cN e) := fun i e he => by
    rw [cArr_at]
    have := y2 i e he
    rw [Nat.zero_add] at this
    exact this
  have L : ∀ (j n : Nat), j ≤ mLen A p → j < n → f_I_isSameBackward_L13 (fun G28 => rZ (nI 0) G28) (fun G29 => rZ (nI 1) G29) n (cPut b (cArr σ 5 f5) H) (b + 1) (nI p) (nI j + (-1)) = rI 1 (cPut b (cArr σ 5 f5) H) := by
    intro j
    induction j with
    | zero =>
      intro n hj hn
      cases n with
      | zero => omega
      | succ n =>
        unfold f_I_isSameBackward_L13
        rw [if_pos (by decide), rZ_1]
    | succ j ih =>
      intro n hj hn
      cases n with
      | zero => omega
      | succ n =>
        have ht := List.getElem?_eq_getElem (show s + j < (A.1 r).length by omega)
        generalize (A.1 r)[s + j] = t at ht
        have he : (sEn 0 (sSeg A r s (mLen A p)))[j]? = some (t.2, j) := by
          rw [sEn_at, sSeg_at (by omega), ht, Nat.zero_add]; rfl
        obtain ⟨ok, -⟩ := sEn_ok hI hr2 hl31 _ (List.mem_of_getElem? he)
        unfold f_I_isSameBackward_L13
        rw [nI_m1, if_neg (nI_pos (by omega)), c_ob_1, y_inSpare (by omega) ok (hsp j _ he), bI_rI, c_ob_1, x_at hX' hW hv hr ht, bI_rI, if_pos (show nI (32 * t.2.2 + t.2.1) = cE t from rfl), c_ob_1, x_pInSpare (by omega) ok (hsp j _ he), bI_rI, if_pos rfl]
        exact ih n (by omega) (by omega)
  refine ⟨f5, ?_⟩
  unfold f_I_isSameBackward
  rw [c_ob_1, y1, bV_rV, c_ob_1, x_len hX' hI.1 hv, bI_rI, nI_s1, L (mLen A p) zFu (Nat.le_refl _) (by unfold zFu; omega)]
theorem kFi_at {k : Nat} : ∀ (l : List Nat) (z j : Nat), l[j]? = some k → ∃ i, i ≤ j ∧ kFi k l z = some (z + i) ∧ l[i]? = some k
  | [], _, _, h => by simp at h
  | a :: l, z, j, h => by
    unfold kFi
    by_cases e : a = k
    · exact ⟨0, Nat.zero_le _, by rw [if_pos e]; rfl, by rw [e]; rfl⟩
    · cases j with
      | zero => exact absurd (Option.some.inj (show some a = some k from h)) e
      | succ j =>
        obtain ⟨i, h1, h2, h3⟩ := kFi_at l (z + 1) j (by simpa using h)
        exact ⟨i + 1, by omega, by rw [if_neg e, h2]; congr 1; omega, by simpa using h3⟩
theorem kLa_at {k : Nat} {ks : List Nat} : ∀ (n j : Nat), ks[j]? = some k → j < n → ∃ i, kLa k ks n = some i ∧ j ≤ i ∧ i < n ∧ ks[i]? = some k
  | 0, _, _, h => absurd h (Nat.not_lt_zero _)
  | n + 1, j, hj, hn => by
    unfold kLa
    by_cases e : ks[n]? = some k
    · exact ⟨n, if_pos e, by omega, by omega, e⟩
    · rw [if_neg e]
      have hjn : j ≠ n := fun q => e (by rw [← q]; exact hj)
      obtain ⟨i, h1, h2, h3, h4⟩ := kLa_at n j hj (by omega)
      exact ⟨i, h1, h2, by omega, h4⟩
theorem c_found {ks : List Nat} (h : kyC b σ H p ks) : f_I_areKeysFound (cPut b σ H) (b + 1) (nI p) = rI 1 (cPut b σ H) := by
  have h31 := h.2.2.1
  have L : ∀ (d n j : Nat), j + d = ks.length → d < n → f_I_areKeysFound_L8 (fun G38 => rZ (nI 0) G38) (fun G39 => rZ (nI 0) G39) (fun G40 => rZ (nI 1) G40) n (cPut b σ H) (b + 1) (nI p) (nI ks.length) (nI j) = rI 1 (cPut b σ H) := by
    intro d
    induction d with
    | zero =>
      intro n j hj hn
      cases n with
      | zero => omega
      | succ n =>
        unfold f_I_areKeysFound_L8
        rw [if_pos (nI_le (by omega) (by omega)), rZ_1]
    | succ d ih =>
      intro n j hj hn
      cases n with
      | zero => omega
      | succ n =>
        have ht := List.getElem?_eq_getElem (show j < ks.length by omega)
        generalize ks[j] = k at ht
        have hk := h.k31 ht
        obtain ⟨i, a1, a2, a3⟩ := kFi_at ks 0 j ht
        rw [Nat.zero_add] at a2
        obtain ⟨i2, b1, b2, b3, b4⟩ := kLa_at ks.length j ht (by omega)
        unfold f_I_areKeysFound_L8
        rw [if_neg (nI_ge (by omega) (by omega)), c_ob_1, h.1 j k ht, bI_rI, c_ob_1, c_first h hk, bI_rI, c_ob_1, c_last h hk, bI_rI, a2, b1, show sNo (some i) = nI i from rfl, show sNo (some i2) = nI i2 from rfl, if_neg (nI_pos (by omega)), if_neg (nI_nlt a1 (by omega)), if_neg (nI_nlt b2 (by omega)), if_pos (nI_lt b3 (by omega)), c_ob_1, h.1 i k a3, bI_rI, if_pos rfl, c_ob_1, h.1 i2 k b4, bI_rI, if_pos rfl, nI_add]
        exact ih n (j + 1) (by omega) (by omega)
  unfold f_I_areKeysFound
  rw [c_ob_1, h.2.1, bI_rI, L ks.length zFu 0 (by omega) (by unfold zFu; omega)]
theorem bits_full : ∀ n : Nat, n < 32 → ∀ k : Nat, k < 32 → (nI (2 ^ n - 1)).toBitVec.getLsbD k = decide (k < n) := by decide +kernel
theorem cnt_full : ∀ n : Nat, n < 32 → ∀ G : gH, f_IN_bitCount G (nI (2 ^ n - 1)) = rI (nI n) G := by
  intro n hn G
  unfold f_IN_bitCount
  refine congrArg (fun v => rI v G) ?_
  revert n
  decide +kernel
theorem i32_ext {v u : Int32} (h : ∀ k, k < 32 → v.toBitVec.getLsbD k = u.toBitVec.getLsbD k) : v = u := by
  apply Int32.toBitVec_inj.mp
  apply BitVec.eq_of_getLsbD_eq
  intro i hi
  exact h i hi
theorem x_ordering {ord : Nat} (hX : CRepx (-1) σ A) (hI : mInv m A) (hv : mV A p) (ho : ord < 5) : ∃ f5, f_I_isOrdering (cPut b σ H) (b + 1) (nI p) (nI ord) = rI 1 (cPut b (cArr σ 5 f5) H) := by
  obtain ⟨r, s, hr, hr2, hfit, h31, hp6, -⟩ := hI.pl hv
  have hW := hI.w p
  have hl31 := hI.l31 hv
  obtain ⟨f5, y1, y2⟩ := x_copySpare (b := b) (G := H) hX hW hv hr (hI.2.2.1 r hr2).2 hI.2.2.2.2.2
  have hen := sEn_ok (s := s) hI hr2 hl31
  have hel : (sEn 0 (sSeg A r s (mLen A p))).length = mLen A p := by rw [sEn_len, sSeg_len hfit]
  obtain ⟨f6, z1, z2⟩ := y_arrange (b := b) (G := H) (σ := cArr σ 5 f5) ho (by rw [hel]; exact hl31) (fun e he => (hen e he).1) (by rw [cArr_at]; exact y2)
  rw [hel, cArr_cArr] at z1
  -- the order
  have hst : kStb (fun e : (Nat × Nat) × Nat => kKap ord e.1) (fun e => e.2) (sSo (eR ord) [] (sEn 0 (sSeg A r s (mLen A p)))) := by
    refine so_stb (P := fun e : (Nat × Nat) × Nat => e.1.1 < 1000) (R := eR ord) (fun x y hx hy => sR_kap ho hx hy) (sEn 0 (sSeg A r s (mLen A p))) [] (fun e he => by cases he) (fun e he => ?_) (fun e x he => by cases he) (fun i j x y hij hx hy => ?_) (fun i j x y _ hx => by simp at hx)
    · have := (hen e he).1.1
      show e.1.1 < 1000
      omega
    · rw [sEn_at] at hx hy
      cases h1 : (sSeg A r s (mLen A p))[i]? with
      | none => rw [h1] at hx; cases hx
      | some t =>
        cases h2 : (sSeg A r s (mLen A p))[j]? with
        | none => rw [h2] at hy; cases hy
        | some u =>
          rw [h1] at hx
          rw [h2] at hy
          cases hx
          cases hy
          show 0 + i < 0 + j
          omega
  have hml : (sSo (eR ord) [] (sEn 0 (sSeg A r s (mLen A p)))).length = mLen A p := by rw [sSo_len, hel]; simp
  have hmem : ∀ e, e ∈ sSo (eR ord) [] (sEn 0 (sSeg A r s (mLen A p))) → eOk e ∧ ∃ t, (A.1 r)[s + e.2]? = some t ∧ t.2 = e.1 ∧ e.2 < mLen A p := fun e he => by
    rcases sSo_mem _ _ he with q | q
    · cases q
    · exact hen e q
  have hall : ∀ k, k < mLen A p → ∃ e, e ∈ sSo (eR ord) [] (sEn 0 (sSeg A r s (mLen A p))) ∧ e.2 = k := fun k hk => by
    have ht := List.getElem?_eq_getElem (show s + k < (A.1 r).length by omega)
    generalize (A.1 r)[s + k] = t at ht
    refine ⟨(t.2, k), sSo_mem2 _ _ (Or.inr ?_), rfl⟩
    refine List.mem_of_getElem? (i := k) ?_
    rw [sEn_at, sSeg_at hk, ht, Nat.zero_add]; rfl
  generalize sSo (eR ord) [] (sEn 0 (sSeg A r s (mLen A p))) = so at hst hml hmem hall z2
  have hX' := hX.spare f6
  have hsp : ∀ i e, so[i]? = some e → (cArr σ 5 f6).1 5 i = nI (cN e) := fun i e he => by
    rw [cArr_at]
    have := z2 i e he
    rw [Nat.zero_add] at this
    exact this
  have L : ∀ (l : List ((Nat × Nat) × Nat)) (n j : Nat) (v : Int32), so.drop j = l → j ≤ so.length → l.length < n → (∀ k, k < 32 → v.toBitVec.getLsbD k = true → k < mLen A p) →
      ∃ v' : Int32, f_I_isOrdering_L23 (fun G38 => rZ (nI 0) G38) (fun G39 => rZ (nI 0) G39) (fun G42 x40 x41 => bI (f_IN_bitCount G42 x41) fun v45 G44 => if v45 = x40 then rZ (nI 1) G44
    else rZ (nI 0) G44) n (cPut b (cArr σ 5 f6) H) (b + 1) (nI p) (nI ord) (nI (mLen A p)) v (nI j) = (bI (f_IN_bitCount (cPut b (cArr σ 5 f6) H) v') fun v45 G44 => if v45 = nI (mLen A p) then rZ (nI 1) G44
    else rZ (nI 0) G44) ∧ ∀ k, k < 32 → (v'.toBitVec.getLsbD k = true ↔ (v.toBitVec.getLsbD k = true ∨ ∃ e, e ∈ l ∧ e.2 = k)) := by
    intro l
    induction l with
    | nil =>
      intro n j v hd hj hn hb
      cases n with
      | zero => omega
      | succ n =>
        have := dr_nil hd
        refine ⟨v, ?_, fun k _ => ⟨Or.inl, fun q => q.elim id (fun ⟨e, he, _⟩ => by cases he)⟩⟩
        unfold f_I_isOrdering_L23
        rw [if_pos (nI_le (by omega) (by omega))]
    | cons e l ih =>
      intro n j v hd hj hn hb
      cases n with
      | zero => omega
      | succ n =>
        obtain ⟨e1, e2, e3⟩ := dr_cons hd
        obtain ⟨ok, t, ht, ht2, hlt⟩ := hmem e (List.mem_of_getElem? e1)
        have hb1 : ∀ k, k < 32 → (v ||| (nI 1 <<< (nI e.2 &&& 31))).toBitVec.getLsbD k = (v.toBitVec.getLsbD k || decide (k = e.2)) := fun k hk => by
          rw [bit_or, bit_1' _ (by omega) k hk]
        obtain ⟨v', q1, q2⟩ := ih n (j + 1) (v ||| (nI 1 <<< (nI e.2 &&& 31))) e2 (by omega) (by simp at hn; omega) (fun k hk hh => by
          rw [hb1 k hk] at hh
          by_cases z : k = e.2
          · rw [z]; exact hlt
          · simp [z] at hh
            exact hb k hk hh)
        refine ⟨v', ?_, fun k hk => ?_⟩
        · unfold f_I_isOrdering_L23
          rw [if_neg (nI_ge (by omega) (by omega)), c_ob_1, x_pInSpare (by omega) ok (hsp j e e1), bI_rI, c_ob_1, y_inSpare (by omega) ok (hsp j e e1), bI_rI, c_ob_1, x_at hX' hW hv hr ht, bI_rI, if_pos (show nI (32 * e.1.2 + e.1.1) = cE t by rw [← ht2]; rfl)]
          by_cases h0 : j = 0
          · rw [if_pos (by rw [h0]; decide), nI_add, q1]
          · have e0 := List.getElem?_eq_getElem (show j - 1 < so.length by omega)
            generalize so[j - 1] = a at e0
            obtain ⟨oka, -⟩ := hmem a (List.mem_of_getElem? e0)
            obtain ⟨s1, s2⟩ := hst (j - 1) j a e (by omega) e0 e1
            have r1 := y_ahead (G := cPut b (cArr σ 5 f6) H) ho ok.1 oka.1 ok.2.1 oka.2.1
            have r2 := y_ahead (G := cPut b (cArr σ 5 f6) H) ho oka.1 ok.1 oka.2.1 ok.2.1
            have k1 : sR ord (e.1.1, e.1.2) (a.1.1, a.1.2) = false := by
              rw [sR_kap ho (by show e.1.1 < 1000; have := ok.1; omega) (by show a.1.1 < 1000; have := oka.1; omega)]
              exact decide_eq_false (by show ¬ kKap ord e.1 < kKap ord a.1; have : kKap ord a.1 ≤ kKap ord e.1 := s1; omega)
            have k2 : sR ord (a.1.1, a.1.2) (e.1.1, e.1.2) = decide (kKap ord a.1 < kKap ord e.1) := sR_kap ho (by show a.1.1 < 1000; have := oka.1; omega) (by show e.1.1 < 1000; have := ok.1; omega)
            have ej : nI j - nI 1 = nI (j - 1) := nI_sub (by omega)
            have mf : f_I_mayFollow (cPut b (cArr σ 5 f6) H) (b + 1) (nI j) (nI ord) = rI 1 (cPut b (cArr σ 5 f6) H) := by
              unfold f_I_mayFollow
              rw [c_ob_1, y_inSpare (by omega) ok (hsp j e e1), bI_rI, c_ob_1, ej, y_inSpare (by omega) oka (hsp (j - 1) a e0), bI_rI, r1, k1, bI_rI, if_pos (show mB false = 0 from rfl), r2, k2, bI_rI]
              by_cases kk : kKap ord a.1 < kKap ord e.1
              · rw [decide_eq_true kk, if_neg (by decide), rZ_1]
              · have hae : a.2 < e.2 := s2 (by show kKap ord a.1 = kKap ord e.1; have : kKap ord a.1 ≤ kKap ord e.1 := s1; omega)
                have := hlt
                rw [decide_eq_false kk, if_pos (show mB false = 0 from rfl), c_ob_1, x_pInSpare (by omega) oka (hsp (j - 1) a e0), bI_rI, c_ob_1, x_pInSpare (by omega) ok (hsp j e e1), bI_rI, if_neg (nI_ge hae (by have := ok.2.2; omega)), rZ_1]
            rw [if_neg (show ¬ nI j ≤ 0 from nI_ge (a := 0) (by omega) (by omega)), c_ob_1, mf, bI_rI, if_neg (by decide), nI_add, q1]
        · rw [q2 k hk, hb1 k hk]
          constructor
          · rintro (q | ⟨x, hx, hk2⟩)
            · by_cases z : k = e.2
              · exact Or.inr ⟨e, List.mem_cons_self .., z.symm⟩
              · simp [z] at q
                exact Or.inl q
            · exact Or.inr ⟨x, List.mem_cons_of_mem _ hx, hk2⟩
          · rintro (q | ⟨x, hx, hk2⟩)
            · exact Or.inl (by rw [q]; rfl)
            · rcases List.mem_cons.mp hx with z | z
              · exact Or.inl (by rw [← hk2, z]; simp)
              · exact Or.inr ⟨x, z, hk2⟩
  obtain ⟨v', q1, q2⟩ := L _ zFu 0 (nI 0) (List.drop_zero ..) (Nat.zero_le _) (by rw [hml]; unfold zFu; omega) (fun k hk hh => by rw [bit_0' k hk] at hh; cases hh)
  have hv' : v' = nI (2 ^ mLen A p - 1) := i32_ext fun k hk => by
    rw [bits_full _ (by omega) k hk]
    by_cases z : k < mLen A p
    · rw [decide_eq_true z]
      obtain ⟨e, he, hk2⟩ := hall k z
      exact (q2 k hk).mpr (Or.inr ⟨e, he, hk2⟩)
    · rw [decide_eq_false z]
      refine Bool.eq_false_iff.mpr (fun hh => ?_)
      rcases (q2 k hk).mp hh with q | ⟨e, he, hk2⟩
      · rw [bit_0' k hk] at q; cases q
      · obtain ⟨-, -, -, -, hlt⟩ := hmem e he
        omega
  refine ⟨f6, ?_⟩
  unfold f_I_isOrdering
  rw [c_ob_1, x_len hX hI.1 hv, bI_rI, c_ob_1, y1, bV_rV, c_ob_1, z1, bV_rV, q1, hv', cnt_full _ (by omega), bI_rI, if_pos rfl, rZ_1]
theorem x_areSound (hX : CRepx (-1) σ A) (hI : mInv m A) : ∃ f5, f_I_areSound (cPut b σ H) (b + 1) = rI 1 (cPut b (cArr σ 5 f5) H) := by
  have th : ∀ (f5 : Nat → Int32) (p : Nat), p < 6 → (mV A p → f_I_isThere (cPut b (cArr σ 5 f5) H) (b + 1) (nI p) = rI 1 (cPut b (cArr σ 5 f5) H)) ∧ (¬ mV A p → f_I_isThere (cPut b (cArr σ 5 f5) H) (b + 1) (nI p) = rI 0 (cPut b (cArr σ 5 f5) H)) := fun f5 p hp => by
    have key := CRepx.there (hX.spare f5) (hI.w 0) (x := nI p)
    refine ⟨fun hv => ?_, fun hv => ?_⟩
    · exact y_isThere (t := true) ⟨fun z => absurd ⟨p, hp, rfl, hv⟩ (key.mp z), fun z => by cases z⟩
    · exact y_isThere (t := false) ⟨fun _ => rfl, fun _ => key.mpr (fun ⟨q, hq, e, hz⟩ => hv (by rw [nI_eq31 (by omega) (by omega) e]; exact hz))⟩
  have L44 : ∀ (K1 : gH → gR) (K2 : gH → Nat → Int32 → gR) (p : Nat), p < 6 → ∀ (d n j : Nat) (f5 : Nat → Int32), j + d = 5 → d < n → ∃ f6, f_I_areSound_L44 K1 K2 n (cPut b (cArr σ 5 f5) H) (b + 1) (nI p) (nI j) = K2 (cPut b (cArr σ 5 f6) H) (b + 1) (nI p) := by
    intro K1 K2 p hp d
    induction d with
    | zero =>
      intro n j f5 hj hn
      cases n with
      | zero => omega
      | succ n =>
        refine ⟨f5, ?_⟩
        unfold f_I_areSound_L44
        rw [if_pos (nI_le (by omega) (by omega))]
    | succ d ih =>
      intro n j f5 hj hn
      cases n with
      | zero => omega
      | succ n =>
        unfold f_I_areSound_L44
        rw [if_neg (nI_ge (by omega) (by omega)), c_ob_1]
        by_cases hv : mV A p
        · obtain ⟨f6, e6⟩ := x_ordering (b := b) (H := H) (ord := j) (hX.spare f5) hI hv (by omega)
          rw [cArr_cArr] at e6
          obtain ⟨f7, e7⟩ := ih n (j + 1) f6 (by omega) (by omega)
          refine ⟨f7, ?_⟩
          rw [(th f5 p hp).1 hv, bI_rI, if_neg (by decide), c_ob_1, e6, bI_rI, if_neg (by decide), nI_add, e7]
        · obtain ⟨f7, e7⟩ := ih n (j + 1) f5 (by omega) (by omega)
          refine ⟨f7, ?_⟩
          rw [(th f5 p hp).2 hv, bI_rI, if_pos rfl, nI_add, e7]
  have L2 : ∀ (d n j : Nat) (f5 : Nat → Int32), j + d = 6 → d < n → ∃ f6, f_I_areSound_L2 (fun G47 => rZ (nI 0) G47) (fun G48 => rZ (nI 0) G48) (fun G49 => rZ (nI 1) G49) n (cPut b (cArr σ 5 f5) H) (b + 1) (nI j) = rI 1 (cPut b (cArr σ 5 f6) H) := by
    intro d
    induction d with
    | zero =>
      intro n j f5 hj hn
      cases n with
      | zero => omega
      | succ n =>
        refine ⟨f5, ?_⟩
        unfold f_I_areSound_L2
        rw [if_pos (nI_le (by omega) (by omega)), rZ_1]
    | succ d ih =>
      intro n j f5 hj hn
      cases n with
      | zero => omega
      | succ n =>
        unfold f_I_areSound_L2
        rw [if_neg (nI_ge (by omega) (by omega)), c_ob_1]
        by_cases hv : mV A j
        · obtain ⟨r, s, hr, -⟩ := hI.pl hv
          obtain ⟨f6, e6⟩ := x_back (b := b) (H := H) (hX.spare f5) hI hv
          rw [cArr_cArr] at e6
          obtain ⟨f7, e7⟩ := L44 (fun G38 => rZ (nI 0) G38) (fun G41 x39 x40 => f_I_areSound_L2 (fun G47 => rZ (nI 0) G47) (fun G48 => rZ (nI 0) G48) (fun G49 => rZ (nI 1) G49) n G41 x39 (x40 + (nI 1))) j (by omega) 5 zFu 0 f6 (by omega) (by unfold zFu; omega)
          obtain ⟨f8, e8⟩ := ih n (j + 1) f7 (by omega) (by omega)
          refine ⟨f8, ?_⟩
          rw [(th f5 j (by omega)).1 hv, bI_rI, if_neg (by decide), c_ob_1, x_lies (hX.spare f5) hI hv, bI_rI, if_neg (by decide), c_ob_1, e6, bI_rI, if_neg (by decide), c_ob_1, c_found (kyC.of (hX.spare f6) hI hv hr), bI_rI, if_neg (by decide)]
          rw [show f_I_areSound_L44 (fun G38 => rZ (nI 0) G38) (fun G41 x39 x40 => f_I_areSound_L2 (fun G47 => rZ (nI 0) G47) (fun G48 => rZ (nI 0) G48) (fun G49 => rZ (nI 1) G49) n G41 x39 (x40 + (nI 1))) zFu (cPut b (cArr σ 5 f6) H) (b + 1) (nI j) (nI 0) = _ from e7, nI_add, e8]
        · obtain ⟨f7, e7⟩ := L44 (fun G19 => rZ (nI 0) G19) (fun G22 x20 x21 => f_I_areSound_L2 (fun G47 => rZ (nI 0) G47) (fun G48 => rZ (nI 0) G48) (fun G49 => rZ (nI 1) G49) n G22 x20 (x21 + (nI 1))) j (by omega) 5 zFu 0 f5 (by omega) (by unfold zFu; omega)
          obtain ⟨f8, e8⟩ := ih n (j + 1) f7 (by omega) (by omega)
          refine ⟨f8, ?_⟩
          rw [(th f5 j (by omega)).2 hv, bI_rI, if_pos rfl]
          rw [show f_I_areSound_L44 (fun G19 => rZ (nI 0) G19) (fun G22 x20 x21 => f_I_areSound_L2 (fun G47 => rZ (nI 0) G47) (fun G48 => rZ (nI 0) G48) (fun G49 => rZ (nI 1) G49) n G22 x20 (x21 + (nI 1))) zFu (cPut b (cArr σ 5 f5) H) (b + 1) (nI j) (nI 0) = _ from e7, nI_add, e8]
  obtain ⟨f6, e6⟩ := L2 6 zFu 0 (σ.1 5) (by omega) (by unfold zFu; omega)
  rw [cArr_id] at e6
  exact ⟨f6, e6⟩
end Snd
