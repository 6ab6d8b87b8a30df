-- digest, both sides
section Dg
def mx (d v : Int64) : Int64 := d * lN 31 + v
def kD1 (A : mS) : Nat → Nat → Int64 → Int64
  | 0, _, d => d
  | k + 1, j, d => kD1 A k (j + 1) (mx d (kHo A j).toInt64)
def kDt : Int64 → List (Nat × Nat × Nat) → Int64
  | d, [] => d
  | d, t :: ts => kDt (mx (mx d (nI t.2.1).toInt64) (nI t.2.2).toInt64) ts
def kDw (x : Nat × Nat × Nat) (r s : Nat) : Nat → Nat → Int64 → Int64
  | 0, _, d => d
  | k + 1, j, d => kDw x r s k (j + 1) (mx d (kWp x r s j).toInt64)
def kDe (A : mS) (p r s : Nat) (d : Int64) : Int64 := mx (mx (mx (mx (mx (mx (mx (kDt d (sSeg A r s (mLen A p))) (kH (nI 1) (kS A r s (mLen A p))).toInt64) (sNo (kEx (!decide (nI 1 = 0)) none (kS A r s (mLen A p)))).toInt64) (sNo (kEx (!decide (nI 0 = 0)) none (kS A r s (mLen A p)))).toInt64) (sNo (kFi 7 (kS A r s (mLen A p)) 0)).toInt64) (sNo (kLa 7 (kS A r s (mLen A p)) (kS A r s (mLen A p)).length)).toInt64) (nI (kCt (fun x => decide (x = 7)) (kS A r s (mLen A p)))).toInt64) (nI (kTx (sSeg A r s (mLen A p)))).toInt64
def kDl (A : mS) (p r s : Nat) (d : Int64) : Int64 := if p < 2 then kDe A p r s d else match A.2.1 p with
  | none => kDe A p r s d
  | some x => kDw x r s 4 0 (kDe A p r s d)
def kTh (A : mS) (p : Nat) : Bool := decide (p < 2) || (A.2.1 p).isSome
def kRS (A : mS) (p : Nat) : Nat × Nat := (mRw A.2.1 zDp p).getD (0, 0)
def kD2 (A : mS) : Nat → Nat → Int64 → Int64
  | 0, _, d => d
  | k + 1, j, d => kD2 A k (j + 1) (if kTh A j = true then kDl A j (kRS A j).1 (kRS A j).2 (mx d (kSz A j).toInt64) else mx d (kSz A j).toInt64)
def bq (z : Bool) : Int64 := if z = true then lN 1 else lN 0
def kKs (A : mS) (p : Nat) : List Nat := kS A (kRS A p).1 (kRS A p).2 (mLen A p)
def kDp (A : mS) (p q : Nat) (d : Int64) : Int64 := mx (mx (mx (mx d (bq (kSm (kKs A p) (kKs A q)))) (bq (decide (∀ k, k ∈ kKs A q → k ∈ kKs A p)))) (bq (decide (∀ k, k ∈ kKs A q → k ∉ kKs A p)))) (sNo (kF (kKs A p) (kKs A q) ((kKs A p).length + 1) 0)).toInt64
def kD4 (A : mS) (p : Nat) : Nat → Nat → Int64 → Int64
  | 0, _, d => d
  | k + 1, j, d => kD4 A p k (j + 1) (if kTh A p = true then (if kTh A j = true then kDp A p j d else d) else d)
def kD3 (A : mS) : Nat → Nat → Int64 → Int64
  | 0, _, d => d
  | k + 1, j, d => kD3 A k (j + 1) (kD4 A j 6 0 d)
def kD6 (A : mS) (c : Nat) : Nat → Nat → Int64 → Int64
  | 0, _, d => d
  | k + 1, j, d => kD6 A c k (j + 1) (mx d (kWc A c j).toInt64)
def kD5 (A : mS) : Nat → Nat → Int64 → Int64
  | 0, _, d => d
  | k + 1, j, d => kD5 A k (j + 1) (kD6 A j 7 0 d)
def kDg (A : mS) : Int64 := mx (kD5 A 3 0 (kD3 A 6 0 (kD2 A 6 0 (kD1 A 8 0 (lN 2203))))) (lN 1)
theorem kTh_iff {A : mS} {p : Nat} : kTh A p = true ↔ mV A p := by
  unfold kTh mV
  cases hx : A.2.1 p with
  | none => simp
  | some x => simp
theorem kRS_of {A : mS} {p r s : Nat} (h : mRw A.2.1 zDp p = some (r, s)) : kRS A p = (r, s) := by unfold kRS; rw [h]; rfl
theorem bq_l (z : Bool) : (mB z).toInt64 = bq z := by
  cases z
  · show (0 : Int32).toInt64 = lN 0; decide
  · show (1 : Int32).toInt64 = lN 1; decide
variable {w : Nat → Nat} {b o m : Nat} {A : mS} {σ : cS} {H : gH} {p q r s : Nat}
theorem mix_e {G : gH} {d v : Int64} : f_X_mix G d v = rL (mx d v) G := rfl
theorem add_e {G : gH} {d v : Int64} : f_M_add2 G d v = rL (mx d v) G := rfl
-- the class
theorem x_dig1 (hR : CRep σ A) (hI : mInv m A) {K : gH → Nat → Int64 → gR} : ∀ (k n j : Nat) (d : Int64), j + k = 8 → k < n → f_X_digest_L6 K n (cPut b σ H) b d (nI j) = K (cPut b σ H) b (kD1 A k j d)
  | _, 0, _, _, _, h => absurd h (Nat.not_lt_zero _)
  | 0, n + 1, j, d, hj, _ => by
    unfold f_X_digest_L6
    rw [if_pos (nI_le (by omega) (by omega))]; rfl
  | k + 1, n + 1, j, d, hj, hn => by
    unfold f_X_digest_L6
    rw [if_neg (nI_ge (by omega) (by omega)), c_ob_0, x_worthH hR hI (by omega), bI_rI, mix_e, bL_rL, nI_add, x_dig1 hR hI k n (j + 1) _ (by omega) (by omega)]; rfl
theorem x_mixT (hX : CRepx (-1) σ A) (hI : mInv m A) (hv : mV A p) (hr : mRw A.2.1 zDp p = some (r, s)) {K : gH → Nat → Int32 → Int64 → gR} : ∀ (l : List (Nat × Nat × Nat)) (n j : Nat) (d : Int64), (sSeg A r s (mLen A p)).drop j = l → j ≤ mLen A p → l.length < n → f_X_mixList_L16 K n (cPut b σ H) b (nI p) d (nI (mLen A p)) (nI j) = K (cPut b σ H) b (nI p) (kDt d l)
  | _, 0, _, _, _, _, h => absurd h (Nat.not_lt_zero _)
  | [], n + 1, j, d, hd, hj, _ => by
    have hl31 := hI.l31 hv
    have hsl : (sSeg A r s (mLen A p)).length = mLen A p := sSeg_len (hI.2.1.rw _ _ _ _ hr)
    have := dr_nil hd
    unfold f_X_mixList_L16
    rw [if_pos (nI_le (by omega) (by omega))]; rfl
  | t :: l, n + 1, j, d, hd, hj, hn => by
    have hl31 := hI.l31 hv
    have hr2 := mRw_lt _ _ _ _ hr
    have hsl : (sSeg A r s (mLen A p)).length = mLen A p := sSeg_len (hI.2.1.rw _ _ _ _ hr)
    obtain ⟨e1, e2, e3⟩ := dr_cons hd
    have ok := seg_ok (hI.2.2.1 r hr2).2 hI.2.2.2.2.2 e1
    have ht := e1
    rw [sSeg_at (by omega)] at ht
    have xt : f_I_thingAt (cPut b σ H) (b + 1) (nI p) (nI j) = rI (nI (32 * t.2.2 + t.2.1)) (cPut b σ H) := x_at hX (hI.w p) hv hr ht
    unfold f_X_mixList_L16
    rw [if_neg (nI_ge (by omega) (by omega)), c_fa_0_0, c_ob_1, xt, bI_rI, x_keyOf (by omega), bI_rI, mix_e, bL_rL, x_tagOf (by omega) (by omega), bI_rI, mix_e, bL_rL, nI_add, x_mixT hX hI hv hr l n (j + 1) _ e2 (by omega) (by simp at hn; omega)]; rfl
theorem x_mixW (hX : CRepx (-1) σ A) (hI : mInv m A) {x : Nat × Nat × Nat} (hp : p < 6) (hx : A.2.1 p = some x) (hr : mRw A.2.1 zDp p = some (r, s)) {K : gH → Int64 → gR} : ∀ (k n j : Nat) (d : Int64), j + k = 4 → k < n → f_X_mixList_L188 K n (cPut b σ H) b (nI p) d (nI j) = K (cPut b σ H) (kDw x r s k j d)
  | _, 0, _, _, _, h => absurd h (Nat.not_lt_zero _)
  | 0, n + 1, j, d, hj, _ => by
    unfold f_X_mixList_L188
    rw [if_pos (nI_le (by omega) (by omega))]; rfl
  | k + 1, n + 1, j, d, hj, hn => by
    unfold f_X_mixList_L188
    rw [if_neg (nI_ge (by omega) (by omega)), c_fa_0_0, c_ob_1, x_worthOf hX hI hp hx hr (by omega), bI_rI, mix_e, bL_rL, nI_add, x_mixW hX hI hp hx hr k n (j + 1) _ (by omega) (by omega)]; rfl
theorem x_mixList (hX : CRepx (-1) σ A) (hI : mInv m A) (hv : mV A p) (hr : mRw A.2.1 zDp p = some (r, s)) {d : Int64} : f_X_mixList (cPut b σ H) b d (nI p) = rL (kDl A p r s d) (cPut b σ H) := by
  have hl31 := hI.l31 hv
  have hp6 := hv.lt hI.1
  have hsl : (sSeg A r s (mLen A p)).length = mLen A p := sSeg_len (hI.2.1.rw _ _ _ _ hr)
  have kc := kyC.of (b := b) (H := H) hX hI hv hr
  unfold f_X_mixList
  rw [c_fa_0_0, c_ob_1, x_len hX hI.1 hv, bI_rI, x_mixT hX hI hv hr _ zFu 0 d (List.drop_zero ..) (Nat.zero_le _) (by rw [hsl]; unfold zFu; omega), c_fa_0_0, c_ob_1, c_hash kc, bI_rI, mix_e, bL_rL, c_fa_0_0, c_ob_1, c_extreme kc, bI_rI, mix_e, bL_rL, c_fa_0_0, c_ob_1, c_extreme kc, bI_rI, mix_e, bL_rL, c_fa_0_0, c_ob_1, c_first kc (by omega), bI_rI, mix_e, bL_rL, c_fa_0_0, c_ob_1, c_last kc (by omega), bI_rI, mix_e, bL_rL, c_fa_0_0, c_ob_1, c_count kc (by omega), bI_rI, mix_e, bL_rL, c_ob_0, x_signs hX hI hv hr, bI_rI, mix_e, bL_rL]
  unfold kDl
  by_cases h2 : p < 2
  · rw [if_pos (nI_lt h2 (by omega)), if_pos h2]; rfl
  · rw [if_neg (nI_nlt (by omega) (by omega)), if_neg h2]
    cases hx : A.2.1 p with
    | none => rcases hv with h | h
              · exact absurd h h2
              · exact absurd hx h
    | some x => rw [x_mixW hX hI hp6 hx hr 4 zFu 0 _ (by omega) (by unfold zFu; omega)]; rfl
theorem x_isTh (hX : CRepx (-1) σ A) (hI : mInv m A) (hp : p < 6) : f_I_isThere (cPut b σ H) (b + 1) (nI p) = rI (mB (kTh A p)) (cPut b σ H) := by
  have key := CRepx.there hX (hI.w 0) (x := nI p)
  refine y_isThere ⟨fun z => ?_, fun z => ?_⟩
  · refine Bool.eq_false_iff.mpr (fun q => key.mp z ⟨p, hp, rfl, kTh_iff.mp q⟩)
  · refine key.mpr (fun ⟨q, hq, e, hz⟩ => ?_)
    have : kTh A p = true := kTh_iff.mpr (by rw [nI_eq31 (by omega) (by omega) e]; exact hz)
    rw [z] at this; cases this
theorem x_dig2 (hX : CRepx (-1) σ A) (hI : mInv m A) {K : gH → Nat → Int64 → gR} : ∀ (k n j : Nat) (d : Int64), j + k = 6 → k < n → f_X_digest_L31 K n (cPut b σ H) b d (nI j) = K (cPut b σ H) b (kD2 A k j d)
  | _, 0, _, _, _, h => absurd h (Nat.not_lt_zero _)
  | 0, n + 1, j, d, hj, _ => by
    unfold f_X_digest_L31
    rw [if_pos (nI_le (by omega) (by omega))]; rfl
  | k + 1, n + 1, j, d, hj, hn => by
    unfold f_X_digest_L31 kD2
    rw [if_neg (nI_ge (by omega) (by omega)), c_fa_0_0, c_ob_1, x_size hX hI (by omega), bI_rI, mix_e, bL_rL, c_fa_0_0, c_ob_1, x_isTh hX hI (by omega), bI_rI, mB_if, nI_add]
    by_cases hv : mV A j
    · obtain ⟨r, s, hr, -⟩ := hI.pl hv
      rw [if_pos (kTh_iff.mpr hv), if_pos (kTh_iff.mpr hv), c_ob_0, x_mixList hX hI hv hr, bL_rL, x_dig2 hX hI k n (j + 1) _ (by omega) (by omega), kRS_of hr]
    · rw [if_neg (fun q => hv (kTh_iff.mp q)), if_neg (fun q => hv (kTh_iff.mp q)), x_dig2 hX hI k n (j + 1) _ (by omega) (by omega)]
theorem kc_of (hX : CRepx (-1) σ A) (hI : mInv m A) (hv : mV A p) : kyC b σ H p (kKs A p) := by
  obtain ⟨r, s, hr, -⟩ := hI.pl hv
  unfold kKs
  rw [kRS_of hr]
  exact kyC.of hX hI hv hr
theorem x_mixPair (hX : CRepx (-1) σ A) (hI : mInv m A) (hv : mV A p) (hv' : mV A q) {d : Int64} : f_X_mixPair (cPut b σ H) b d (nI p) (nI q) = rL (kDp A p q d) (cPut b σ H) := by
  have kc := kc_of (b := b) (H := H) hX hI hv
  have kc' := kc_of (b := b) (H := H) hX hI hv'
  unfold f_X_mixPair kDp
  rw [c_fa_0_0, c_ob_1, c_same kc kc', bI_rI, mB_if]
  have hh := c_holds kc kc'
  have hs := c_share kc kc'
  have hp := c_place kc kc'
  generalize kSm (kKs A p) (kKs A q) = z1
  generalize (decide (∀ k, k ∈ kKs A q → k ∈ kKs A p)) = z2 at hh ⊢
  generalize (decide (∀ k, k ∈ kKs A q → k ∉ kKs A p)) = z3 at hs ⊢
  cases z1 <;> cases z2 <;> cases z3 <;> simp only [mix_e, bL_rL, c_fa_0_0, c_ob_1, hh, hs, hp, bI_rI, mB, bq, if_true, if_false, Bool.false_eq_true] <;> rfl
theorem x_dig4 (hX : CRepx (-1) σ A) (hI : mInv m A) (hp : p < 6) {K : gH → Nat → Int64 → Int32 → gR} : ∀ (k n j : Nat) (d : Int64), j + k = 6 → k < n → f_X_digest_L86 K n (cPut b σ H) b d (nI p) (nI j) = K (cPut b σ H) b (kD4 A p k j d) (nI p)
  | _, 0, _, _, _, h => absurd h (Nat.not_lt_zero _)
  | 0, n + 1, j, d, hj, _ => by
    unfold f_X_digest_L86
    rw [if_pos (nI_le (by omega) (by omega))]; rfl
  | k + 1, n + 1, j, d, hj, hn => by
    unfold f_X_digest_L86 kD4
    rw [if_neg (nI_ge (by omega) (by omega)), c_fa_0_0, c_ob_1, x_isTh hX hI hp, bI_rI, mB_if, nI_add]
    by_cases hv : mV A p
    · rw [if_pos (kTh_iff.mpr hv), if_pos (kTh_iff.mpr hv), c_fa_0_0, c_ob_1, x_isTh hX hI (by omega), bI_rI, mB_if]
      by_cases hv' : mV A j
      · rw [if_pos (kTh_iff.mpr hv'), if_pos (kTh_iff.mpr hv'), c_ob_0, x_mixPair hX hI hv hv', bL_rL, x_dig4 hX hI hp k n (j + 1) _ (by omega) (by omega)]
      · rw [if_neg (fun q => hv' (kTh_iff.mp q)), if_neg (fun q => hv' (kTh_iff.mp q)), x_dig4 hX hI hp k n (j + 1) _ (by omega) (by omega)]
    · rw [if_neg (fun q => hv (kTh_iff.mp q)), if_neg (fun q => hv (kTh_iff.mp q)), x_dig4 hX hI hp k n (j + 1) _ (by omega) (by omega)]
theorem x_dig3 (hX : CRepx (-1) σ A) (hI : mInv m A) {K : gH → Nat → Int64 → gR} : ∀ (k n j : Nat) (d : Int64), j + k = 6 → k < n → f_X_digest_L77 K n (cPut b σ H) b d (nI j) = K (cPut b σ H) b (kD3 A k j d)
  | _, 0, _, _, _, h => absurd h (Nat.not_lt_zero _)
  | 0, n + 1, j, d, hj, _ => by
    unfold f_X_digest_L77
    rw [if_pos (nI_le (by omega) (by omega))]; rfl
  | k + 1, n + 1, j, d, hj, hn => by
    unfold f_X_digest_L77
    rw [if_neg (nI_ge (by omega) (by omega)), x_dig4 hX hI (by omega) 6 zFu 0 d (by omega) (by unfold zFu; omega), nI_add, x_dig3 hX hI k n (j + 1) _ (by omega) (by omega)]; rfl
theorem x_dig6 (hR : CRep σ A) (hI : mInv m A) {c : Nat} (hc : c < 3) {K : gH → Nat → Int64 → Int32 → gR} : ∀ (k n j : Nat) (d : Int64), j + k = 7 → k < n → f_X_digest_L147 K n (cPut b σ H) b d (nI c) (nI j) = K (cPut b σ H) b (kD6 A c k j d) (nI c)
  | _, 0, _, _, _, h => absurd h (Nat.not_lt_zero _)
  | 0, n + 1, j, d, hj, _ => by
    unfold f_X_digest_L147
    rw [if_pos (nI_le (by omega) (by omega))]; rfl
  | k + 1, n + 1, j, d, hj, hn => by
    unfold f_X_digest_L147
    rw [if_neg (nI_ge (by omega) (by omega)), c_ob_0, x_worthC hR hI hc (by omega), bI_rI, mix_e, bL_rL, nI_add, x_dig6 hR hI hc k n (j + 1) _ (by omega) (by omega)]; rfl
theorem x_dig5 (hR : CRep σ A) (hI : mInv m A) {K : gH → Nat → Int64 → gR} : ∀ (k n j : Nat) (d : Int64), j + k = 3 → k < n → f_X_digest_L139 K n (cPut b σ H) b d (nI j) = K (cPut b σ H) b (kD5 A k j d)
  | _, 0, _, _, _, h => absurd h (Nat.not_lt_zero _)
  | 0, n + 1, j, d, hj, _ => by
    unfold f_X_digest_L139
    rw [if_pos (nI_le (by omega) (by omega))]; rfl
  | k + 1, n + 1, j, d, hj, hn => by
    unfold f_X_digest_L139
    rw [if_neg (nI_ge (by omega) (by omega)), x_dig6 hR hI (by omega) 7 zFu 0 d (by omega) (by unfold zFu; omega), nI_add, x_dig5 hR hI k n (j + 1) _ (by omega) (by omega)]; rfl
theorem x_digest (hR : CRep σ A) (hI : mInv m A) : ∃ σ', f_X_digest (cPut b σ H) b = rL (kDg A) (cPut b σ' H) ∧ CRep σ' A := by
  have hX := CRepx.of (exc := -1) hR
  obtain ⟨f5, e5⟩ := x_areSound (b := b) (H := H) hX hI
  refine ⟨cArr σ 5 f5, ?_, hX.spare f5⟩
  unfold f_X_digest
  rw [x_dig1 hR hI 8 zFu 0 _ (by omega) (by unfold zFu; omega), x_dig2 hX hI 6 zFu 0 _ (by omega) (by unfold zFu; omega), x_dig3 hX hI 6 zFu 0 _ (by omega) (by unfold zFu; omega), x_dig5 hR hI 3 zFu 0 _ (by omega) (by unfold zFu; omega), c_fa_0_0, c_ob_1, e5, bI_rI, if_neg (by decide), mix_e, bL_rL]
  rfl
-- the reference
theorem kStr.st {G G' : gH} {q n k c : Nat} (h : kStr G q n) (hs : mSt k c G G') (hw : gWf G) : kStr G' q n := by
  obtain ⟨c0, e, c2, fs, g, h1, h2, h3, h4, h5, h6, h7⟩ := h
  refine ⟨c0, e, c2, fs, g, hs.old hw h1 (fun z => ?_), h2, h3, h4, hs.old hw h5 (fun z => ?_), h6, h7⟩
  · rcases z with ⟨c, f, z1, z2⟩ | ⟨c, n, f, z1, -⟩
    · cases z1; omega
    · cases z1
  · rcases z with ⟨c, f, z1, -⟩ | ⟨c, n, f, z1, -⟩
    · cases z1
    · cases z1
theorem mWs.st {G G' : gH} {k c : Nat} (h : mWs w G) (hs : mSt k c G G') (hw : gWf G) : mWs w G' := by
  obtain ⟨⟨g1, h1⟩, ⟨g2, h2⟩, h3, h5, h7⟩ := h
  have ni : ∀ (a n : Nat) (g : Nat → Int32), ¬ mKd (zI a n g) := fun a n g z => by
    rcases z with ⟨c, f, z1, -⟩ | ⟨c, n, f, z1, -⟩ <;> cases z1
  exact ⟨⟨g1, hs.old hw h1 (ni _ _ _)⟩, ⟨g2, hs.old hw h2 (ni _ _ _)⟩, h3.st hs hw, h5.st hs hw, h7.st hs hw⟩
theorem s_dig1 {D : mD} (hI : mInv m A) {K : gH → Nat → Int64 → gR} : ∀ (k n j : Nat) (d : Int64) (G : gH), j + k = 8 → k < n → MS w o G A D → ∃ G', f_M_digest_L11 w K n G o d (nI j) = K G' o (kD1 A k j d) ∧ MS w o G' A D ∧ mSt (2 * k) (11 * k) G G'
  | _, 0, _, _, _, _, h, _ => absurd h (Nat.not_lt_zero _)
  | 0, n + 1, j, d, G, hj, _, h => by
    refine ⟨G, ?_, h, mSt.refl⟩
    unfold f_M_digest_L11
    rw [if_pos (nI_le (by omega) (by omega))]; rfl
  | k + 1, n + 1, j, d, G, hj, hn, h => by
    obtain ⟨G1, r1, h1, s1⟩ := s_houseTold h hI (show j < 8 by omega)
    obtain ⟨G2, r2, h2, s2⟩ := s_dig1 hI (K := K) k n (j + 1) (mx d (kHo A j).toInt64) G1 (by omega) (by omega) h1
    refine ⟨G2, ?_, h2, (s1.trans s2).mono (by omega) (by omega)⟩
    unfold f_M_digest_L11
    rw [if_neg (nI_ge (by omega) (by omega)), gOb_of h.2.2.1 rfl, r1, bI_rI, add_e, bL_rL, nI_add, r2]; rfl
theorem s_digT {G : gH} {D : mD} (h : MS w o G A D) (hI : mInv m A) (hv : mV A p) (hr : mRw A.2.1 zDp p = some (r, s)) {K : gH → Nat → Int64 → Int32 → gR} : ∀ (l : List (Nat × Nat × Nat)) (n j : Nat) (d : Int64), (sSeg A r s (mLen A p)).drop j = l → j ≤ mLen A p → l.length < n → f_M_digest_L67 w K n G o d (nI p) (nI j) = K G o (kDt d l) (nI p)
  | _, 0, _, _, _, _, h => absurd h (Nat.not_lt_zero _)
  | [], n + 1, j, d, hd, hj, _ => by
    have hl31 := hI.l31 hv
    have hsl : (sSeg A r s (mLen A p)).length = mLen A p := sSeg_len (hI.2.1.rw _ _ _ _ hr)
    have := dr_nil hd
    unfold f_M_digest_L67
    rw [gOb_of h.2.2.1 rfl, s_len h hI.1 hv, bI_rI, if_pos (nI_le (by omega) (by omega))]; rfl
  | t :: l, n + 1, j, d, hd, hj, hn => by
    have hl31 := hI.l31 hv
    have hr2 := mRw_lt _ _ _ _ hr
    have hsl : (sSeg A r s (mLen A p)).length = mLen A p := sSeg_len (hI.2.1.rw _ _ _ _ hr)
    obtain ⟨e1, e2, e3⟩ := dr_cons hd
    have ht := e1
    rw [sSeg_at (by omega)] at ht
    unfold f_M_digest_L67
    rw [gOb_of h.2.2.1 rfl, s_len h hI.1 hv, bI_rI, if_neg (nI_ge (by omega) (by omega)), gOb_of h.2.2.1 rfl, s_at h hI.1 hv hr ht, bA_rA, (s_th h hr2 ht).key, add_e, bL_rL, gOb_of h.2.2.1 rfl, s_at h hI.1 hv hr ht, bA_rA, (s_th h hr2 ht).tag, add_e, bL_rL, nI_add, s_digT h hI hv hr l n (j + 1) _ e2 (by omega) (by simp at hn; omega)]; rfl
theorem s_digW {D : mD} (hI : mInv m A) {x : Nat × Nat × Nat} (h2 : ¬ p < 2) (hp : p < 6) (hx : A.2.1 p = some x) (hr : mRw A.2.1 zDp p = some (r, s)) {K : gH → Nat → Int64 → Int32 → gR} : ∀ (k n j : Nat) (d : Int64) (G : gH), j + k = 4 → k < n → MS w o G A D → ∃ G', f_M_digest_L194 w K n G o d (nI p) (nI j) = K G' o (kDw x r s k j d) (nI p) ∧ MS w o G' A D ∧ mSt k (4 * k) G G'
  | _, 0, _, _, _, _, h, _ => absurd h (Nat.not_lt_zero _)
  | 0, n + 1, j, d, G, hj, _, h => by
    refine ⟨G, ?_, h, mSt.refl⟩
    unfold f_M_digest_L194
    rw [if_pos (nI_le (by omega) (by omega))]; rfl
  | k + 1, n + 1, j, d, G, hj, hn, h => by
    obtain ⟨G1, r1, h1, s1⟩ := s_partTold h hI hp hx hr (show j < 4 by omega)
    obtain ⟨G2, r2, h2', s2⟩ := s_digW hI h2 hp hx hr (K := K) k n (j + 1) (mx d (kWp x r s j).toInt64) G1 (by omega) (by omega) h1
    refine ⟨G2, ?_, h2', (s1.trans s2).mono (by omega) (by omega)⟩
    unfold f_M_digest_L194
    rw [if_neg (nI_ge (by omega) (by omega)), if_neg (nI_nlt (by omega) (by omega)), gOb_of h.2.2.1 rfl, r1, bI_rI, add_e, bL_rL, nI_add, r2]; rfl
theorem s_digV {D : mD} (hI : mInv m A) (hv : mV A p) (hr : mRw A.2.1 zDp p = some (r, s)) {K : gH → Nat → Int64 → Int32 → gR} {d : Int64} {G : gH} (h : MS w o G A D) : ∃ G', f_M_digest_L194 w K zFu G o (kDe A p r s d) (nI p) (nI 0) = K G' o (kDl A p r s d) (nI p) ∧ MS w o G' A D ∧ mSt 4 16 G G' := by
  have hp6 := hv.lt hI.1
  unfold kDl
  by_cases h2 : p < 2
  · refine ⟨G, ?_, h, mSt.refl.mono (by omega) (by omega)⟩
    rw [if_pos h2]
    show f_M_digest_L194 w K (5999 + 1) G o _ (nI p) (nI 0) = _
    unfold f_M_digest_L194
    rw [if_neg (by decide), if_pos (nI_lt h2 (by omega))]
  · rw [if_neg h2]
    cases hx : A.2.1 p with
    | none => rcases hv with z | z
              · exact absurd z h2
              · exact absurd hx z
    | some x => exact s_digW hI h2 hp6 hx hr 4 zFu 0 _ G (by omega) (by unfold zFu; omega) h
theorem s_dig2 {D : mD} (hI : mInv m A) {K : gH → Nat → Int64 → gR} : ∀ (k n j : Nat) (d : Int64) (G : gH), j + k = 6 → k < n → MS w o G A D → mWs w G → ∃ G', f_M_digest_L36 w K n G o d (nI j) = K G' o (kD2 A k j d) ∧ MS w o G' A D ∧ mSt (12 * k) (856 * k) G G'
  | _, 0, _, _, _, _, h, _, _ => absurd h (Nat.not_lt_zero _)
  | 0, n + 1, j, d, G, hj, _, h, _ => by
    refine ⟨G, ?_, h, mSt.refl⟩
    unfold f_M_digest_L36
    rw [if_pos (nI_le (by omega) (by omega))]; rfl
  | k + 1, n + 1, j, d, G, hj, hn, h, hs => by
    by_cases hv : mV A j
    · obtain ⟨r, s, hr, -⟩ := hI.pl hv
      have km := kyM.of h hI hv hr
      have hl31 := hI.l31 hv
      have hsl : (sSeg A r s (mLen A j)).length = mLen A j := sSeg_len (hI.2.1.rw _ _ _ _ hr)
      obtain ⟨q, G1, r1, k1, h1, s1⟩ := s_textOf h hs hI hv hr
      have kl := k1.len (w := w)
      obtain ⟨c0, e, c2, fs, g, z1, z2, -⟩ := k1
      obtain ⟨G2, r2, h2, s2⟩ := s_digV (K := fun G129 x126 x127 x128 => f_M_digest_L36 w K n G129 x126 x127 (x128 + (nI 1))) (d := mx d (kSz A j).toInt64) hI hv hr h1
      obtain ⟨G3, r3, h3, s3⟩ := s_dig2 hI (K := K) k n (j + 1) (kDl A j r s (mx d (kSz A j).toInt64)) G2 (by omega) (by omega) h2 ((hs.st s1 h.1).st s2 h1.1)
      refine ⟨G3, ?_, h3, ((s1.trans s2).trans s3).mono (by omega) (by omega)⟩
      have hT := s_digT h hI hv hr (K := fun G54 x51 x52 x53 => gOb G54 x51 6 fun o56 => bI (f_M_hashOf G54 x51 x53) fun v59 G58 => bL (f_M_add2 G58 x52 v59.toInt64) fun v62 G61 => gOb G61 x51 6 fun o64 => bI (f_M_extremeOf G61 x51 x53 (nI 1)) fun v67 G66 => bL (f_M_add2 G66 v62 v67.toInt64) fun v70 G69 => gOb G69 x51 6 fun o72 => bI (f_M_extremeOf G69 x51 x53 (nI 0)) fun v75 G74 => bL (f_M_add2 G74 v70 v75.toInt64) fun v78 G77 => gOb G77 x51 6 fun o80 => bI (f_M_firstOf G77 x51 x53 (nI 7)) fun v83 G82 => bL (f_M_add2 G82 v78 v83.toInt64) fun v86 G85 => gOb G85 x51 6 fun o88 => bI (f_M_lastOf G85 x51 x53 (nI 7)) fun v91 G90 => bL (f_M_add2 G90 v86 v91.toInt64) fun v94 G93 => gOb G93 x51 6 fun o96 => bI (f_M_manyOf G93 x51 x53 (nI 7)) fun v99 G98 => bL (f_M_add2 G98 v94 v99.toInt64) fun v102 G101 => gOb G101 x51 6 fun o104 => bA (f_M_textOf w G101 x51 x53) fun v107 G106 => gOb G106 v107 8 fun o109 => bI (f_ST_length w G106 v107) fun v112 G111 => bL (f_M_add2 G111 v102 v112.toInt64) fun v115 G114 => f_M_digest_L194 w (fun G129 x126 x127 x128 => f_M_digest_L36 w K n G129 x126 x127 (x128 + (nI 1))) zFu G114 x51 v115 x53 (nI 0)) _ zFu 0 (mx d (kSz A j).toInt64) (List.drop_zero ..) (Nat.zero_le _) (by rw [hsl]; unfold zFu; omega)
      unfold f_M_digest_L36 kD2
      rw [if_neg (nI_ge (by omega) (by omega)), gOb_of h.2.2.1 rfl, s_size h hI (by omega), bI_rI, add_e, bL_rL, gOb_of h.2.2.1 rfl, (s_noList h _).1 ⟨j, by omega, rfl, hv⟩, bI_rI, if_pos rfl, hT, gOb_of h.2.2.1 rfl, m_hsh km, bI_rI, add_e, bL_rL, gOb_of h.2.2.1 rfl, m_ex km, bI_rI, add_e, bL_rL, gOb_of h.2.2.1 rfl, m_ex km, bI_rI, add_e, bL_rL, gOb_of h.2.2.1 rfl, m_fir km (by omega), bI_rI, add_e, bL_rL, gOb_of h.2.2.1 rfl, m_las km (by omega), bI_rI, add_e, bL_rL, gOb_of h.2.2.1 rfl, m_man km (by omega), bI_rI, add_e, bL_rL, gOb_of h.2.2.1 rfl, r1, bA_rA, gOb_of z1 z2, kl, bI_rI, add_e, bL_rL, if_pos (kTh_iff.mpr hv), kRS_of hr, ← r3, ← nI_add]
      exact r2
    · obtain ⟨G3, r3, h3, s3⟩ := s_dig2 hI (K := K) k n (j + 1) (mx d (kSz A j).toInt64) G (by omega) (by omega) h hs
      refine ⟨G3, ?_, h3, s3.mono (by omega) (by omega)⟩
      unfold f_M_digest_L36 kD2
      rw [if_neg (nI_ge (by omega) (by omega)), gOb_of h.2.2.1 rfl, s_size h hI (by omega), bI_rI, add_e, bL_rL, gOb_of h.2.2.1 rfl, (s_noList h _).2 (fun ⟨q, hq, e, hz⟩ => hv (by rw [nI_eq31 (by omega) (by omega) e]; exact hz)), bI_rI, if_neg (by decide), nI_add, r3, if_neg (fun q => hv (kTh_iff.mp q))]
theorem km_of {G : gH} {D : mD} (h : MS w o G A D) (hI : mInv m A) (hv : mV A p) : kyM G o p (kKs A p) := by
  obtain ⟨r, s, hr, -⟩ := hI.pl hv
  unfold kKs
  rw [kRS_of hr]
  exact kyM.of h hI hv hr
theorem one_mB {G : gH} (z : Bool) : f_M_one G (mB z) = rI (mB z) G := by
  cases z
  · exact m_one0
  · exact m_one1
theorem s_dig4 {G : gH} {D : mD} (h : MS w o G A D) (hI : mInv m A) (hp : p < 6) {K : gH → Nat → Int64 → Int32 → gR} : ∀ (k n j : Nat) (d : Int64), j + k = 6 → k < n → f_M_digest_L241 w K n G o d (nI p) (nI j) = K G o (kD4 A p k j d) (nI p)
  | _, 0, _, _, _, h => absurd h (Nat.not_lt_zero _)
  | 0, n + 1, j, d, hj, _ => by
    unfold f_M_digest_L241
    rw [if_pos (nI_le (by omega) (by omega))]; rfl
  | k + 1, n + 1, j, d, hj, hn => by
    have no : ∀ i, i < 6 → ¬ mV A i → f_M_isNoList G o (nI i) = rI 1 G := fun i hi hv => (s_noList h _).2 (fun ⟨q, hq, e, hz⟩ => hv (by rw [nI_eq31 (by omega) (by omega) e]; exact hz))
    have ih := fun d => s_dig4 h hI hp (K := K) k n (j + 1) d (by omega) (by omega)
    unfold f_M_digest_L241 kD4
    rw [if_neg (nI_ge (by omega) (by omega)), gOb_of h.2.2.1 rfl]
    by_cases hv : mV A p
    · rw [if_pos (kTh_iff.mpr hv), (s_noList h _).1 ⟨p, hp, rfl, hv⟩, bI_rI, if_pos rfl, gOb_of h.2.2.1 rfl]
      by_cases hv' : mV A j
      · have km := km_of h hI hv
        have km' := km_of h hI hv'
        rw [if_pos (kTh_iff.mpr hv'), (s_noList h _).1 ⟨j, by omega, rfl, hv'⟩, bI_rI, if_pos rfl, gOb_of h.2.2.1 rfl, m_sam km km', bI_rI, one_mB, bI_rI, add_e, bL_rL, bq_l, gOb_of h.2.2.1 rfl, m_has km km', bI_rI, one_mB, bI_rI, add_e, bL_rL, bq_l, gOb_of h.2.2.1 rfl, m_non km km', bI_rI, one_mB, bI_rI, add_e, bL_rL, bq_l, gOb_of h.2.2.1 rfl, m_fou km km', bI_rI, add_e, bL_rL, nI_add, ih]
        rfl
      · rw [if_neg (fun q => hv' (kTh_iff.mp q)), no j (by omega) hv', bI_rI, if_neg (by decide), nI_add, ih]
    · rw [if_neg (fun q => hv (kTh_iff.mp q)), no p hp hv, bI_rI, if_neg (by decide), nI_add, ih]
theorem s_dig3 {G : gH} {D : mD} (h : MS w o G A D) (hI : mInv m A) {K : gH → Nat → Int64 → gR} : ∀ (k n j : Nat) (d : Int64), j + k = 6 → k < n → f_M_digest_L232 w K n G o d (nI j) = K G o (kD3 A k j d)
  | _, 0, _, _, _, h => absurd h (Nat.not_lt_zero _)
  | 0, n + 1, j, d, hj, _ => by
    unfold f_M_digest_L232
    rw [if_pos (nI_le (by omega) (by omega))]; rfl
  | k + 1, n + 1, j, d, hj, hn => by
    unfold f_M_digest_L232
    rw [if_neg (nI_ge (by omega) (by omega)), s_dig4 h hI (by omega) 6 zFu 0 d (by omega) (by unfold zFu; omega), nI_add, s_dig3 h hI k n (j + 1) _ (by omega) (by omega)]; rfl
theorem s_dig6 {D : mD} (hI : mInv m A) {c : Nat} (hc : c < 3) {K : gH → Nat → Int64 → Int32 → gR} : ∀ (k n j : Nat) (d : Int64) (G : gH), j + k = 7 → k < n → MS w o G A D → ∃ G', f_M_digest_L347 w K n G o d (nI c) (nI j) = K G' o (kD6 A c k j d) (nI c) ∧ MS w o G' A D ∧ mSt k (5 * k) G G'
  | _, 0, _, _, _, _, h, _ => absurd h (Nat.not_lt_zero _)
  | 0, n + 1, j, d, G, hj, _, h => by
    refine ⟨G, ?_, h, mSt.refl⟩
    unfold f_M_digest_L347
    rw [if_pos (nI_le (by omega) (by omega))]; rfl
  | k + 1, n + 1, j, d, G, hj, hn, h => by
    obtain ⟨G1, r1, h1, s1⟩ := s_curTold h hI hc (show j < 7 by omega)
    obtain ⟨G2, r2, h2, s2⟩ := s_dig6 hI hc (K := K) k n (j + 1) (mx d (kWc A c j).toInt64) G1 (by omega) (by omega) h1
    refine ⟨G2, ?_, h2, (s1.trans s2).mono (by omega) (by omega)⟩
    unfold f_M_digest_L347
    rw [if_neg (nI_ge (by omega) (by omega)), gOb_of h.2.2.1 rfl, r1, bI_rI, add_e, bL_rL, nI_add, r2]; rfl
theorem s_dig5 {D : mD} (hI : mInv m A) {K : gH → Nat → Int64 → gR} : ∀ (k n j : Nat) (d : Int64) (G : gH), j + k = 3 → k < n → MS w o G A D → ∃ G', f_M_digest_L339 w K n G o d (nI j) = K G' o (kD5 A k j d) ∧ MS w o G' A D ∧ mSt (7 * k) (35 * k) G G'
  | _, 0, _, _, _, _, h, _ => absurd h (Nat.not_lt_zero _)
  | 0, n + 1, j, d, G, hj, _, h => by
    refine ⟨G, ?_, h, mSt.refl⟩
    unfold f_M_digest_L339
    rw [if_pos (nI_le (by omega) (by omega))]; rfl
  | k + 1, n + 1, j, d, G, hj, hn, h => by
    obtain ⟨G1, r1, h1, s1⟩ := s_dig6 hI (show j < 3 by omega) (K := fun G209 x206 x207 x208 => f_M_digest_L339 w K n G209 x206 x207 (x208 + (nI 1))) 7 zFu 0 d G (by omega) (by unfold zFu; omega) h
    obtain ⟨G2, r2, h2, s2⟩ := s_dig5 hI (K := K) k n (j + 1) (kD6 A j 7 0 d) G1 (by omega) (by omega) h1
    refine ⟨G2, ?_, h2, (s1.trans s2).mono (by omega) (by omega)⟩
    unfold f_M_digest_L339
    rw [if_neg (nI_ge (by omega) (by omega)), r1, nI_add, r2]; rfl
theorem s_digest {G : gH} {D : mD} (h : MS w o G A D) (hs : mWs w G) (hI : mInv m A) : ∃ G', f_M_digest w G o = rL (kDg (mSet A 0 0)) G' ∧ MS w o G' (mSet A 0 0) D ∧ mSt 400 12000 G G' := by
  obtain ⟨h1, s1⟩ := h.set 0 (nI 0)
  have e0 : ∀ k : gH → gR, gPut G o 6 0 (.int (nI 0)) k = k (gUp G o (.inr (6, mOb (mSet A 0 (nI 0)) D))) := fun k => m_put (j := 0) (i := 0) h.2.2 (by omega) rfl
  generalize gUp G o (.inr (6, mOb (mSet A 0 (nI 0)) D)) = G1 at h1 s1 e0
  have hIt : mInv m (mSet A 0 0) := hI.thr 0
  obtain ⟨G2, r2, h2, s2⟩ := s_dig1 (A := mSet A 0 0) hIt (K := fun G13 x11 x12 => f_M_digest_L36 w (fun G134 x132 x133 => f_M_digest_L232 w (fun G196 x194 x195 => f_M_digest_L339 w (fun G213 x211 x212 => gOb G213 x211 6 fun o215 => bI (f_M_isWhole w G213 x211) fun v218 G217 => bI (f_M_one G217 v218) fun v221 G220 => bL (f_M_add2 G220 x212 v221.toInt64) fun v224 G223 => rL v224 G223) zFu G196 x194 x195 (nI 0)) zFu G134 x132 x133 (nI 0)) zFu G13 x11 x12 (nI 0)) 8 zFu 0 (lN 2203) G1 (by omega) (by unfold zFu; omega) h1
  obtain ⟨G3, r3, h3, s3⟩ := s_dig2 (A := mSet A 0 0) hIt (K := fun G134 x132 x133 => f_M_digest_L232 w (fun G196 x194 x195 => f_M_digest_L339 w (fun G213 x211 x212 => gOb G213 x211 6 fun o215 => bI (f_M_isWhole w G213 x211) fun v218 G217 => bI (f_M_one G217 v218) fun v221 G220 => bL (f_M_add2 G220 x212 v221.toInt64) fun v224 G223 => rL v224 G223) zFu G196 x194 x195 (nI 0)) zFu G134 x132 x133 (nI 0)) 6 zFu 0 (kD1 (mSet A 0 0) 8 0 (lN 2203)) G2 (by omega) (by unfold zFu; omega) h2 ((hs.st s1 h.1).st s2 h1.1)
  obtain ⟨G4, r4, h4, s4⟩ := s_dig5 (A := mSet A 0 0) hIt (K := fun G213 x211 x212 => gOb G213 x211 6 fun o215 => bI (f_M_isWhole w G213 x211) fun v218 G217 => bI (f_M_one G217 v218) fun v221 G220 => bL (f_M_add2 G220 x212 v221.toInt64) fun v224 G223 => rL v224 G223) 3 zFu 0 (kD3 (mSet A 0 0) 6 0 (kD2 (mSet A 0 0) 6 0 (kD1 (mSet A 0 0) 8 0 (lN 2203)))) G3 (by omega) (by unfold zFu; omega) h3
  obtain ⟨G5, r5, h5, s5⟩ := s_isWhole h4 hIt
  refine ⟨G5, ?_, h5, ((((s1.trans s2).trans s3).trans s4).trans s5).mono (by omega) (by omega)⟩
  unfold f_M_digest
  rw [e0, r2, r3, s_dig3 h3 hIt 6 zFu 0 _ (by omega) (by unfold zFu; omega), r4, gOb_of h4.2.2.1 rfl, r5, bI_rI, show (1 : Int32) = mB true from rfl, one_mB, bI_rI, add_e, bL_rL, bq_l]
  rfl
end Dg
