-- the reference: whole lists written
section Ref7
variable {w : Nat → Nat} {o : Nat} {A : mS} {D : mD}
theorem sSpl_take {L src : List (Nat × Nat × Nat)} {s j : Nat} {t : Nat × Nat × Nat} (ht : src[j]? = some t) (h : s + src.length ≤ L.length) : (sSpl L s (src.take j)).set (s + j) t = sSpl L s (src.take (j + 1)) ∧ (sSpl L s (src.take j))[s + j]? = L[s + j]? ∧ (sSpl L s (src.take j)).length = L.length := by
  have hj : j < src.length := (List.getElem?_eq_some_iff.mp ht).1
  have e : (src.take j).length = j := by rw [List.length_take]; omega
  obtain ⟨a, c⟩ := sSpl_step (L := L) (new := src.take j) (s := s) (u := t) (by omega)
  rw [e] at a c
  rw [take_snoc ht]
  exact ⟨a, c, sSpl_len (by omega)⟩
theorem seg_of {r s n i : Nat} {t : Nat × Nat × Nat} (h : (A.1 r)[s + i]? = some t) (hi : i < n) : (sSeg A r s n)[i]? = some t := by rw [sSeg_at hi]; exact h
theorem mTs.gB {G G' : gH} {ts : List (Nat × Nat × Nat)} (h : mTs G ts) (hw : gWf G) (hB : gB G.2.1 G G') : mTs G' ts := fun t ht => ⟨(h t ht).1.gB (z := 0) hw hB, (h t ht).2⟩
theorem mTs.st {k n : Nat} {G G' : gH} {ts : List (Nat × Nat × Nat)} (h : mTs G ts) (hw : gWf G) (hs : mSt k n G G') : mTs G' ts := by
  intro t ht
  obtain ⟨⟨g, h1, h2⟩, h3⟩ := h t ht
  refine ⟨⟨g, hs.old hw h1 ?_, h2⟩, h3⟩
  rintro (⟨c, fs, e, -⟩ | ⟨c, n, f', e, -⟩) <;> cases e
/-- the things of a list of the state -/
theorem MS.ts {G : gH} {m r s n : Nat} (h : MS w o G A D) (hr : r < 2) (ht : ∀ t, t ∈ A.1 r → mTok m t) (hm : m ≤ 600) : mTs G (sSeg A r s n) := by
  intro t h1
  have h2 := sSeg_mem h1
  have h3 := ht t h2
  exact ⟨h.2.2.2.2.2.2.2.1 r hr t h2, h3.1, by have := h3.2; omega⟩
theorem m_sortL {K : gH → Nat → Int32 → Int32 → gR} {p r s a e cap : Nat} {src : List (Nat × Nat × Nat)} (hok : mOk A.2.1) (hv : mV A p) (hr : mRw A.2.1 zDp p = some (r, s)) (hfit : s + mLen A p ≤ (A.1 r).length) (h31 : (A.1 r).length ≤ 31) (hsl : src.length = mLen A p) (hap : mAp w D a e) (htg : ∀ t, t ∈ sSeg A r s (mLen A p) → t.2.2 ≤ 1000) : ∀ (d n j c : Nat) (G : gH), j + d = mLen A p → d < n → MS w o G (mRows A r (sSpl (A.1 r) s (src.take j))) D → isALc w G a e cap (src.map fun t => t.1) → mTs G src →
    ∃ G', f_M_sort_L54 w K n G o (nI p) a (nI c) (nI j) = K G' o (nI p) (nI (c + sDf ((sSeg A r s (mLen A p)).map Prod.snd) (src.map Prod.snd) j d)) ∧ MS w o G' (mRows A r (sSpl (A.1 r) s src)) D ∧ isALc w G' a e cap (src.map fun t => t.1) ∧ mSt 0 0 G G'
  | _, 0, _, _, _, _, h, _, _, _ => absurd h (Nat.not_lt_zero _)
  | 0, n + 1, j, c, G, hj, _, h, hal, _ => by
    rw [List.take_of_length_le (by omega)] at h
    refine ⟨G, ?_, h, hal, mSt.refl⟩
    obtain ⟨m, κ, f, q1, -⟩ := id hal
    unfold f_M_sort_L54
    rw [gOb_of q1 rfl, al_size hal.al, bI_rI, List.length_map, if_pos (nI_le (by omega) (by omega))]; rfl
  | d + 1, n + 1, j, c, G, hj, hn, h, hal, hts => by
    have hrr := mRw_lt _ _ _ _ hr
    have hjl : j < src.length := by omega
    have ht := List.getElem?_eq_getElem hjl
    generalize src[j] = t at ht
    have hth := hts t (List.mem_of_getElem? ht)
    obtain ⟨e1, e2, e3⟩ := sSpl_take (L := A.1 r) (s := s) ht (by omega)
    have hol : s + j < (A.1 r).length := by omega
    have ho := List.getElem?_eq_getElem hol
    generalize (A.1 r)[s + j] = u at ho
    have hat : ((mRows A r (sSpl (A.1 r) s (src.take j))).1 r)[s + j]? = some u := by rw [mRows_at, e2]; exact ho
    obtain ⟨G1, a1, a2, a3, a4, a5⟩ := s_write h hok hv hr hat hth.1
    rw [mRows_at, mRows_mRows, e1] at a2
    have hal1 := s_writeL h hrr (by rw [mRows_at]; intro q; rw [q] at e3; simp at e3; omega) hal hap a5 a3.2
    have hts1 := hts.st h.1 a3
    have hth1 := hts1 t (List.mem_of_getElem? ht)
    have hso := seg_of (A := A) (n := mLen A p) ho (by omega)
    have hut := htg u (List.mem_of_getElem? hso)
    obtain ⟨m, κ, f, q1, -⟩ := id hal
    obtain ⟨m', κ', f', q1', -⟩ := id hal1
    have mt : (src.map fun t => t.1)[j]? = some t.1 := by rw [List.getElem?_map, ht]; rfl
    have hdf : sDf ((sSeg A r s (mLen A p)).map Prod.snd) (src.map Prod.snd) j (d + 1) = (if u.2.2 = t.2.2 then 0 else 1) + sDf ((sSeg A r s (mLen A p)).map Prod.snd) (src.map Prod.snd) (j + 1) d := by
      rw [sDf]
      unfold tgs
      rw [List.getElem?_map, List.getElem?_map, hso, ht]
      simp only [Option.map_some, Option.some.injEq]
    obtain ⟨G', z1, z2, z3, z4⟩ := m_sortL (K := K) hok hv hr hfit h31 hsl hap htg d n (j + 1) (c + (if u.2.2 = t.2.2 then 0 else 1)) G1 (by omega) (by omega) a2 hal1 hts1
    refine ⟨G', ?_, z2, z3, (a3.trans z4).mono (by omega) (by omega)⟩
    unfold f_M_sort_L54
    rw [gOb_of q1 rfl, al_size hal.al, bI_rI, List.length_map, if_neg (nI_ge (by omega) (by omega)), gOb_of q1 rfl, al_get hal.al mt, bA_rA, hth.1.cast, gOb_of h.2.2.1 rfl, a1, bA_rA, a4.tag, gOb_of q1' rfl, al_get hal1.al mt, bA_rA, hth1.1.cast, hth1.1.tag, hdf, ← Nat.add_assoc]
    unfold f_M_one
    by_cases hh : u.2.2 = t.2.2
    · rw [if_pos hh] at z1 ⊢
      rw [if_pos (by rw [hh]), if_pos (by decide), bI_rI, nI_add, nI_add]
      exact z1
    · rw [if_neg hh] at z1 ⊢
      rw [if_neg (fun q => hh ((nI_eq (by omega) (by have := hth.2.2; omega)).mp q)), if_neg (by decide), bI_rI, nI_add, nI_add]
      exact z1
theorem m_turnL {K : gH → Nat → gR} {p r s a e cap : Nat} {src : List (Nat × Nat × Nat)} (hok : mOk A.2.1) (hv : mV A p) (hr : mRw A.2.1 zDp p = some (r, s)) (hfit : s + mLen A p ≤ (A.1 r).length) (h31 : (A.1 r).length ≤ 31) (hsl : src.length = mLen A p) (hap : mAp w D a e) : ∀ (d n j : Nat) (G : gH), j + d = mLen A p → d < n → MS w o G (mRows A r (sSpl (A.1 r) s (src.reverse.take j))) D → isALc w G a e cap (src.map fun t => t.1) → mTs G src →
    ∃ G', f_M_turn_L23 w K n G o (nI p) a (nI j) = K G' a ∧ MS w o G' (mRows A r (sSpl (A.1 r) s src.reverse)) D ∧ isALc w G' a e cap (src.map fun t => t.1) ∧ mSt 0 0 G G'
  | _, 0, _, _, _, h, _, _, _ => absurd h (Nat.not_lt_zero _)
  | 0, n + 1, j, G, hj, _, h, hal, _ => by
    rw [List.take_of_length_le (by rw [List.length_reverse]; omega)] at h
    refine ⟨G, ?_, h, hal, mSt.refl⟩
    obtain ⟨m, κ, f, q1, -⟩ := id hal
    unfold f_M_turn_L23
    rw [gOb_of q1 rfl, al_size hal.al, bI_rI, List.length_map, if_pos (nI_le (by omega) (by omega))]
  | d + 1, n + 1, j, G, hj, hn, h, hal, hts => by
    have hrr := mRw_lt _ _ _ _ hr
    have hjl : src.length - 1 - j < src.length := by omega
    have ht := List.getElem?_eq_getElem hjl
    generalize src[src.length - 1 - j] = t at ht
    have htr : src.reverse[j]? = some t := by rw [List.getElem?_reverse (by omega)]; exact ht
    have hth := hts t (List.mem_of_getElem? ht)
    obtain ⟨e1, e2, e3⟩ := sSpl_take (L := A.1 r) (s := s) htr (by rw [List.length_reverse]; omega)
    have hol : s + j < (A.1 r).length := by omega
    have ho := List.getElem?_eq_getElem hol
    generalize (A.1 r)[s + j] = u at ho
    have hat : ((mRows A r (sSpl (A.1 r) s (src.reverse.take j))).1 r)[s + j]? = some u := by rw [mRows_at, e2]; exact ho
    obtain ⟨G1, a1, a2, a3, a4, a5⟩ := s_write h hok hv hr hat hth.1
    rw [mRows_at, mRows_mRows, e1] at a2
    have hal1 := s_writeL h hrr (by rw [mRows_at]; intro q; rw [q] at e3; simp at e3; omega) hal hap a5 a3.2
    obtain ⟨m, κ, f, q1, -⟩ := id hal
    have mt : (src.map fun t => t.1)[src.length - 1 - j]? = some t.1 := by rw [List.getElem?_map, ht]; rfl
    obtain ⟨G', z1, z2, z3, z4⟩ := m_turnL (K := K) hok hv hr hfit h31 hsl hap d n (j + 1) G1 (by omega) (by omega) a2 hal1 (hts.st h.1 a3)
    refine ⟨G', ?_, z2, z3, (a3.trans z4).mono (by omega) (by omega)⟩
    unfold f_M_turn_L23
    rw [gOb_of q1 rfl, al_size hal.al, bI_rI, List.length_map, if_neg (nI_ge (by omega) (by omega)), gOb_of q1 rfl, al_size hal.al, bI_rI, List.length_map, gOb_of q1 rfl, nI_sub (by omega), nI_sub (by omega), al_get hal.al mt, bA_rA, hth.1.cast, gOb_of h.2.2.1 rfl, a1, bA_rA, nI_add]
    exact z1
theorem m_moveL {K : gH → Nat → Int32 → Int32 → gR} {p r s a e cap z : Nat} {src : List (Nat × Nat × Nat)} (hok : mOk A.2.1) (hv : mV A p) (hr : mRw A.2.1 zDp p = some (r, s)) (hfit : s + mLen A p ≤ (A.1 r).length) (h31 : (A.1 r).length ≤ 31) (hsl : src.length = mLen A p) (hap : mAp w D a e) (hz : z < 81) : ∀ (d n j : Nat) (G : gH) (L : List (Nat × Nat × Nat)), j + d = mLen A p → d < n → L.length = (A.1 r).length → MS w o G (mRows A r L) D → isALc w G a e cap (src.map fun t => t.1) → mTs G src →
    ∃ G', f_M_move_L54 w K n G o (nI p) (Int32.ofInt ((z : Int) - 40)) a (nI (mLen A p)) (nI j) = K G' o (nI p) (nI (mLen A p)) ∧ MS w o G' (mRows A r (sMv (sFm z (mLen A p)) src s j d L)) D ∧ mSt 0 0 G G'
  | _, 0, _, _, _, _, h, _, _, _, _ => absurd h (Nat.not_lt_zero _)
  | 0, n + 1, j, G, L, hj, _, _, h, hal, _ => by
    refine ⟨G, ?_, h, mSt.refl⟩
    unfold f_M_move_L54
    rw [if_pos (nI_le (by omega) (by omega))]
  | d + 1, n + 1, j, G, L, hj, hn, hL, h, hal, hts => by
    have hrr := mRw_lt _ _ _ _ hr
    have hjl : j < src.length := by omega
    have ht := List.getElem?_eq_getElem hjl
    generalize src[j] = t at ht
    have hth := hts t (List.mem_of_getElem? ht)
    obtain ⟨m1, m2⟩ := fm_of (z := z) (len := mLen A p) (j := j) (G := G) hz (by omega) (by omega) (by omega)
    have hol : s + sFm z (mLen A p) j < L.length := by omega
    have ho := List.getElem?_eq_getElem hol
    generalize L[s + sFm z (mLen A p) j] = u at ho
    have hat : ((mRows A r L).1 r)[s + sFm z (mLen A p) j]? = some u := by rw [mRows_at]; exact ho
    obtain ⟨G1, a1, a2, a3, a4, a5⟩ := s_write h hok hv hr hat hth.1
    rw [mRows_at, mRows_mRows] at a2
    have hal1 := s_writeL h hrr (by rw [mRows_at]; intro q; rw [q] at hL; simp at hL; omega) hal hap a5 a3.2
    obtain ⟨m, κ, f, q1, -⟩ := id hal
    have mt : (src.map fun t => t.1)[j]? = some t.1 := by rw [List.getElem?_map, ht]; rfl
    obtain ⟨G', z1, z2, z3⟩ := m_moveL (K := K) (z := z) hok hv hr hfit h31 hsl hap hz d n (j + 1) G1 (L.set (s + sFm z (mLen A p) j) t) (by omega) (by omega) (by rw [List.length_set]; exact hL) a2 hal1 (hts.st h.1 a3)
    refine ⟨G', ?_, by rw [sMv, ht]; exact z2, (a3.trans z3).mono (by omega) (by omega)⟩
    unfold f_M_move_L54
    rw [if_neg (nI_ge (by omega) (by omega)), m1, bI_rI, gOb_of q1 rfl, al_get hal.al mt, bA_rA, hth.1.cast, gOb_of h.2.2.1 rfl, a1, bA_rA, nI_add]
    exact z1
theorem m_repL {K : gH → Nat → Int32 → gR} {p r s m t1 m1 : Nat} (hok : mOk A.2.1) (hv : mV A p) (hr : mRw A.2.1 zDp p = some (r, s)) (hfit : s + mLen A p ≤ (A.1 r).length) (h31 : (A.1 r).length ≤ 31) (htk : ∀ t, t ∈ A.1 r → mTok m t) (hm : m ≤ 600) (ht1 : t1 < 31) (hm1 : m1 < 31) : ∀ (d n : Nat) (G : gH) (new : List (Nat × Nat × Nat)), new.length + d = mLen A p → d < n → MS w o G (mRows A r (sSpl (A.1 r) s new)) D → new.map Prod.snd = ((sSeg A r s (mLen A p)).take new.length).map (mKey2 t1 m1) →
    ∃ (G' : gH) (new' : List (Nat × Nat × Nat)), f_M_replaceAll_L47 K n G o (nI p) (nI t1) (nI m1) (nI new.length) = K G' o (nI p) ∧ MS w o G' (mRows A r (sSpl (A.1 r) s new')) D ∧ new'.map Prod.snd = (sSeg A r s (mLen A p)).map (mKey2 t1 m1) ∧ mSt d (2 * d) G G'
  | _, 0, _, _, _, h, _, _ => absurd h (Nat.not_lt_zero _)
  | 0, n + 1, G, new, hj, _, h, hnew => by
    have hsl := sSeg_len hfit
    rw [List.take_of_length_le (by omega)] at hnew
    refine ⟨G, new, ?_, h, hnew, mSt.refl⟩
    unfold f_M_replaceAll_L47
    rw [gOb_of h.2.2.1 rfl, s_len h hok hv, mLen_rows, bI_rI, if_pos]
    have : (if p = r ∧ p < 2 then (sSpl (A.1 r) s new).length else mLen A p) = mLen A p := by
      split
      · next k => rw [sSpl_len (by omega), k.1, mLen_row (by rw [← k.1]; exact k.2)]
      · rfl
    rw [this]
    exact nI_le (by omega) (by omega)
  | d + 1, n + 1, G, new, hj, hn, h, hnew => by
    have hrr := mRw_lt _ _ _ _ hr
    have hsl := sSeg_len hfit
    have hlen : mLen (mRows A r (sSpl (A.1 r) s new)) p = mLen A p := by
      rw [mLen_rows]
      split
      · next k => rw [sSpl_len (by omega), k.1, mLen_row (by rw [← k.1]; exact k.2)]
      · rfl
    have hol : s + new.length < (A.1 r).length := by omega
    have ho := List.getElem?_eq_getElem hol
    generalize (A.1 r)[s + new.length] = u at ho
    have huk := htk u (List.mem_of_getElem? ho)
    have hkm : u.2.1 * t1 ≤ 30 * 30 := Nat.mul_le_mul (by have := huk.1; omega) (by omega)
    have hso := seg_of (A := A) (n := mLen A p) ho (by omega)
    have hat0 : ((mRows A r (sSpl (A.1 r) s new)).1 r)[s + new.length]? = some u := by rw [mRows_at, (sSpl_step (u := u) hol).2]; exact ho
    -- a new thing
    have hB1 : gB G.2.1 G (gNew G 2 (zI 100 2 (fun _ => 0))) := fun q hq => gNew_ne (by omega)
    have w1 : gWf (gNew G 2 (zI 100 2 (fun _ => 0))) := h.1.new
    have h1 := h.gB hB1 w1
    have hth1 := s_th h1 hrr hat0
    have B2 : ∀ f, gB G.2.1 G (gUp (gNew G 2 (zI 100 2 (fun _ => 0))) G.2.1 (zI 100 2 f)) := fun f q hq => by rw [gUp_ne (by omega)]; exact hB1 q hq
    have w2 : ∀ f, gWf (gUp (gNew G 2 (zI 100 2 (fun _ => 0))) G.2.1 (zI 100 2 f)) := fun f => w1.up (Nat.lt_succ_self _)
    have h2 := h.gB (B2 (upd (fun _ => 0) 0 (nI ((u.2.1 * t1 + m1) % 31)))) (w2 _)
    have hth2 := s_th h2 hrr hat0
    have B3 : ∀ f1 f2, gB G.2.1 G (gUp (gUp (gNew G 2 (zI 100 2 (fun _ => 0))) G.2.1 (zI 100 2 f1)) G.2.1 (zI 100 2 f2)) := fun f1 f2 q hq => by rw [gUp_ne (by omega)]; exact B2 f1 q hq
    have w3 : ∀ f1 f2, gWf (gUp (gUp (gNew G 2 (zI 100 2 (fun _ => 0))) G.2.1 (zI 100 2 f1)) G.2.1 (zI 100 2 f2)) := fun f1 f2 => (w2 f1).up (Nat.lt_succ_self _)
    generalize hG3 : gUp (gUp (gNew G 2 (zI 100 2 (fun _ => 0))) G.2.1 (zI 100 2 (upd (fun _ => 0) 0 (nI ((u.2.1 * t1 + m1) % 31))))) G.2.1 (zI 100 2 (upd (upd (fun _ => 0) 0 (nI ((u.2.1 * t1 + m1) % 31))) 1 (nI u.2.2))) = G3
    have B3' : gB G.2.1 G G3 := by rw [← hG3]; exact B3 _ _
    have w3' : gWf G3 := by rw [← hG3]; exact w3 _ _
    have h3 := h.gB B3' w3'
    have hs3 : G3.2.1 = G.2.1 + 1 := by rw [← hG3]; rfl
    have hs4 : G3.1 = G.1 + 2 := by rw [← hG3]; rfl
    have hnt : mTh G3 G.2.1 ((u.2.1 * t1 + m1) % 31, u.2.2) := by
      refine ⟨upd (upd (fun _ => 0) 0 (nI ((u.2.1 * t1 + m1) % 31))) 1 (nI u.2.2), by rw [← hG3]; exact gUp_at, ?_, ?_⟩
      · simp [upd]
      · simp [upd]
    have S3 : mSt 1 2 G G3 := mSt.gB h.1 B3' w3' (by omega) (by omega) (by omega) (by omega)
    obtain ⟨G4, a1, a2, a3, a4, a5⟩ := s_write (u := (G.2.1, (u.2.1 * t1 + m1) % 31, u.2.2)) h3 hok hv hr hat0 hnt
    rw [mRows_at, mRows_mRows, (sSpl_step hol).1] at a2
    have hnl : (new ++ [(G.2.1, (u.2.1 * t1 + m1) % 31, u.2.2)]).length = new.length + 1 := by simp
    obtain ⟨G', new', z1, z2, z3, z4⟩ := m_repL (K := K) (t1 := t1) (m1 := m1) hok hv hr hfit h31 htk hm ht1 hm1 d n G4 (new ++ [(G.2.1, (u.2.1 * t1 + m1) % 31, u.2.2)]) (by omega) (by omega) a2 (by
      rw [map_snoc, hnl, take_snoc hso, map_snoc, hnew]; rfl)
    refine ⟨G', new', ?_, z2, z3, ((S3.trans a3).trans z4).mono (by omega) (by omega)⟩
    rw [f_M_replaceAll_L47, gOb_of h.2.2.1 rfl, s_len h hok hv, hlen, bI_rI, if_neg (nI_ge (by omega) (by omega)), gNewA_of (by omega), gOb_of h1.2.2.1 rfl, s_at h1 hok hv hr hat0, bA_rA, hth1.key, nI_mul, nI_add, gRem_of (by omega) (by omega) (by omega), gStI_of gNew_at (by omega) (by omega), gOb_of h2.2.2.1 rfl, s_at h2 hok hv hr hat0, bA_rA, hth2.tag, gStI_of gUp_at (by omega) (by omega), hG3, gOb_of h3.2.2.1 rfl, a1, bA_rA, nI_add, ← hnl]
    exact z1
end Ref7
