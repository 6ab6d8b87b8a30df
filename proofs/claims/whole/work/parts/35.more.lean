-- the reference: rows of truth values, things brought in, made anew
theorem nar1 : vp_nar .boolean (nI 1) = nI 1 := by decide
theorem nar0 : vp_nar .boolean (nI 0) = nI 0 := by decide
theorem sNo_m1 {x : Option Nat} (h : ∀ i, x = some i → i < 2 ^ 31) : sNo x = -1 ↔ x = none := by
  cases x with
  | none => exact ⟨fun _ => rfl, fun _ => rfl⟩
  | some i => exact ⟨fun q => absurd q (nI_ne1 (h i rfl)), fun q => by cases q⟩
theorem sFi_lt {k : Nat} : ∀ (l : List (Nat × Nat × Nat)) (j i : Nat), sFi k l j = some i → j ≤ i ∧ i < j + l.length
  | [], _, _, h => by cases h
  | t :: ts, j, i, h => by
    unfold sFi at h
    by_cases e : t.2.1 = k
    · rw [if_pos e] at h
      cases h
      simp
    · rw [if_neg e] at h
      have := sFi_lt ts (j + 1) i h
      simp only [List.length_cons]; omega
theorem sIns_step {L M : List (Nat × Nat × Nat)} {i j : Nat} {t : Nat × Nat × Nat} (hi : i ≤ L.length) (ht : M[j]? = some t) : (sIns L (M.take j) i).insertIdx (i + j) t = sIns L (M.take (j + 1)) i := by
  have hj : j < M.length := (List.getElem?_eq_some_iff.mp ht).1
  have e1 : (L.take i).length = i := by rw [List.length_take]; omega
  have e2 : (M.take j).length = j := by rw [List.length_take]; omega
  have e3 : (L.take i ++ M.take j).length = i + j := by rw [List.length_append, e1, e2]
  unfold sIns
  rw [← List.append_assoc, ins_td _ _ _ (by rw [List.length_append, e3]; omega), List.take_succ, ht]
  rw [← e3, List.take_left', List.drop_left'] <;> simp
theorem sSpl_step {L new : List (Nat × Nat × Nat)} {s : Nat} {u : Nat × Nat × Nat} (h : s + new.length < L.length) : (sSpl L s new).set (s + new.length) u = sSpl L s (new ++ [u]) ∧ (sSpl L s new)[s + new.length]? = L[s + new.length]? := by
  have e1 : (L.take s).length = s := by rw [List.length_take]; omega
  have e2 : L.drop (s + new.length) = L[s + new.length] :: L.drop (s + new.length + 1) := List.drop_eq_getElem_cons h
  have e3 : (L.take s ++ new).length = s + new.length := by rw [List.length_append, e1]
  have e4 : sSpl L s new = (L.take s ++ new) ++ (L[s + new.length] :: L.drop (s + new.length + 1)) := by
    unfold sSpl
    rw [e2, List.append_assoc]
  rw [e4]
  refine ⟨?_, ?_⟩
  · rw [List.set_append_right _ _ (by omega), e3, Nat.sub_self, List.set_cons_zero]
    unfold sSpl
    simp [Nat.add_assoc]
  · rw [List.getElem?_append_right (by omega), e3, Nat.sub_self, List.getElem?_eq_getElem h]; rfl
section Ref5
variable {w : Nat → Nat} {G : gH} {o : Nat} {A : mS} {D : mD}
theorem m_keysL {K : gH → Nat → gR} {G0 : gH} {p r s q : Nat} {is : Bool} (h0 : MS w o G0 A D) (hok : mOk A.2.1) (hv : mV A p) (hr : mRw A.2.1 zDp p = some (r, s)) (hfit : s + mLen A p ≤ (A.1 r).length) (h31 : (A.1 r).length ≤ 31) (hkk : ∀ t, t ∈ A.1 r → t.2.1 < 31) (hq : G0.2.1 ≤ q) : ∀ (d n j : Nat) (G : gH) (f : Nat → Int32), j + d = 31 → d < n → gB G0.2.1 G0 G → gWf G → q < G.2.1 → G.2.2 q = some (zI 102 31 f) → (∀ k, k < j → f k = mB (is == gK (sSeg A r s (mLen A p)) k)) →
    ∃ G', f_M_keys_L8 K n G o (nI p) (mB is) q (nI j) = K G' q ∧ gB G0.2.1 G0 G' ∧ gWf G' ∧ G'.2.1 = G.2.1 ∧ G'.1 = G.1 ∧ isBo G' q (fun k => is == gK (sSeg A r s (mLen A p)) k)
  | _, 0, _, _, _, _, h, _, _, _, _, _ => absurd h (Nat.not_lt_zero _)
  | 0, n + 1, j, G, f, hj, _, hB, hw, hqG, he, hf => by
    refine ⟨G, ?_, hB, hw, rfl, rfl, f, he, fun k hk => hf k (by omega)⟩
    unfold f_M_keys_L8
    rw [if_pos (nI_le (by omega) (by omega))]
  | d + 1, n + 1, j, G, f, hj, hn, hB, hw, hqG, he, hf => by
    have hM := h0.gB hB hw
    have hfo := s_first (k := j) hM hok hv hr hfit h31 (fun t ht => by have := hkk t ht; omega) (by omega)
    have hsl := sSeg_len hfit
    have hno : sNo (sFi j (sSeg A r s (mLen A p)) 0) = -1 ↔ sFi j (sSeg A r s (mLen A p)) 0 = none := sNo_m1 (fun i hi => by have := sFi_lt _ _ _ hi; omega)
    -- the store, whatever it is
    have go : ∀ v : Int32, v = mB (is == gK (sSeg A r s (mLen A p)) j) → ∃ G', (gSt G q 102 (nI j) v fun G8 => f_M_keys_L8 K n G8 o (nI p) (mB is) q (nI j + nI 1)) = K G' q ∧ gB G0.2.1 G0 G' ∧ gWf G' ∧ G'.2.1 = G.2.1 ∧ G'.1 = G.1 ∧ isBo G' q (fun k => is == gK (sSeg A r s (mLen A p)) k) := by
      intro v hvv
      obtain ⟨G', z1, z2, z3, z4, z5, z6⟩ := m_keysL (K := K) (is := is) h0 hok hv hr hfit h31 hkk hq d n (j + 1) (gUp G q (zI 102 31 (upd f j v))) (upd f j v) (by omega) (by omega) (fun x hx => by rw [gUp_ne (by omega)]; exact hB x hx) (hw.up hqG) hqG gUp_at (fun k hk => by
        simp only [upd]
        by_cases e : k = j
        · rw [if_pos e, e]; exact hvv
        · rw [if_neg e]; exact hf k (by omega))
      refine ⟨G', ?_, z2, z3, z4, z5, z6⟩
      rw [gStK_of he (by omega) (by omega), nI_add]
      exact z1
    unfold f_M_keys_L8
    rw [if_neg (nI_ge (by omega) (by omega)), gOb_of hM.2.2.1 rfl, hfo, bI_rI, nar1, nar0]
    by_cases hx : sFi j (sSeg A r s (mLen A p)) 0 = none
    · have hg : gK (sSeg A r s (mLen A p)) j = false := by unfold gK; rw [hx]; rfl
      rw [if_pos (hno.mpr hx)]
      cases is with
      | true =>
        rw [if_neg (show ¬ nI 0 = mB true by decide)]
        exact go _ (by rw [hg]; rfl)
      | false =>
        rw [if_pos (show nI 0 = mB false by decide)]
        exact go _ (by rw [hg]; rfl)
    · have hg : gK (sSeg A r s (mLen A p)) j = true := by
        unfold gK
        cases hy : sFi j (sSeg A r s (mLen A p)) 0 with
        | none => exact absurd hy hx
        | some i => rfl
      rw [if_neg (fun z => hx (hno.mp z))]
      cases is with
      | true =>
        rw [if_pos (show nI 1 = mB true by decide)]
        exact go _ (by rw [hg]; rfl)
      | false =>
        rw [if_neg (show ¬ nI 1 = mB false by decide)]
        exact go _ (by rw [hg]; rfl)
theorem gNewK_of {G : gH} {ka n : Nat} {k : Nat → gH → gR} (hn : n ≤ 60000000) : gNewA G ka (nI n) k = k G.2.1 (gNew G n (zI ka n (fun _ => 0))) := gNewA_of hn
theorem s_keys {p r s : Nat} {is : Bool} (h : MS w o G A D) (hok : mOk A.2.1) (hv : mV A p) (hr : mRw A.2.1 zDp p = some (r, s)) (hfit : s + mLen A p ≤ (A.1 r).length) (h31 : (A.1 r).length ≤ 31) (hkk : ∀ t, t ∈ A.1 r → t.2.1 < 31) :
    ∃ G', f_M_keys G o (nI p) (mB is) = rA G.2.1 G' ∧ isBo G' G.2.1 (fun k => is == gK (sSeg A r s (mLen A p)) k) ∧ MS w o G' A D ∧ mSt 1 31 G G' := by
  obtain ⟨G', z1, z2, z3, z4, z5, z6⟩ := m_keysL (K := fun G17 x16 => rA x16 G17) (is := is) h hok hv hr hfit h31 hkk (Nat.le_refl _) 31 zFu 0 (gNew G 31 (zI 102 31 (fun _ => 0))) (fun _ => 0) (by omega) (by unfold zFu; omega) (fun q hq => gNew_ne (by omega)) h.1.new (Nat.lt_succ_self _) gNew_at (fun k hk => by omega)
  have e1 : (gNew G 31 (zI 102 31 (fun _ => 0))).2.1 = G.2.1 + 1 := rfl
  have e2 : (gNew G 31 (zI 102 31 (fun _ => 0))).1 = G.1 + 31 := rfl
  have hS := mSt.gB (k := 1) (n := 31) h.1 z2 z3 (by omega) (by omega) (by omega) (by omega)
  refine ⟨G', ?_, z6, h.step hS (h.2.2.new h.1 z2), hS⟩
  unfold f_M_keys
  rw [gNewK_of (by omega)]
  exact z1
theorem m_remIfL {K : gH → Nat → Int32 → Nat → gR} {by' rest p q : Nat} (hb : 0 < by') (hb9 : by' < 100) (hre : rest < 100) : ∀ (d n j : Nat) (G : gH) (f : Nat → Int32), j + d = 31 → d < n → gWf G → q < G.2.1 → G.2.2 q = some (zI 102 31 f) → (∀ k, k < j → f k = mB (decide (k % by' = rest))) →
    ∃ G', f_M_removeIf_L58 K n G o (nI p) (nI by') (nI rest) q (nI j) = K G' o (nI p) q ∧ gWf G' ∧ G'.2.1 = G.2.1 ∧ G'.1 = G.1 ∧ isBo G' q (fun k => decide (k % by' = rest)) ∧ ∀ x, x ≠ q → G'.2.2 x = G.2.2 x
  | _, 0, _, _, _, _, h, _, _, _, _ => absurd h (Nat.not_lt_zero _)
  | 0, n + 1, j, G, f, hj, _, hw, hqG, he, hf => by
    refine ⟨G, ?_, hw, rfl, rfl, ⟨f, he, fun k hk => hf k (by omega)⟩, fun _ _ => rfl⟩
    unfold f_M_removeIf_L58
    rw [if_pos (nI_le (by omega) (by omega))]
  | d + 1, n + 1, j, G, f, hj, hn, hw, hqG, he, hf => by
    have go : ∀ v : Int32, v = mB (decide (j % by' = rest)) → ∃ G', (gSt G q 102 (nI j) v fun G8 => f_M_removeIf_L58 K n G8 o (nI p) (nI by') (nI rest) q (nI j + nI 1)) = K G' o (nI p) q ∧ gWf G' ∧ G'.2.1 = G.2.1 ∧ G'.1 = G.1 ∧ isBo G' q (fun k => decide (k % by' = rest)) ∧ ∀ x, x ≠ q → G'.2.2 x = G.2.2 x := by
      intro v hvv
      obtain ⟨G', z1, z3, z4, z5, z6, z7⟩ := m_remIfL (K := K) (p := p) hb hb9 hre d n (j + 1) (gUp G q (zI 102 31 (upd f j v))) (upd f j v) (by omega) (by omega) (hw.up hqG) hqG gUp_at (fun k hk => by
        simp only [upd]
        by_cases e : k = j
        · rw [if_pos e, e]; exact hvv
        · rw [if_neg e]; exact hf k (by omega))
      refine ⟨G', ?_, z3, z4, z5, z6, fun x hx => by rw [z7 x hx, gUp_ne hx]⟩
      rw [gStK_of he (by omega) (by omega), nI_add]
      exact z1
    have hm : j % by' < by' := Nat.mod_lt _ hb
    unfold f_M_removeIf_L58
    rw [if_neg (nI_ge (by omega) (by omega)), gRem_of (by omega) (by omega) hb, nar1, nar0]
    by_cases hx : j % by' = rest
    · rw [if_pos (by rw [hx])]
      exact go _ (by rw [decide_eq_true hx]; rfl)
    · rw [if_neg (fun z => hx ((nI_eq (by omega) (by omega)).mp z))]
      exact go _ (by rw [decide_eq_false hx]; rfl)
theorem m_clearL {K : gH → Nat → Int32 → Int32 → gR} {p r s : Nat} {x2 : Int32} (hok : mOk A.2.1) (hv : mV A p) (hr : mRw A.2.1 zDp p = some (r, s)) (hfit : s + mLen A p ≤ (A.1 r).length) (h31 : (A.1 r).length ≤ 31) : ∀ (j n : Nat) (G : gH), j ≤ mLen A p → j < n → MS w o G (mRows A r (sRj (fun _ => true) (A.1 r) s (mLen A p) j)) D →
    ∃ G', f_M_clear_L25 K n G o (nI p) x2 (nI j + (-1)) = K G' o (nI p) x2 ∧ MS w o G' (mRows A r (sLeft (fun _ => true) (A.1 r) s (mLen A p))) D ∧ mSt 0 0 G G'
  | _, 0, _, _, h, _ => absurd h (Nat.not_lt_zero _)
  | 0, n + 1, G, _, _, h => by
    rw [sRj_0] at h
    refine ⟨G, ?_, h, mSt.refl⟩
    unfold f_M_clear_L25
    rw [if_pos (by decide)]
  | j + 1, n + 1, G, hj, hn, h => by
    have hr2 := mRw_lt _ _ _ _ hr
    have hjl : s + j < (A.1 r).length := by omega
    have ht := List.getElem?_eq_getElem hjl
    generalize (A.1 r)[s + j] = t at ht
    obtain ⟨c1, c2, -⟩ := sRj_step (g := fun _ => true) (s := s) (len := mLen A p) (j := j) (by omega) ht
    rw [if_pos rfl] at c2
    have hat : ((mRows A r (sRj (fun _ => true) (A.1 r) s (mLen A p) (j + 1))).1 r)[s + j]? = some t := by rw [mRows_at]; exact c1
    obtain ⟨G1, a1, a2, a3, -⟩ := s_take h hok hv hr hat
    rw [mRows_at, mRows_mRows, c2] at a2
    obtain ⟨G', b1, b2, b3⟩ := m_clearL (K := K) (x2 := x2) hok hv hr hfit h31 j n G1 (by omega) (by omega) a2
    refine ⟨G', ?_, b2, (a3.trans b3).mono (by omega) (by omega)⟩
    unfold f_M_clear_L25
    rw [nI_m1, if_neg (nI_pos (by omega)), gOb_of h.2.2.1 rfl, a1, bA_rA]
    exact b1
theorem m_bringL {K : gH → Nat → Int32 → Nat → gR} {p r s i a e cap r2 : Nat} {M : List (Nat × Nat × Nat)} (hok : mOk A.2.1) (hv : mV A p) (hr : mRw A.2.1 zDp p = some (r, s)) (hi : s + i ≤ (A.1 r).length) (hl : (A.1 r).length + M.length ≤ 31) (hr2 : r2 < 2) (hne : r2 ≠ r) (hM : ∀ t, t ∈ M → t ∈ A.1 r2) : ∀ (d n j : Nat) (G : gH) (D : mD), j + d = M.length → d < n → MS w o G (mRows A r (sIns (A.1 r) (M.take j) (s + i))) D → isALc w G a e cap (M.map fun t => t.1) → mAp w D a e →
    ∃ (G' : gH) (D' : mD), f_M_bring_L10 w K n G o (nI p) (nI i) a (nI j) = K G' o (nI p) a ∧ MS w o G' (mRows A r (sIns (A.1 r) M (s + i))) D' ∧ isALc w G' a e cap (M.map fun t => t.1) ∧ mSt d (61 * d) G G'
  | _, 0, _, _, _, _, h, _, _, _ => absurd h (Nat.not_lt_zero _)
  | 0, n + 1, j, G, D, hj, _, h, hal, _ => by
    rw [List.take_of_length_le (by omega)] at h
    refine ⟨G, D, ?_, h, hal, mSt.refl⟩
    obtain ⟨m, κ, f, q1, -⟩ := id hal
    unfold f_M_bring_L10
    rw [gOb_of q1 rfl, al_size hal.al, bI_rI, List.length_map, if_pos (nI_le (by omega) (by omega))]
  | d + 1, n + 1, j, G, D, hj, hn, h, hal, hap => by
    have hrr := mRw_lt _ _ _ _ hr
    have hjl : j < M.length := by omega
    have ht := List.getElem?_eq_getElem hjl
    generalize M[j] = t at ht
    have htM : t ∈ (mRows A r (sIns (A.1 r) (M.take j) (s + i))).1 r2 := by
      show t ∈ (if r2 = r then _ else A.1 r2)
      rw [if_neg hne]; exact hM t (List.mem_of_getElem? ht)
    have hth : mTh G t.1 t.2 := h.2.2.2.2.2.2.2.1 r2 hr2 t htM
    have hlen : (sIns (A.1 r) (M.take j) (s + i)).length = (A.1 r).length + j := by rw [sIns_len, List.length_take]; omega
    obtain ⟨G1, e', a1, a2, a3, a4, a5⟩ := s_come (i := i + j) h hok hv hr (by rw [mRows_at, hlen]; omega) (by rw [mRows_at, hlen]; omega) hth
    rw [mRows_at, mRows_mRows, ← Nat.add_assoc, sIns_step hi ht] at a2
    obtain ⟨b1, b2⟩ := s_comeL h hrr hal hap a4 a5 a3.2
    obtain ⟨G', D', c1, c2, c3, c4⟩ := m_bringL (K := K) (cap := cap) hok hv hr hi hl hr2 hne hM d n (j + 1) G1 _ (by omega) (by omega) a2 b1 b2
    refine ⟨G', D', ?_, c2, c3, (a3.trans c4).mono (by omega) (by omega)⟩
    obtain ⟨m, κ, f, q1, -⟩ := id hal
    unfold f_M_bring_L10
    rw [gOb_of q1 rfl, al_size hal.al, bI_rI, List.length_map, if_neg (nI_ge (by omega) (by omega)), gOb_of q1 rfl, al_get hal.al (i := j) (x := t.1) (by rw [List.getElem?_map, ht]; rfl), bA_rA, hth.cast, gOb_of h.2.2.1 rfl, nI_add, a1, bV_rV, nI_add]
    exact c1
end Ref5
