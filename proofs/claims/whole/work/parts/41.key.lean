-- keys as bits, the first place of a key, one list brought into another
theorem nI_eq31 {a c : Nat} (ha : a < 2 ^ 31) (hc : c < 2 ^ 31) (h : nI a = nI c) : a = c := (nI_eq ha hc).mp h
theorem bit_k : ∀ k : Nat, k < 31 → ((nI k &&& 31).toBitVec.smod 32).toNat = k := by decide +kernel
theorem bit_1 : ∀ t : Nat, t < 31 → ∀ k : Nat, k < 31 → (nI 1 <<< (nI t &&& 31)).toBitVec.getLsbD k = decide (k = t) := by decide +kernel
theorem bit_0 : ∀ k : Nat, k < 31 → (nI 0).toBitVec.getLsbD k = false := by decide +kernel
theorem bit_m1 : ∀ k : Nat, k < 31 → (-1 : Int32).toBitVec.getLsbD k = true := by decide +kernel
theorem bit_and1 (x : Int32) : (x &&& nI 1 = nI 1) ↔ x.toBitVec.getLsbD 0 = true := by
  have e : (nI 1).toBitVec = 1#32 := by decide
  constructor
  · intro h
    have h2 := congrArg (fun y : Int32 => y.toBitVec.getLsbD 0) h
    simp only [Int32.toBitVec_and, BitVec.getLsbD_and, e] at h2
    simpa using h2
  · intro h
    apply Int32.toBitVec_inj.mp
    rw [Int32.toBitVec_and, e]
    apply BitVec.eq_of_getLsbD_eq
    intro i hi
    rw [BitVec.getLsbD_and]
    by_cases h0 : i = 0
    · subst h0; rw [h]; rfl
    · have : (1#32).getLsbD i = false := by
        rw [BitVec.getLsbD_one]; simp [h0]
      rw [this, Bool.and_false]
theorem bit_sh (v : Int32) {k : Nat} (hk : k < 31) : ((v >>> (nI k &&& 31)) &&& nI 1 = nI 1) ↔ v.toBitVec.getLsbD k = true := by
  rw [bit_and1, Int32.toBitVec_shiftRight, BitVec.sshiftRight', bit_k k hk, BitVec.getLsbD_sshiftRight]
  simp only [Nat.add_zero]
  rw [if_pos (by omega)]
  simp
theorem gBit_of {v : Int32} {g : Nat → Bool} (h : ∀ k, k < 31 → v.toBitVec.getLsbD k = g k) : gBit v g := fun k hk => by
  rw [bit_sh v hk, h k hk]
theorem bit_or {v u : Int32} {k : Nat} : (v ||| u).toBitVec.getLsbD k = (v.toBitVec.getLsbD k || u.toBitVec.getLsbD k) := by
  rw [Int32.toBitVec_or, BitVec.getLsbD_or]
theorem bit_xor {v u : Int32} {k : Nat} : (v ^^^ u).toBitVec.getLsbD k = (v.toBitVec.getLsbD k ^^ u.toBitVec.getLsbD k) := by
  rw [Int32.toBitVec_xor, BitVec.getLsbD_xor]
theorem sFi_is {k : Nat} : ∀ (l : List (Nat × Nat × Nat)) (i j : Nat), (sFi k l i).isSome = (sFi k l j).isSome
  | [], _, _ => rfl
  | t :: ts, i, j => by
    unfold sFi
    by_cases e : t.2.1 = k
    · rw [if_pos e, if_pos e]; rfl
    · rw [if_neg e, if_neg e]; exact sFi_is ts _ _
section Key
variable {b : Nat} {H : gH} {exc : Int32} {A : mS} {σ : cS} {p r s : Nat}
theorem y_firstL {K1 : gH → Int32 → gR} {K2 : gH → gR} {k : Nat} (h : CRepx exc σ A) (hw : mInw exc p A) (hv : mV A p) (hr : mRw A.2.1 zDp p = some (r, s)) (hkk : ∀ t, t ∈ A.1 r → t.2.1 < 31) (hk : k < 31) : ∀ (l : List (Nat × Nat × Nat)) (n j : Nat), (sSeg A r s (mLen A p)).drop j = l → j ≤ mLen A p → l.length < n →
    f_I_firstOf_L9 K1 K2 n (cPut b σ H) (b + 1) (nI p) (nI k) (nI (mLen A p)) (nI j) = match sFi k l j with
      | some i => K1 (cPut b σ H) (nI i)
      | none => K2 (cPut b σ H)
  | _, 0, _, _, _, h => absurd h (Nat.not_lt_zero _)
  | [], n + 1, j, hd, hj, _ => by
    have hfit := hw.2.1.rw _ _ _ _ hr
    have h31 := hw.2.2.1 r (mRw_lt _ _ _ _ hr)
    have hsl := sSeg_len hfit
    have : mLen A p ≤ j := by
      have := congrArg List.length hd
      rw [List.length_drop, hsl] at this
      simp at this; omega
    unfold f_I_firstOf_L9
    rw [if_pos (nI_le this (by omega))]; rfl
  | t :: ts, n + 1, j, hd, hj, hn => by
    have hfit := hw.2.1.rw _ _ _ _ hr
    have h31 := hw.2.2.1 r (mRw_lt _ _ _ _ hr)
    have hsl := sSeg_len hfit
    have hs : (sSeg A r s (mLen A p))[j]? = some t := by
      have : ((sSeg A r s (mLen A p)).drop j)[0]? = some t := by rw [hd]; rfl
      rw [List.getElem?_drop] at this; exact this
    have hjl : j < mLen A p := by
      have := (List.getElem?_eq_some_iff.mp hs).1
      omega
    rw [sSeg_at hjl] at hs
    have hd' : (sSeg A r s (mLen A p)).drop (j + 1) = ts := by rw [← List.drop_drop, hd]; rfl
    have hkt := hkk t (List.mem_of_getElem? hs)
    unfold f_I_firstOf_L9
    rw [if_neg (nI_ge hjl (by omega)), c_ob_1, x_keyAt h hw hv hr hs (by omega), bI_rI]
    unfold sFi
    by_cases e : t.2.1 = k
    · rw [if_pos (by rw [e]), if_pos e]
    · rw [if_neg (fun q => e ((nI_eq (by omega) (by omega)).mp q)), if_neg e, nI_add]
      exact y_firstL h hw hv hr hkk hk ts n (j + 1) hd' (by omega) (by simp at hn; omega)
theorem x_first {k : Nat} (h : CRepx exc σ A) (hw : mInw exc p A) (hv : mV A p) (hr : mRw A.2.1 zDp p = some (r, s)) (hkk : ∀ t, t ∈ A.1 r → t.2.1 < 31) (hk : k < 31) :
    f_I_firstOf (cPut b σ H) (b + 1) (nI p) (nI k) = rI (sNo (sFi k (sSeg A r s (mLen A p)) 0)) (cPut b σ H) := by
  have hfit := hw.2.1.rw _ _ _ _ hr
  have h31 := hw.2.2.1 r (mRw_lt _ _ _ _ hr)
  unfold f_I_firstOf
  rw [c_ob_1, x_len h hw.1 hv, bI_rI, y_firstL h hw hv hr hkk hk _ zFu 0 (List.drop_zero ..) (Nat.zero_le _) (by rw [sSeg_len hfit]; unfold zFu; omega)]
  cases sFi k (sSeg A r s (mLen A p)) 0 <;> rfl
theorem y_keysL {K : gH → Int32 → gR} (h : CRepx exc σ A) (hw : mInw exc p A) (hv : mV A p) (hr : mRw A.2.1 zDp p = some (r, s)) (hkk : ∀ t, t ∈ A.1 r → t.2.1 < 31) : ∀ (l : List (Nat × Nat × Nat)) (n j : Nat) (v : Int32), (sSeg A r s (mLen A p)).drop j = l → j ≤ mLen A p → l.length < n →
    ∃ v', f_I_keysOf_L11 K n (cPut b σ H) (b + 1) (nI p) (nI (mLen A p)) v (nI j) = K (cPut b σ H) v' ∧ ∀ k, k < 31 → v'.toBitVec.getLsbD k = (v.toBitVec.getLsbD k || (sFi k l 0).isSome)
  | _, 0, _, _, _, _, h => absurd h (Nat.not_lt_zero _)
  | [], n + 1, j, v, hd, hj, _ => by
    have hfit := hw.2.1.rw _ _ _ _ hr
    have h31 := hw.2.2.1 r (mRw_lt _ _ _ _ hr)
    have hsl := sSeg_len hfit
    have : mLen A p ≤ j := by
      have := congrArg List.length hd
      rw [List.length_drop, hsl] at this
      simp at this; omega
    refine ⟨v, ?_, fun k _ => by simp [sFi]⟩
    unfold f_I_keysOf_L11
    rw [if_pos (nI_le this (by omega))]
  | t :: ts, n + 1, j, v, hd, hj, hn => by
    have hfit := hw.2.1.rw _ _ _ _ hr
    have h31 := hw.2.2.1 r (mRw_lt _ _ _ _ hr)
    have hsl := sSeg_len hfit
    have hs : (sSeg A r s (mLen A p))[j]? = some t := by
      have : ((sSeg A r s (mLen A p)).drop j)[0]? = some t := by rw [hd]; rfl
      rw [List.getElem?_drop] at this; exact this
    have hjl : j < mLen A p := by
      have := (List.getElem?_eq_some_iff.mp hs).1
      omega
    rw [sSeg_at hjl] at hs
    have hd' : (sSeg A r s (mLen A p)).drop (j + 1) = ts := by rw [← List.drop_drop, hd]; rfl
    have hkt := hkk t (List.mem_of_getElem? hs)
    obtain ⟨v', z1, z2⟩ := y_keysL (K := K) h hw hv hr hkk ts n (j + 1) (v ||| (nI 1 <<< (nI t.2.1 &&& 31))) hd' (by omega) (by simp at hn; omega)
    refine ⟨v', ?_, fun k hk => ?_⟩
    · unfold f_I_keysOf_L11
      rw [if_neg (nI_ge hjl (by omega)), c_ob_1, x_keyAt h hw hv hr hs (by omega), bI_rI, nI_add, z1]
    · rw [z2 k hk, bit_or, bit_1 _ hkt k hk, show sFi k (t :: ts) 0 = (if t.2.1 = k then some 0 else sFi k ts 1) from rfl]
      by_cases e : t.2.1 = k
      · rw [if_pos e, decide_eq_true e.symm]; simp
      · rw [if_neg e, decide_eq_false (fun q => e q.symm), Bool.or_false, sFi_is ts 1 0]
theorem x_keys (h : CRepx exc σ A) (hw : mInw exc p A) (hv : mV A p) (hr : mRw A.2.1 zDp p = some (r, s)) (hkk : ∀ t, t ∈ A.1 r → t.2.1 < 31) :
    ∃ v, f_I_keysOf (cPut b σ H) (b + 1) (nI p) = rI v (cPut b σ H) ∧ ∀ k, k < 31 → v.toBitVec.getLsbD k = gK (sSeg A r s (mLen A p)) k := by
  have hfit := hw.2.1.rw _ _ _ _ hr
  have h31 := hw.2.2.1 r (mRw_lt _ _ _ _ hr)
  obtain ⟨v, z1, z2⟩ := y_keysL (b := b) (H := H) (K := fun G13 x12 => rI x12 G13) h hw hv hr hkk _ zFu 0 (nI 0) (List.drop_zero ..) (Nat.zero_le _) (by rw [sSeg_len hfit]; unfold zFu; omega)
  refine ⟨v, ?_, fun k hk => ?_⟩
  · unfold f_I_keysOf
    rw [c_ob_1, x_len h hw.1 hv, bI_rI, z1]
  · rw [z2 k hk, bit_0 k hk, Bool.false_or]; rfl
end Key
section Chg0
theorem mChg_all {m : Nat} {A : mS} {p r s : Nat} {z : Int} {ts : List (Nat × Nat × Nat)} (hI : mInv m A) (hv : mV A p) (hrw : mRw A.2.1 zDp p = some (r, s)) (hl : (ts.length : Int) = (A.1 r).length + z) (hl31 : ts.length ≤ 31) (hpos : 0 ≤ (mLen A p : Int) + z) (hz0 : z = 0 → ts = A.1 r) (ht : ∀ t, t ∈ ts → mTok m t) :
    mInv m (mChange (mRows A r ts) p z (-1)) ∧ mV (mChange (mRows A r ts) p z (-1)) p ∧ mLen (mChange (mRows A r ts) p z (-1)) p = ((mLen A p : Int) + z).toNat ∧ (mChange (mRows A r ts) p z (-1)).1 = (mRows A r ts).1 ∧ ∀ j, j ≠ 2 → j ≠ 3 → (mChange (mRows A r ts) p z (-1)).2.2.2 j = A.2.2.2 j := by
  by_cases hz : z = 0
  · rw [hz0 hz, mChange_0 hz, mRows_self]
    exact ⟨hI, hv, by omega, rfl, fun _ _ _ => rfl⟩
  · obtain ⟨-, c2, c3, c4, c5⟩ := mChg_at (ts := ts) (hI.w p) hv hrw hz hl hpos
    exact ⟨hI.chg2 hv hrw hz hl hl31 hpos ht, c2, c3, c4, c5⟩
theorem sIns_nil {L : List (Nat × Nat × Nat)} {i : Nat} : sIns L [] i = L := by
  unfold sIns
  rw [List.nil_append, List.take_append_drop]
theorem sIns_mem {L M : List (Nat × Nat × Nat)} {i : Nat} {t : Nat × Nat × Nat} (h : t ∈ sIns L M i) : t ∈ L ∨ t ∈ M := by
  unfold sIns at h
  rcases List.mem_append.mp h with q | q
  · exact Or.inl (List.mem_of_mem_take q)
  · rcases List.mem_append.mp q with q | q
    · exact Or.inr q
    · exact Or.inl (List.mem_of_mem_drop q)
variable {w : Nat → Nat} {G : gH} {o : Nat} {A : mS} {D : mD}
theorem mAp.fresh {G' : gH} {a e : Nat} (h : MS w o G A D) (ha : a = G.2.1) (he : G.2.1 ≤ e ∨ e = w 0) : mAp w D a e := by
  intro i hi
  obtain ⟨m, κ, cap, f, q1, q2, -⟩ := h.2.2.2.2.1 i hi
  have l1 := h.1 _ _ q1
  have l2 := h.1 _ _ q2
  refine ⟨by omega, ?_⟩
  rcases he with e1 | e1
  · exact Or.inl (by omega)
  · exact Or.inr e1
theorem s_bring {p r s i q r2 s2 m : Nat} (h : MS w o G A D) (hI : mInv m A) (hv : mV A p) (hr : mRw A.2.1 zDp p = some (r, s)) (hq : mV A q) (hrq : mRw A.2.1 zDp q = some (r2, s2)) (hne : r ≠ r2) (hi : i ≤ mLen A p) (hl : (A.1 r).length + mLen A q ≤ 31) :
    ∃ (G' : gH) (D' : mD), f_M_bring w G o (nI p) (nI i) (nI q) = rI (nI (mLen A q)) G' ∧ MS w o G' (mChange (mRows A r (sIns (A.1 r) (sSeg A r2 s2 (mLen A q)) (s + i))) p (mLen A q : Int) (-1)) D' ∧ mSt 36 1974 G G' := by
  have hW := hI.w p
  have hr1 := mRw_lt _ _ _ _ hr
  have hr2 := mRw_lt _ _ _ _ hrq
  have hfit := hW.2.1.rw _ _ _ _ hr
  have hfitq := hW.2.1.rw _ _ _ _ hrq
  have h31 := hW.2.2.1 r2 hr2
  have hM := sSeg_len hfitq
  obtain ⟨G1, e, cap, a1, a2, a3, a4, -, a6, a7⟩ := s_copy h hW.1 hq hrq hfitq h31
  have hap : mAp w D G.2.1 e := mAp.fresh (G' := G1) h rfl a4
  obtain ⟨G2, D2, b1, b2, b3, b4⟩ := m_bringL (K := fun G24 x21 x22 x23 => gOb G24 x23 9 fun o26 => bI (f_AL_size G24 x23) fun v29 G28 => gOb G28 x21 6 fun o31 => bV (f_M_change G28 x21 x22 v29 (-1)) fun G33 => gOb G33 x23 9 fun o35 => bI (f_AL_size G33 x23) fun v38 G37 => rI v38 G37) (i := i) hW.1 hv hr (M := sSeg A r2 s2 (mLen A q)) (by omega) (by rw [hM]; exact hl) hr2 (fun z => hne z.symm) (fun t ht => sSeg_mem ht) (sSeg A r2 s2 (mLen A q)).length zFu 0 G1 D (by omega) (by rw [hM]; unfold zFu; omega) (by rw [List.take_zero, sIns_nil, mRows_self]; exact a6) a2 hap
  obtain ⟨G3, F, c1, c2, c3⟩ := s_change (exc := -1) (z := (mLen A q : Int)) b2 hW hv hr (by omega) (by omega) (by omega)
  rw [ofInt_nI] at c1
  have b5 := c3.loc b2.1 b3
  obtain ⟨m1, κ1, f1, u1, -⟩ := id b3
  obtain ⟨m2, κ2, f2, u2, -⟩ := id b5
  refine ⟨G3, _, ?_, c2, ((a7.trans b4).trans c3.st).mono (by rw [hM]; omega) (by rw [hM]; omega)⟩
  unfold f_M_bring
  rw [gOb_of h.2.2.1 rfl, a1, bA_rA]
  rw [b1, gOb_of u1 rfl, al_size b3.al, bI_rI, gOb_of b2.2.2.1 rfl, List.length_map, hM, c1, bV_rV, gOb_of u2 rfl, al_size b5.al, bI_rI, List.length_map, hM]
end Chg0
