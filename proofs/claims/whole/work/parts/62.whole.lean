-- the reference is whole; isSound
section Whl
variable {w : Nat → Nat} {b o m : Nat} {A : mS} {σ : cS} {H : gH} {p r s : Nat}
theorem so_en {ord n : Nat} (hI : mInv m A) (hr2 : r < 2) (hn : n ≤ 31) (ho : ord < 5) : kStb (fun e : (Nat × Nat) × Nat => kKap ord e.1) (fun e => e.2) (sSo (eR ord) [] (sEn 0 (sSeg A r s n))) := by
  have hen := sEn_ok (s := s) hI hr2 hn
  refine so_stb (P := fun e : (Nat × Nat) × Nat => e.1.1 < 1000) (R := eR ord) (fun x y hx hy => sR_kap ho hx hy) (sEn 0 (sSeg A r s n)) [] (fun e he => by cases he) (fun e he => ?_) (fun e x he => by cases he) (fun i j x y hij hx hy => ?_) (fun i j x y _ hx => by simp at hx)
  · have := (hen e he).1.1
    show e.1.1 < 1000
    omega
  · rw [sEn_at] at hx hy
    cases h1 : (sSeg A r s n)[i]? with
    | none => rw [h1] at hx; cases hx
    | some t =>
      cases h2 : (sSeg A r s n)[j]? with
      | none => rw [h2] at hy; cases hy
      | some u =>
        rw [h1] at hx
        rw [h2] at hy
        cases hx
        cases hy
        show 0 + i < 0 + j
        omega
theorem so_adj {ord n i : Nat} {t u : Nat × Nat × Nat} (hI : mInv m A) (hr2 : r < 2) (hn : n ≤ 31) (ho : ord < 5) (ht : (sSo (tR ord) [] (sSeg A r s n))[i]? = some t) (hu : (sSo (tR ord) [] (sSeg A r s n))[i + 1]? = some u) : kKap ord t.2 ≤ kKap ord u.2 := by
  have e1 : (sSo (tR ord) [] (sSeg A r s n)).map Prod.snd = sSo (sR ord) [] ((sSeg A r s n).map Prod.snd) := by
    rw [sSo_map (R := tR ord) (S := sR ord) Prod.snd (fun _ _ => rfl)]; rfl
  have e2 : (sSo (eR ord) [] (sEn 0 (sSeg A r s n))).map Prod.fst = sSo (sR ord) [] ((sSeg A r s n).map Prod.snd) := by
    rw [sSo_map (R := eR ord) (S := sR ord) Prod.fst (fun _ _ => rfl), sEn_fst]; rfl
  have g : ∀ (i : Nat) (x : Nat × Nat × Nat), (sSo (tR ord) [] (sSeg A r s n))[i]? = some x → ∃ y : (Nat × Nat) × Nat, (sSo (eR ord) [] (sEn 0 (sSeg A r s n)))[i]? = some y ∧ y.1 = x.2 := fun i x hx => by
    have e3 := congrArg (fun l => l[i]?) (e1.trans e2.symm)
    simp only [List.getElem?_map, hx] at e3
    cases hy : (sSo (eR ord) [] (sEn 0 (sSeg A r s n)))[i]? with
    | none => rw [hy] at e3; cases e3
    | some y => rw [hy] at e3; exact ⟨y, rfl, (Option.some.inj e3).symm⟩
  obtain ⟨a, a1, a2⟩ := g i t ht
  obtain ⟨c, c1, c2⟩ := g (i + 1) u hu
  have := (so_en hI hr2 hn ho i (i + 1) a c (by omega) a1 c1).1
  rw [← a2, ← c2]
  exact this
/-- a copy, put in order -/
theorem s_cpo {G : gH} {D : mD} {ord : Nat} (h : MS w o G A D) (hI : mInv m A) (hv : mV A p) (hr : mRw A.2.1 zDp p = some (r, s)) (ho : ord < 5) :
    ∃ (G2 G3 : gH) (e cap : Nat), f_M_copy w G o (nI p) = rA G.2.1 G2 ∧ f_M_order G2 G.2.1 (nI ord) = rV G3 ∧ isALc w G3 G.2.1 e cap ((sSo (tR ord) [] (sSeg A r s (mLen A p))).map fun t => t.1) ∧ mTs G3 (sSo (tR ord) [] (sSeg A r s (mLen A p))) ∧ MS w o G3 A D ∧ mSt 5 83 G G3 := by
  have hr2 := mRw_lt _ _ _ _ hr
  have hfit := hI.2.1.rw _ _ _ _ hr
  have h31 := (hI.2.2.1 r hr2).1
  have hsl : (sSeg A r s (mLen A p)).length = mLen A p := sSeg_len hfit
  obtain ⟨G2, e, cap, a1, a2, a3, a4, a5, a6, a7⟩ := s_copy h hI.1 hv hr hfit h31
  have hts := (h.ts (s := s) (n := mLen A p) hr2 (hI.2.2.1 r hr2).2 hI.2.2.2.2.2).st h.1 a7
  have hw0 : w 0 < G.2.1 := by
    obtain ⟨f, hf⟩ := h.2.1
    exact h.1 _ _ hf
  have l1 : G.2.1 ≤ G2.2.1 := a7.1.1
  have l2 : G2.2.1 ≤ G.2.1 + 5 := a7.1.2.1
  have l3 : G.1 ≤ G2.1 := a7.1.2.2.1
  have l4 : G2.1 ≤ G.1 + 83 := a7.1.2.2.2.1
  by_cases hz : mLen A p = 0
  · have e2 : sSeg A r s (mLen A p) = [] := List.eq_nil_of_length_eq_zero (by rw [hsl]; exact hz)
    rw [e2] at a2 hts ⊢
    exact ⟨G2, G2, e, cap, a1, s_order0 a2, a2, (fun t ht => absurd ht (List.not_mem_nil)), a6, a7⟩
  · obtain ⟨G3, o1, o2, o3, o4, o5, o6, o7⟩ := s_order (ord := ord) (z := G.2.1) (by omega) a3 a4 hw0 (by rw [hsl]; omega) a6.1 a2 hts
    have hB : gB G.2.1 G G3 := fun q hq => by
      by_cases he : q = e
      · have hew : e = w 0 := by
          rcases a4 with k | k
          · omega
          · exact k
        obtain ⟨m1, κ1, f1, u1, u2, u3, u4, -⟩ := id a2
        obtain ⟨f0, hf0⟩ := a6.2.1
        rw [hew, hf0] at u2
        rw [List.length_map, hsl] at u4
        rcases u3 with ⟨k1, -⟩ | ⟨-, -, k1⟩
        · rw [k1] at u2
          have := Option.some.inj u2
          unfold zQ at this
          cases this
        · omega
      · rw [o7 q he, a5 q hq]
    exact ⟨G2, G3, e, cap, a1, o1, o2, o3, h.gB hB o4, mSt.gB h.1 hB o4 (by omega) (by omega) (by omega) (by omega)⟩
theorem m_w94 {K1 : gH → gR} {K2 : gH → Nat → Int32 → Int32 → gR} {G : gH} {a e cap ord : Nat} {x1 : Int32} (hI : mInv m A) (hr2 : r < 2) {n0 : Nat} (hn0 : n0 ≤ 31) (ho : ord < 5) (hal : isALc w G a e cap ((sSo (tR ord) [] (sSeg A r s n0)).map fun t => t.1)) (hts : mTs G (sSo (tR ord) [] (sSeg A r s n0))) : ∀ (d n j : Nat), 1 ≤ j → j ≤ 40 → (sSo (tR ord) [] (sSeg A r s n0)).length ≤ j + d → d < n →
    f_M_isWhole_L94 w K1 K2 n G o x1 (nI ord) a (nI j) = K2 G o x1 (nI ord) := by
  have hl : (sSo (tR ord) [] (sSeg A r s n0)).length ≤ 31 := by
    rw [sSo_len]
    have h2 : (sSeg A r s n0).length ≤ n0 := by unfold sSeg; rw [List.length_take]; omega
    simp; omega
  have hadj := fun i t u => so_adj (i := i) (t := t) (u := u) (s := s) hI hr2 hn0 ho
  generalize sSo (tR ord) [] (sSeg A r s n0) = so at hal hts hl hadj
  obtain ⟨m1, κ1, f1, u1, -⟩ := id hal
  have sz : f_AL_size G a = rI (nI so.length) G := by rw [al_size hal.al, List.length_map]
  intro d
  induction d with
  | zero =>
    intro n j h1 h40 hj hn
    cases n with
    | zero => omega
    | succ n =>
      unfold f_M_isWhole_L94
      rw [gOb_of u1 rfl, sz, bI_rI, if_pos (nI_le (by omega) (by omega))]
  | succ d ih =>
    intro n j h1 h40 hj hn
    cases n with
    | zero => omega
    | succ n =>
      unfold f_M_isWhole_L94
      rw [gOb_of u1 rfl, sz, bI_rI]
      by_cases hjl : so.length ≤ j
      · rw [if_pos (nI_le hjl (by omega))]
      · have ht := List.getElem?_eq_getElem (show j < so.length by omega)
        generalize so[j] = t at ht
        have hu := List.getElem?_eq_getElem (show j - 1 < so.length by omega)
        generalize so[j - 1] = u at hu
        have gt : f_AL_get G a (nI j) = rA t.1 G := al_get hal.al (by rw [List.getElem?_map, ht]; rfl)
        have gu : f_AL_get G a (nI (j - 1)) = rA u.1 G := al_get hal.al (by rw [List.getElem?_map, hu]; rfl)
        obtain ⟨t1, t2, t3⟩ := hts t (List.mem_of_getElem? ht)
        obtain ⟨v1, v2, v3⟩ := hts u (List.mem_of_getElem? hu)
        obtain ⟨v, e1, e2⟩ := m_ahead ho t1 v1 ⟨t2, t3⟩ ⟨v2, v3⟩
        have hk := hadj (j - 1) u t hu (by rw [show j - 1 + 1 = j by omega]; exact ht)
        have hs : sR ord t.2 u.2 = false := by
          rw [sR_kap ho (by omega) (by omega)]
          exact decide_eq_false (by omega)
        rw [if_neg (nI_ge (by omega) (by omega)), gOb_of u1 rfl, gt, bA_rA, t1.cast, gOb_of u1 rfl, show nI j - nI 1 = nI (j - 1) from nI_sub (by omega), gu, bA_rA, v1.cast, e1, bI_rI, if_pos (e2.mpr hs), nI_add]
        exact ih n (j + 1) (by omega) (by omega) (by omega) (by omega)
theorem m_w75 {K1 : gH → gR} {K2 : gH → Nat → Int32 → gR} {D : mD} (hI : mInv m A) (hv : mV A p) (hr : mRw A.2.1 zDp p = some (r, s)) : ∀ (d n j : Nat) (G : gH), j + d = 5 → d < n → MS w o G A D →
    ∃ G', f_M_isWhole_L75 w K1 K2 n G o (nI p) (nI j) = K2 G' o (nI p) ∧ MS w o G' A D ∧ mSt (5 * d) (83 * d) G G' := by
  have hl31 := hI.l31 hv
  intro d
  induction d with
  | zero =>
    intro n j G hj hn h
    cases n with
    | zero => omega
    | succ n =>
      refine ⟨G, ?_, h, mSt.refl⟩
      unfold f_M_isWhole_L75
      rw [if_pos (nI_le (by omega) (by omega))]
  | succ d ih =>
    intro n j G hj hn h
    cases n with
    | zero => omega
    | succ n =>
      obtain ⟨G2, G3, e, cap, a1, a2, a3, a4, a5, a6⟩ := s_cpo (ord := j) h hI hv hr (by omega)
      obtain ⟨G4, b1, b2, b3⟩ := ih n (j + 1) G3 (by omega) (by omega) a5
      refine ⟨G4, ?_, b2, (a6.trans b3).mono (by omega) (by omega)⟩
      unfold f_M_isWhole_L75
      rw [if_neg (nI_ge (by omega) (by omega)), gOb_of h.2.2.1 rfl, a1, bA_rA, a2, bV_rV]
      rw [m_w94 (K1 := fun G33 => K1 G33) (K2 := fun G37 x34 x35 x36 => f_M_isWhole_L75 w K1 K2 n G37 x34 x35 (x36 + (nI 1))) hI (mRw_lt _ _ _ _ hr) hl31 (show j < 5 by omega) a3 a4 31 zFu 1 (by omega) (by omega) (by rw [sSo_len, sSeg_len (hI.2.1.rw _ _ _ _ hr)]; simp; omega) (by unfold zFu; omega), nI_add, b1]
theorem m_w2 {K1 K2 : gH → gR} {K3 : gH → Nat → gR} {D : mD} (hI : mInv m A) : ∀ (d n j : Nat) (G : gH), j + d = 6 → d < n → MS w o G A D →
    ∃ G', f_M_isWhole_L2 w K1 K2 K3 n G o (nI j) = K3 G' o ∧ MS w o G' A D ∧ mSt (25 * d) (415 * d) G G' := by
  intro d
  induction d with
  | zero =>
    intro n j G hj hn h
    cases n with
    | zero => omega
    | succ n =>
      refine ⟨G, ?_, h, mSt.refl⟩
      unfold f_M_isWhole_L2
      rw [if_pos (nI_le (by omega) (by omega))]
  | succ d ih =>
    intro n j G hj hn h
    cases n with
    | zero => omega
    | succ n =>
      unfold f_M_isWhole_L2
      rw [if_neg (nI_ge (by omega) (by omega)), gOb_of h.2.2.1 rfl]
      by_cases hv : mV A j
      · have hL : mIsL A (nI j) := ⟨j, by omega, rfl, hv⟩
        obtain ⟨r, s, hr, -⟩ := hI.pl hv
        obtain ⟨G3, a1, a2, a3⟩ := m_w75 (K1 := fun G39 => K2 G39) (K2 := fun G42 x40 x41 => f_M_isWhole_L2 w K1 K2 K3 n G42 x40 (x41 + (nI 1))) hI hv hr 5 zFu 0 G (by omega) (by unfold zFu; omega) h
        obtain ⟨G4, b1, b2, b3⟩ := ih n (j + 1) G3 (by omega) (by omega) a2
        refine ⟨G4, ?_, b2, (a3.trans b3).mono (by omega) (by omega)⟩
        rw [(s_noList h _).1 hL, bI_rI, if_pos rfl]
        by_cases h2 : j < 2
        · rw [if_pos (nI_lt h2 (by omega))]
          rw [show f_M_isWhole_L75 w (fun G39 => K2 G39) (fun G42 x40 x41 => f_M_isWhole_L2 w K1 K2 K3 n G42 x40 (x41 + (nI 1))) zFu G o (nI j) (nI 0) = _ from a1, nI_add, b1]
        · rw [if_neg (nI_nlt (by omega) (by omega))]
          cases hx : A.2.1 j with
          | none => rcases hv with q | q
                    · exact absurd q h2
                    · exact absurd hx q
          | some x =>
            obtain ⟨q, q1, f0, f1, f2⟩ := s_fp h (show j < 6 by omega) hx
            have hvo : mV A x.1 := hI.1.cl j x hx
            have hf := hI.2.1 j x hx
            have hlo := hI.l31 hvo
            rw [s_ldP h (by omega) q1, f1, if_neg (nI_pos (by omega)), s_ldP h (by omega) q1, f1, s_ldP h (by omega) q1, f2, s_ldP h (by omega) q1, f0, gOb_of h.2.2.1 rfl, s_len h hI.1 hvo, bI_rI, nI_add, if_pos (nI_le hf (by omega))]
            rw [show f_M_isWhole_L75 w (fun G60 => K2 G60) (fun G63 x61 x62 => f_M_isWhole_L2 w K1 K2 K3 n G63 x61 (x62 + (nI 1))) zFu G o (nI j) (nI 0) = _ from a1, nI_add, b1]
      · obtain ⟨G4, b1, b2, b3⟩ := ih n (j + 1) G (by omega) (by omega) h
        refine ⟨G4, ?_, b2, b3.mono (by omega) (by omega)⟩
        rw [(s_noList h _).2 (fun ⟨q, hq, e, hz⟩ => hv (by rw [nI_eq31 (by omega) (by omega) e]; exact hz)), bI_rI, if_neg (by decide), nI_add, b1]
theorem s_isWhole {G : gH} {D : mD} (h : MS w o G A D) (hI : mInv m A) : ∃ G', f_M_isWhole w G o = rI 1 G' ∧ MS w o G' A D ∧ mSt 150 2490 G G' := by
  obtain ⟨G2, a1, a2, a3⟩ := m_w2 (K1 := fun G69 => rZ (nI 0) G69) (K2 := fun G70 => rZ (nI 0) G70) (K3 := fun G72 x71 => gFA G72 x71 6 1 fun v73 => gOb G72 v73 9 fun o75 => bA (f_AL_get G72 v73 (nI 0)) fun v78 G77 => gCaO G77 v78 9 (gOb G77 v78 9 fun o80 => bI (f_AL_size G77 v78) fun v83 G82 => if (nI 31) < v83 then rZ (nI 0) G82
    else gFA G82 x71 6 1 fun v84 => gOb G82 v84 9 fun o86 => bA (f_AL_get G82 v84 (nI 1)) fun v89 G88 => gCaO G88 v89 9 (gOb G88 v89 9 fun o91 => bI (f_AL_size G88 v89) fun v94 G93 => if (nI 31) < v94 then rZ (nI 0) G93
      else rZ (nI 1) G93))) hI 6 zFu 0 G (by omega) (by unfold zFu; omega) h
  refine ⟨G2, ?_, a2, a3.mono (by omega) (by omega)⟩
  obtain ⟨om, oκ, ocap, of, o1, -⟩ := a2.2.2.2.1
  have gt : ∀ r1, r1 < 2 → f_AL_get G2 D.1.1 (nI r1) = rA (D.2.1 r1) G2 := fun r1 hr1 => al_get (x := D.2.1 r1) a2.2.2.2.1 (by rcases (by omega : r1 = 0 ∨ r1 = 1) with rfl | rfl <;> rfl)
  have row : ∀ r1, r1 < 2 → (∃ fs, G2.2.2 (D.2.1 r1) = some (.inr (9, fs))) ∧ f_AL_size G2 (D.2.1 r1) = rI (nI (A.1 r1).length) G2 := fun r1 hr1 => by
    obtain ⟨qm, qκ, qcap, qf, q1, -⟩ := a2.2.2.2.2.1 r1 hr1
    exact ⟨⟨_, q1⟩, by rw [al_size (a2.2.2.2.2.1 r1 hr1), List.length_map]⟩
  obtain ⟨⟨fs0, q0⟩, z0⟩ := row 0 (by omega)
  obtain ⟨⟨fs1, q1⟩, z1⟩ := row 1 (by omega)
  have l0 := (hI.2.2.1 0 (by omega)).1
  have l1 := (hI.2.2.1 1 (by omega)).1
  have ca : ∀ (a : Nat) (fs : List Value) (k : gR), G2.2.2 a = some (.inr (9, fs)) → gCaO G2 a 9 k = k := fun a fs k hq => by unfold gCaO; rw [gOb_of hq rfl]
  unfold f_M_isWhole
  rw [a1, gFA_of a2.2.2.1 rfl rfl, gOb_of o1 rfl, gt 0 (by omega), bA_rA, ca _ _ _ q0, gOb_of q0 rfl, z0, bI_rI, if_neg (nI_nlt (by omega) (by omega)), gFA_of a2.2.2.1 rfl rfl, gOb_of o1 rfl, gt 1 (by omega), bA_rA, ca _ _ _ q1, gOb_of q1 rfl, z1, bI_rI, if_neg (nI_nlt (by omega) (by omega)), rZ_1]
theorem sim_isSound (hR : CRep σ A) (hI : mInv m A) : SimOp w b o A m σ H xI1 (f_X_isSound (cPut b σ H) b) (fun G => f_M_isSound w G o) := by
  have hX := CRepx.of (exc := -1) hR
  obtain ⟨f5, e5⟩ := x_areSound (b := b) (H := H) hX hI
  refine Sim.yes 1 (cArr σ 5 f5) ?_ (fun G D h => ?_)
  · unfold f_X_isSound
    rw [c_fa_0_0, c_ob_1, e5, bI_rI, rZ_1']
  · obtain ⟨h1, s1⟩ := h.set 0 (nI 0)
    have h1' : MS w o (gUp G o (.inr (6, mOb (mSet A 0 (nI 0)) D))) (mSet A 0 0) D := h1
    obtain ⟨G2, r2, h2, s2⟩ := s_isWhole h1' (hI.thr 0)
    refine ⟨_, D, G2, m, ?_, h2, (hX.thr 0).spare f5, hI.thr 0, Nat.le_succ m, rfl, (s1.trans s2).mono (by omega) (by omega)⟩
    unfold f_M_isSound
    rw [m_put (j := 0) (i := 0) h.2.2 (by omega) rfl, gOb_of h1'.2.2.1 rfl, r2, bI_rI, rZ_1']
end Whl
