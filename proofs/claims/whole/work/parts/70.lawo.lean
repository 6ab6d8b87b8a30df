/-! The law's other calls: text, digest, those called with no handler; its rules. -/
section LO
variable {w : Nat → Nat} {b o q bS Ln m : Nat} {xs : Nat → Int32} {G G' : zH} {σ σ' : cS} {A : mS} {D : mD}
theorem lJ.cls (hJ : lJ w b o q bS Ln xs m G) : ∃ fs, G.2 b = some (.inr (3, fs)) := by
  obtain ⟨⟨σ, A, D, hc, -⟩, -⟩ := hJ
  exact ⟨_, hc 0 (by decide)⟩
theorem lJ.mod (hJ : lJ w b o q bS Ln xs m G) : ∃ fs, G.2 o = some (.inr (6, fs)) := by
  obtain ⟨⟨σ, A, D, hc, hR, hI, hM⟩, -⟩ := hJ
  exact ⟨_, hM.2.2.1⟩
/-- called with no handler: it never refuses -/
theorem l_dir {E : Nat × (Nat → String)} {F : gH → gR} {R : gH → gR} (hJ : lJ w b o q bS Ln xs m G) (hS : ∀ (A : mS) (σ : cS), CRep σ A → mInv m A → SimOp w b o A m σ (0, G) E (F (cPut b σ (0, G))) R)
    (h0 : ∀ (A : mS) (σ : cS), CRep σ A → mInv m A → ∃ (a : Int32) (H : gH), F (cPut b σ (0, G)) = rI a H) :
    ∃ (a : Int32) (H1 : gH), F (0, G) = some (.inr (some (.int a)), H1) ∧ H1.1 ≤ 0 + 840 ∧ H1.2.1 ≤ G.1 + 8 ∧ (∃ fs, H1.2.2 o = some (.inr (6, fs))) ∧
      ∃ (Gf : gH) (m' : Nat), R (0, H1.2) = some (.inr (some (.int a)), Gf) ∧ Gf.1 ≤ 0 + 12000 ∧ Gf.2.1 ≤ H1.2.1 + 400 ∧ m' ≤ m + 1 ∧ lJ w b o q bS Ln xs m' Gf.2 := by
  obtain ⟨c, a, H1, fq, z1, z2, z3, z4, z5, z6, z7, z8⟩ := l_op hJ hS
  obtain ⟨⟨σ, A, D, hc, hR, hI, hM⟩, -⟩ := hJ
  obtain ⟨a9, H9, e9⟩ := h0 A σ hR hI
  rw [hc.put] at e9
  have hc0 : c = 0 := by
    by_cases k : c = 0
    · exact k
    · rw [oV_no k, e9] at z2
      cases z2
  subst hc0
  obtain ⟨y1, y2, Gf, m', y3, y4, y5, y6, y7, -, -⟩ := z8 H1.2 (Nat.le_refl _) (fun _ _ => rfl) ⟨fq, z6, z7⟩
  exact ⟨a, H1, z2, z3, z4, y1, Gf, m', y3, y4, y5, y6, y7⟩
theorem f_knock_no (hR : CRep σ A) {H : gH} : ∃ (a : Int32) (H' : gH), f_X_knock (cPut b σ H) b = rI a H' := ⟨_, _, (x_knock hR).1⟩
theorem f_sound_no (hR : CRep σ A) (hI : mInv m A) {H : gH} : ∃ (a : Int32) (H' : gH), f_X_isSound (cPut b σ H) b = rI a H' := by
  have hX := CRepx.of (exc := -1) hR
  obtain ⟨f5, e5⟩ := x_areSound (b := b) (H := H) hX hI
  refine ⟨1, cPut b (cArr σ 5 f5) H, ?_⟩
  unfold f_X_isSound
  rw [c_fa_0_0, c_ob_1, e5, bI_rI, rZ_1']
/-- the digests -/
theorem l_dig (hJ : lJ w b o q bS Ln xs m G) : ∃ (a : Int64) (H1 : gH), f_X_digest (0, G) b = some (.inr (some (.long a)), H1) ∧ H1.1 ≤ 0 + 840 ∧ H1.2.1 ≤ G.1 + 8 ∧ (∃ fs, H1.2.2 o = some (.inr (6, fs))) ∧
      ∃ (Gf : gH) (m' : Nat), f_M_digest w (0, H1.2) o = some (.inr (some (.long a)), Gf) ∧ Gf.1 ≤ 0 + 12000 ∧ Gf.2.1 ≤ H1.2.1 + 400 ∧ m' ≤ m + 1 ∧ lJ w b o q bS Ln xs m' Gf.2 := by
  obtain ⟨⟨σ, A, D, hc, hR, hI, hM⟩, hs, ho, hsc, ha⟩ := hJ
  have hX := CRepx.of (exc := -1) hR
  have hR0 : CRep σ (mSet A 0 0) := hX.thr 0
  obtain ⟨σ', e1, e2⟩ := x_digest (b := b) (H := (0, G)) hR0 (hI.thr 0)
  rw [hc.put] at e1
  obtain ⟨fq, hq1, hq2⟩ := ho
  have hwf : gWf (0, G) := hM.1
  have hqs : q < G.1 := hwf q _ hq1
  have hq' : (cPut b σ' (0, G)).2.2 q = some (.inr (7, fq)) := by
    show (if b ≤ q ∧ q < b + 23 then cEnc b σ' (q - b) else G.2 q) = _
    rw [if_neg (by omega)]
    exact hq1
  have hw' : gWf (0, (cPut b σ' (0, G)).2) := by
    intro x e hx
    show x < G.1
    by_cases hb : b ≤ x ∧ x < b + 23
    · omega
    · have : (if b ≤ x ∧ x < b + 23 then cEnc b σ' (x - b) else G.2 x) = some e := hx
      rw [if_neg hb] at this
      exact hwf x e this
  obtain ⟨c1, c2, c3, c4⟩ := l_cls (G' := (cPut b σ' (0, G)).2) (σ' := σ') hc hM hs hsc ⟨fq, hq1, hq2⟩ ha (Nat.le_refl _) hw' (fun z _ hzq => rfl)
  obtain ⟨Gf, r1, r2, r3⟩ := s_digest c2 c3 hI
  obtain ⟨d1, d2, d3, d4⟩ := l_ref c1 c2 c3 c4 ⟨fq, hq', hq2⟩ r3
  exact ⟨_, _, e1, Nat.zero_le _, Nat.le_add_right _ _, ⟨_, c2.2.2.1⟩, Gf, m, r1, r3.1.2.2.2.1, r3.1.2.1, Nat.le_succ m, ⟨σ', _, D, d1, e2, hI.thr 0, r2⟩, d2, d3, d4, ha⟩
theorem l_text (hJ : lJ w b o q bS Ln xs m G) (x : Int32) : ∃ (c a : Nat) (H1 : gH) (fq : List Value), c ≤ 1 ∧ f_X_text w (0, G) b x = oV xI1 c (.ref a) H1 ∧ H1.1 ≤ 0 + 840 ∧ H1.2.1 ≤ G.1 + 8 ∧ G.1 ≤ H1.2.1 ∧ H1.2.2 q = some (.inr (7, fq)) ∧ fq.length = 2 ∧
      ∀ (G' : zH), H1.2.1 ≤ G'.1 → (∀ z, z ≠ q → G'.2 z = H1.2.2 z) → lOut q G' → (∃ fs, G'.2 o = some (.inr (6, fs))) ∧ lScr bS Ln xs G' ∧
        ∃ (v : Nat) (Gf : gH) (m' : Nat), f_M_text w (0, G') o x = some (.inr (some (.ref v)), Gf) ∧ Gf.1 ≤ 0 + 12000 ∧ Gf.2.1 ≤ G'.1 + 400 ∧ m' ≤ m + 1 ∧ lJ w b o q bS Ln xs m' Gf.2 := by
  obtain ⟨⟨σ, A, D, hc, hR, hI, hM⟩, hs, ho, hsc, ha⟩ := hJ
  have hX := CRepx.of (exc := -1) hR
  obtain ⟨fq, hq1, hq2⟩ := ho
  have hwf : gWf (0, G) := hM.1
  have hqs : q < G.1 := hwf q _ hq1
  by_cases hx : mIsL A x
  · have hL := hx
    obtain ⟨p, hp, rfl, hv⟩ := hx
    have hv : mV A p := hv
    obtain ⟨r, s, hr, hr2, hfit, h31, hp6, hro⟩ := hI.pl hv
    obtain ⟨a, H1, e1, gb, hw1, st1⟩ := x_text (w := w) (b := b) (H := (0, G)) hX hI hv hr (by rw [hc.put]; exact hwf) (by rw [hc.put]; exact hs) (by show b + 23 ≤ G.1; omega)
    rw [hc.put] at e1 gb st1
    have hz1 : G.1 ≤ H1.2.1 := st1.1.1
    have hgb : ∀ z, z < G.1 → H1.2.2 z = G.2 z := fun z hz => gb z hz
    refine ⟨0, a, H1, fq, Nat.zero_le _, e1, st1.1.2.2.2.1, st1.1.2.1, hz1, (hgb q hqs).trans hq1, hq2, fun G' hz hk hout => ?_⟩
    have hw' : gWf (0, G') := by
      intro y e hy
      show y < G'.1
      by_cases hyq : y = q
      · omega
      · have hy' : G'.2 y = some e := hy
        rw [hk y hyq] at hy'
        exact Nat.lt_of_lt_of_le (hw1 y e hy') hz
    obtain ⟨c1, c2, c3, c4⟩ := l_cls (σ' := σ) hc hM hs hsc ⟨fq, hq1, hq2⟩ ha (Nat.le_trans hz1 hz) hw' (fun z hz9 hzq => by rw [hk z hzq, hgb z hz9, hc.put])
    obtain ⟨G2, r1, r2, r3⟩ := r_list1 c2 hL
    obtain ⟨d1, d2, d3, d4⟩ := l_ref c1 c2 c3 c4 hout r3
    have c3' : mWs w G2 := d2
    obtain ⟨v, Gf, t1, -, t2, t3⟩ := s_textOf r2 c3' (hI.thr 0) (A := mSet A 0 0) (p := p) hv hr
    have r4 := r3.trans t3
    obtain ⟨d1, d2, d3, d4⟩ := l_ref c1 c2 c3 c4 hout r4
    refine ⟨⟨_, c2.2.2.1⟩, c4, v, Gf, m, ?_, Nat.le_trans r4.1.2.2.2.1 (by show 0 + (0 + 840) ≤ _; omega), Nat.le_trans r4.1.2.1 (by show G'.1 + (0 + 8) ≤ _; omega), Nat.le_succ m, ⟨σ, mSet A 0 0, D, d1, hX.thr 0, hI.thr 0, t2⟩, d2, d3, d4, ha⟩
    unfold f_M_text
    rw [r1, gOb_of r2.2.2.1 rfl, t1]
    rfl
  · have hF : f_X_text w (0, G) b x = oV xI1 1 (.ref 0) (0, G) := by
      have : f_X_text w (cPut b σ (0, G)) b x = gThrow "java/lang/IndexOutOfBoundsException" (cPut b σ (0, G)) := by
        unfold f_X_text
        simp only [x_needList_no hX (hI.w 0) hx, c_ob_0, c_fa_0_0, c_fa_0_1, c_fi_0_2, c_put_0_2, c_fi_0_3, c_put_0_3, c_fi_0_4, c_put_0_4, c_ob_1, c_fa_1_0, c_fa_1_1, c_fa_1_2, c_fa_1_3, c_fa_1_4, c_fa_1_5, c_fi_1_6, c_put_1_6, c_ob_2, c_fa_2_0, c_ob_4, c_fa_4_0, c_ob_6, c_fa_6_0, c_ob_8, c_fa_8_0, c_ob_10, c_fa_10_0, c_ob_12, c_fa_12_0, c_ob_14, c_fa_14_0, c_fa_14_1, c_fa_14_2, c_fa_14_3, c_fi_14_4, c_put_14_4, c_ob_15, c_fa_15_0, c_ob_17, c_fa_17_0, c_ob_19, c_fa_19_0, c_ob_21, c_fa_21_0, c_len_0, c_ld_0, c_st_0, c_rd_0, c_wr_0, c_len_1, c_ld_1, c_st_1, c_rd_1, c_wr_1, c_len_2, c_ld_2, c_st_2, c_rd_2, c_wr_2, c_len_3, c_ld_3, c_st_3, c_rd_3, c_wr_3, c_len_4, c_ld_4, c_st_4, c_rd_4, c_wr_4, c_len_5, c_ld_5, c_st_5, c_rd_5, c_wr_5, c_len_6, c_ld_6, c_st_6, c_rd_6, c_wr_6, c_len_7, c_ld_7, c_st_7, c_rd_7, c_wr_7, c_len_8, c_ld_8, c_st_8, c_rd_8, c_wr_8, c_len_9, c_ld_9, c_st_9, c_rd_9, c_wr_9, bI_rI, bL_rL, bA_rA, bV_rV, bI_th, bL_th, bA_th, bV_th, rZ_0, rZ_1]
        try rfl
      rw [hc.put] at this
      exact this
    refine ⟨1, 0, (0, G), fq, Nat.le_refl _, hF, Nat.zero_le _, Nat.le_add_right _ _, Nat.le_refl _, hq1, hq2, fun G' hz hk hout => ?_⟩
    have hw' : gWf (0, G') := by
      intro y e hy
      show y < G'.1
      have hz' : G.1 ≤ G'.1 := hz
      by_cases hyq : y = q
      · omega
      · have hy' : G'.2 y = some e := hy
        rw [hk y hyq] at hy'
        exact Nat.lt_of_lt_of_le (hwf y e hy') hz
    obtain ⟨c1, c2, c3, c4⟩ := l_cls (σ' := σ) hc hM hs hsc ⟨fq, hq1, hq2⟩ ha hz hw' (fun z hz9 hzq => by rw [hk z hzq, hc.put])
    obtain ⟨G2, r1, r2, r3⟩ := r_list0 c2 hx
    obtain ⟨d1, d2, d3, d4⟩ := l_ref c1 c2 c3 c4 hout r3
    refine ⟨⟨_, c2.2.2.1⟩, c4, w 5, G2, m, ?_, Nat.le_trans r3.1.2.2.2.1 (Nat.zero_le _), Nat.le_trans r3.1.2.1 (by show G'.1 + 0 ≤ _; omega), Nat.le_succ m, ⟨σ, _, D, d1, hX.thr 1, hI.thr 1, r2⟩, d2, d3, d4, ha⟩
    unfold f_M_text
    rw [r1]
    rfl
end LO
section LZ
variable {l : Launch} {D : va_G} {B : Nat} {O : State → Heap → Prop} {M : zM} {fr : Nat} {Q : Option Value → zH → Prop} {QX : String → zH → Prop} {mc ms pc : Nat} {L : zLs} {st : List Value} {G : zH}
theorem Z.lawX {y : zM} {hh : zHh} {n fr9 idx q c k : Nat} {As : List Value} {v2 : Value} {H1 : gH} (hV : zOk (zVm l D B O)) (hy : zMeh (zVm l D B O) y hh fr9 9 846 As G (wQ q c k v2 H1) (fun _ _ => False)) (hc : zCbh y hh n) (hlk : Cond.methodLink M.1.cls idx y.1 ∈ zT) (hst : Cond.static y.1 ∈ zT) (hd : decode M.2.1 pc = .ok (.invokestatic idx, 3)) (hn : As.length = n) (hLl : L.length = M.2.2.1) (hcat : (st.map fun v => v.category).sum ≤ 8) (hf9 : fr9 + 1 ≤ fr)
    (kk : ∀ G' : zH, wQ q c k v2 H1 (some (.int (nI c))) G' → Z (zVm l D B O) M fr Q QX mc ms (pc + 3) L (.int (nI c) :: st) G') : Z (zVm l D B O) M fr Q QX (mc + 9) (ms + 846) pc L (As.reverse ++ st) G := by
  refine Z.callH hV hy hc hlk hst hd hn hLl hcat hf9 (fun _ _ h => h.elim) (fun v G' hq => ?_)
  obtain ⟨rfl, h2⟩ := hq
  exact kk G' ⟨rfl, h2⟩
theorem wQ.out {q c k : Nat} {v2 : Value} {H1 : gH} {v : Option Value} {G' : zH} (h : wQ q c k v2 H1 v G') : lOut q G' := by
  obtain ⟨-, -, -, fs, h1, h2, -⟩ := h
  exact ⟨fs, h1, h2⟩
theorem Z.lawM {y : zM} {n fr9 idx o c0 ci kc ks : Nat} {As : List Value} {fs : List Value} {rc : vw_C} {r : gR} {v : Value} {Gf : gH} (hV : zOk (zVm l D B O)) (hg : gMet (zVm l D B O) y fr9 (.ref o :: As) (0, G) r) (hr : r = some (.inr (some v), Gf)) (h1 : Gf.1 ≤ 0 + ks) (h2 : Gf.2.1 ≤ G.1 + kc) (hc : zCb y n) (hlk : Cond.methodLink M.1.cls idx y.1 ∈ zT) (hin : Cond.instanceMethod y.1 ∈ zT) (hrc : zCl[ci]? = some rc) (hsl : Cond.selects rc.1 y.1 y.1 ∈ zT) (hG : G.2 o = some (.inr (c0, fs))) (hcm : c0 % 1000 = ci) (hd : decode M.2.1 pc = .ok (.invokevirtual idx, 3)) (hn : As.length = n) (hLl : L.length = M.2.2.1) (hcat : (st.map fun v => v.category).sum ≤ 8) (hf9 : fr9 + 1 ≤ fr)
    (kk : Z (zVm l D B O) M fr Q QX mc ms (pc + 3) L (v :: st) Gf.2) : Z (zVm l D B O) M fr Q QX (mc + kc) (ms + ks) pc L (As.reverse ++ .ref o :: st) G := by
  obtain ⟨⟨g1, g2⟩, g3⟩ := hg _ _ hr
  dsimp only at g1 g2 g3
  refine Z.room (mc' := mc + (Gf.2.1 - G.1)) (ms' := ms + (Gf.1 - 0)) (Nat.le_refl _) (by omega) (by omega) ?_
  refine Z.callV hV g3 hc hlk hin hrc hsl hG hcm hd hn hLl hcat hf9 (fun E' G' hq => absurd hq.1 (by simp)) (fun v9 G' hq => ?_)
  obtain ⟨e1, e2⟩ := hq
  obtain rfl := Sum.inr.inj e1
  rw [e2]
  exact kk
/-- the script -/
def zSc (O : State → Heap → Prop) (B bS Ln : Nat) (xs : Nat → Int32) : Prop := (∀ (U : State) (H : Heap), O U H → va_X bS Ln xs U H) ∧ bS < B
theorem Z.sald {bS Ln : Nat} {xs : Nat → Int32} {i : Int32} (hX : zSc O B bS Ln xs) (hin : vp_in i Ln) (hd : decode M.2.1 pc = .ok (.iaload, 1)) (k : Z (zVm l D B O) M fr Q QX mc ms (pc + 1) L (.int (xs i.toNatClampNeg) :: st) G) : Z (zVm l D B O) M fr Q QX mc ms pc L (.int i :: .ref bS :: st) G := by
  intro p e R s m args below meth c H locs cells slots CT ST ls C h1 h2 h3 h4 h5 h6 hS hR hl
  exact va_sld C.1 C.2.1 (hX.1 _ _ C.2.2.2.2.2.2.2.2.2.1) (Nat.lt_of_lt_of_le hX.2 C.2.2.2.2.2.2.2.2.2.2.1) (Nat.not_le.mpr hX.2) hS hin hd (k p e R s m args below meth c H locs cells slots CT ST ls C h1 h2 h3 h4 h5 h6 hS hR hl)
theorem Z.slen {bS Ln : Nat} {xs : Nat → Int32} (hX : zSc O B bS Ln xs) (hd : decode M.2.1 pc = .ok (.arraylength, 1)) (k : Z (zVm l D B O) M fr Q QX mc ms (pc + 1) L (.int (nI Ln) :: st) G) : Z (zVm l D B O) M fr Q QX mc ms pc L (.ref bS :: st) G := by
  intro p e R s m args below meth c H locs cells slots CT ST ls C h1 h2 h3 h4 h5 h6 hS hR hl
  exact va_slen C.1 C.2.1 (hX.1 _ _ C.2.2.2.2.2.2.2.2.2.1) (Nat.lt_of_lt_of_le hX.2 C.2.2.2.2.2.2.2.2.2.2.1) (Nat.not_le.mpr hX.2) hS hd (k p e R s m args below meth c H locs cells slots CT ST ls C h1 h2 h3 h4 h5 h6 hS hR hl)
end LZ
