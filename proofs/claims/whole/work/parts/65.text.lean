-- texts, both sides
section Txt
theorem sb_tos {G0 G : gH} {a e cap n : Nat} {w : Nat → Nat} (h : isSB G0 a e cap n G) (hn : n ≤ 280) : ∃ (q : Nat) (G' : gH), f_SB_toString w G a = rA q G' ∧ kStr G' q n ∧ gB G0.2.1 G0 G' ∧ gWf G' ∧ G0.2.1 ≤ G'.2.1 ∧ G'.2.1 ≤ G0.2.1 + 8 ∧ G0.1 ≤ G'.1 ∧ G'.1 ≤ G0.1 + 840 ∧ G0.2.1 ≤ q := by
  have hcap := h.2.2.2.2.2.2.2.2.le
  obtain ⟨h1, h2, h3, h4, h5, ⟨v2, h6⟩, ⟨g, h7, h7b⟩, h8, ⟨c, s, t1, t2, t3⟩⟩ := h
  have la := h2 _ _ h6
  have le := h2 _ _ h7
  have c1 : ∀ z, z < G.2.1 → (gNew G 4 (.inr (8, [.null, .int 0, .int 0, .int 0]))).2.2 z = G.2.2 z := fun z hz => gNew_ne (by omega)
  have n1 : (gNew G 4 (.inr (8, [.null, .int 0, .int 0, .int 0]))).2.2 G.2.1 = some (.inr (8, [.null, .int 0, .int 0, .int 0])) := gNew_at
  have w1 : gWf (gNew G 4 (.inr (8, [.null, .int 0, .int 0, .int 0]))) := h2.new
  have s1 : (gNew G 4 (.inr (8, [.null, .int 0, .int 0, .int 0]))).2.1 = G.2.1 + 1 ∧ (gNew G 4 (.inr (8, [.null, .int 0, .int 0, .int 0]))).1 = G.1 + 4 := ⟨rfl, rfl⟩
  generalize hG1 : gNew G 4 (.inr (8, [.null, .int 0, .int 0, .int 0])) = G1 at c1 n1 w1 s1
  have a1 := (c1 a la).trans h6
  have e1 := (c1 e le).trans h7
  have c2 : ∀ z, z < G.2.1 → (gUp G1 G.2.1 (.inr (8, [.null, .int (nI 0), .int 0, .int 0]))).2.2 z = G.2.2 z := fun z hz => by rw [gUp_ne (by omega)]; exact c1 z hz
  have n2 : (gUp G1 G.2.1 (.inr (8, [.null, .int (nI 0), .int 0, .int 0]))).2.2 G.2.1 = some (.inr (8, [.null, .int (nI 0), .int 0, .int 0])) := gUp_at
  have w2 : gWf (gUp G1 G.2.1 (.inr (8, [.null, .int (nI 0), .int 0, .int 0]))) := w1.up (by omega)
  have s2 : (gUp G1 G.2.1 (.inr (8, [.null, .int (nI 0), .int 0, .int 0]))).2.1 = G.2.1 + 1 ∧ (gUp G1 G.2.1 (.inr (8, [.null, .int (nI 0), .int 0, .int 0]))).1 = G.1 + 4 := s1
  generalize hG2 : gUp G1 G.2.1 (.inr (8, [.null, .int (nI 0), .int 0, .int 0])) = G2 at c2 n2 w2 s2
  have e2 := (c2 e le).trans h7
  -- the bytes of their own
  have cr : ∃ (G3 : gH) (g3 : Nat → Int32), f_AR_copyOfRange w G2 e (nI 0) (nI n) = rA G2.2.1 G3 ∧ (∀ z, z < G2.2.1 → G3.2.2 z = G2.2.2 z) ∧ G3.2.2 G2.2.1 = some (zI 101 n g3) ∧ (∀ i, i < n → fits .byte (.int (g3 i)) = true) ∧ gWf G3 ∧ G3.2.1 = G2.2.1 + 1 ∧ G3.1 = G2.1 + n := by
    unfold f_AR_copyOfRange
    rw [if_pos nI0, gLenK_of e2 rfl]
    by_cases hc : n = cap
    · have ar : (gNew G2 cap (zI 101 cap g)).2.2 G2.2.1 = some (zI 101 cap g) := gNew_at
      refine ⟨gNew G2 cap (zI 101 cap g), g, ?_, fun z hz => gNew_ne (by omega), by rw [hc]; exact ar, fun i hi => h7b i (by omega), w2.new, rfl, by rw [hc]; rfl⟩
      rw [if_pos (by rw [hc])]
      unfold gClB gArW
      rw [e2]
      simp only [zI]
      rw [if_pos trivial, if_pos (List.all_eq_true.mpr (fun i hi => h7b i (List.mem_range.mp hi)))]
      show gCaA (gNew G2 cap (zI 101 cap g)) G2.2.1 101 _ = _
      unfold gCaA gAr
      rw [ar]
      simp only [zI]
      rw [if_pos (by decide)]
    · have b1 : ∀ z, z < G2.2.1 → (gNew G2 n (zI 101 n (fun _ => 0))).2.2 z = G2.2.2 z := fun z hz => gNew_ne (by omega)
      have b2 : (gNew G2 n (zI 101 n (fun _ => 0))).2.2 G2.2.1 = some (zI 101 n (fun _ => 0)) := gNew_at
      have b3 : gWf (gNew G2 n (zI 101 n (fun _ => 0))) := w2.new
      have b4 : (gNew G2 n (zI 101 n (fun _ => 0))).2.1 = G2.2.1 + 1 ∧ (gNew G2 n (zI 101 n (fun _ => 0))).1 = G2.1 + n := ⟨rfl, rfl⟩
      have b5 : ∀ k : Nat → gH → gR, gNewA G2 101 (nI n) k = k G2.2.1 (gNew G2 n (zI 101 n (fun _ => 0))) := fun k => gNewB_of (by omega)
      generalize gNew G2 n (zI 101 n (fun _ => 0)) = G3 at b1 b2 b3 b4 b5
      have e3 := (b1 e (by omega)).trans e2
      refine ⟨gUp G3 G2.2.1 (zI 101 n (va_cpy g (fun _ => 0) 0 0 n)), _, ?_, fun z hz => by rw [gUp_ne (by omega)]; exact b1 z hz, gUp_at, cpy_fits (fun i hi => by rw [Nat.zero_add]; exact h7b i (by omega)) (fun _ _ => fits0), b3.up (by omega), b4.1, b4.2⟩
      have z0 : ∀ m : Nat, nI m - nI 0 = nI m := fun m => by rw [nI_sub (by omega), Nat.sub_zero]
      rw [if_neg (fun q => hc (nI_eq31 (by omega) (by omega) q))]
      unfold f_AR_copyOfRangeByte f_AR_checkLength
      rw [if_pos (nI_le (by omega) (by omega)), bV_rV, z0, b5, gLenK_of e3 rfl, z0, if_pos (nI_lt (by omega) (by omega)), gCpB_of e3 rfl b2 (by omega) (by omega) (by omega) (by omega) (fun i hi => by rw [Nat.zero_add]; exact h7b i (by omega)), bA_rA]
  obtain ⟨G3, g3, d1, d2, d3, d4, d5, d6, d7⟩ := cr
  have n3 : G3.2.2 G.2.1 = some (.inr (8, [.null, .int (nI 0), .int 0, .int 0])) := (d2 _ (by omega)).trans n2
  refine ⟨G.2.1, gUp G3 G.2.1 (.inr (8, [.ref G2.2.1, .int (nI 0), .int 0, .int 0])), ?_, ⟨8, G2.2.1, 101, _, g3, gUp_at, rfl, rfl, rfl, ?_, rfl, d4⟩, fun z hz => ?_, d5.up (by omega), ?_, ?_, ?_, ?_, by omega⟩
  · have isl : f_AB_isLatin1 w G1 a = rI 1 G1 := by
      unfold f_AB_isLatin1
      rw [if_neg (by decide), gFI_of a1 rfl rfl, if_pos rfl, rZ_1]
    unfold f_SB_toString gNewO f_ST_init2 f_ST_init1 f_AB_getValue f_SB_length f_AB_length
    dsimp only
    rw [hG1, gOb_of a1 rfl, gFA_of a1 rfl rfl, bA_rA, gOb_of a1 rfl, gOb_of a1 rfl, gFI_of a1 rfl rfl, bI_rI, bI_rI, gOb_of a1 rfl, isl, bI_rI, if_neg (by decide), gPut_of n1 (show 1 < 4 by decide)]
    rw [show ([.null, .int 0, .int 0, .int 0] : List Value).set 1 (.int (nI 0)) = [.null, .int (nI 0), .int 0, .int 0] from rfl, hG2, d1, bA_rA, gPut_of n3 (show 0 < 4 by decide), bV_rV, bV_rV]
    rfl
  · rw [gUp_ne (by omega)]; exact d3
  · rw [gUp_ne (by omega), d2 z (by omega), c2 z (by omega)]; exact h1 z hz
  · show G0.2.1 ≤ G3.2.1; omega
  · show G3.2.1 ≤ _; omega
  · show G0.1 ≤ G3.1; omega
  · show G3.1 ≤ _; omega
/-- the old cells that texts need -/
def mWs (w : Nat → Nat) (G : gH) : Prop := (∃ g, G.2.2 (w 1) = some (zI 1101 100 g)) ∧ (∃ g, G.2.2 (w 2) = some (zI 1101 100 g)) ∧ kStr G (w 3) 1 ∧ kStr G (w 5) 0 ∧ kStr G (w 7) 1
def txL : List (Nat × Nat × Nat) → Nat
  | [] => 0
  | t :: ts => dg t.2.1 + 1 + dg t.2.2 + txL ts
def kTx (l : List (Nat × Nat × Nat)) : Nat := if l.length = 0 then 1 else txL l + (l.length - 1)
theorem txL_le : ∀ l : List (Nat × Nat × Nat), txL l ≤ 7 * l.length
  | [] => Nat.le_refl _
  | t :: ts => by
    have := txL_le ts
    have := dg_le t.2.1
    have := dg_le t.2.2
    show dg t.2.1 + 1 + dg t.2.2 + txL ts ≤ 7 * (ts.length + 1)
    omega
variable {w : Nat → Nat} {b o m : Nat} {A : mS} {σ : cS} {H : gH} {p r s : Nat}
theorem m_txtL {K : gH → Nat → Int32 → Nat → gR} {G0 : gH} {D : mD} {a : Nat} (h : MS w o G0 A D) (hs : mWs w G0) (hI : mInv m A) (hv : mV A p) (hr : mRw A.2.1 zDp p = some (r, s)) : ∀ (l : List (Nat × Nat × Nat)) (f j n e cap : Nat) (G : gH), (sSeg A r s (mLen A p)).drop j = l → j ≤ mLen A p → l.length < f → isSB G0 a e cap n G → n ≤ 8 * j →
    ∃ (e' cap' : Nat) (G' : gH), f_M_textOf_L10 w K f G o (nI p) a (nI j) = K G' o (nI p) a ∧ isSB G0 a e' cap' (n + txL l + (if j = 0 then l.length - 1 else l.length)) G'
  | _, 0, _, _, _, _, _, _, _, h, _, _ => absurd h (Nat.not_lt_zero _)
  | [], f + 1, j, n, e, cap, G, hd, hj, _, hb, _ => by
    have hM := h.gB hb.1 hb.2.1
    have hsl : (sSeg A r s (mLen A p)).length = mLen A p := sSeg_len (hI.2.1.rw _ _ _ _ hr)
    have := dr_nil hd
    have hl31 := hI.l31 hv
    refine ⟨e, cap, G, ?_, ?_⟩
    · unfold f_M_textOf_L10
      rw [gOb_of hM.2.2.1 rfl, s_len hM hI.1 hv, bI_rI, if_pos (nI_le (by omega) (by omega))]
    · have e1 : n + txL [] + (if j = 0 then ([] : List (Nat × Nat × Nat)).length - 1 else ([] : List (Nat × Nat × Nat)).length) = n := by
        show n + 0 + (if j = 0 then 0 - 1 else 0) = n
        split <;> rfl
      rw [e1]; exact hb
  | t :: l, f + 1, j, n, e, cap, G, hd, hj, hf, hb, hn => by
    obtain ⟨⟨g1, w1⟩, ⟨g2, w2⟩, w3, w5, -⟩ := id hs
    have hM := h.gB hb.1 hb.2.1
    have hr2 := mRw_lt _ _ _ _ hr
    have hfit := hI.2.1.rw _ _ _ _ hr
    have h31 := (hI.2.2.1 r hr2).1
    have hsl : (sSeg A r s (mLen A p)).length = mLen A p := sSeg_len hfit
    have hl31 := hI.l31 hv
    obtain ⟨e1, e2, e3⟩ := dr_cons hd
    have ok := seg_ok (hI.2.2.1 r hr2).2 hI.2.2.2.2.2 e1
    have ht := e1
    rw [sSeg_at (by omega)] at ht
    have dk := dg_le t.2.1
    have dt := dg_le t.2.2
    have rd : ∀ (G : gH), MS w o G A D → f_M_at G o (nI p) (nI j) = rA t.1 G := fun G hM => s_at hM hI.1 hv hr ht
    -- the sign between two, then key, point and tag
    have go : ∀ (q n0 : Nat), kStr G0 q n0 → n0 ≤ 1 → ∃ (G1 G2 G3 G4 : gH) (e4 cap4 : Nat), f_SB_append3 w G a q = rA a G1 ∧ (MS w o G1 A D ∧ ∃ fs, ∀ k : List Value → gR, gOb G1 a 10 k = k fs) ∧ f_SB_append2 w G1 a (nI t.2.1) = rA a G2 ∧ (MS w o G2 A D ∧ ∃ fs, ∀ k : List Value → gR, gOb G2 a 10 k = k fs) ∧ f_SB_append1 w G2 a (nI 46) = rA a G3 ∧ (MS w o G3 A D ∧ ∃ fs, ∀ k : List Value → gR, gOb G3 a 10 k = k fs) ∧ f_SB_append2 w G3 a (nI t.2.2) = rA a G4 ∧ isSB G0 a e4 cap4 (n + n0 + dg t.2.1 + 1 + dg t.2.2) G4 := fun q n0 hq h1 => by
      obtain ⟨x1, y1, G1, r1, i1⟩ := sb_str (w := w) hb h.1 hq (by omega) (by omega)
      obtain ⟨x2, y2, G2, r2, i2⟩ := sb_int (k := t.2.1) i1 h.1 w1 w2 (by omega) (by omega)
      obtain ⟨x3, y3, G3, r3, i3⟩ := sb_chr (w := w) (c := 46) i2 (by omega) (by omega)
      obtain ⟨x4, y4, G4, r4, i4⟩ := sb_int (k := t.2.2) i3 h.1 w1 w2 (by omega) (by omega)
      exact ⟨G1, G2, G3, G4, x4, y4, r1, ⟨h.gB i1.1 i1.2.1, i1.fld.2.2.2.1⟩, r2, ⟨h.gB i2.1 i2.2.1, i2.fld.2.2.2.1⟩, r3, ⟨h.gB i3.1 i3.2.1, i3.fld.2.2.2.1⟩, r4, i4⟩
    obtain ⟨fs, fo⟩ := hb.fld.2.2.2.1
    by_cases h0 : j = 0
    · obtain ⟨G1, G2, G3, G4, e4, cap4, r1, ⟨m1, f1, o1⟩, r2, ⟨m2, f2, o2⟩, r3, ⟨m3, f3, o3⟩, r4, i4⟩ := go (w 5) 0 w5 (by omega)
      obtain ⟨e5, cap5, G5, r5, i5⟩ := m_txtL (K := K) h hs hI hv hr l f (j + 1) _ e4 cap4 G4 e2 (by omega) (by simp at hf; omega) i4 (by omega)
      refine ⟨e5, cap5, G5, ?_, ?_⟩
      · unfold f_M_textOf_L10
        rw [gOb_of hM.2.2.1 rfl, s_len hM hI.1 hv, bI_rI, if_neg (nI_ge (by omega) (by omega)), if_pos (by rw [h0]; exact nI0), fo, r1, bA_rA, gOb_of m1.2.2.1 rfl, rd G1 m1, bA_rA, (s_th m1 hr2 ht).key, o1, r2, bA_rA, o2, r3, bA_rA, gOb_of m3.2.2.1 rfl, rd G3 m3, bA_rA, (s_th m3 hr2 ht).tag, o3, r4, bA_rA, nI_add, r5]
      · have e6 : n + txL (t :: l) + (if j = 0 then (t :: l).length - 1 else (t :: l).length) = n + 0 + dg t.2.1 + 1 + dg t.2.2 + txL l + (if j + 1 = 0 then l.length - 1 else l.length) := by
          rw [if_pos h0, if_neg (by omega)]
          show n + (dg t.2.1 + 1 + dg t.2.2 + txL l) + (l.length + 1 - 1) = _
          omega
        rw [e6]; exact i5
    · obtain ⟨G1, G2, G3, G4, e4, cap4, r1, ⟨m1, f1, o1⟩, r2, ⟨m2, f2, o2⟩, r3, ⟨m3, f3, o3⟩, r4, i4⟩ := go (w 3) 1 w3 (by omega)
      obtain ⟨e5, cap5, G5, r5, i5⟩ := m_txtL (K := K) h hs hI hv hr l f (j + 1) _ e4 cap4 G4 e2 (by omega) (by simp at hf; omega) i4 (by omega)
      refine ⟨e5, cap5, G5, ?_, ?_⟩
      · unfold f_M_textOf_L10
        rw [gOb_of hM.2.2.1 rfl, s_len hM hI.1 hv, bI_rI, if_neg (nI_ge (by omega) (by omega)), if_neg (nI_ne0 (by omega) (by omega)), fo, r1, bA_rA, gOb_of m1.2.2.1 rfl, rd G1 m1, bA_rA, (s_th m1 hr2 ht).key, o1, r2, bA_rA, o2, r3, bA_rA, gOb_of m3.2.2.1 rfl, rd G3 m3, bA_rA, (s_th m3 hr2 ht).tag, o3, r4, bA_rA, nI_add, r5]
      · have e6 : n + txL (t :: l) + (if j = 0 then (t :: l).length - 1 else (t :: l).length) = n + 1 + dg t.2.1 + 1 + dg t.2.2 + txL l + (if j + 1 = 0 then l.length - 1 else l.length) := by
          rw [if_neg h0, if_neg (by omega)]
          show n + (dg t.2.1 + 1 + dg t.2.2 + txL l) + (l.length + 1) = _
          omega
        rw [e6]; exact i5
theorem s_textOf {G : gH} {D : mD} (h : MS w o G A D) (hs : mWs w G) (hI : mInv m A) (hv : mV A p) (hr : mRw A.2.1 zDp p = some (r, s)) :
    ∃ (q : Nat) (G' : gH), f_M_textOf w G o (nI p) = rA q G' ∧ kStr G' q (kTx (sSeg A r s (mLen A p))) ∧ MS w o G' A D ∧ mSt 8 840 G G' := by
  have hl31 := hI.l31 hv
  have hsl : (sSeg A r s (mLen A p)).length = mLen A p := sSeg_len (hI.2.1.rw _ _ _ _ hr)
  have htx := txL_le (sSeg A r s (mLen A p))
  obtain ⟨G1, n1, i1⟩ := sb_new (w := w) h.1
  obtain ⟨e2, cap2, G2, r2, i2⟩ := m_txtL (K := fun G79 x76 x77 x78 => gOb G79 x76 6 fun o81 => bI (f_M_length G79 x76 x77) fun v84 G83 => if v84 = 0 then rA (w 7) G83
    else gOb G83 x78 10 fun o86 => bA (f_SB_toString w G83 x78) fun v89 G88 => rA v89 G88) h hs hI hv hr _ zFu 0 0 _ _ G1 (List.drop_zero ..) (Nat.zero_le _) (by rw [hsl]; unfold zFu; omega) i1 (Nat.zero_le _)
  have hM := h.gB i2.1 i2.2.1
  by_cases h0 : mLen A p = 0
  · have c := i2.2.2.2.2.2.2.2.2
    refine ⟨w 7, G2, ?_, ?_, hM, ?_⟩
    · unfold f_M_textOf
      rw [n1 (fun q1 G4 => f_M_textOf_L10 w _ zFu G4 o (nI p) q1 (nI 0)), r2, gOb_of hM.2.2.1 rfl, s_len hM hI.1 hv, bI_rI, if_pos (by rw [h0]; exact nI0)]
    · unfold kTx
      rw [if_pos (by rw [hsl]; exact h0)]
      exact hs.2.2.2.2.gB h.1 i2.1
    · obtain ⟨c, s, t1, t2, t3⟩ := c
      exact mSt.gB h.1 i2.1 i2.2.1 (by omega) (by omega) (by omega) (by omega)
  · rw [if_pos rfl, Nat.zero_add] at i2
    obtain ⟨q, G3, r3, k3, b3, w3, z1, z2, z3, z4, -⟩ := sb_tos (w := w) i2 (by omega)
    obtain ⟨fs, fo⟩ := i2.fld.2.2.2.1
    refine ⟨q, G3, ?_, ?_, h.gB b3 w3, mSt.gB h.1 b3 w3 (by omega) (by omega) (by omega) (by omega)⟩
    · unfold f_M_textOf
      rw [n1 (fun q1 G4 => f_M_textOf_L10 w _ zFu G4 o (nI p) q1 (nI 0)), r2, gOb_of hM.2.2.1 rfl, s_len hM hI.1 hv, bI_rI, if_neg (nI_ne0 (by omega) (by omega)), fo, r3, bA_rA]
    · unfold kTx
      rw [if_neg (by rw [hsl]; exact h0)]
      exact k3
theorem x_signs (hX : CRepx (-1) σ A) (hI : mInv m A) (hv : mV A p) (hr : mRw A.2.1 zDp p = some (r, s)) : f_X_countSigns (cPut b σ H) b (nI p) = rI (nI (kTx (sSeg A r s (mLen A p)))) (cPut b σ H) := by
  have hr2 := mRw_lt _ _ _ _ hr
  have hfit := hI.2.1.rw _ _ _ _ hr
  have hl31 := hI.l31 hv
  have hW := hI.w p
  have hsl : (sSeg A r s (mLen A p)).length = mLen A p := sSeg_len hfit
  have L : ∀ (l : List (Nat × Nat × Nat)) (n j c : Nat), (sSeg A r s (mLen A p)).drop j = l → j ≤ mLen A p → l.length < n → f_X_countSigns_L22 (fun G27 x26 => rI x26 G27) n (cPut b σ H) b (nI p) (nI (mLen A p)) (nI c) (nI j) = rI (nI (c + txL l)) (cPut b σ H) := by
    intro l
    induction l with
    | nil =>
      intro n j c hd hj hn
      cases n with
      | zero => omega
      | succ n =>
        have := dr_nil hd
        unfold f_X_countSigns_L22
        rw [if_pos (nI_le (by omega) (by omega))]; rfl
    | cons t l ih =>
      intro n j c hd hj hn
      cases n with
      | zero => omega
      | succ n =>
        obtain ⟨e1, e2, e3⟩ := dr_cons hd
        have ok := seg_ok (hI.2.2.1 r hr2).2 hI.2.2.2.2.2 e1
        have ht := e1
        rw [sSeg_at (by omega)] at ht
        have xt : f_I_thingAt (cPut b σ H) (b + 1) (nI p) (nI j) = rI (nI (32 * t.2.2 + t.2.1)) (cPut b σ H) := x_at hX hW hv hr ht
        unfold f_X_countSigns_L22
        rw [if_neg (nI_ge (by omega) (by omega)), c_fa_0_0, c_ob_1, xt, bI_rI, x_keyOf (by omega), bI_rI, x_digits (by omega), bI_rI, x_tagOf (by omega) (by omega), bI_rI, x_digits (by omega), bI_rI, nI_add, nI_add, nI_add, nI_add, ih n (j + 1) _ e2 (by omega) (by simp at hn; omega)]
        show rI (nI (c + (dg t.2.1 + 1 + dg t.2.2) + txL l)) _ = rI (nI (c + (dg t.2.1 + 1 + dg t.2.2 + txL l))) _
        rw [Nat.add_assoc]
  unfold f_X_countSigns kTx
  rw [c_fa_0_0, c_ob_1, x_len hX hI.1 hv, bI_rI, hsl]
  by_cases h0 : mLen A p = 0
  · rw [if_pos (by rw [h0]; exact nI0), if_pos h0]
  · rw [if_neg (nI_ne0 (by omega) (by omega)), if_neg h0, show nI (mLen A p) - nI 1 = nI (mLen A p - 1) from nI_sub (by omega), L _ zFu 0 _ (List.drop_zero ..) (Nat.zero_le _) (by rw [hsl]; unfold zFu; omega), Nat.add_comm]
/-- a heap in which the class lies -/
theorem cPut_self {G : gH} (h : ∀ j, j < 23 → G.2.2 (b + j) = cEnc b σ j) : cPut b σ G = G := by
  unfold cPut
  refine Prod.ext rfl (Prod.ext rfl ?_)
  funext q
  show (if b ≤ q ∧ q < b + 23 then cEnc b σ (q - b) else G.2.2 q) = G.2.2 q
  split
  · rename_i hq
    have := h (q - b) (by omega)
    rw [show b + (q - b) = q by omega] at this
    exact this.symm
  · rfl
theorem cPut_gB {G : gH} (hb : b + 23 ≤ H.2.1) (hB : gB H.2.1 (cPut b σ H) G) : cPut b σ G = G :=
  cPut_self (fun j hj => (hB (b + j) (by omega)).trans (cPut_at hj))
theorem x_text (hX : CRepx (-1) σ A) (hI : mInv m A) (hv : mV A p) (hr : mRw A.2.1 zDp p = some (r, s)) (hw : gWf (cPut b σ H)) (hs : mWs w (cPut b σ H)) (hb : b + 23 ≤ H.2.1) :
    ∃ (q : Nat) (G' : gH), f_X_text w (cPut b σ H) b (nI p) = rA q G' ∧ gB H.2.1 (cPut b σ H) G' ∧ gWf G' ∧ mSt 8 840 (cPut b σ H) G' := by
  have hr2 := mRw_lt _ _ _ _ hr
  have hfit := hI.2.1.rw _ _ _ _ hr
  have hl31 := hI.l31 hv
  have hW := hI.w p
  have hsl : (sSeg A r s (mLen A p)).length = mLen A p := sSeg_len hfit
  have htx := txL_le (sSeg A r s (mLen A p))
  obtain ⟨⟨g1, w1⟩, ⟨g2, w2⟩, -⟩ := hs
  have hL : mIsL A (nI p) := ⟨p, hv.lt hI.1, rfl, hv⟩
  have nl := x_needList (b := b) (G := H) hX hW hL
  have ln := x_len (b := b) (G := H) hX hI.1 hv
  by_cases h0 : mLen A p = 0
  · refine ⟨w 9, cPut b σ H, ?_, gB.refl, hw, mSt.refl.mono (by omega) (by omega)⟩
    unfold f_X_text
    rw [c_ob_0, nl, bV_rV, c_fa_0_0, c_ob_1, ln, bI_rI, if_pos (by rw [h0]; exact nI0)]
  · obtain ⟨G1, n1, i1⟩ := sb_new (w := w) hw
    generalize ha : (cPut b σ H).2.1 = a at n1 i1
    have L : ∀ (l : List (Nat × Nat × Nat)) (f j n e cap : Nat) (G : gH), (sSeg A r s (mLen A p)).drop j = l → j ≤ mLen A p → l.length < f → isSB (cPut b σ H) a e cap n G → n ≤ 8 * j →
        ∃ (e' cap' n' : Nat) (G' : gH), f_X_text_L32 w (fun G77 x76 => gOb G77 x76 10 fun o79 => bA (f_SB_toString w G77 x76) fun v82 G81 => rA v82 G81) f G b (nI p) (nI (mLen A p)) a (nI j) = (gOb G' a 10 fun o79 => bA (f_SB_toString w G' a) fun v82 G81 => rA v82 G81) ∧ isSB (cPut b σ H) a e' cap' n' G' ∧ n' ≤ 8 * 31 := by
      intro l
      induction l with
      | nil =>
        intro f j n e cap G hd hj hf hi hn
        cases f with
        | zero => omega
        | succ f =>
          have := dr_nil hd
          refine ⟨e, cap, n, G, ?_, hi, by omega⟩
          unfold f_X_text_L32
          rw [if_pos (nI_le (by omega) (by omega))]
      | cons t l ih =>
        intro f j n e cap G hd hj hf hi hn
        cases f with
        | zero => omega
        | succ f =>
          obtain ⟨e1, e2, e3⟩ := dr_cons hd
          have ok := seg_ok (hI.2.2.1 r hr2).2 hI.2.2.2.2.2 e1
          have ht := e1
          rw [sSeg_at (by omega)] at ht
          have dk := dg_le t.2.1
          have dt := dg_le t.2.2
          have cs : ∀ (G : gH) (e cap n : Nat), isSB (cPut b σ H) a e cap n G → (∀ K : Nat → gR, gFA G b 3 0 K = K (b + 1)) ∧ (∀ K : gR, gOb G (b + 1) 1 (fun _ => K) = K) ∧ f_I_thingAt G (b + 1) (nI p) (nI j) = rI (nI (32 * t.2.2 + t.2.1)) G := fun G e cap n hi => by
            have hc := cPut_gB hb hi.1
            refine ⟨fun K => ?_, fun K => ?_, ?_⟩
            · rw [← hc, c_fa_0_0]
            · rw [← hc, c_ob_1]
            · have xt : f_I_thingAt (cPut b σ G) (b + 1) (nI p) (nI j) = rI (nI (32 * t.2.2 + t.2.1)) (cPut b σ G) := x_at hX hW hv hr ht
              rw [hc] at xt
              exact xt
          have go : ∀ (G : gH) (e cap n : Nat), isSB (cPut b σ H) a e cap n G → n ≤ 8 * j + 1 → ∃ (G2 G3 G4 : gH) (e4 cap4 : Nat), f_SB_append2 w G a (nI t.2.1) = rA a G2 ∧ (∃ fs, ∀ k : List Value → gR, gOb G2 a 10 k = k fs) ∧ f_SB_append1 w G2 a (nI 46) = rA a G3 ∧ (∃ fs, ∀ k : List Value → gR, gOb G3 a 10 k = k fs) ∧ f_SB_append2 w G3 a (nI t.2.2) = rA a G4 ∧ isSB (cPut b σ H) a e4 cap4 (n + dg t.2.1 + 1 + dg t.2.2) G4 := fun G e cap n hi hn => by
            obtain ⟨x2, y2, G2, r2, i2⟩ := sb_int (k := t.2.1) hi hw w1 w2 (by omega) (by omega)
            obtain ⟨x3, y3, G3, r3, i3⟩ := sb_chr (w := w) (c := 46) i2 (by omega) (by omega)
            obtain ⟨x4, y4, G4, r4, i4⟩ := sb_int (k := t.2.2) i3 hw w1 w2 (by omega) (by omega)
            exact ⟨G2, G3, G4, x4, y4, r2, i2.fld.2.2.2.1, r3, i3.fld.2.2.2.1, r4, i4⟩
          obtain ⟨fs, fo⟩ := hi.fld.2.2.2.1
          by_cases hj0 : j = 0
          · obtain ⟨u1, u2, u3⟩ := cs G e cap n hi
            obtain ⟨G2, G3, G4, e4, cap4, r2, ⟨f2, o2⟩, r3, ⟨f3, o3⟩, r4, i4⟩ := go G e cap n hi (by omega)
            obtain ⟨e5, cap5, n5, G5, r5, i5, l5⟩ := ih f (j + 1) _ e4 cap4 G4 e2 (by omega) (by simp at hf; omega) i4 (by omega)
            refine ⟨e5, cap5, n5, G5, ?_, i5, l5⟩
            unfold f_X_text_L32
            rw [if_neg (nI_ge (by omega) (by omega)), if_pos (by rw [hj0]; decide), u1, u2, u3, bI_rI, x_keyOf (by omega), bI_rI, fo, r2, bA_rA, o2, r3, bA_rA, x_tagOf (by omega) (by omega), bI_rI, o3, r4, bA_rA, nI_add, r5]
          · obtain ⟨x1, y1, G1', r1, i1'⟩ := sb_chr (w := w) (c := 44) hi (by omega) (by omega)
            obtain ⟨u1, u2, u3⟩ := cs G1' _ _ _ i1'
            obtain ⟨fs1, fo1⟩ := i1'.fld.2.2.2.1
            obtain ⟨G2, G3, G4, e4, cap4, r2, ⟨f2, o2⟩, r3, ⟨f3, o3⟩, r4, i4⟩ := go G1' _ _ _ i1' (by omega)
            obtain ⟨e5, cap5, n5, G5, r5, i5, l5⟩ := ih f (j + 1) _ e4 cap4 G4 e2 (by omega) (by simp at hf; omega) i4 (by omega)
            refine ⟨e5, cap5, n5, G5, ?_, i5, l5⟩
            unfold f_X_text_L32
            rw [if_neg (nI_ge (by omega) (by omega)), if_neg (show ¬ nI j ≤ 0 from nI_ge (a := 0) (by omega) (by omega)), fo, r1, bA_rA, u1, u2, u3, bI_rI, x_keyOf (by omega), bI_rI, fo1, r2, bA_rA, o2, r3, bA_rA, x_tagOf (by omega) (by omega), bI_rI, o3, r4, bA_rA, nI_add, r5]
    obtain ⟨e5, cap5, n5, G5, r5, i5, l5⟩ := L _ zFu 0 0 _ _ G1 (List.drop_zero ..) (Nat.zero_le _) (by rw [hsl]; unfold zFu; omega) i1 (Nat.zero_le _)
    obtain ⟨q, G3, r3, k3, b3, w3, z1, z2, z3, z4, -⟩ := sb_tos (w := w) i5 (by omega)
    obtain ⟨fs, fo⟩ := i5.fld.2.2.2.1
    refine ⟨q, G3, ?_, b3, w3, mSt.gB hw b3 w3 z1 (by omega) z3 (by omega)⟩
    unfold f_X_text
    rw [c_ob_0, nl, bV_rV, c_fa_0_0, c_ob_1, ln, bI_rI, if_neg (nI_ne0 (by omega) (by omega)), n1 (fun q11 G14 => f_X_text_L32 w _ zFu G14 b (nI p) (nI (mLen A p)) q11 (nI 0)), r5, fo, r3, bA_rA]
end Txt
