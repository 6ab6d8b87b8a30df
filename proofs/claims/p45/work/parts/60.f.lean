section
-- house
section House
variable {w : Nat → Nat} {b o m : Nat} {A : mS} {σ : cS} {H : gH}
def kPt (A : mS) (q : Nat) : Bool := (A.2.1 q).isSome
def kCu (A : mS) (c : Nat) : Bool := (A.2.2.1 c).isSome
def kSt (A : mS) (c : Nat) : Bool := match A.2.2.1 c with
  | none => false
  | some x => !decide (x.2.2.2 = 0)
def kHo (A : mS) (i : Nat) : Int32 := if i = 0 then A.2.2.2 1 else if i = 1 then nI (eCt (kPt A) 2 4) else if i = 2 then nI (eCt (kCu A) 0 3) else if i = 3 then nI (eCt (kSt A) 0 3) else if i = 4 then A.2.2.2 2 else if i = 5 then A.2.2.2 3 else if i = 6 then A.2.2.2 4 else A.2.2.2 5
theorem x_partsL (hX : CRepx (-1) σ A) (hI : mInv m A) {K : gH → Int32 → gR} : ∀ (d n j c : Nat), 2 ≤ j → j + d = 6 → d < n → f_I_countParts_L4 K n (cPut b σ H) (b + 1) (nI c) (nI j) = K (cPut b σ H) (nI (c + eCt (kPt A) j d))
  | _, 0, _, _, _, _, h => absurd h (Nat.not_lt_zero _)
  | 0, n + 1, j, c, _, hj, _ => by
    unfold f_I_countParts_L4
    rw [if_pos (nI_le (by omega) (by omega))]; rfl
  | d + 1, n + 1, j, c, h2, hj, hn => by
    have hth : f_I_isThere (cPut b σ H) (b + 1) (nI j) = rI (mB (kPt A j)) (cPut b σ H) := by
      refine y_isThere ⟨fun z => ?_, fun z => ?_⟩
      · have hn := (CRepx.there hX (hI.w 0)).mp z
        unfold kPt
        cases hx : A.2.1 j with
        | none => rfl
        | some x => exact absurd ⟨j, by omega, rfl, Or.inr (by rw [hx]; exact Option.some_ne_none _)⟩ hn
      · refine (CRepx.there hX (hI.w 0)).mpr (fun ⟨q, hq, e, hz⟩ => ?_)
        cases nI_eq31 (by omega) (by omega) e
        rcases hz with hz | hz
        · omega
        · unfold kPt at z
          cases hx : A.2.1 j with
          | none => exact hz hx
          | some x => rw [hx] at z; cases z
    unfold f_I_countParts_L4 eCt
    rw [if_neg (nI_ge (by omega) (by omega)), c_ob_1, hth, bI_rI, mB_if, nI_add, nI_add]
    cases kPt A j
    · rw [if_neg (by decide), x_partsL hX hI d n (j + 1) c (by omega) (by omega) (by omega)]; simp
    · rw [if_pos rfl, x_partsL hX hI d n (j + 1) (c + 1) (by omega) (by omega) (by omega)]; simp [Nat.add_assoc]
theorem x_thereL (hR : CRep σ A) {K : gH → Int32 → gR} : ∀ (d n j c : Nat), j + d = 3 → d < n → f_U_countThere_L4 K n (cPut b σ H) (b + 14) (nI c) (nI j) = K (cPut b σ H) (nI (c + eCt (kCu A) j d))
  | _, 0, _, _, _, h => absurd h (Nat.not_lt_zero _)
  | 0, n + 1, j, c, hj, _ => by
    unfold f_U_countThere_L4
    rw [if_pos (nI_le (by omega) (by omega))]; rfl
  | d + 1, n + 1, j, c, hj, hn => by
    have hth : f_U_isThere (cPut b σ H) (b + 14) (nI j) = rI (mB (kCu A j)) (cPut b σ H) := by
      haveI := Classical.propDecidable (mIsC A (nI j))
      rw [x_cThere hR]
      unfold kCu
      cases hx : A.2.2.1 j with
      | none => rw [decide_eq_false (fun ⟨c', h3, e, hz⟩ => hz (by rw [← nI_eq31 (by omega) (by omega) e]; exact hx))]; rfl
      | some x => rw [decide_eq_true ⟨j, by omega, rfl, by rw [hx]; exact Option.some_ne_none _⟩]; rfl
    unfold f_U_countThere_L4 eCt
    rw [if_neg (nI_ge (by omega) (by omega)), c_ob_14, hth, bI_rI, mB_if, nI_add, nI_add]
    cases kCu A j
    · rw [if_neg (by decide), x_thereL hR d n (j + 1) c (by omega) (by omega)]; simp
    · rw [if_pos rfl, x_thereL hR d n (j + 1) (c + 1) (by omega) (by omega)]; simp [Nat.add_assoc]
theorem x_staleL (hR : CRep σ A) {K : gH → Int32 → gR} : ∀ (d n j c : Nat), j + d = 3 → d < n → f_U_countStale_L4 K n (cPut b σ H) (b + 14) (nI c) (nI j) = K (cPut b σ H) (nI (c + eCt (kSt A) j d))
  | _, 0, _, _, _, h => absurd h (Nat.not_lt_zero _)
  | 0, n + 1, j, c, hj, _ => by
    unfold f_U_countStale_L4
    rw [if_pos (nI_le (by omega) (by omega))]; rfl
  | d + 1, n + 1, j, c, hj, hn => by
    have hth : f_U_isStale (cPut b σ H) (b + 14) (nI j) = rI (mB (kSt A j)) (cPut b σ H) := by
      unfold kSt
      cases hx : A.2.2.1 j with
      | none =>
        rw [y_isStale, rd_nI (by omega) (by omega), (CRepx.of (exc := -1) hR).nocur (by omega) hx, decide_eq_false (by decide)]
      | some x =>
        rw [x_isStale hR (by omega) hx]
        by_cases hs : x.2.2.2 = 0
        · simp [hs]
        · simp [hs]
    unfold f_U_countStale_L4 eCt
    rw [if_neg (nI_ge (by omega) (by omega)), c_ob_14, hth, bI_rI, mB_if, nI_add, nI_add]
    cases kSt A j
    · rw [if_neg (by decide), x_staleL hR d n (j + 1) c (by omega) (by omega)]; simp
    · rw [if_pos rfl, x_staleL hR d n (j + 1) (c + 1) (by omega) (by omega)]; simp [Nat.add_assoc]
theorem x_worthH (hR : CRep σ A) (hI : mInv m A) {i : Nat} (hi : i < 8) : f_X_worthOfHouse (cPut b σ H) b (nI i) = rI (kHo A i) (cPut b σ H) := by
  have hX := CRepx.of (exc := -1) hR
  obtain ⟨i0, i1, i2, i3, i4⟩ := hX.2.2.2.2.2.2
  have p1 : f_I_countParts (cPut b σ H) (b + 1) = rI (nI (eCt (kPt A) 2 4)) (cPut b σ H) := by
    unfold f_I_countParts
    rw [x_partsL hX hI 4 zFu 2 0 (by omega) (by omega) (by unfold zFu; omega), Nat.zero_add]
  have p2 : f_U_countThere (cPut b σ H) (b + 14) = rI (nI (eCt (kCu A) 0 3)) (cPut b σ H) := by
    unfold f_U_countThere
    rw [x_thereL hR 3 zFu 0 0 (by omega) (by unfold zFu; omega), Nat.zero_add]
  have p3 : f_U_countStale (cPut b σ H) (b + 14) = rI (nI (eCt (kSt A) 0 3)) (cPut b σ H) := by
    unfold f_U_countStale
    rw [x_staleL hR 3 zFu 0 0 (by omega) (by unfold zFu; omega), Nat.zero_add]
  have p4 : f_I_countEnded (cPut b σ H) (b + 1) = rI (A.2.2.2 2) (cPut b σ H) := by unfold f_I_countEnded; rw [c_fi_1_6, i0]
  have p5 : f_U_countEnded (cPut b σ H) (b + 14) = rI (A.2.2.2 3) (cPut b σ H) := by unfold f_U_countEnded; rw [c_fi_14_4, i1]
  unfold f_X_worthOfHouse
  rw [nI_toInt (by omega)]
  rcases (by omega : i = 0 ∨ i = 1 ∨ i = 2 ∨ i = 3 ∨ i = 4 ∨ i = 5 ∨ i = 6 ∨ i = 7) with rfl | rfl | rfl | rfl | rfl | rfl | rfl | rfl
  · rw [if_pos (show ((0 : Nat) : Int) = 0 from rfl), c_fi_0_2, i2]; rfl
  · rw [if_neg (by decide), if_pos (show ((1 : Nat) : Int) = 1 from rfl), c_fa_0_0, c_ob_1, p1, bI_rI]; rfl
  · rw [if_neg (by decide), if_neg (by decide), if_pos (show ((2 : Nat) : Int) = 2 from rfl), c_fa_0_1, c_ob_14, p2, bI_rI]; rfl
  · rw [if_neg (by decide), if_neg (by decide), if_neg (by decide), if_pos (show ((3 : Nat) : Int) = 3 from rfl), c_fa_0_1, c_ob_14, p3, bI_rI]; rfl
  · rw [if_neg (by decide), if_neg (by decide), if_neg (by decide), if_neg (by decide), if_pos (show ((4 : Nat) : Int) = 4 from rfl), c_fa_0_0, c_ob_1, p4, bI_rI]; rfl
  · rw [if_neg (by decide), if_neg (by decide), if_neg (by decide), if_neg (by decide), if_neg (by decide), if_pos (show ((5 : Nat) : Int) = 5 from rfl), c_fa_0_1, c_ob_14, p5, bI_rI]; rfl
  · rw [if_neg (by decide), if_neg (by decide), if_neg (by decide), if_neg (by decide), if_neg (by decide), if_neg (by decide), if_pos (show ((6 : Nat) : Int) = 6 from rfl), c_fi_0_3, i3]; rfl
  · rw [if_neg (by decide), if_neg (by decide), if_neg (by decide), if_neg (by decide), if_neg (by decide), if_neg (by decide), if_neg (by decide), c_fi_0_4, i4]; rfl
-- the reference
theorem s_h16 {G0 : gH} {D : mD} (h : MS w o G0 A D) {K : gH → Nat → Int32 → Nat → gR} {x1 : Int32} {q : Nat} : ∀ (d n j c : Nat) (G : gH) (f : Nat → Int32), j + d = 6 → d < n → lA G0 1 3 q 3 f G → f 0 = nI c → ∃ (f' : Nat → Int32) (G' : gH), f_M_houseTold_L16 K n G o x1 q D.1.2.2.1 (nI 6) (nI j) = K G' o x1 q ∧ lA G0 1 3 q 3 f' G' ∧ f' 0 = nI (c + eCt (kPt A) j d) ∧ f' 1 = f 1 ∧ f' 2 = f 2
  | _, 0, _, _, _, _, _, h, _, _ => absurd h (Nat.not_lt_zero _)
  | 0, n + 1, j, c, G, f, hj, _, hl, hc => by
    refine ⟨f, G, ?_, hl, hc, rfl, rfl⟩
    unfold f_M_houseTold_L16
    rw [if_pos (nI_le (by omega) (by omega))]
  | d + 1, n + 1, j, c, G, f, hj, hn, hl, hc => by
    have hM := hl.ms h
    unfold f_M_houseTold_L16 eCt
    rw [if_neg (nI_ge (by omega) (by omega))]
    cases hx : A.2.1 j with
    | none =>
      obtain ⟨G2, r2, l2⟩ := hl.st (i := 0) (by omega) (by omega) (nI (c + 0))
      obtain ⟨f', G', a1, a2, a3, a4, a5⟩ := s_h16 h (K := K) (x1 := x1) d n (j + 1) (c + 0) G2 _ (by omega) (by omega) l2 upd_at
      refine ⟨f', G', ?_, a2, ?_, a4.trans (upd_ne (by omega)), a5.trans (upd_ne (by omega))⟩
      · rw [gLdq_no hM.2.2.2.2.2.1 rfl (by omega) (by omega) (hM.2.2.nopart (by omega) hx), hl.ld (i := 0) (by omega) (by omega), hc, m_one0, bI_rI, nI_add, r2, nI_add, a1]
      · rw [a3]; unfold kPt; rw [hx]; simp
    | some x =>
      obtain ⟨u, e1, -⟩ := hM.2.2.part (show j < 6 by omega) hx
      obtain ⟨G2, r2, l2⟩ := hl.st (i := 0) (by omega) (by omega) (nI (c + 1))
      obtain ⟨f', G', a1, a2, a3, a4, a5⟩ := s_h16 h (K := K) (x1 := x1) d n (j + 1) (c + 1) G2 _ (by omega) (by omega) l2 upd_at
      refine ⟨f', G', ?_, a2, ?_, a4.trans (upd_ne (by omega)), a5.trans (upd_ne (by omega))⟩
      · rw [gLdq_of hM.2.2.2.2.2.1 rfl (by omega) (by omega) e1, hl.ld (i := 0) (by omega) (by omega), hc, m_one1, bI_rI, nI_add, r2, nI_add, a1]
      · rw [a3]; unfold kPt; rw [hx]; simp [Nat.add_assoc]
theorem s_h66 {G0 : gH} {D : mD} (h : MS w o G0 A D) (hI : mInv m A) {K : gH → Nat → Int32 → Nat → gR} {x1 : Int32} {q : Nat} : ∀ (d n j c1 c2 : Nat) (G : gH) (f : Nat → Int32), j + d = 3 → d < n → lA G0 1 3 q 3 f G → f 1 = nI c1 → f 2 = nI c2 → ∃ (f' : Nat → Int32) (G' : gH), f_M_houseTold_L66 K n G o x1 q D.1.2.2.2 (nI 3) (nI j) = K G' o x1 q ∧ lA G0 1 3 q 3 f' G' ∧ f' 1 = nI (c1 + eCt (kCu A) j d) ∧ f' 2 = nI (c2 + eCt (kSt A) j d) ∧ f' 0 = f 0
  | _, 0, _, _, _, _, _, _, h, _, _, _ => absurd h (Nat.not_lt_zero _)
  | 0, n + 1, j, c1, c2, G, f, hj, _, hl, h1, h2 => by
    refine ⟨f, G, ?_, hl, h1, h2, rfl⟩
    unfold f_M_houseTold_L66
    rw [if_pos (nI_le (by omega) (by omega))]
  | d + 1, n + 1, j, c1, c2, G, f, hj, hn, hl, h1, h2 => by
    have hM := hl.ms h
    -- two numbers are written
    have go : ∀ v1 v2 : Nat, ∃ (G2 G3 : gH) (f' : Nat → Int32) (G' : gH), (∀ k : gH → gR, gSt G q 100 (nI 1) (nI (c1 + v1)) k = k G2) ∧ MS w o G2 A D ∧ (∀ k : Int32 → gR, gLd G2 q 100 (nI 2) k = k (nI c2)) ∧ (∀ k : gH → gR, gSt G2 q 100 (nI 2) (nI (c2 + v2)) k = k G3) ∧ f_M_houseTold_L66 K n G3 o x1 q D.1.2.2.2 (nI 3) (nI (j + 1)) = K G' o x1 q ∧ lA G0 1 3 q 3 f' G' ∧ f' 1 = nI (c1 + v1 + eCt (kCu A) (j + 1) d) ∧ f' 2 = nI (c2 + v2 + eCt (kSt A) (j + 1) d) ∧ f' 0 = f 0 := fun v1 v2 => by
      obtain ⟨G2, r2, l2⟩ := hl.st (i := 1) (by omega) (by omega) (nI (c1 + v1))
      obtain ⟨G3, r3, l3⟩ := l2.st (i := 2) (by omega) (by omega) (nI (c2 + v2))
      obtain ⟨f', G', a1, a2, a3, a4, a5⟩ := s_h66 h hI (K := K) (x1 := x1) d n (j + 1) (c1 + v1) (c2 + v2) G3 _ (by omega) (by omega) l3 ((upd_ne (by omega)).trans upd_at) upd_at
      refine ⟨G2, G3, f', G', r2, l2.ms h, fun k => ?_, r3, a1, a2, a3, a4, a5.trans ((upd_ne (by omega)).trans (upd_ne (by omega)))⟩
      rw [l2.ld (i := 2) (by omega) (by omega), upd_ne (by omega), h2]
    unfold f_M_houseTold_L66 eCt
    rw [if_neg (nI_ge (by omega) (by omega))]
    cases hx : A.2.2.1 j with
    | none =>
      obtain ⟨G2, G3, f', G', r2, -, l2, r3, a1, a2, a3, a4, a5⟩ := go 0 0
      refine ⟨f', G', ?_, a2, ?_, ?_, a5⟩
      · rw [gLdq_no hM.2.2.2.2.2.2.1 rfl (by omega) (by omega) (hM.2.2.nocur (by omega) hx), hl.ld (i := 1) (by omega) (by omega), h1, m_one0, bI_rI, nI_add, r2, l2, m_one0, bI_rI, nI_add, r3, nI_add, a1]
      · rw [a3]; unfold kCu; rw [hx]; simp
      · rw [a4]; unfold kSt; rw [hx]; simp
    | some x =>
      obtain ⟨u, e1, -⟩ := s_curq hM (show j < 3 by omega) hx
      by_cases hs : x.2.2.2 = 0
      · obtain ⟨G2, G3, f', G', r2, hM2, l2, r3, a1, a2, a3, a4, a5⟩ := go 1 0
        obtain ⟨-, -, -, g3⟩ := s_fi hM2 (show j < 3 by omega) hx e1
        refine ⟨f', G', ?_, a2, ?_, ?_, a5⟩
        · rw [gLdq_of hM.2.2.2.2.2.2.1 rfl (by omega) (by omega) e1, hl.ld (i := 1) (by omega) (by omega), h1, m_one1, bI_rI, nI_add, r2, l2, g3, if_pos hs, m_one0, bI_rI, nI_add, r3, nI_add, a1]
        · rw [a3]; unfold kCu; rw [hx]; simp [Nat.add_assoc]
        · rw [a4]; unfold kSt; rw [hx]; simp [hs]
      · obtain ⟨G2, G3, f', G', r2, hM2, l2, r3, a1, a2, a3, a4, a5⟩ := go 1 1
        obtain ⟨-, -, -, g3⟩ := s_fi hM2 (show j < 3 by omega) hx e1
        refine ⟨f', G', ?_, a2, ?_, ?_, a5⟩
        · rw [gLdq_of hM.2.2.2.2.2.2.1 rfl (by omega) (by omega) e1, hl.ld (i := 1) (by omega) (by omega), h1, m_one1, bI_rI, nI_add, r2, l2, g3, if_neg hs, m_one1, bI_rI, nI_add, r3, nI_add, a1]
        · rw [a3]; unfold kCu; rw [hx]; simp [Nat.add_assoc]
        · rw [a4]; unfold kSt; rw [hx]; simp [hs, Nat.add_assoc]
theorem s_houseTold {G : gH} {D : mD} (h : MS w o G A D) (hI : mInv m A) {i : Nat} (hi : i < 8) : ∃ G', f_M_houseTold G o (nI i) = rI (kHo A i) G' ∧ MS w o G' A D ∧ mSt 2 11 G G' := by
  have l0 : lA G 1 3 G.2.1 3 (fun _ => 0) (gNew G 3 (zI 100 3 (fun _ => 0))) := lA.new (c := 0) (s := 0) (n := 3) gB.refl h.1 rfl rfl
  have e0 : ∀ k : Nat → gH → gR, gNewA G 100 (nI 3) k = k G.2.1 (gNew G 3 (zI 100 3 (fun _ => 0))) := fun k => gNewA_of (by omega)
  generalize gNew G 3 (zI 100 3 (fun _ => 0)) = G1 at l0 e0
  have h1 := l0.ms h
  have hd01 : A.2.1 0 = none ∧ A.2.1 1 = none := by
    refine ⟨?_, ?_⟩
    · cases hx : A.2.1 0 with
      | none => rfl
      | some x => have := (hI.1.1 0 x hx).1; omega
    · cases hx : A.2.1 1 with
      | none => rfl
      | some x => have := (hI.1.1 1 x hx).1; omega
  -- what is made and told at the end
  have fin : ∀ (G3 : gH) (f : Nat → Int32), lA G 1 3 G.2.1 3 f G3 → f 0 = nI (eCt (kPt A) 2 4) → f 1 = nI (eCt (kCu A) 0 3) → f 2 = nI (eCt (kSt A) 0 3) → ∃ G', (gNewA G3 100 (nI 8) fun q55 G56 => gFI G56 o 6 4 fun v57 => gSt G56 q55 100 (nI 0) v57 fun G58 => gLd G58 G.2.1 100 (nI 0) fun v59 => gSt G58 q55 100 (nI 1) v59 fun G60 => gLd G60 G.2.1 100 (nI 1) fun v61 => gSt G60 q55 100 (nI 2) v61 fun G62 => gLd G62 G.2.1 100 (nI 2) fun v63 => gSt G62 q55 100 (nI 3) v63 fun G64 => gFI G64 o 6 5 fun v65 => gSt G64 q55 100 (nI 4) v65 fun G66 => gFI G66 o 6 6 fun v67 => gSt G66 q55 100 (nI 5) v67 fun G68 => gFI G68 o 6 7 fun v69 => gSt G68 q55 100 (nI 6) v69 fun G70 => gFI G70 o 6 8 fun v71 => gSt G70 q55 100 (nI 7) v71 fun G72 => gLd G72 q55 100 (nI i) fun v73 => rI v73 G72) = rI (kHo A i) G' ∧ MS w o G' A D ∧ mSt 2 11 G G' := fun G3 f lf y0 y1 y2 => by
    have hf := lf.fin h.1
    have h3 := lf.ms h
    have k0 : lA G3 1 8 G3.2.1 8 (fun _ => 0) (gNew G3 8 (zI 100 8 (fun _ => 0))) := lA.new (c := 0) (s := 0) (n := 8) gB.refl h3.1 rfl rfl
    have t0 : ∀ k : Nat → gH → gR, gNewA G3 100 (nI 8) k = k G3.2.1 (gNew G3 8 (zI 100 8 (fun _ => 0))) := fun k => gNewA_of (by omega)
    generalize gNew G3 8 (zI 100 8 (fun _ => 0)) = G4 at k0 t0
    -- the first row is still there
    have rd : ∀ (g : Nat → Int32) (G5 : gH), lA G3 1 8 G3.2.1 8 g G5 → ∀ j, j < 3 → ∀ k : Int32 → gR, gLd G5 G.2.1 100 (nI j) k = k (f j) := fun g G5 l5 j hj k => by
      have e : G5.2.2 G.2.1 = some (zI 100 3 f) := (l5.1 _ lf.2.2.2.2.2.1).trans lf.2.2.2.2.2.2
      unfold gLd gAr
      rw [e]
      simp only [zI]
      rw [if_pos (by decide), if_pos (gIn_nI hj (by omega)), nI_clamp (by omega)]
    have fd : ∀ (g : Nat → Int32) (G5 : gH), lA G3 1 8 G3.2.1 8 g G5 → ∀ j i, j < 6 → i = mFd j → ∀ k : Int32 → gR, gFI G5 o 6 i k = k (A.2.2.2 j) := fun g G5 l5 j i hj hi k => m_int (l5.ms h3).2.2 hj hi
    obtain ⟨G5, r5, k5⟩ := k0.st (i := 0) (by omega) (by omega) (A.2.2.2 1)
    obtain ⟨G6, r6, k6⟩ := k5.st (i := 1) (by omega) (by omega) (f 0)
    obtain ⟨G7, r7, k7⟩ := k6.st (i := 2) (by omega) (by omega) (f 1)
    obtain ⟨G8, r8, k8⟩ := k7.st (i := 3) (by omega) (by omega) (f 2)
    obtain ⟨G9, r9, k9⟩ := k8.st (i := 4) (by omega) (by omega) (A.2.2.2 2)
    obtain ⟨Ga, ra, ka⟩ := k9.st (i := 5) (by omega) (by omega) (A.2.2.2 3)
    obtain ⟨Gb, rb, kb⟩ := ka.st (i := 6) (by omega) (by omega) (A.2.2.2 4)
    obtain ⟨Gc, rc, kc⟩ := kb.st (i := 7) (by omega) (by omega) (A.2.2.2 5)
    refine ⟨Gc, ?_, kc.ms h3, (hf.trans (kc.fin h3.1)).mono (by omega) (by omega)⟩
    rw [t0, fd _ _ k0 1 4 (by omega) rfl, r5, rd _ _ k5 0 (by omega), r6, rd _ _ k6 1 (by omega), r7, rd _ _ k7 2 (by omega), r8, fd _ _ k8 2 5 (by omega) rfl, r9, fd _ _ k9 3 6 (by omega) rfl, ra, fd _ _ ka 4 7 (by omega) rfl, rb, fd _ _ kb 5 8 (by omega) rfl, rc, kc.ld hi (by omega), y0, y1, y2]
    rcases (by omega : i = 0 ∨ i = 1 ∨ i = 2 ∨ i = 3 ∨ i = 4 ∨ i = 5 ∨ i = 6 ∨ i = 7) with rfl | rfl | rfl | rfl | rfl | rfl | rfl | rfl <;> rfl
  obtain ⟨f1, G2, a1, a2, a3, a4, a5⟩ := s_h16 (A := A) h (K := fun G20 x17 x18 x19 => gFA G20 x17 6 3 fun v21 => gLenq G20 v21 105 fun v22 => f_M_houseTold_L66 (fun G54 x51 x52 x53 => gNewA G54 100 (nI 8) fun q55 G56 => gFI G56 x51 6 4 fun v57 => gSt G56 q55 100 (nI 0) v57 fun G58 => gLd G58 x53 100 (nI 0) fun v59 => gSt G58 q55 100 (nI 1) v59 fun G60 => gLd G60 x53 100 (nI 1) fun v61 => gSt G60 q55 100 (nI 2) v61 fun G62 => gLd G62 x53 100 (nI 2) fun v63 => gSt G62 q55 100 (nI 3) v63 fun G64 => gFI G64 x51 6 5 fun v65 => gSt G64 q55 100 (nI 4) v65 fun G66 => gFI G66 x51 6 6 fun v67 => gSt G66 q55 100 (nI 5) v67 fun G68 => gFI G68 x51 6 7 fun v69 => gSt G68 q55 100 (nI 6) v69 fun G70 => gFI G70 x51 6 8 fun v71 => gSt G70 q55 100 (nI 7) v71 fun G72 => gLd G72 q55 100 x52 fun v73 => rI v73 G72) zFu G20 x17 x18 x19 v21 v22 (nI 0)) (x1 := nI i) 6 zFu 0 0 G1 (fun _ => 0) (by omega) (by unfold zFu; omega) l0 nI0.symm
  have h2 := a2.ms h
  obtain ⟨f2, G3, b1, b2, b3, b4, b5⟩ := s_h66 (A := A) h hI (K := fun G54 x51 x52 x53 => gNewA G54 100 (nI 8) fun q55 G56 => gFI G56 x51 6 4 fun v57 => gSt G56 q55 100 (nI 0) v57 fun G58 => gLd G58 x53 100 (nI 0) fun v59 => gSt G58 q55 100 (nI 1) v59 fun G60 => gLd G60 x53 100 (nI 1) fun v61 => gSt G60 q55 100 (nI 2) v61 fun G62 => gLd G62 x53 100 (nI 2) fun v63 => gSt G62 q55 100 (nI 3) v63 fun G64 => gFI G64 x51 6 5 fun v65 => gSt G64 q55 100 (nI 4) v65 fun G66 => gFI G66 x51 6 6 fun v67 => gSt G66 q55 100 (nI 5) v67 fun G68 => gFI G68 x51 6 7 fun v69 => gSt G68 q55 100 (nI 6) v69 fun G70 => gFI G70 x51 6 8 fun v71 => gSt G70 q55 100 (nI 7) v71 fun G72 => gLd G72 q55 100 x52 fun v73 => rI v73 G72) (x1 := nI i) 3 zFu 0 0 0 G2 f1 (by omega) (by unfold zFu; omega) a2 (a4.trans nI0.symm) (a5.trans nI0.symm)
  have hc : eCt (kPt A) 0 6 = eCt (kPt A) 2 4 := by
    have e1 : kPt A 0 = false := by unfold kPt; rw [hd01.1]; rfl
    have e2 : kPt A 1 = false := by unfold kPt; rw [hd01.2]; rfl
    simp [eCt, e1, e2]
  obtain ⟨G', c1, c2, c3⟩ := fin G3 f2 b2 (by rw [b5, a3, hc, Nat.zero_add]) (by rw [b3, Nat.zero_add]) (by rw [b4, Nat.zero_add])
  refine ⟨G', ?_, c2, c3⟩
  unfold f_M_houseTold
  rw [e0, gFA_of h1.2.2.1 rfl rfl, gLenq_of h1.2.2.2.2.2.1 rfl, a1, gFA_of h2.2.2.1 rfl rfl, gLenq_of h2.2.2.2.2.2.2.1 rfl, b1, c1]
theorem sim_house (hR : CRep σ A) (hI : mInv m A) (x : Int32) : SimOp w b o A m σ H xA1 (f_X_house (cPut b σ H) b x) (fun G => f_M_house G o x) := by
  by_cases hx : mIsG 7 x
  · have hx' := hx
    obtain ⟨i, hi, rfl⟩ := hx
    refine Sim.ask hR hI (kHo A i) ?_ (fun G D h => ?_)
    · unfold f_X_house
      rw [if_neg (nI_pos (by omega)), if_pos (nI_lt (by omega) (by omega)), c_ob_0, x_worthH hR hI (by omega), bI_rI]
    · obtain ⟨G1, r1, h1, s1⟩ := s_go h
      obtain ⟨G2, r2, h2, s2⟩ := s_houseTold h1 (hI.thr 0) (show i < 8 by omega)
      refine ⟨G2, ?_, h2, (s1.trans s2).mono (by omega) (by omega)⟩
      unfold f_M_house
      rw [(s_isIn G 7 (by omega) _).1 hx', bI_rI, if_neg (by decide), gOb_of h.2.2.1 rfl, r1, bI_rI, if_pos rfl, gOb_of h1.2.2.1 rfl, r2, bI_rI]
      rfl
  · refine Sim.no hR hI 1 (by decide) (by decide) ?_ (fun G D h => ?_)
    · unfold f_X_house
      by_cases h0 : x < 0
      · rw [if_pos h0]; rfl
      · rw [if_neg h0, if_neg (fun q => hx (by
          obtain ⟨i, hi, e⟩ := (nI_plc (L := 8) (by omega)).mpr ⟨h0, q⟩
          exact ⟨i, by omega, e⟩))]; rfl
    · obtain ⟨G1, r1, h1, s1⟩ := s_halt1 h
      refine ⟨G1, ?_, h1, s1⟩
      unfold f_M_house
      rw [(s_isIn G 7 (by omega) _).2 hx, bI_rI, if_pos rfl, gOb_of h.2.2.1 rfl, r1, bI_rI, if_neg (by decide)]
      rfl
end House
end
section
-- orders leave a row in order, and as it was; the class is sound
section SoSt
def kKap (ord : Nat) (t : Nat × Nat) : Int := match ord with
  | 0 => t.1
  | 1 => -(t.1 : Int)
  | 2 => ((t.1 % 5 : Nat) : Int)
  | 3 => -(t.2 : Int)
  | _ => if t.1 % 2 = 0 then 1000 + (t.1 : Int) else t.1
theorem sR_kap {ord : Nat} {t u : Nat × Nat} (ho : ord < 5) (ht : t.1 < 1000) (hu : u.1 < 1000) : sR ord t u = decide (kKap ord t < kKap ord u) := by
  rcases (by omega : ord = 0 ∨ ord = 1 ∨ ord = 2 ∨ ord = 3 ∨ ord = 4) with rfl | rfl | rfl | rfl | rfl
  · show decide (t.1 < u.1) = decide ((t.1 : Int) < (u.1 : Int))
    exact decide_eq_decide.mpr (by omega)
  · show decide (u.1 < t.1) = decide (-(t.1 : Int) < -(u.1 : Int))
    exact decide_eq_decide.mpr (by omega)
  · show decide (t.1 % 5 < u.1 % 5) = decide (((t.1 % 5 : Nat) : Int) < ((u.1 % 5 : Nat) : Int))
    exact decide_eq_decide.mpr (by omega)
  · show decide (u.2 < t.2) = decide (-(t.2 : Int) < -(u.2 : Int))
    exact decide_eq_decide.mpr (by omega)
  · show (if t.1 % 2 = u.1 % 2 then decide (t.1 < u.1) else decide (u.1 % 2 < t.1 % 2)) = decide ((if t.1 % 2 = 0 then 1000 + (t.1 : Int) else (t.1 : Int)) < (if u.1 % 2 = 0 then 1000 + (u.1 : Int) else (u.1 : Int)))
    by_cases h1 : t.1 % 2 = 0
    · by_cases h2 : u.1 % 2 = 0
      · rw [if_pos (by omega), if_pos h1, if_pos h2]; exact decide_eq_decide.mpr (by omega)
      · rw [if_neg (by omega), if_pos h1, if_neg h2]; exact decide_eq_decide.mpr (by omega)
    · by_cases h2 : u.1 % 2 = 0
      · rw [if_neg (by omega), if_neg h1, if_pos h2]; exact decide_eq_decide.mpr (by omega)
      · rw [if_pos (by omega), if_neg h1, if_neg h2]; exact decide_eq_decide.mpr (by omega)
theorem sGap_sp {α : Type} {R : α → α → Bool} {x : α} {l : List α} : ∀ g, g ≤ l.length → (∀ k y, sGap R x l g ≤ k → k < g → l[k]? = some y → R x y = true) ∧ ∀ y, 0 < sGap R x l g → l[sGap R x l g - 1]? = some y → R x y = false
  | 0, _ => ⟨fun k y _ h => absurd h (Nat.not_lt_zero _), fun y h => absurd h (Nat.lt_irrefl _)⟩
  | g + 1, hg => by
    have e := List.getElem?_eq_getElem (show g < l.length by omega)
    generalize l[g] = z at e
    obtain ⟨h1, h2⟩ := sGap_sp (R := R) (x := x) (l := l) g (by omega)
    have hle := sGap_le (R := R) (x := x) (l := l) g
    have u : sGap R x l (g + 1) = if R x z = true then sGap R x l g else g + 1 := by
      show (match l[g]? with
        | some y => if R x y = true then sGap R x l g else g + 1
        | none => g + 1) = _
      rw [e]
    rw [u]
    by_cases hz : R x z = true
    · rw [if_pos hz]
      refine ⟨fun k y a1 a2 a3 => ?_, h2⟩
      by_cases hk : k = g
      · subst hk
        rw [e] at a3
        cases a3
        exact hz
      · exact h1 k y a1 (by omega) a3
    · rw [if_neg hz]
      refine ⟨fun k y a1 a2 _ => by omega, fun y _ a => ?_⟩
      rw [Nat.add_sub_cancel, e] at a
      cases a
      exact Bool.eq_false_iff.mpr hz
/-- in order, and what is alike in the sequence of its numbers -/
def kStb {α : Type} (κ : α → Int) (ν : α → Nat) (l : List α) : Prop := ∀ (i j : Nat) (x y : α), i < j → l[i]? = some x → l[j]? = some y → κ x ≤ κ y ∧ (κ x = κ y → ν x < ν y)
theorem ins_stb {α : Type} {R : α → α → Bool} {κ : α → Int} {ν : α → Nat} {x : α} {l : List α} (h : kStb κ ν l) (hR : ∀ y, y ∈ l → R x y = decide (κ x < κ y)) (hν : ∀ y, y ∈ l → ν y < ν x) : kStb κ ν (l.insertIdx (sGap R x l l.length) x) := by
  obtain ⟨g1, g2⟩ := sGap_sp (R := R) (x := x) (l := l) l.length (Nat.le_refl _)
  have gl := sGap_le (R := R) (x := x) (l := l) l.length
  generalize sGap R x l l.length = g at g1 g2 gl
  -- what lies ahead of the gap, and behind it
  have lo : ∀ i y, i < g → l[i]? = some y → κ y ≤ κ x := fun i y hi hy => by
    have e := List.getElem?_eq_getElem (show g - 1 < l.length by omega)
    generalize l[g - 1] = z at e
    have hz := g2 z (by omega) e
    rw [hR z (List.mem_of_getElem? e)] at hz
    have hz' := of_decide_eq_false hz
    by_cases hi1 : i = g - 1
    · subst hi1
      rw [e] at hy
      cases hy
      omega
    · have := (h i (g - 1) y z (by omega) hy e).1
      omega
  have hi' : ∀ k y, g ≤ k → l[k]? = some y → κ x < κ y := fun k y hk hy => by
    have := g1 k y hk (List.getElem?_eq_some_iff.mp hy).1 hy
    rw [hR y (List.mem_of_getElem? hy)] at this
    exact of_decide_eq_true this
  intro i j a c hij ha hc
  rw [List.getElem?_insertIdx] at ha hc
  by_cases i1 : i < g
  · rw [if_pos i1] at ha
    by_cases j1 : j < g
    · rw [if_pos j1] at hc
      exact h i j a c hij ha hc
    · rw [if_neg j1] at hc
      by_cases j2 : j = g
      · rw [if_pos j2, if_pos (by omega)] at hc
        cases hc
        exact ⟨lo i a i1 ha, fun _ => hν a (List.mem_of_getElem? ha)⟩
      · rw [if_neg j2] at hc
        exact h i (j - 1) a c (by omega) ha hc
  · rw [if_neg i1] at ha
    rw [if_neg (by omega), if_neg (by omega)] at hc
    by_cases i2 : i = g
    · rw [if_pos i2, if_pos (by omega)] at ha
      cases ha
      have := hi' (j - 1) c (by omega) hc
      exact ⟨by omega, fun q => by omega⟩
    · rw [if_neg i2] at ha
      exact h (i - 1) (j - 1) a c (by omega) ha hc
/-- sorted by insertion: things numbered as they lay -/
theorem so_stb {α : Type} {R : α → α → Bool} {κ : α → Int} {ν : α → Nat} {P : α → Prop} (hR : ∀ x y, P x → P y → R x y = decide (κ x < κ y)) : ∀ (rest done : List α), (∀ e, e ∈ done → P e) → (∀ e, e ∈ rest → P e) → (∀ e x, e ∈ done → x ∈ rest → ν e < ν x) → (∀ (i j : Nat) (x y : α), i < j → rest[i]? = some x → rest[j]? = some y → ν x < ν y) → kStb κ ν done → kStb κ ν (sSo R done rest)
  | [], done, _, _, _, _, h => h
  | x :: rest, done, hd, hr, hn, hn2, h => by
    show kStb κ ν (sSo R (done.insertIdx (sGap R x done done.length) x) rest)
    have hx : P x := hr x (List.mem_cons_self ..)
    refine so_stb hR rest _ (fun e he => ?_) (fun e he => hr e (List.mem_cons_of_mem _ he)) (fun e y he hy => ?_) (fun i j a c hij ha hc => hn2 (i + 1) (j + 1) a c (by omega) (by simpa using ha) (by simpa using hc)) (ins_stb h (fun y hy => hR x y hx (hd y hy)) (fun y hy => hn y x hy (List.mem_cons_self ..)))
    · rcases ins_mem _ _ he with q | q
      · rw [q]; exact hx
      · exact hd e q
    · rcases ins_mem _ _ he with q | q
      · rw [q]
        obtain ⟨k, hk⟩ := List.getElem?_of_mem hy
        exact hn2 0 (k + 1) x y (by omega) rfl (by simpa using hk)
      · exact hn e y q (List.mem_cons_of_mem _ hy)
theorem ins_mem2 {α : Type} {a c : α} {l : List α} {i : Nat} (hi : i ≤ l.length) (h : a = c ∨ a ∈ l) : a ∈ l.insertIdx i c := by
  rw [ins_td _ _ _ hi]
  rcases h with h | h
  · rw [h]; simp
  · rw [← List.take_append_drop i l] at h
    rcases List.mem_append.mp h with q | q
    · exact List.mem_append.mpr (Or.inl q)
    · exact List.mem_append.mpr (Or.inr (List.mem_cons_of_mem _ q))
theorem sSo_mem2 {α : Type} {R : α → α → Bool} {a : α} : ∀ (rest done : List α), a ∈ done ∨ a ∈ rest → a ∈ sSo R done rest
  | [], done, h => h.elim id (fun q => by cases q)
  | x :: rest, done, h => by
    show a ∈ sSo R (done.insertIdx (sGap R x done done.length) x) rest
    refine sSo_mem2 rest _ ?_
    rcases h with h | h
    · exact Or.inl (ins_mem2 (sGap_le _) (Or.inr h))
    · rcases List.mem_cons.mp h with q | q
      · exact Or.inl (ins_mem2 (sGap_le _) (Or.inl q))
      · exact Or.inr q
end SoSt
section Snd
variable {w : Nat → Nat} {b o m : Nat} {A : mS} {σ : cS} {H : gH} {p r s : Nat}
theorem x_lies (hX : CRepx (-1) σ A) (hI : mInv m A) (hv : mV A p) : f_I_liesInAbove (cPut b σ H) (b + 1) (nI p) = rI 1 (cPut b σ H) := by
  obtain ⟨r, s, hr, hr2, hfit, h31, hp6, -⟩ := hI.pl hv
  have hW := hI.w p
  unfold f_I_liesInAbove
  rw [c_fa_1_2, c_ob_6, c_rd_2, rd_nI hp6 (by omega), bI_rI]
  by_cases h2 : p < 2
  · rw [hX.2.2.2.1.1 p h2, if_pos rfl, if_neg (nI_ge h2 (by omega)), rZ_1]
  · cases hx : A.2.1 p with
    | none => rcases hv with h | h
              · exact absurd h h2
              · exact absurd hx h
    | some x =>
      have ha : σ.1 2 p = nI x.1 := hX.2.2.2.1.2 p x hx
      obtain ⟨b3, b4⟩ := hX.2.2.2.2.1 p r s hp6 hr
      have hvo : mV A x.1 := hI.1.cl p x hx
      obtain ⟨ro, so, hro, hro2, hfo, h31o, ho6, -⟩ := hI.pl hvo
      have hrp := mRw_of hI.1 hx hro
      rw [hr] at hrp
      have e1 : r = ro := by cases hrp; rfl
      have e2 : s = x.2.1 + so := by cases hrp; rfl
      obtain ⟨-, b4o⟩ := hX.2.2.2.2.1 x.1 ro so ho6 hro
      have c2 : f_N_read (cPut b σ H) (b + 10) (nI p) = rI (nI s) (cPut b σ H) := by rw [c_rd_4, rd_nI hp6 (by omega), b4]
      have c3 : f_N_read (cPut b σ H) (b + 10) (nI x.1) = rI (nI so) (cPut b σ H) := by rw [c_rd_4, rd_nI ho6 (by omega), b4o]
      have hl := mLen_part (A := A) h2 hx
      have hf := hI.2.1 p x hx
      have e3 : nI s - nI so = nI x.2.1 := by rw [e2, nI_sub (by omega), Nat.add_sub_cancel]
      have L : ∀ (d n j : Nat), j + d = mLen A p → d < n → f_I_liesInAbove_L71 (fun G42 => rZ (nI 0) G42) (fun G43 => rZ (nI 1) G43) n (cPut b σ H) (b + 1) (nI p) (nI x.1) (nI x.2.1) (nI (mLen A p)) (nI j) = rI 1 (cPut b σ H) := by
        intro d
        induction d with
        | zero =>
          intro n j hj hn
          cases n with
          | zero => omega
          | succ n =>
            unfold f_I_liesInAbove_L71
            rw [if_pos (nI_le (by omega) (by omega)), rZ_1]
        | succ d ih =>
          intro n j hj hn
          cases n with
          | zero => omega
          | succ n =>
            have ht := List.getElem?_eq_getElem (show s + j < (A.1 r).length by omega)
            generalize (A.1 r)[s + j] = t at ht
            have ht2 : (A.1 ro)[so + (x.2.1 + j)]? = some t := by rw [← e1, show so + (x.2.1 + j) = s + j by omega]; exact ht
            unfold f_I_liesInAbove_L71
            rw [if_neg (nI_ge (by omega) (by omega)), c_ob_1, x_at hX hW hv hr ht, bI_rI, c_ob_1, nI_add, x_at hX (hI.w x.1) hvo hro ht2, bI_rI, if_pos rfl, nI_add]
            exact ih n (j + 1) (by omega) (by omega)
      rw [ha, if_neg (nI_ne1 (by omega)), c_fa_1_4, c_ob_10, c2, bI_rI, c_fa_1_4, c_ob_10, c3, bI_rI, c_ob_1, x_len hX hI.1 hv, bI_rI, e3, if_neg (nI_pos (by omega)), c_ob_1, x_len hX hI.1 hvo, bI_rI, nI_add, if_pos (nI_le (by omega) (by omega)), L (mLen A p) zFu 0 (by omega) (by unfold zFu; omega)]
theorem x_pInSpare {σ : cS} {i : Nat} {e : (Nat × Nat) × Nat} (hi : i < 31) (he : eOk e) (hf : σ.1 5 i = nI (cN e)) : f_I_placeInSpare (cPut b σ H) (b + 1) (nI i) = rI (nI e.2) (cPut b σ H) := by
  obtain ⟨h1, h2, h3⟩ := he
  unfold f_I_placeInSpare
  rw [c_fa_1_5, c_ob_12, c_rd_5, rd_nI hi (by omega), hf, bI_rI]
  unfold cN
  rw [nI_and31, show (32 * (32 * e.1.2 + e.1.1) + e.2) % 32 = e.2 by omega]
theorem sEn_ok (hI : mInv m A) (hr2 : r < 2) {n : Nat} (hn : n ≤ 31) : ∀ e, e ∈ sEn 0 (sSeg A r s n) → eOk e ∧ ∃ t, (A.1 r)[s + e.2]? = some t ∧ t.2 = e.1 ∧ e.2 < n := by
  intro e he
  obtain ⟨i, hi⟩ := List.getElem?_of_mem he
  rw [sEn_at] at hi
  cases hx : (sSeg A r s n)[i]? with
  | none => rw [hx] at hi; cases hi
  | some t =>
    rw [hx] at hi
    have e1 : (t.2, 0 + i) = e := Option.some.inj hi
    have hin : i < n := by
      have := (List.getElem?_eq_some_iff.mp hx).1
      have h2 : (sSeg A r s n).length ≤ n := by unfold sSeg; rw [List.length_take]; omega
      omega
    have ok := seg_ok (hI.2.2.1 r hr2).2 hI.2.2.2.2.2 hx
    rw [sSeg_at hin] at hx
    rw [← e1, Nat.zero_add]
    exact ⟨⟨ok.1, by show t.2.2 ≤ 1000; have := ok.2; omega, by show i < 32; omega⟩, t, hx, rfl, hin⟩
theorem x_back (hX : CRepx (-1) σ A) (hI : mInv m A) (hv : mV A p) : ∃ f5, f_I_isSameBackward (cPut b σ H) (b + 1) (nI p) = rI 1 (cPut b (cArr σ 5 f5) H) := by
  obtain ⟨r, s, hr, hr2, hfit, h31, hp6, -⟩ := hI.pl hv
  have hW := hI.w p
  have hl31 := hI.l31 hv
  obtain ⟨f5, y1, y2⟩ := x_copySpare (b := b) (G := H) hX hW hv hr (hI.2.2.1 r hr2).2 hI.2.2.2.2.2
  have hX' := hX.spare f5
  have hsp : ∀ i e, (sEn 0 (sSeg A r s (mLen A p)))[i]? = some e → (cArr σ 5 f5).1 5 i = nI (cN e) := fun i e he => by
    rw [cArr_at]
    have := y2 i e he
    rw [Nat.zero_add] at this
    exact this
  have L : ∀ (j n : Nat), j ≤ mLen A p → j < n → f_I_isSameBackward_L13 (fun G28 => rZ (nI 0) G28) (fun G29 => rZ (nI 1) G29) n (cPut b (cArr σ 5 f5) H) (b + 1) (nI p) (nI j + (-1)) = rI 1 (cPut b (cArr σ 5 f5) H) := by
    intro j
    induction j with
    | zero =>
      intro n hj hn
      cases n with
      | zero => omega
      | succ n =>
        unfold f_I_isSameBackward_L13
        rw [if_pos (by decide), rZ_1]
    | succ j ih =>
      intro n hj hn
      cases n with
      | zero => omega
      | succ n =>
        have ht := List.getElem?_eq_getElem (show s + j < (A.1 r).length by omega)
        generalize (A.1 r)[s + j] = t at ht
        have he : (sEn 0 (sSeg A r s (mLen A p)))[j]? = some (t.2, j) := by
          rw [sEn_at, sSeg_at (by omega), ht, Nat.zero_add]; rfl
        obtain ⟨ok, -⟩ := sEn_ok hI hr2 hl31 _ (List.mem_of_getElem? he)
        unfold f_I_isSameBackward_L13
        rw [nI_m1, if_neg (nI_pos (by omega)), c_ob_1, y_inSpare (by omega) ok (hsp j _ he), bI_rI, c_ob_1, x_at hX' hW hv hr ht, bI_rI, if_pos (show nI (32 * t.2.2 + t.2.1) = cE t from rfl), c_ob_1, x_pInSpare (by omega) ok (hsp j _ he), bI_rI, if_pos rfl]
        exact ih n (by omega) (by omega)
  refine ⟨f5, ?_⟩
  unfold f_I_isSameBackward
  rw [c_ob_1, y1, bV_rV, c_ob_1, x_len hX' hI.1 hv, bI_rI, nI_s1, L (mLen A p) zFu (Nat.le_refl _) (by unfold zFu; omega)]
theorem kFi_at {k : Nat} : ∀ (l : List Nat) (z j : Nat), l[j]? = some k → ∃ i, i ≤ j ∧ kFi k l z = some (z + i) ∧ l[i]? = some k
  | [], _, _, h => by simp at h
  | a :: l, z, j, h => by
    unfold kFi
    by_cases e : a = k
    · exact ⟨0, Nat.zero_le _, by rw [if_pos e]; rfl, by rw [e]; rfl⟩
    · cases j with
      | zero => exact absurd (Option.some.inj (show some a = some k from h)) e
      | succ j =>
        obtain ⟨i, h1, h2, h3⟩ := kFi_at l (z + 1) j (by simpa using h)
        exact ⟨i + 1, by omega, by rw [if_neg e, h2]; congr 1; omega, by simpa using h3⟩
theorem kLa_at {k : Nat} {ks : List Nat} : ∀ (n j : Nat), ks[j]? = some k → j < n → ∃ i, kLa k ks n = some i ∧ j ≤ i ∧ i < n ∧ ks[i]? = some k
  | 0, _, _, h => absurd h (Nat.not_lt_zero _)
  | n + 1, j, hj, hn => by
    unfold kLa
    by_cases e : ks[n]? = some k
    · exact ⟨n, if_pos e, by omega, by omega, e⟩
    · rw [if_neg e]
      have hjn : j ≠ n := fun q => e (by rw [← q]; exact hj)
      obtain ⟨i, h1, h2, h3, h4⟩ := kLa_at n j hj (by omega)
      exact ⟨i, h1, h2, by omega, h4⟩
theorem c_found {ks : List Nat} (h : kyC b σ H p ks) : f_I_areKeysFound (cPut b σ H) (b + 1) (nI p) = rI 1 (cPut b σ H) := by
  have h31 := h.2.2.1
  have L : ∀ (d n j : Nat), j + d = ks.length → d < n → f_I_areKeysFound_L8 (fun G38 => rZ (nI 0) G38) (fun G39 => rZ (nI 0) G39) (fun G40 => rZ (nI 1) G40) n (cPut b σ H) (b + 1) (nI p) (nI ks.length) (nI j) = rI 1 (cPut b σ H) := by
    intro d
    induction d with
    | zero =>
      intro n j hj hn
      cases n with
      | zero => omega
      | succ n =>
        unfold f_I_areKeysFound_L8
        rw [if_pos (nI_le (by omega) (by omega)), rZ_1]
    | succ d ih =>
      intro n j hj hn
      cases n with
      | zero => omega
      | succ n =>
        have ht := List.getElem?_eq_getElem (show j < ks.length by omega)
        generalize ks[j] = k at ht
        have hk := h.k31 ht
        obtain ⟨i, a1, a2, a3⟩ := kFi_at ks 0 j ht
        rw [Nat.zero_add] at a2
        obtain ⟨i2, b1, b2, b3, b4⟩ := kLa_at ks.length j ht (by omega)
        unfold f_I_areKeysFound_L8
        rw [if_neg (nI_ge (by omega) (by omega)), c_ob_1, h.1 j k ht, bI_rI, c_ob_1, c_first h hk, bI_rI, c_ob_1, c_last h hk, bI_rI, a2, b1, show sNo (some i) = nI i from rfl, show sNo (some i2) = nI i2 from rfl, if_neg (nI_pos (by omega)), if_neg (nI_nlt a1 (by omega)), if_neg (nI_nlt b2 (by omega)), if_pos (nI_lt b3 (by omega)), c_ob_1, h.1 i k a3, bI_rI, if_pos rfl, c_ob_1, h.1 i2 k b4, bI_rI, if_pos rfl, nI_add]
        exact ih n (j + 1) (by omega) (by omega)
  unfold f_I_areKeysFound
  rw [c_ob_1, h.2.1, bI_rI, L ks.length zFu 0 (by omega) (by unfold zFu; omega)]
theorem bits_full : ∀ n : Nat, n < 32 → ∀ k : Nat, k < 32 → (nI (2 ^ n - 1)).toBitVec.getLsbD k = decide (k < n) := by decide +kernel
theorem cnt_full : ∀ n : Nat, n < 32 → ∀ G : gH, f_IN_bitCount G (nI (2 ^ n - 1)) = rI (nI n) G := by
  intro n hn G
  unfold f_IN_bitCount
  refine congrArg (fun v => rI v G) ?_
  revert n
  decide +kernel
theorem i32_ext {v u : Int32} (h : ∀ k, k < 32 → v.toBitVec.getLsbD k = u.toBitVec.getLsbD k) : v = u := by
  apply Int32.toBitVec_inj.mp
  apply BitVec.eq_of_getLsbD_eq
  intro i hi
  exact h i hi
theorem x_ordering {ord : Nat} (hX : CRepx (-1) σ A) (hI : mInv m A) (hv : mV A p) (ho : ord < 5) : ∃ f5, f_I_isOrdering (cPut b σ H) (b + 1) (nI p) (nI ord) = rI 1 (cPut b (cArr σ 5 f5) H) := by
  obtain ⟨r, s, hr, hr2, hfit, h31, hp6, -⟩ := hI.pl hv
  have hW := hI.w p
  have hl31 := hI.l31 hv
  obtain ⟨f5, y1, y2⟩ := x_copySpare (b := b) (G := H) hX hW hv hr (hI.2.2.1 r hr2).2 hI.2.2.2.2.2
  have hen := sEn_ok (s := s) hI hr2 hl31
  have hel : (sEn 0 (sSeg A r s (mLen A p))).length = mLen A p := by rw [sEn_len, sSeg_len hfit]
  obtain ⟨f6, z1, z2⟩ := y_arrange (b := b) (G := H) (σ := cArr σ 5 f5) ho (by rw [hel]; exact hl31) (fun e he => (hen e he).1) (by rw [cArr_at]; exact y2)
  rw [hel, cArr_cArr] at z1
  -- the order
  have hst : kStb (fun e : (Nat × Nat) × Nat => kKap ord e.1) (fun e => e.2) (sSo (eR ord) [] (sEn 0 (sSeg A r s (mLen A p)))) := by
    refine so_stb (P := fun e : (Nat × Nat) × Nat => e.1.1 < 1000) (R := eR ord) (fun x y hx hy => sR_kap ho hx hy) (sEn 0 (sSeg A r s (mLen A p))) [] (fun e he => by cases he) (fun e he => ?_) (fun e x he => by cases he) (fun i j x y hij hx hy => ?_) (fun i j x y _ hx => by simp at hx)
    · have := (hen e he).1.1
      show e.1.1 < 1000
      omega
    · rw [sEn_at] at hx hy
      cases h1 : (sSeg A r s (mLen A p))[i]? with
      | none => rw [h1] at hx; cases hx
      | some t =>
        cases h2 : (sSeg A r s (mLen A p))[j]? with
        | none => rw [h2] at hy; cases hy
        | some u =>
          rw [h1] at hx
          rw [h2] at hy
          cases hx
          cases hy
          show 0 + i < 0 + j
          omega
  have hml : (sSo (eR ord) [] (sEn 0 (sSeg A r s (mLen A p)))).length = mLen A p := by rw [sSo_len, hel]; simp
  have hmem : ∀ e, e ∈ sSo (eR ord) [] (sEn 0 (sSeg A r s (mLen A p))) → eOk e ∧ ∃ t, (A.1 r)[s + e.2]? = some t ∧ t.2 = e.1 ∧ e.2 < mLen A p := fun e he => by
    rcases sSo_mem _ _ he with q | q
    · cases q
    · exact hen e q
  have hall : ∀ k, k < mLen A p → ∃ e, e ∈ sSo (eR ord) [] (sEn 0 (sSeg A r s (mLen A p))) ∧ e.2 = k := fun k hk => by
    have ht := List.getElem?_eq_getElem (show s + k < (A.1 r).length by omega)
    generalize (A.1 r)[s + k] = t at ht
    refine ⟨(t.2, k), sSo_mem2 _ _ (Or.inr ?_), rfl⟩
    refine List.mem_of_getElem? (i := k) ?_
    rw [sEn_at, sSeg_at hk, ht, Nat.zero_add]; rfl
  generalize sSo (eR ord) [] (sEn 0 (sSeg A r s (mLen A p))) = so at hst hml hmem hall z2
  have hX' := hX.spare f6
  have hsp : ∀ i e, so[i]? = some e → (cArr σ 5 f6).1 5 i = nI (cN e) := fun i e he => by
    rw [cArr_at]
    have := z2 i e he
    rw [Nat.zero_add] at this
    exact this
  have L : ∀ (l : List ((Nat × Nat) × Nat)) (n j : Nat) (v : Int32), so.drop j = l → j ≤ so.length → l.length < n → (∀ k, k < 32 → v.toBitVec.getLsbD k = true → k < mLen A p) →
      ∃ v' : Int32, f_I_isOrdering_L23 (fun G38 => rZ (nI 0) G38) (fun G39 => rZ (nI 0) G39) (fun G42 x40 x41 => bI (f_IN_bitCount G42 x41) fun v45 G44 => if v45 = x40 then rZ (nI 1) G44
    else rZ (nI 0) G44) n (cPut b (cArr σ 5 f6) H) (b + 1) (nI p) (nI ord) (nI (mLen A p)) v (nI j) = (bI (f_IN_bitCount (cPut b (cArr σ 5 f6) H) v') fun v45 G44 => if v45 = nI (mLen A p) then rZ (nI 1) G44
    else rZ (nI 0) G44) ∧ ∀ k, k < 32 → (v'.toBitVec.getLsbD k = true ↔ (v.toBitVec.getLsbD k = true ∨ ∃ e, e ∈ l ∧ e.2 = k)) := by
    intro l
    induction l with
    | nil =>
      intro n j v hd hj hn hb
      cases n with
      | zero => omega
      | succ n =>
        have := dr_nil hd
        refine ⟨v, ?_, fun k _ => ⟨Or.inl, fun q => q.elim id (fun ⟨e, he, _⟩ => by cases he)⟩⟩
        unfold f_I_isOrdering_L23
        rw [if_pos (nI_le (by omega) (by omega))]
    | cons e l ih =>
      intro n j v hd hj hn hb
      cases n with
      | zero => omega
      | succ n =>
        obtain ⟨e1, e2, e3⟩ := dr_cons hd
        obtain ⟨ok, t, ht, ht2, hlt⟩ := hmem e (List.mem_of_getElem? e1)
        have hb1 : ∀ k, k < 32 → (v ||| (nI 1 <<< (nI e.2 &&& 31))).toBitVec.getLsbD k = (v.toBitVec.getLsbD k || decide (k = e.2)) := fun k hk => by
          rw [bit_or, bit_1' _ (by omega) k hk]
        obtain ⟨v', q1, q2⟩ := ih n (j + 1) (v ||| (nI 1 <<< (nI e.2 &&& 31))) e2 (by omega) (by simp at hn; omega) (fun k hk hh => by
          rw [hb1 k hk] at hh
          by_cases z : k = e.2
          · rw [z]; exact hlt
          · simp [z] at hh
            exact hb k hk hh)
        refine ⟨v', ?_, fun k hk => ?_⟩
        · unfold f_I_isOrdering_L23
          rw [if_neg (nI_ge (by omega) (by omega)), c_ob_1, x_pInSpare (by omega) ok (hsp j e e1), bI_rI, c_ob_1, y_inSpare (by omega) ok (hsp j e e1), bI_rI, c_ob_1, x_at hX' hW hv hr ht, bI_rI, if_pos (show nI (32 * e.1.2 + e.1.1) = cE t by rw [← ht2]; rfl)]
          by_cases h0 : j = 0
          · rw [if_pos (by rw [h0]; decide), nI_add, q1]
          · have e0 := List.getElem?_eq_getElem (show j - 1 < so.length by omega)
            generalize so[j - 1] = a at e0
            obtain ⟨oka, -⟩ := hmem a (List.mem_of_getElem? e0)
            obtain ⟨s1, s2⟩ := hst (j - 1) j a e (by omega) e0 e1
            have r1 := y_ahead (G := cPut b (cArr σ 5 f6) H) ho ok.1 oka.1 ok.2.1 oka.2.1
            have r2 := y_ahead (G := cPut b (cArr σ 5 f6) H) ho oka.1 ok.1 oka.2.1 ok.2.1
            have k1 : sR ord (e.1.1, e.1.2) (a.1.1, a.1.2) = false := by
              rw [sR_kap ho (by show e.1.1 < 1000; have := ok.1; omega) (by show a.1.1 < 1000; have := oka.1; omega)]
              exact decide_eq_false (by show ¬ kKap ord e.1 < kKap ord a.1; have : kKap ord a.1 ≤ kKap ord e.1 := s1; omega)
            have k2 : sR ord (a.1.1, a.1.2) (e.1.1, e.1.2) = decide (kKap ord a.1 < kKap ord e.1) := sR_kap ho (by show a.1.1 < 1000; have := oka.1; omega) (by show e.1.1 < 1000; have := ok.1; omega)
            have ej : nI j - nI 1 = nI (j - 1) := nI_sub (by omega)
            have mf : f_I_mayFollow (cPut b (cArr σ 5 f6) H) (b + 1) (nI j) (nI ord) = rI 1 (cPut b (cArr σ 5 f6) H) := by
              unfold f_I_mayFollow
              rw [c_ob_1, y_inSpare (by omega) ok (hsp j e e1), bI_rI, c_ob_1, ej, y_inSpare (by omega) oka (hsp (j - 1) a e0), bI_rI, r1, k1, bI_rI, if_pos (show mB false = 0 from rfl), r2, k2, bI_rI]
              by_cases kk : kKap ord a.1 < kKap ord e.1
              · rw [decide_eq_true kk, if_neg (by decide), rZ_1]
              · have hae : a.2 < e.2 := s2 (by show kKap ord a.1 = kKap ord e.1; have : kKap ord a.1 ≤ kKap ord e.1 := s1; omega)
                have := hlt
                rw [decide_eq_false kk, if_pos (show mB false = 0 from rfl), c_ob_1, x_pInSpare (by omega) oka (hsp (j - 1) a e0), bI_rI, c_ob_1, x_pInSpare (by omega) ok (hsp j e e1), bI_rI, if_neg (nI_ge hae (by have := ok.2.2; omega)), rZ_1]
            rw [if_neg (show ¬ nI j ≤ 0 from nI_ge (a := 0) (by omega) (by omega)), c_ob_1, mf, bI_rI, if_neg (by decide), nI_add, q1]
        · rw [q2 k hk, hb1 k hk]
          constructor
          · rintro (q | ⟨x, hx, hk2⟩)
            · by_cases z : k = e.2
              · exact Or.inr ⟨e, List.mem_cons_self .., z.symm⟩
              · simp [z] at q
                exact Or.inl q
            · exact Or.inr ⟨x, List.mem_cons_of_mem _ hx, hk2⟩
          · rintro (q | ⟨x, hx, hk2⟩)
            · exact Or.inl (by rw [q]; rfl)
            · rcases List.mem_cons.mp hx with z | z
              · exact Or.inl (by rw [← hk2, z]; simp)
              · exact Or.inr ⟨x, z, hk2⟩
  obtain ⟨v', q1, q2⟩ := L _ zFu 0 (nI 0) (List.drop_zero ..) (Nat.zero_le _) (by rw [hml]; unfold zFu; omega) (fun k hk hh => by rw [bit_0' k hk] at hh; cases hh)
  have hv' : v' = nI (2 ^ mLen A p - 1) := i32_ext fun k hk => by
    rw [bits_full _ (by omega) k hk]
    by_cases z : k < mLen A p
    · rw [decide_eq_true z]
      obtain ⟨e, he, hk2⟩ := hall k z
      exact (q2 k hk).mpr (Or.inr ⟨e, he, hk2⟩)
    · rw [decide_eq_false z]
      refine Bool.eq_false_iff.mpr (fun hh => ?_)
      rcases (q2 k hk).mp hh with q | ⟨e, he, hk2⟩
      · rw [bit_0' k hk] at q; cases q
      · obtain ⟨-, -, -, -, hlt⟩ := hmem e he
        omega
  refine ⟨f6, ?_⟩
  unfold f_I_isOrdering
  rw [c_ob_1, x_len hX hI.1 hv, bI_rI, c_ob_1, y1, bV_rV, c_ob_1, z1, bV_rV, q1, hv', cnt_full _ (by omega), bI_rI, if_pos rfl, rZ_1]
theorem x_areSound (hX : CRepx (-1) σ A) (hI : mInv m A) : ∃ f5, f_I_areSound (cPut b σ H) (b + 1) = rI 1 (cPut b (cArr σ 5 f5) H) := by
  have th : ∀ (f5 : Nat → Int32) (p : Nat), p < 6 → (mV A p → f_I_isThere (cPut b (cArr σ 5 f5) H) (b + 1) (nI p) = rI 1 (cPut b (cArr σ 5 f5) H)) ∧ (¬ mV A p → f_I_isThere (cPut b (cArr σ 5 f5) H) (b + 1) (nI p) = rI 0 (cPut b (cArr σ 5 f5) H)) := fun f5 p hp => by
    have key := CRepx.there (hX.spare f5) (hI.w 0) (x := nI p)
    refine ⟨fun hv => ?_, fun hv => ?_⟩
    · exact y_isThere (t := true) ⟨fun z => absurd ⟨p, hp, rfl, hv⟩ (key.mp z), fun z => by cases z⟩
    · exact y_isThere (t := false) ⟨fun _ => rfl, fun _ => key.mpr (fun ⟨q, hq, e, hz⟩ => hv (by rw [nI_eq31 (by omega) (by omega) e]; exact hz))⟩
  have L44 : ∀ (K1 : gH → gR) (K2 : gH → Nat → Int32 → gR) (p : Nat), p < 6 → ∀ (d n j : Nat) (f5 : Nat → Int32), j + d = 5 → d < n → ∃ f6, f_I_areSound_L44 K1 K2 n (cPut b (cArr σ 5 f5) H) (b + 1) (nI p) (nI j) = K2 (cPut b (cArr σ 5 f6) H) (b + 1) (nI p) := by
    intro K1 K2 p hp d
    induction d with
    | zero =>
      intro n j f5 hj hn
      cases n with
      | zero => omega
      | succ n =>
        refine ⟨f5, ?_⟩
        unfold f_I_areSound_L44
        rw [if_pos (nI_le (by omega) (by omega))]
    | succ d ih =>
      intro n j f5 hj hn
      cases n with
      | zero => omega
      | succ n =>
        unfold f_I_areSound_L44
        rw [if_neg (nI_ge (by omega) (by omega)), c_ob_1]
        by_cases hv : mV A p
        · obtain ⟨f6, e6⟩ := x_ordering (b := b) (H := H) (ord := j) (hX.spare f5) hI hv (by omega)
          rw [cArr_cArr] at e6
          obtain ⟨f7, e7⟩ := ih n (j + 1) f6 (by omega) (by omega)
          refine ⟨f7, ?_⟩
          rw [(th f5 p hp).1 hv, bI_rI, if_neg (by decide), c_ob_1, e6, bI_rI, if_neg (by decide), nI_add, e7]
        · obtain ⟨f7, e7⟩ := ih n (j + 1) f5 (by omega) (by omega)
          refine ⟨f7, ?_⟩
          rw [(th f5 p hp).2 hv, bI_rI, if_pos rfl, nI_add, e7]
  have L2 : ∀ (d n j : Nat) (f5 : Nat → Int32), j + d = 6 → d < n → ∃ f6, f_I_areSound_L2 (fun G47 => rZ (nI 0) G47) (fun G48 => rZ (nI 0) G48) (fun G49 => rZ (nI 1) G49) n (cPut b (cArr σ 5 f5) H) (b + 1) (nI j) = rI 1 (cPut b (cArr σ 5 f6) H) := by
    intro d
    induction d with
    | zero =>
      intro n j f5 hj hn
      cases n with
      | zero => omega
      | succ n =>
        refine ⟨f5, ?_⟩
        unfold f_I_areSound_L2
        rw [if_pos (nI_le (by omega) (by omega)), rZ_1]
    | succ d ih =>
      intro n j f5 hj hn
      cases n with
      | zero => omega
      | succ n =>
        unfold f_I_areSound_L2
        rw [if_neg (nI_ge (by omega) (by omega)), c_ob_1]
        by_cases hv : mV A j
        · obtain ⟨r, s, hr, -⟩ := hI.pl hv
          obtain ⟨f6, e6⟩ := x_back (b := b) (H := H) (hX.spare f5) hI hv
          rw [cArr_cArr] at e6
          obtain ⟨f7, e7⟩ := L44 (fun G38 => rZ (nI 0) G38) (fun G41 x39 x40 => f_I_areSound_L2 (fun G47 => rZ (nI 0) G47) (fun G48 => rZ (nI 0) G48) (fun G49 => rZ (nI 1) G49) n G41 x39 (x40 + (nI 1))) j (by omega) 5 zFu 0 f6 (by omega) (by unfold zFu; omega)
          obtain ⟨f8, e8⟩ := ih n (j + 1) f7 (by omega) (by omega)
          refine ⟨f8, ?_⟩
          rw [(th f5 j (by omega)).1 hv, bI_rI, if_neg (by decide), c_ob_1, x_lies (hX.spare f5) hI hv, bI_rI, if_neg (by decide), c_ob_1, e6, bI_rI, if_neg (by decide), c_ob_1, c_found (kyC.of (hX.spare f6) hI hv hr), bI_rI, if_neg (by decide)]
          rw [show f_I_areSound_L44 (fun G38 => rZ (nI 0) G38) (fun G41 x39 x40 => f_I_areSound_L2 (fun G47 => rZ (nI 0) G47) (fun G48 => rZ (nI 0) G48) (fun G49 => rZ (nI 1) G49) n G41 x39 (x40 + (nI 1))) zFu (cPut b (cArr σ 5 f6) H) (b + 1) (nI j) (nI 0) = _ from e7, nI_add, e8]
        · obtain ⟨f7, e7⟩ := L44 (fun G19 => rZ (nI 0) G19) (fun G22 x20 x21 => f_I_areSound_L2 (fun G47 => rZ (nI 0) G47) (fun G48 => rZ (nI 0) G48) (fun G49 => rZ (nI 1) G49) n G22 x20 (x21 + (nI 1))) j (by omega) 5 zFu 0 f5 (by omega) (by unfold zFu; omega)
          obtain ⟨f8, e8⟩ := ih n (j + 1) f7 (by omega) (by omega)
          refine ⟨f8, ?_⟩
          rw [(th f5 j (by omega)).2 hv, bI_rI, if_pos rfl]
          rw [show f_I_areSound_L44 (fun G19 => rZ (nI 0) G19) (fun G22 x20 x21 => f_I_areSound_L2 (fun G47 => rZ (nI 0) G47) (fun G48 => rZ (nI 0) G48) (fun G49 => rZ (nI 1) G49) n G22 x20 (x21 + (nI 1))) zFu (cPut b (cArr σ 5 f5) H) (b + 1) (nI j) (nI 0) = _ from e7, nI_add, e8]
  obtain ⟨f6, e6⟩ := L2 6 zFu 0 (σ.1 5) (by omega) (by unfold zFu; omega)
  rw [cArr_id] at e6
  exact ⟨f6, e6⟩
end Snd
end
section
-- the reference is whole; isSound
section Whl
variable {w : Nat → Nat} {b o m : Nat} {A : mS} {σ : cS} {H : gH} {p r s : Nat}
theorem so_en {ord n : Nat} (hI : mInv m A) (hr2 : r < 2) (hn : n ≤ 31) (ho : ord < 5) : kStb (fun e : (Nat × Nat) × Nat => kKap ord e.1) (fun e => e.2) (sSo (eR ord) [] (sEn 0 (sSeg A r s n))) := by
  have hen := sEn_ok (s := s) hI hr2 hn
  refine so_stb (P := fun e : (Nat × Nat) × Nat => e.1.1 < 1000) (R := eR ord) (fun x y hx hy => sR_kap ho hx hy) (sEn 0 (sSeg A r s n)) [] (fun e he => by cases he) (fun e he => ?_) (fun e x he => by cases he) (fun i j x y hij hx hy => ?_) (fun i j x y _ hx => by simp at hx)
  · have := (hen e he).1.1
    show e.1.1 < 1000
    omega
  · rw [sEn_at] at hx hy
    cases h1 : (sSeg A r s n)[i]? with
    | none => rw [h1] at hx; cases hx
    | some t =>
      cases h2 : (sSeg A r s n)[j]? with
      | none => rw [h2] at hy; cases hy
      | some u =>
        rw [h1] at hx
        rw [h2] at hy
        cases hx
        cases hy
        show 0 + i < 0 + j
        omega
theorem so_adj {ord n i : Nat} {t u : Nat × Nat × Nat} (hI : mInv m A) (hr2 : r < 2) (hn : n ≤ 31) (ho : ord < 5) (ht : (sSo (tR ord) [] (sSeg A r s n))[i]? = some t) (hu : (sSo (tR ord) [] (sSeg A r s n))[i + 1]? = some u) : kKap ord t.2 ≤ kKap ord u.2 := by
  have e1 : (sSo (tR ord) [] (sSeg A r s n)).map Prod.snd = sSo (sR ord) [] ((sSeg A r s n).map Prod.snd) := by
    rw [sSo_map (R := tR ord) (S := sR ord) Prod.snd (fun _ _ => rfl)]; rfl
  have e2 : (sSo (eR ord) [] (sEn 0 (sSeg A r s n))).map Prod.fst = sSo (sR ord) [] ((sSeg A r s n).map Prod.snd) := by
    rw [sSo_map (R := eR ord) (S := sR ord) Prod.fst (fun _ _ => rfl), sEn_fst]; rfl
  have g : ∀ (i : Nat) (x : Nat × Nat × Nat), (sSo (tR ord) [] (sSeg A r s n))[i]? = some x → ∃ y : (Nat × Nat) × Nat, (sSo (eR ord) [] (sEn 0 (sSeg A r s n)))[i]? = some y ∧ y.1 = x.2 := fun i x hx => by
    have e3 := congrArg (fun l => l[i]?) (e1.trans e2.symm)
    simp only [List.getElem?_map, hx] at e3
    cases hy : (sSo (eR ord) [] (sEn 0 (sSeg A r s n)))[i]? with
    | none => rw [hy] at e3; cases e3
    | some y => rw [hy] at e3; exact ⟨y, rfl, (Option.some.inj e3).symm⟩
  obtain ⟨a, a1, a2⟩ := g i t ht
  obtain ⟨c, c1, c2⟩ := g (i + 1) u hu
  have := (so_en hI hr2 hn ho i (i + 1) a c (by omega) a1 c1).1
  rw [← a2, ← c2]
  exact this
/-- a copy, put in order -/
theorem s_cpo {G : gH} {D : mD} {ord : Nat} (h : MS w o G A D) (hI : mInv m A) (hv : mV A p) (hr : mRw A.2.1 zDp p = some (r, s)) (ho : ord < 5) :
    ∃ (G2 G3 : gH) (e cap : Nat), f_M_copy w G o (nI p) = rA G.2.1 G2 ∧ f_M_order G2 G.2.1 (nI ord) = rV G3 ∧ isALc w G3 G.2.1 e cap ((sSo (tR ord) [] (sSeg A r s (mLen A p))).map fun t => t.1) ∧ mTs G3 (sSo (tR ord) [] (sSeg A r s (mLen A p))) ∧ MS w o G3 A D ∧ mSt 5 83 G G3 := by
  have hr2 := mRw_lt _ _ _ _ hr
  have hfit := hI.2.1.rw _ _ _ _ hr
  have h31 := (hI.2.2.1 r hr2).1
  have hsl : (sSeg A r s (mLen A p)).length = mLen A p := sSeg_len hfit
  obtain ⟨G2, e, cap, a1, a2, a3, a4, a5, a6, a7⟩ := s_copy h hI.1 hv hr hfit h31
  have hts := (h.ts (s := s) (n := mLen A p) hr2 (hI.2.2.1 r hr2).2 hI.2.2.2.2.2).st h.1 a7
  have hw0 : w 0 < G.2.1 := by
    obtain ⟨f, hf⟩ := h.2.1
    exact h.1 _ _ hf
  have l1 : G.2.1 ≤ G2.2.1 := a7.1.1
  have l2 : G2.2.1 ≤ G.2.1 + 5 := a7.1.2.1
  have l3 : G.1 ≤ G2.1 := a7.1.2.2.1
  have l4 : G2.1 ≤ G.1 + 83 := a7.1.2.2.2.1
  by_cases hz : mLen A p = 0
  · have e2 : sSeg A r s (mLen A p) = [] := List.eq_nil_of_length_eq_zero (by rw [hsl]; exact hz)
    rw [e2] at a2 hts ⊢
    exact ⟨G2, G2, e, cap, a1, s_order0 a2, a2, (fun t ht => absurd ht (List.not_mem_nil)), a6, a7⟩
  · obtain ⟨G3, o1, o2, o3, o4, o5, o6, o7⟩ := s_order (ord := ord) (z := G.2.1) (by omega) a3 a4 hw0 (by rw [hsl]; omega) a6.1 a2 hts
    have hB : gB G.2.1 G G3 := fun q hq => by
      by_cases he : q = e
      · have hew : e = w 0 := by
          rcases a4 with k | k
          · omega
          · exact k
        obtain ⟨m1, κ1, f1, u1, u2, u3, u4, -⟩ := id a2
        obtain ⟨f0, hf0⟩ := a6.2.1
        rw [hew, hf0] at u2
        rw [List.length_map, hsl] at u4
        rcases u3 with ⟨k1, -⟩ | ⟨-, -, k1⟩
        · rw [k1] at u2
          have := Option.some.inj u2
          unfold zQ at this
          cases this
        · omega
      · rw [o7 q he, a5 q hq]
    exact ⟨G2, G3, e, cap, a1, o1, o2, o3, h.gB hB o4, mSt.gB h.1 hB o4 (by omega) (by omega) (by omega) (by omega)⟩
theorem m_w94 {K1 : gH → gR} {K2 : gH → Nat → Int32 → Int32 → gR} {G : gH} {a e cap ord : Nat} {x1 : Int32} (hI : mInv m A) (hr2 : r < 2) {n0 : Nat} (hn0 : n0 ≤ 31) (ho : ord < 5) (hal : isALc w G a e cap ((sSo (tR ord) [] (sSeg A r s n0)).map fun t => t.1)) (hts : mTs G (sSo (tR ord) [] (sSeg A r s n0))) : ∀ (d n j : Nat), 1 ≤ j → j ≤ 40 → (sSo (tR ord) [] (sSeg A r s n0)).length ≤ j + d → d < n →
    f_M_isWhole_L94 w K1 K2 n G o x1 (nI ord) a (nI j) = K2 G o x1 (nI ord) := by
  have hl : (sSo (tR ord) [] (sSeg A r s n0)).length ≤ 31 := by
    rw [sSo_len]
    have h2 : (sSeg A r s n0).length ≤ n0 := by unfold sSeg; rw [List.length_take]; omega
    simp; omega
  have hadj := fun i t u => so_adj (i := i) (t := t) (u := u) (s := s) hI hr2 hn0 ho
  generalize sSo (tR ord) [] (sSeg A r s n0) = so at hal hts hl hadj
  obtain ⟨m1, κ1, f1, u1, -⟩ := id hal
  have sz : f_AL_size G a = rI (nI so.length) G := by rw [al_size hal.al, List.length_map]
  intro d
  induction d with
  | zero =>
    intro n j h1 h40 hj hn
    cases n with
    | zero => omega
    | succ n =>
      unfold f_M_isWhole_L94
      rw [gOb_of u1 rfl, sz, bI_rI, if_pos (nI_le (by omega) (by omega))]
  | succ d ih =>
    intro n j h1 h40 hj hn
    cases n with
    | zero => omega
    | succ n =>
      unfold f_M_isWhole_L94
      rw [gOb_of u1 rfl, sz, bI_rI]
      by_cases hjl : so.length ≤ j
      · rw [if_pos (nI_le hjl (by omega))]
      · have ht := List.getElem?_eq_getElem (show j < so.length by omega)
        generalize so[j] = t at ht
        have hu := List.getElem?_eq_getElem (show j - 1 < so.length by omega)
        generalize so[j - 1] = u at hu
        have gt : f_AL_get G a (nI j) = rA t.1 G := al_get hal.al (by rw [List.getElem?_map, ht]; rfl)
        have gu : f_AL_get G a (nI (j - 1)) = rA u.1 G := al_get hal.al (by rw [List.getElem?_map, hu]; rfl)
        obtain ⟨t1, t2, t3⟩ := hts t (List.mem_of_getElem? ht)
        obtain ⟨v1, v2, v3⟩ := hts u (List.mem_of_getElem? hu)
        obtain ⟨v, e1, e2⟩ := m_ahead ho t1 v1 ⟨t2, t3⟩ ⟨v2, v3⟩
        have hk := hadj (j - 1) u t hu (by rw [show j - 1 + 1 = j by omega]; exact ht)
        have hs : sR ord t.2 u.2 = false := by
          rw [sR_kap ho (by omega) (by omega)]
          exact decide_eq_false (by omega)
        rw [if_neg (nI_ge (by omega) (by omega)), gOb_of u1 rfl, gt, bA_rA, t1.cast, gOb_of u1 rfl, show nI j - nI 1 = nI (j - 1) from nI_sub (by omega), gu, bA_rA, v1.cast, e1, bI_rI, if_pos (e2.mpr hs), nI_add]
        exact ih n (j + 1) (by omega) (by omega) (by omega) (by omega)
theorem m_w75 {K1 : gH → gR} {K2 : gH → Nat → Int32 → gR} {D : mD} (hI : mInv m A) (hv : mV A p) (hr : mRw A.2.1 zDp p = some (r, s)) : ∀ (d n j : Nat) (G : gH), j + d = 5 → d < n → MS w o G A D →
    ∃ G', f_M_isWhole_L75 w K1 K2 n G o (nI p) (nI j) = K2 G' o (nI p) ∧ MS w o G' A D ∧ mSt (5 * d) (83 * d) G G' := by
  have hl31 := hI.l31 hv
  intro d
  induction d with
  | zero =>
    intro n j G hj hn h
    cases n with
    | zero => omega
    | succ n =>
      refine ⟨G, ?_, h, mSt.refl⟩
      unfold f_M_isWhole_L75
      rw [if_pos (nI_le (by omega) (by omega))]
  | succ d ih =>
    intro n j G hj hn h
    cases n with
    | zero => omega
    | succ n =>
      obtain ⟨G2, G3, e, cap, a1, a2, a3, a4, a5, a6⟩ := s_cpo (ord := j) h hI hv hr (by omega)
      obtain ⟨G4, b1, b2, b3⟩ := ih n (j + 1) G3 (by omega) (by omega) a5
      refine ⟨G4, ?_, b2, (a6.trans b3).mono (by omega) (by omega)⟩
      unfold f_M_isWhole_L75
      rw [if_neg (nI_ge (by omega) (by omega)), gOb_of h.2.2.1 rfl, a1, bA_rA, a2, bV_rV]
      rw [m_w94 (K1 := fun G33 => K1 G33) (K2 := fun G37 x34 x35 x36 => f_M_isWhole_L75 w K1 K2 n G37 x34 x35 (x36 + (nI 1))) hI (mRw_lt _ _ _ _ hr) hl31 (show j < 5 by omega) a3 a4 31 zFu 1 (by omega) (by omega) (by rw [sSo_len, sSeg_len (hI.2.1.rw _ _ _ _ hr)]; simp; omega) (by unfold zFu; omega), nI_add, b1]
theorem m_w2 {K1 K2 : gH → gR} {K3 : gH → Nat → gR} {D : mD} (hI : mInv m A) : ∀ (d n j : Nat) (G : gH), j + d = 6 → d < n → MS w o G A D →
    ∃ G', f_M_isWhole_L2 w K1 K2 K3 n G o (nI j) = K3 G' o ∧ MS w o G' A D ∧ mSt (25 * d) (415 * d) G G' := by
  intro d
  induction d with
  | zero =>
    intro n j G hj hn h
    cases n with
    | zero => omega
    | succ n =>
      refine ⟨G, ?_, h, mSt.refl⟩
      unfold f_M_isWhole_L2
      rw [if_pos (nI_le (by omega) (by omega))]
  | succ d ih =>
    intro n j G hj hn h
    cases n with
    | zero => omega
    | succ n =>
      unfold f_M_isWhole_L2
      rw [if_neg (nI_ge (by omega) (by omega)), gOb_of h.2.2.1 rfl]
      by_cases hv : mV A j
      · have hL : mIsL A (nI j) := ⟨j, by omega, rfl, hv⟩
        obtain ⟨r, s, hr, -⟩ := hI.pl hv
        obtain ⟨G3, a1, a2, a3⟩ := m_w75 (K1 := fun G39 => K2 G39) (K2 := fun G42 x40 x41 => f_M_isWhole_L2 w K1 K2 K3 n G42 x40 (x41 + (nI 1))) hI hv hr 5 zFu 0 G (by omega) (by unfold zFu; omega) h
        obtain ⟨G4, b1, b2, b3⟩ := ih n (j + 1) G3 (by omega) (by omega) a2
        refine ⟨G4, ?_, b2, (a3.trans b3).mono (by omega) (by omega)⟩
        rw [(s_noList h _).1 hL, bI_rI, if_pos rfl]
        by_cases h2 : j < 2
        · rw [if_pos (nI_lt h2 (by omega))]
          rw [show f_M_isWhole_L75 w (fun G39 => K2 G39) (fun G42 x40 x41 => f_M_isWhole_L2 w K1 K2 K3 n G42 x40 (x41 + (nI 1))) zFu G o (nI j) (nI 0) = _ from a1, nI_add, b1]
        · rw [if_neg (nI_nlt (by omega) (by omega))]
          cases hx : A.2.1 j with
          | none => rcases hv with q | q
                    · exact absurd q h2
                    · exact absurd hx q
          | some x =>
            obtain ⟨q, q1, f0, f1, f2⟩ := s_fp h (show j < 6 by omega) hx
            have hvo : mV A x.1 := hI.1.cl j x hx
            have hf := hI.2.1 j x hx
            have hlo := hI.l31 hvo
            rw [s_ldP h (by omega) q1, f1, if_neg (nI_pos (by omega)), s_ldP h (by omega) q1, f1, s_ldP h (by omega) q1, f2, s_ldP h (by omega) q1, f0, gOb_of h.2.2.1 rfl, s_len h hI.1 hvo, bI_rI, nI_add, if_pos (nI_le hf (by omega))]
            rw [show f_M_isWhole_L75 w (fun G60 => K2 G60) (fun G63 x61 x62 => f_M_isWhole_L2 w K1 K2 K3 n G63 x61 (x62 + (nI 1))) zFu G o (nI j) (nI 0) = _ from a1, nI_add, b1]
      · obtain ⟨G4, b1, b2, b3⟩ := ih n (j + 1) G (by omega) (by omega) h
        refine ⟨G4, ?_, b2, b3.mono (by omega) (by omega)⟩
        rw [(s_noList h _).2 (fun ⟨q, hq, e, hz⟩ => hv (by rw [nI_eq31 (by omega) (by omega) e]; exact hz)), bI_rI, if_neg (by decide), nI_add, b1]
theorem s_isWhole {G : gH} {D : mD} (h : MS w o G A D) (hI : mInv m A) : ∃ G', f_M_isWhole w G o = rI 1 G' ∧ MS w o G' A D ∧ mSt 150 2490 G G' := by
  obtain ⟨G2, a1, a2, a3⟩ := m_w2 (K1 := fun G69 => rZ (nI 0) G69) (K2 := fun G70 => rZ (nI 0) G70) (K3 := fun G72 x71 => gFA G72 x71 6 1 fun v73 => gOb G72 v73 9 fun o75 => bA (f_AL_get G72 v73 (nI 0)) fun v78 G77 => gCaO G77 v78 9 (gOb G77 v78 9 fun o80 => bI (f_AL_size G77 v78) fun v83 G82 => if (nI 31) < v83 then rZ (nI 0) G82
    else gFA G82 x71 6 1 fun v84 => gOb G82 v84 9 fun o86 => bA (f_AL_get G82 v84 (nI 1)) fun v89 G88 => gCaO G88 v89 9 (gOb G88 v89 9 fun o91 => bI (f_AL_size G88 v89) fun v94 G93 => if (nI 31) < v94 then rZ (nI 0) G93
      else rZ (nI 1) G93))) hI 6 zFu 0 G (by omega) (by unfold zFu; omega) h
  refine ⟨G2, ?_, a2, a3.mono (by omega) (by omega)⟩
  obtain ⟨om, oκ, ocap, of, o1, -⟩ := a2.2.2.2.1
  have gt : ∀ r1, r1 < 2 → f_AL_get G2 D.1.1 (nI r1) = rA (D.2.1 r1) G2 := fun r1 hr1 => al_get (x := D.2.1 r1) a2.2.2.2.1 (by rcases (by omega : r1 = 0 ∨ r1 = 1) with rfl | rfl <;> rfl)
  have row : ∀ r1, r1 < 2 → (∃ fs, G2.2.2 (D.2.1 r1) = some (.inr (9, fs))) ∧ f_AL_size G2 (D.2.1 r1) = rI (nI (A.1 r1).length) G2 := fun r1 hr1 => by
    obtain ⟨qm, qκ, qcap, qf, q1, -⟩ := a2.2.2.2.2.1 r1 hr1
    exact ⟨⟨_, q1⟩, by rw [al_size (a2.2.2.2.2.1 r1 hr1), List.length_map]⟩
  obtain ⟨⟨fs0, q0⟩, z0⟩ := row 0 (by omega)
  obtain ⟨⟨fs1, q1⟩, z1⟩ := row 1 (by omega)
  have l0 := (hI.2.2.1 0 (by omega)).1
  have l1 := (hI.2.2.1 1 (by omega)).1
  have ca : ∀ (a : Nat) (fs : List Value) (k : gR), G2.2.2 a = some (.inr (9, fs)) → gCaO G2 a 9 k = k := fun a fs k hq => by unfold gCaO; rw [gOb_of hq rfl]
  unfold f_M_isWhole
  rw [a1, gFA_of a2.2.2.1 rfl rfl, gOb_of o1 rfl, gt 0 (by omega), bA_rA, ca _ _ _ q0, gOb_of q0 rfl, z0, bI_rI, if_neg (nI_nlt (by omega) (by omega)), gFA_of a2.2.2.1 rfl rfl, gOb_of o1 rfl, gt 1 (by omega), bA_rA, ca _ _ _ q1, gOb_of q1 rfl, z1, bI_rI, if_neg (nI_nlt (by omega) (by omega)), rZ_1]
theorem sim_isSound (hR : CRep σ A) (hI : mInv m A) : SimOp w b o A m σ H xI1 (f_X_isSound (cPut b σ H) b) (fun G => f_M_isSound w G o) := by
  have hX := CRepx.of (exc := -1) hR
  obtain ⟨f5, e5⟩ := x_areSound (b := b) (H := H) hX hI
  refine Sim.yes 1 (cArr σ 5 f5) ?_ (fun G D h => ?_)
  · unfold f_X_isSound
    rw [c_fa_0_0, c_ob_1, e5, bI_rI, rZ_1']
  · obtain ⟨h1, s1⟩ := h.set 0 (nI 0)
    have h1' : MS w o (gUp G o (.inr (6, mOb (mSet A 0 (nI 0)) D))) (mSet A 0 0) D := h1
    obtain ⟨G2, r2, h2, s2⟩ := s_isWhole h1' (hI.thr 0)
    refine ⟨_, D, G2, m, ?_, h2, (hX.thr 0).spare f5, hI.thr 0, Nat.le_succ m, rfl, (s1.trans s2).mono (by omega) (by omega)⟩
    unfold f_M_isSound
    rw [m_put (j := 0) (i := 0) h.2.2 (by omega) rfl, gOb_of h1'.2.2.1 rfl, r2, bI_rI, rZ_1']
end Whl
end
section
-- texts: a StringBuilder, how long it is
section Dig
/-- how many digits -/
def dg (k : Nat) : Nat := if k < 10 then 1 else if k < 100 then 2 else 3
theorem dg_le (k : Nat) : dg k ≤ 3 ∧ 1 ≤ dg k := by
  unfold dg
  split
  · omega
  · split <;> omega
theorem neg_le {k c : Nat} (hk : k < 1000) (hc : c < 2000) : (-(nI k) ≤ -(nI c)) ↔ c ≤ k := by
  rw [neg_nI, neg_nI, Int32.le_iff_toInt_le, Int32.toInt_ofInt_of_le (by omega) (by omega), Int32.toInt_ofInt_of_le (by omega) (by omega)]
  omega
theorem m10 : (-10 : Int32) = -(nI 10) := by decide
theorem m100 : nI 10 * (-10) = -(nI 100) := by decide
theorem m1000 : nI 10 * -(nI 100) = -(nI 1000) := by decide
theorem s_size10 {G : gH} {k : Nat} (hk : k < 1000) : f_IN_stringSize G (nI k) = rI (nI (dg k)) G := by
  unfold f_IN_stringSize
  rw [if_neg (nI_pos (by omega))]
  show f_IN_stringSize_L16 _ _ (5996 + 1 + 1 + 1 + 1) G (-(nI k)) (nI 0) (-10) (nI 1) = _
  unfold f_IN_stringSize_L16
  rw [if_neg (by decide), m10]
  unfold dg
  by_cases h1 : k < 10
  · rw [if_neg (fun q => by have := (neg_le hk (by omega)).mp q; omega), if_pos h1]; rfl
  · rw [if_pos ((neg_le hk (by omega)).mpr (by omega)), if_neg h1, show nI 10 * -(nI 10) = -(nI 100) by decide]
    unfold f_IN_stringSize_L16
    rw [if_neg (by decide)]
    by_cases h2 : k < 100
    · rw [if_neg (fun q => by have := (neg_le hk (by omega)).mp q; omega), if_pos h2]; rfl
    · rw [if_pos ((neg_le hk (by omega)).mpr (by omega)), if_neg h2, m1000]
      unfold f_IN_stringSize_L16
      rw [if_neg (by decide), if_neg (fun q => by have := (neg_le hk (by omega)).mp q; omega)]; rfl
theorem x_digits {G : gH} {k : Nat} (hk : k < 1000) : f_X_countDigits G (nI k) = rI (nI (dg k)) G := by
  unfold f_X_countDigits
  rw [gDiv_of (by omega) (by omega) (by omega)]
  show f_X_countDigits_L9 _ (5996 + 1 + 1 + 1 + 1) G (nI 1) (nI (k / 10)) (nI 1) = _
  unfold f_X_countDigits_L9
  rw [if_neg (by decide)]
  unfold dg
  by_cases h1 : k < 10
  · rw [show k / 10 = 0 by omega, if_pos (by decide), if_pos h1]
  · rw [if_neg (show ¬ nI (k / 10) ≤ 0 from nI_ge (a := 0) (by omega) (by omega)), if_neg h1, gDiv_of (by omega) (by omega) (by omega), nI_add]
    unfold f_X_countDigits_L9
    rw [if_neg (by decide)]
    by_cases h2 : k < 100
    · rw [show k / 10 / 10 = 0 by omega, if_pos (by decide), if_pos h2]
    · rw [if_neg (show ¬ nI (k / 10 / 10) ≤ 0 from nI_ge (a := 0) (by omega) (by omega)), if_neg h2, gDiv_of (by omega) (by omega) (by omega), nI_add]
      unfold f_X_countDigits_L9
      rw [if_neg (by decide), show k / 10 / 10 / 10 = 0 by omega, if_pos (by decide)]
theorem fits_b (v : Int32) : fits .byte (.int (vp_nar .byte v)) = true := by
  rw [vp_nar_byte]
  have h1 := Int8.le_toInt v.toInt8
  have h2 := Int8.toInt_lt v.toInt8
  have e : v.toInt8.toInt32.toInt = v.toInt8.toInt := by simp
  have e1 : (-128 : Int32) ≤ v.toInt8.toInt32 := by
    rw [Int32.le_iff_toInt_le, e, show (-128 : Int32).toInt = -128 by decide]; omega
  have e2 : v.toInt8.toInt32 ≤ (127 : Int32) := by
    rw [Int32.le_iff_toInt_le, e, show (127 : Int32).toInt = 127 by decide]; omega
  show (decide (-128 ≤ v.toInt8.toInt32) && decide (v.toInt8.toInt32 ≤ 127)) = true
  simp [e1, e2]
end Dig
section Arr
variable {G : gH}
theorem sh0r (x : Int32) : x >>> (0 &&& 31) = x := by simp
theorem sh0l (x : Int32) : x <<< (0 &&& 31) = x := by simp
theorem gLenK_of {a ka c n : Nat} {f : Nat → Int32} {k : Int32 → gR} (h : G.2.2 a = some (zI c n f)) (hc : c % 1000 = ka) : gLen G a ka k = k (nI n) := by
  unfold gLen gAr
  rw [h]
  simp only [zI]
  rw [if_pos hc]
theorem gLdK_of {a ka c n i : Nat} {f : Nat → Int32} {k : Int32 → gR} (h : G.2.2 a = some (zI c n f)) (hc : c % 1000 = ka) (hi : i < n) (hn : n < 2 ^ 31) : gLd G a ka (nI i) k = k (f i) := by
  unfold gLd gAr
  rw [h]
  simp only [zI]
  rw [if_pos hc, if_pos (gIn_nI hi hn), nI_clamp (by omega)]
theorem gNewB_of {n : Nat} {k : Nat → gH → gR} (hn : n ≤ 60000000) : gNewA G 101 (nI n) k = k G.2.1 (gNew G n (zI 101 n (fun _ => 0))) := gNewA_of hn
theorem gBnd_nI {sp dp n n0 n1 : Nat} (h0 : sp + n ≤ n0) (h1 : dp + n ≤ n1) (l0 : n0 < 2 ^ 30) (l1 : n1 < 2 ^ 30) : gBnd (nI sp) (nI dp) (nI n) n0 n1 = true := by
  unfold gBnd
  rw [decide_eq_true (nI_pos (by omega)), decide_eq_true (nI_pos (by omega)), decide_eq_true (nI_pos (by omega)), nI_clamp (by omega), nI_clamp (by omega), nI_clamp (by omega), decide_eq_true h0, decide_eq_true h1]
  rfl
theorem gCpB_of {a0 a1 c n0 n1 sp dp n : Nat} {f g : Nat → Int32} {k : gH → gR} (h0 : G.2.2 a0 = some (zI c n0 f)) (hc : c % 1000 = 101) (h1 : G.2.2 a1 = some (zI 101 n1 g)) (b0 : sp + n ≤ n0) (b1 : dp + n ≤ n1) (l0 : n0 < 2 ^ 30) (l1 : n1 < 2 ^ 30) (hf : ∀ i, i < n → fits .byte (.int (f (sp + i))) = true) :
    gCpB G a0 (nI sp) a1 (nI dp) (nI n) k = k (gUp G a1 (zI 101 n1 (va_cpy f g sp dp n))) := by
  unfold gCpB gAr gArW
  rw [h0, h1]
  simp only [zI]
  rw [if_pos hc, if_pos trivial, nI_clamp (by omega), nI_clamp (by omega), nI_clamp (by omega), if_pos ⟨gBnd_nI b0 b1 l0 l1, List.all_eq_true.mpr (fun i hi => hf i (List.mem_range.mp hi))⟩]
theorem cpy_fits {f g : Nat → Int32} {sp dp n n1 : Nat} (hf : ∀ i, i < n → fits .byte (.int (f (sp + i))) = true) (hg : ∀ i, i < n1 → fits .byte (.int (g i)) = true) : ∀ i, i < n1 → fits .byte (.int (va_cpy f g sp dp n i)) = true := by
  intro i hi
  unfold va_cpy
  split
  · rename_i h
    have := hf (i - dp) (by omega)
    first | exact this | (rw [show sp + (i - dp) = i - dp + sp by omega] at this; exact this)
  · exact hg i hi
end Arr
end
section
-- a StringBuilder of one's own
section Sb
def sbT (G0 : gH) (cap : Nat) (G : gH) : Prop := ∃ c s, G.2.1 = G0.2.1 + c ∧ G.1 = G0.1 + s ∧ ((cap = 16 ∧ c = 2 ∧ s = 20) ∨ (cap = 34 ∧ c = 3 ∧ s = 54) ∨ (cap = 70 ∧ c = 4 ∧ s = 124) ∨ (cap = 142 ∧ c = 5 ∧ s = 266) ∨ (cap = 286 ∧ c = 6 ∧ s = 552))
/-- a builder of n signs at a, its bytes at e, beside all that was there in G0 -/
def isSB (G0 : gH) (a e cap n : Nat) (G : gH) : Prop := gB G0.2.1 G0 G ∧ gWf G ∧ G0.2.1 ≤ a ∧ G0.2.1 ≤ e ∧ a ≠ e ∧ (∃ v2, G.2.2 a = some (.inr (10, [.ref e, .int 0, .int v2, .int (nI n)]))) ∧ (∃ g, G.2.2 e = some (zI 101 cap g) ∧ ∀ i, i < cap → fits .byte (.int (g i)) = true) ∧ n ≤ cap ∧ sbT G0 cap G
/-- a text of n signs -/
def kStr (G : gH) (q n : Nat) : Prop := ∃ (c e c2 : Nat) (fs : List Value) (g : Nat → Int32), G.2.2 q = some (.inr (c, fs)) ∧ c % 1000 = 8 ∧ fs[0]? = some (.ref e) ∧ fs[1]? = some (.int 0) ∧ G.2.2 e = some (zI c2 n g) ∧ c2 % 1000 = 101 ∧ ∀ i, i < n → fits .byte (.int (g i)) = true
variable {G0 G : gH} {a e cap n : Nat} {w : Nat → Nat}
theorem sbT.le (h : sbT G0 cap G) : cap ≤ 286 ∧ 16 ≤ cap := by
  obtain ⟨c, s, -, -, h⟩ := h
  omega
theorem dv_all : ∀ k : Nat, k < 1000 → -(nI k) / nI 100 = -(nI (k / 100)) ∧ -(nI (k / 100)) * nI 100 - -(nI k) = nI (k % 100) := by decide +kernel
theorem fits0 : fits .byte (.int 0) = true := by decide
theorem rN0 {G : gH} : rN .byte 0 G = rI 0 G := by
  unfold rN
  rw [if_pos (show narrow FieldType.byte (Value.int 0) = Value.int 0 from congrArg Value.int (by decide : (0 : Int32).toInt8.toInt32 = 0))]; rfl
theorem kStr.coder {q : Nat} (h : kStr G q n) : f_ST_coder w G q = rI 0 G := by
  obtain ⟨c, e, c2, fs, g, h1, h2, h3, h4, -⟩ := h
  unfold f_ST_coder
  rw [if_neg (by decide), gFI_of h1 h2 h4, rN0]
theorem kStr.len {q : Nat} (h : kStr G q n) : f_ST_length w G q = rI (nI n) G := by
  have hc := h.coder (w := w)
  obtain ⟨c, e, c2, fs, g, h1, h2, h3, h4, h5, h6, h7⟩ := h
  unfold f_ST_length
  rw [gFA_of h1 h2 h3, gLenK_of h5 h6, gOb_of h1 h2, hc, bI_rI, sh0r]
theorem kStr.gB {q : Nat} (h : kStr G0 q n) (hw : gWf G0) (hB : gB G0.2.1 G0 G) : kStr G q n := by
  obtain ⟨c, e, c2, fs, g, h1, h2, h3, h4, h5, h6, h7⟩ := h
  exact ⟨c, e, c2, fs, g, (hB _ (hw _ _ h1)).trans h1, h2, h3, h4, (hB _ (hw _ _ h5)).trans h5, h6, h7⟩
theorem sb_new (hw : gWf G0) : ∃ G1, (∀ K : Nat → gH → gR, (gNewO G0 10 4 [.null, .int 0, .int 0, .int 0] fun q1 G2 => bV (f_SB_init w G2 q1) fun G4 => K q1 G4) = K G0.2.1 G1) ∧ isSB G0 G0.2.1 (G0.2.1 + 1) 16 0 G1 := by
  have c0 : ∀ z, z < G0.2.1 → (gNew G0 4 (.inr (10, [.null, .int 0, .int 0, .int 0]))).2.2 z = G0.2.2 z := fun z hz => gNew_ne (by omega)
  have n0 : (gNew G0 4 (.inr (10, [.null, .int 0, .int 0, .int 0]))).2.2 G0.2.1 = some (.inr (10, [.null, .int 0, .int 0, .int 0])) := gNew_at
  have w0 : gWf (gNew G0 4 (.inr (10, [.null, .int 0, .int 0, .int 0]))) := hw.new
  have s0 : (gNew G0 4 (.inr (10, [.null, .int 0, .int 0, .int 0]))).2.1 = G0.2.1 + 1 ∧ (gNew G0 4 (.inr (10, [.null, .int 0, .int 0, .int 0]))).1 = G0.1 + 4 := ⟨rfl, rfl⟩
  generalize hG1 : gNew G0 4 (.inr (10, [.null, .int 0, .int 0, .int 0])) = G1 at c0 n0 w0 s0
  have c1 : ∀ z, z < G0.2.1 → (gNew G1 16 (zI 101 16 (fun _ => 0))).2.2 z = G0.2.2 z := fun z hz => by rw [gNew_ne (by omega)]; exact c0 z hz
  have n1 : (gNew G1 16 (zI 101 16 (fun _ => 0))).2.2 G0.2.1 = some (.inr (10, [.null, .int 0, .int 0, .int 0])) := by rw [gNew_ne (by omega)]; exact n0
  have a1 : (gNew G1 16 (zI 101 16 (fun _ => 0))).2.2 (G0.2.1 + 1) = some (zI 101 16 (fun _ => 0)) := by rw [← s0.1]; exact gNew_at
  have w1 : gWf (gNew G1 16 (zI 101 16 (fun _ => 0))) := w0.new
  have s1 : (gNew G1 16 (zI 101 16 (fun _ => 0))).2.1 = G0.2.1 + 2 ∧ (gNew G1 16 (zI 101 16 (fun _ => 0))).1 = G0.1 + 20 := ⟨by show G1.2.1 + 1 = _; omega, by show G1.1 + 16 = _; omega⟩
  have e1 : ∀ k : Nat → gH → gR, gNewA G1 101 (nI 16) k = k (G0.2.1 + 1) (gNew G1 16 (zI 101 16 (fun _ => 0))) := fun k => by rw [gNewB_of (by omega), s0.1]
  generalize gNew G1 16 (zI 101 16 (fun _ => 0)) = G2 at c1 n1 a1 w1 s1 e1
  refine ⟨gUp (gUp G2 G0.2.1 (.inr (10, [.ref (G0.2.1 + 1), .int 0, .int 0, .int 0]))) G0.2.1 (.inr (10, [.ref (G0.2.1 + 1), .int 0, .int 0, .int 0])), fun K => ?_, fun z hz => ?_, ?_, Nat.le_refl _, by omega, by omega, ⟨0, ?_⟩, ⟨fun _ => 0, ?_, fun _ _ => fits0⟩, by omega, ⟨2, 20, s1.1, s1.2, Or.inl ⟨rfl, rfl, rfl⟩⟩⟩
  · unfold gNewO f_SB_init f_AB_init
    dsimp only
    rw [hG1, if_neg (by decide), e1, gPut_of n1 (show 0 < 4 by decide)]
    rw [show ([.null, .int 0, .int 0, .int 0] : List Value).set 0 (.ref (G0.2.1 + 1)) = [.ref (G0.2.1 + 1), .int 0, .int 0, .int 0] from rfl, gPut_of gUp_at (show 1 < 4 by decide), bV_rV, bV_rV]
    rfl
  · rw [gUp_ne (by omega), gUp_ne (by omega)]; exact c1 z hz
  · refine gWf.up (w1.up ?_) ?_ <;> (show G0.2.1 < G2.2.1; omega)
  · exact gUp_at
  · rw [gUp_ne (by omega), gUp_ne (by omega)]; exact a1
theorem dif_le0 {x y : Nat} (hx : x < 2 ^ 20) (hy : y < 2 ^ 20) : (nI x - nI y ≤ 0) ↔ x ≤ y := by
  rw [nI_dif, Int32.le_iff_toInt_le, Int32.toInt_ofInt_of_le (by omega) (by omega)]
  show _ ≤ (0 : Int) ↔ _
  omega
/-- the field that counts, and a byte -/
theorem isSB.cnt (h : isSB G0 a e cap n G) {m : Nat} (hm : m ≤ cap) : ∃ G', (∀ k : gH → gR, gPut G a 10 3 (.int (nI m)) k = k G') ∧ isSB G0 a e cap m G' := by
  obtain ⟨h1, h2, h3, h4, h5, ⟨v2, h6⟩, ⟨g, h7, h7b⟩, h8, h9⟩ := h
  refine ⟨gUp G a (.inr (10, [.ref e, .int 0, .int v2, .int (nI m)])), fun k => gPut_of h6 (show 3 < 4 by decide), fun z hz => by rw [gUp_ne (by omega)]; exact h1 z hz, h2.up (h2 _ _ h6), h3, h4, h5, ⟨v2, gUp_at⟩, ⟨g, by rw [gUp_ne (fun q => h5 q.symm)]; exact h7, h7b⟩, hm, h9⟩
theorem isSB.byt (h : isSB G0 a e cap n G) {i : Nat} (hi : i < cap) (v : Int32) : ∃ G', (∀ k : gH → gR, gSt G e 101 (nI i) (vp_nar .byte v) k = k G') ∧ isSB G0 a e cap n G' := by
  have hcap := h.2.2.2.2.2.2.2.2.le
  obtain ⟨h1, h2, h3, h4, h5, ⟨v2, h6⟩, ⟨g, h7, h7b⟩, h8, h9⟩ := h
  refine ⟨gUp G e (zI 101 cap (upd g i (vp_nar .byte v))), fun k => gStK_of h7 hi (by omega), fun z hz => by rw [gUp_ne (by omega)]; exact h1 z hz, h2.up (h2 _ _ h7), h3, h4, h5, ⟨v2, by rw [gUp_ne h5]; exact h6⟩, ⟨_, gUp_at, fun j hj => ?_⟩, h8, h9⟩
  by_cases q : j = i
  · rw [q, upd_at]; exact fits_b v
  · rw [upd_ne q]; exact h7b j hj
theorem isSB.fld (h : isSB G0 a e cap n G) : (∀ k : Nat → gR, gFA G a 10 0 k = k e) ∧ (∀ k : Int32 → gR, gFI G a 10 1 k = k 0) ∧ (∀ k : Int32 → gR, gFI G a 10 3 k = k (nI n)) ∧ (∃ fs, ∀ k : List Value → gR, gOb G a 10 k = k fs) ∧ (∀ k : Int32 → gR, gLen G e 101 k = k (nI cap)) := by
  obtain ⟨h1, h2, h3, h4, h5, ⟨v2, h6⟩, ⟨g, h7, h7b⟩, h8, h9⟩ := h
  exact ⟨fun k => gFA_of h6 rfl rfl, fun k => gFI_of h6 rfl rfl, fun k => gFI_of h6 rfl rfl, ⟨_, fun k => gOb_of h6 rfl⟩, fun k => gLenK_of h7 rfl⟩
theorem sb_ens {k : Nat} (h : isSB G0 a e cap n G) (hk : k ≤ 3) (hn : n + k ≤ 280) : ∃ (e' cap' : Nat) (G' : gH), f_AB_ensureCapacityInternal G a (nI (n + k)) = rV G' ∧ isSB G0 a e' cap' n G' ∧ n + k ≤ cap' := by
  obtain ⟨fa, fc, -, ⟨fs, fo⟩, fl⟩ := h.fld
  have hcap := h.2.2.2.2.2.2.2.2.le
  unfold f_AB_ensureCapacityInternal
  rw [fa, fl, fc, sh0r]
  by_cases hle : n + k ≤ cap
  · exact ⟨e, cap, G, by rw [if_pos ((dif_le0 (by omega) (by omega)).mpr hle)], h, hle⟩
  · obtain ⟨h1, h2, h3, h4, h5, ⟨v2, h6⟩, ⟨g, h7, h7b⟩, h8, h9⟩ := h
    obtain ⟨c, s, t1, t2, t3⟩ := h9
    have nl : f_AB_newCapacity G a (nI (n + k)) = rI (nI (2 * cap + 2)) G := by
      unfold f_AB_newCapacity f_AS_newLength
      rw [fa, fl, fc, fc, sh0l, sh0l, nI_sub (by omega), nI_add, if_pos (nI_lt (by omega) (by omega)), nI_add, if_neg (nI_ge (by omega) (by omega)), if_neg (nI_nlt (by omega) (by omega)), bI_rI, if_neg (fun q => by have := nI_eq31 (by omega) (by omega) q; omega), fc, sh0r, show cap + (cap + 2) = 2 * cap + 2 by omega]
    rw [if_neg (fun q => hle ((dif_le0 (by omega) (by omega)).mp q)), fa, fo, nl, bI_rI, fc, sh0l]
    have c1 : ∀ z, z < G.2.1 → (gNew G (2 * cap + 2) (zI 101 (2 * cap + 2) (fun _ => 0))).2.2 z = G.2.2 z := fun z hz => gNew_ne (by omega)
    have a1 : (gNew G (2 * cap + 2) (zI 101 (2 * cap + 2) (fun _ => 0))).2.2 G.2.1 = some (zI 101 (2 * cap + 2) (fun _ => 0)) := gNew_at
    have w1 : gWf (gNew G (2 * cap + 2) (zI 101 (2 * cap + 2) (fun _ => 0))) := h2.new
    have s1 : (gNew G (2 * cap + 2) (zI 101 (2 * cap + 2) (fun _ => 0))).2.1 = G.2.1 + 1 ∧ (gNew G (2 * cap + 2) (zI 101 (2 * cap + 2) (fun _ => 0))).1 = G.1 + (2 * cap + 2) := ⟨rfl, rfl⟩
    have e1 : ∀ k : Nat → gH → gR, gNewA G 101 (nI (2 * cap + 2)) k = k G.2.1 (gNew G (2 * cap + 2) (zI 101 (2 * cap + 2) (fun _ => 0))) := fun k => gNewB_of (by omega)
    generalize gNew G (2 * cap + 2) (zI 101 (2 * cap + 2) (fun _ => 0)) = G1 at c1 a1 w1 s1 e1
    have la := h2 _ _ h6
    have le := h2 _ _ h7
    have h7' := (c1 e le).trans h7
    have h6' : (gUp G1 G.2.1 (zI 101 (2 * cap + 2) (va_cpy g (fun _ => 0) 0 0 cap))).2.2 a = some (.inr (10, [.ref e, .int 0, .int v2, .int (nI n)])) := by rw [gUp_ne (by omega), c1 a la]; exact h6
    have cp : f_AR_copyOf1 G e (nI (2 * cap + 2)) = rA G.2.1 (gUp G1 G.2.1 (zI 101 (2 * cap + 2) (va_cpy g (fun _ => 0) 0 0 cap))) := by
      unfold f_AR_copyOf1
      rw [fl, if_neg (fun q => by have := nI_eq31 (by omega) (by omega) q; omega), e1, gLenK_of h7' rfl, if_neg (nI_nlt (by omega) (by omega)), gCpB_of h7' rfl a1 (by omega) (by omega) (by omega) (by omega) (fun i hi => by rw [Nat.zero_add]; exact h7b i hi)]
    refine ⟨G.2.1, 2 * cap + 2, gUp (gUp G1 G.2.1 (zI 101 (2 * cap + 2) (va_cpy g (fun _ => 0) 0 0 cap))) a (.inr (10, [.ref G.2.1, .int 0, .int v2, .int (nI n)])), ?_, ⟨fun z hz => ?_, ?_, h3, by omega, by omega, ⟨v2, gUp_at⟩, ⟨va_cpy g (fun _ => 0) 0 0 cap, ?_, cpy_fits (fun i hi => by rw [Nat.zero_add]; exact h7b i hi) (fun _ _ => fits0)⟩, by omega, ⟨c + 1, s + (2 * cap + 2), ?_, ?_, ?_⟩⟩, by omega⟩
    · rw [cp, bA_rA, gPut_of h6' (show 0 < 4 by decide)]; rfl
    · rw [gUp_ne (by omega), gUp_ne (by omega), c1 z (by omega)]; exact h1 z hz
    · refine gWf.up (w1.up ?_) ?_
      · omega
      · show a < G1.2.1; omega
    · rw [gUp_ne (by omega)]; exact gUp_at
    · show G1.2.1 = _; omega
    · show G1.1 = _; omega
    · rcases t3 with ⟨z1, z2, z3⟩ | ⟨z1, z2, z3⟩ | ⟨z1, z2, z3⟩ | ⟨z1, z2, z3⟩ | ⟨z1, z2, z3⟩
      · exact Or.inr (Or.inl (by omega))
      · exact Or.inr (Or.inr (Or.inl (by omega)))
      · exact Or.inr (Or.inr (Or.inr (Or.inl (by omega))))
      · exact Or.inr (Or.inr (Or.inr (Or.inr (by omega))))
      · omega
theorem sb_lat (h : isSB G0 a e cap n G) : f_AB_isLatin1 w G a = rI 1 G := by
  unfold f_AB_isLatin1
  rw [if_neg (by decide), h.fld.2.1, if_pos rfl, rZ_1]
theorem sb_chr {c : Nat} (h : isSB G0 a e cap n G) (hn : n + 1 ≤ 280) (hc : c ≤ 255) : ∃ (e' cap' : Nat) (G' : gH), f_SB_append1 w G a (nI c) = rA a G' ∧ isSB G0 a e' cap' (n + 1) G' := by
  obtain ⟨e1, cap1, G1, r1, i1, l1⟩ := sb_ens (k := 1) h (by omega) hn
  obtain ⟨G2, r2, i2⟩ := i1.cnt (m := n + 1) l1
  obtain ⟨G3, r3, i3⟩ := i2.byt (i := n) (by omega) (nI c).toInt8.toInt32
  obtain ⟨-, -, f3, ⟨fs, fo⟩, -⟩ := h.fld
  obtain ⟨ga, -, g3, ⟨gs, go⟩, -⟩ := i1.fld
  refine ⟨e1, cap1, G3, ?_, i3⟩
  unfold f_SB_append1 f_AB_append1 f_L1_canEncode
  rw [fo, f3, fo, nI_add, r1, bV_rV, go, sb_lat i1, bI_rI, if_neg (by decide), if_neg (nI_nlt (by omega) (by omega)), rZ_1, bI_rI, if_neg (by decide), ga, g3, nI_add, r2, r3, bA_rA]
theorem sb_str {q n0 : Nat} (h : isSB G0 a e cap n G) (hw : gWf G0) (hs : kStr G0 q n0) (hn0 : n0 ≤ 3) (hn : n + n0 ≤ 280) : ∃ (e' cap' : Nat) (G' : gH), f_SB_append3 w G a q = rA a G' ∧ isSB G0 a e' cap' (n + n0) G' := by
  obtain ⟨e1, cap1, G1, r1, i1, l1⟩ := sb_ens (k := n0) h hn0 hn
  have k0 := hs.gB hw h.1
  have k1 := hs.gB hw i1.1
  obtain ⟨-, -, f3, ⟨fs, fo⟩, -⟩ := h.fld
  obtain ⟨ga, gc, g3, ⟨gs, go⟩, -⟩ := i1.fld
  have kl := k0.len (w := w)
  have kc := k1.coder (w := w)
  obtain ⟨c0, x0, c20, fs0, y0, z1, z2, -⟩ := k0
  have hcap := i1.2.2.2.2.2.2.2.2.le
  obtain ⟨c1, x1, c21, fs1, y1, u1, u2, u3, u4, u5, u6, u7⟩ := k1
  -- the signs are written
  obtain ⟨h1, h2, h3, h4, h5, ⟨v2, h6⟩, ⟨g, h7, h7b⟩, h8, h9⟩ := id i1
  have i2 : isSB G0 a e1 cap1 n (gUp G1 e1 (zI 101 cap1 (va_cpy y1 g 0 n n0))) := ⟨fun z hz => by rw [gUp_ne (by omega)]; exact h1 z hz, h2.up (h2 _ _ h7), h3, h4, h5, ⟨v2, by rw [gUp_ne h5]; exact h6⟩, ⟨_, gUp_at, cpy_fits (fun i hi => by rw [Nat.zero_add]; exact u7 i hi) h7b⟩, h8, h9⟩
  obtain ⟨-, -, k3, -, -⟩ := i2.fld
  obtain ⟨G3, r3, i3⟩ := i2.cnt (m := n + n0) l1
  refine ⟨e1, cap1, G3, ?_, i3⟩
  unfold f_SB_append3 f_AB_append3
  rw [fo, gOb_of z1 z2, kl, bI_rI, f3, fo, nI_add, r1, bV_rV, g3, go]
  unfold f_AB_putStringAt f_AB_inflateIfNeededFor f_ST_getBytes
  rw [go, if_neg (by decide), gc, gOb_of u1 u2, kc, bI_rI, if_pos rfl, bV_rV, ga, gc, gOb_of u1 u2, gOb_of u1 u2, kc, bI_rI, if_pos rfl, gFA_of u1 u2 u3, gFA_of u1 u2 u3, gLenK_of u5 u6, sh0l]
  rw [show gCpB G1 x1 (nI 0) e1 (nI n) (nI n0) _ = _ from gCpB_of u5 u6 h7 (by omega) (by omega) (by omega) (by omega) (fun i hi => by rw [Nat.zero_add]; exact u7 i hi), bV_rV, bV_rV, k3, nI_add, r3, bA_rA]
theorem sb_int {k : Nat} {g1 g2 : Nat → Int32} (h : isSB G0 a e cap n G) (hw : gWf G0) (d1 : G0.2.2 (w 1) = some (zI 1101 100 g1)) (d2 : G0.2.2 (w 2) = some (zI 1101 100 g2)) (hk : k < 1000) (hn : n + 3 ≤ 280) : ∃ (e' cap' : Nat) (G' : gH), f_SB_append2 w G a (nI k) = rA a G' ∧ isSB G0 a e' cap' (n + dg k) G' := by
  have hd := dg_le k
  obtain ⟨e1, cap1, G1, r1, i1, l1⟩ := sb_ens (k := dg k) h (by omega) (by omega)
  obtain ⟨-, -, f3, ⟨fs, fo⟩, -⟩ := h.fld
  obtain ⟨ga, gc, -, ⟨gs, go⟩, -⟩ := i1.fld
  have t1 : ∀ (G' : gH), gB G0.2.1 G0 G' → ∀ i, i < 100 → ∀ K : Int32 → gR, gLd G' (w 1) 101 (nI i) K = K (g1 i) := fun G' hB i hi K => gLdK_of ((hB _ (hw _ _ d1)).trans d1) rfl hi (by omega)
  have t2 : ∀ (G' : gH), gB G0.2.1 G0 G' → ∀ i, i < 100 → ∀ K : Int32 → gR, gLd G' (w 2) 101 (nI i) K = K (g2 i) := fun G' hB i hi K => gLdK_of ((hB _ (hw _ _ d2)).trans d2) rfl hi (by omega)
  have nn : ∀ j : Nat, -(-(nI j)) = nI j := fun j => by simp
  -- the last one or two signs
  have fin : ∀ (G2 : gH) (j p : Nat), isSB G0 a e1 cap1 n G2 → j < 100 → p ≤ cap1 → (if j < 10 then 1 else 2) ≤ p → ∃ (v : Int32) (G3 : gH), (gLd G2 (w 1) 101 (-(-(nI j))) fun v12 => gSt G2 e1 101 (nI p + (-1)) (vp_nar .byte v12) fun G13 => if (-9) ≤ -(nI j) then (if nI 0 = 0 then rI (nI p + (-1)) G13
          else gSt G13 e1 101 ((nI p + (-1)) + (-1)) (vp_nar .byte (nI 45)) fun G14 => rI ((nI p + (-1)) + (-1)) G14)
        else gLd G13 (w 2) 101 (-(-(nI j))) fun v16 => gSt G13 e1 101 ((nI p + (-1)) + (-1)) (vp_nar .byte v16) fun G17 => if nI 0 = 0 then rI ((nI p + (-1)) + (-1)) G17
          else gSt G17 e1 101 (((nI p + (-1)) + (-1)) + (-1)) (vp_nar .byte (nI 45)) fun G18 => rI (((nI p + (-1)) + (-1)) + (-1)) G18) = rI v G3 ∧ isSB G0 a e1 cap1 n G3 := fun G2 j p i2 hj hp h1 => by
    obtain ⟨p, rfl⟩ : ∃ p', p = p' + 1 := ⟨p - 1, by split at h1 <;> omega⟩
    obtain ⟨G3, r3, i3⟩ := i2.byt (i := p) (by omega) (g1 j)
    have m9 : ((-9 : Int32) ≤ -(nI j)) ↔ j < 10 := by
      rw [show (-9 : Int32) = -(nI 9) by decide, neg_nI, neg_nI, Int32.le_iff_toInt_le, Int32.toInt_ofInt_of_le (by omega) (by omega), Int32.toInt_ofInt_of_le (by omega) (by omega)]
      omega
    rw [nn, t1 G2 i2.1 j hj, nI_m1, r3]
    by_cases h9 : j < 10
    · exact ⟨nI p, G3, by rw [if_pos (m9.mpr h9), if_pos nI0], i3⟩
    · rw [if_neg h9] at h1
      obtain ⟨p, rfl⟩ : ∃ p', p = p' + 1 := ⟨p - 1, by omega⟩
      obtain ⟨G4, r4, i4⟩ := i3.byt (i := p) (by omega) (g2 j)
      exact ⟨nI p, G4, by rw [if_neg (fun q => h9 (m9.mp q)), t2 G3 i3.1 j hj, nI_m1, r4, if_pos nI0], i4⟩
  have gch : ∃ (v : Int32) (G3 : gH), f_IN_getChars w G1 (nI k) (nI (n + dg k)) e1 = rI v G3 ∧ isSB G0 a e1 cap1 n G3 := by
    have m100 : ∀ j, j < 1000 → (((-100 : Int32) < -(nI j)) ↔ j < 100) := fun j hj => by
      rw [show (-100 : Int32) = -(nI 100) by decide, neg_nI, neg_nI, Int32.lt_iff_toInt_lt, Int32.toInt_ofInt_of_le (by omega) (by omega), Int32.toInt_ofInt_of_le (by omega) (by omega)]
      omega
    unfold f_IN_getChars
    rw [if_pos (show 0 ≤ nI k from nI_pos' (by omega)), if_pos nI0]
    show ∃ v G3, f_IN_getChars_L22 w _ (5998 + 1 + 1) G1 (-(nI k)) e1 (nI (n + dg k)) (nI 0) = _ ∧ _
    unfold f_IN_getChars_L22
    by_cases h100 : k < 100
    · rw [if_pos ((m100 k hk).mpr h100)]
      exact fin G1 k (n + dg k) i1 h100 l1 (by unfold dg; split <;> omega)
    · have e3 : dg k = 3 := by unfold dg; rw [if_neg (by omega), if_neg h100]
      rw [if_neg (fun q => h100 ((m100 k hk).mp q)), e3]
      -- three signs
      have dv : ∀ K : Int32 → gR, gDiv (-(nI k)) (nI 100) K = K (-(nI (k / 100))) := fun K => by
        unfold gDiv
        rw [if_neg (by decide)]
        exact congrArg K (dv_all k hk).1
      have ix : -(nI (k / 100)) * nI 100 - -(nI k) = nI (k % 100) := (dv_all k hk).2
      obtain ⟨G2, r2, i2⟩ := i1.byt (i := n + 2) (by omega) (g1 (k % 100))
      obtain ⟨G3, r3, i3⟩ := i2.byt (i := n + 1) (by omega) (g2 (k % 100))
      obtain ⟨v, G4, r4, i4⟩ := fin G3 (k / 100) (n + 1) i3 (by omega) (by omega) (by rw [if_pos (by omega)]; omega)
      refine ⟨v, G4, ?_, i4⟩
      rw [dv, ix, t1 G1 i1.1 _ (by omega), show n + 3 = n + 2 + 1 by omega, nI_m1, r2, t2 G2 i2.1 _ (by omega), show n + 2 = n + 1 + 1 by omega, nI_m1, r3]
      unfold f_IN_getChars_L22
      rw [if_pos ((m100 _ (by omega)).mpr (by omega))]
      exact r4
  obtain ⟨v, G3, r3, i3⟩ := gch
  obtain ⟨G4, r4, i4⟩ := i3.cnt (m := n + dg k) l1
  refine ⟨e1, cap1, G4, ?_, i4⟩
  unfold f_SB_append2 f_AB_append2
  rw [fo, f3, s_size10 hk, bI_rI, fo, nI_add, r1, bV_rV, go, sb_lat i1, bI_rI, if_neg (by decide), ga, r3, bI_rI, r4, bA_rA]
end Sb
end
section
-- texts, both sides
section Txt
theorem sb_tos {G0 G : gH} {a e cap n : Nat} {w : Nat → Nat} (h : isSB G0 a e cap n G) (hn : n ≤ 280) : ∃ (q : Nat) (G' : gH), f_SB_toString w G a = rA q G' ∧ kStr G' q n ∧ gB G0.2.1 G0 G' ∧ gWf G' ∧ G0.2.1 ≤ G'.2.1 ∧ G'.2.1 ≤ G0.2.1 + 8 ∧ G0.1 ≤ G'.1 ∧ G'.1 ≤ G0.1 + 840 ∧ G0.2.1 ≤ q := by
  have hcap := h.2.2.2.2.2.2.2.2.le
  obtain ⟨h1, h2, h3, h4, h5, ⟨v2, h6⟩, ⟨g, h7, h7b⟩, h8, ⟨c, s, t1, t2, t3⟩⟩ := h
  have la := h2 _ _ h6
  have le := h2 _ _ h7
  have c1 : ∀ z, z < G.2.1 → (gNew G 4 (.inr (8, [.null, .int 0, .int 0, .int 0]))).2.2 z = G.2.2 z := fun z hz => gNew_ne (by omega)
  have n1 : (gNew G 4 (.inr (8, [.null, .int 0, .int 0, .int 0]))).2.2 G.2.1 = some (.inr (8, [.null, .int 0, .int 0, .int 0])) := gNew_at
  have w1 : gWf (gNew G 4 (.inr (8, [.null, .int 0, .int 0, .int 0]))) := h2.new
  have s1 : (gNew G 4 (.inr (8, [.null, .int 0, .int 0, .int 0]))).2.1 = G.2.1 + 1 ∧ (gNew G 4 (.inr (8, [.null, .int 0, .int 0, .int 0]))).1 = G.1 + 4 := ⟨rfl, rfl⟩
  generalize hG1 : gNew G 4 (.inr (8, [.null, .int 0, .int 0, .int 0])) = G1 at c1 n1 w1 s1
  have a1 := (c1 a la).trans h6
  have e1 := (c1 e le).trans h7
  have c2 : ∀ z, z < G.2.1 → (gUp G1 G.2.1 (.inr (8, [.null, .int (nI 0), .int 0, .int 0]))).2.2 z = G.2.2 z := fun z hz => by rw [gUp_ne (by omega)]; exact c1 z hz
  have n2 : (gUp G1 G.2.1 (.inr (8, [.null, .int (nI 0), .int 0, .int 0]))).2.2 G.2.1 = some (.inr (8, [.null, .int (nI 0), .int 0, .int 0])) := gUp_at
  have w2 : gWf (gUp G1 G.2.1 (.inr (8, [.null, .int (nI 0), .int 0, .int 0]))) := w1.up (by omega)
  have s2 : (gUp G1 G.2.1 (.inr (8, [.null, .int (nI 0), .int 0, .int 0]))).2.1 = G.2.1 + 1 ∧ (gUp G1 G.2.1 (.inr (8, [.null, .int (nI 0), .int 0, .int 0]))).1 = G.1 + 4 := s1
  generalize hG2 : gUp G1 G.2.1 (.inr (8, [.null, .int (nI 0), .int 0, .int 0])) = G2 at c2 n2 w2 s2
  have e2 := (c2 e le).trans h7
  -- the bytes of their own
  have cr : ∃ (G3 : gH) (g3 : Nat → Int32), f_AR_copyOfRange w G2 e (nI 0) (nI n) = rA G2.2.1 G3 ∧ (∀ z, z < G2.2.1 → G3.2.2 z = G2.2.2 z) ∧ G3.2.2 G2.2.1 = some (zI 101 n g3) ∧ (∀ i, i < n → fits .byte (.int (g3 i)) = true) ∧ gWf G3 ∧ G3.2.1 = G2.2.1 + 1 ∧ G3.1 = G2.1 + n := by
    unfold f_AR_copyOfRange
    rw [if_pos nI0, gLenK_of e2 rfl]
    by_cases hc : n = cap
    · have ar : (gNew G2 cap (zI 101 cap g)).2.2 G2.2.1 = some (zI 101 cap g) := gNew_at
      refine ⟨gNew G2 cap (zI 101 cap g), g, ?_, fun z hz => gNew_ne (by omega), by rw [hc]; exact ar, fun i hi => h7b i (by omega), w2.new, rfl, by rw [hc]; rfl⟩
      rw [if_pos (by rw [hc])]
      unfold gClB gArW
      rw [e2]
      simp only [zI]
      rw [if_pos trivial, if_pos (List.all_eq_true.mpr (fun i hi => h7b i (List.mem_range.mp hi)))]
      show gCaA (gNew G2 cap (zI 101 cap g)) G2.2.1 101 _ = _
      unfold gCaA gAr
      rw [ar]
      simp only [zI]
      rw [if_pos (by decide)]
    · have b1 : ∀ z, z < G2.2.1 → (gNew G2 n (zI 101 n (fun _ => 0))).2.2 z = G2.2.2 z := fun z hz => gNew_ne (by omega)
      have b2 : (gNew G2 n (zI 101 n (fun _ => 0))).2.2 G2.2.1 = some (zI 101 n (fun _ => 0)) := gNew_at
      have b3 : gWf (gNew G2 n (zI 101 n (fun _ => 0))) := w2.new
      have b4 : (gNew G2 n (zI 101 n (fun _ => 0))).2.1 = G2.2.1 + 1 ∧ (gNew G2 n (zI 101 n (fun _ => 0))).1 = G2.1 + n := ⟨rfl, rfl⟩
      have b5 : ∀ k : Nat → gH → gR, gNewA G2 101 (nI n) k = k G2.2.1 (gNew G2 n (zI 101 n (fun _ => 0))) := fun k => gNewB_of (by omega)
      generalize gNew G2 n (zI 101 n (fun _ => 0)) = G3 at b1 b2 b3 b4 b5
      have e3 := (b1 e (by omega)).trans e2
      refine ⟨gUp G3 G2.2.1 (zI 101 n (va_cpy g (fun _ => 0) 0 0 n)), _, ?_, fun z hz => by rw [gUp_ne (by omega)]; exact b1 z hz, gUp_at, cpy_fits (fun i hi => by rw [Nat.zero_add]; exact h7b i (by omega)) (fun _ _ => fits0), b3.up (by omega), b4.1, b4.2⟩
      have z0 : ∀ m : Nat, nI m - nI 0 = nI m := fun m => by rw [nI_sub (by omega), Nat.sub_zero]
      rw [if_neg (fun q => hc (nI_eq31 (by omega) (by omega) q))]
      unfold f_AR_copyOfRangeByte f_AR_checkLength
      rw [if_pos (nI_le (by omega) (by omega)), bV_rV, z0, b5, gLenK_of e3 rfl, z0, if_pos (nI_lt (by omega) (by omega)), gCpB_of e3 rfl b2 (by omega) (by omega) (by omega) (by omega) (fun i hi => by rw [Nat.zero_add]; exact h7b i (by omega)), bA_rA]
  obtain ⟨G3, g3, d1, d2, d3, d4, d5, d6, d7⟩ := cr
  have n3 : G3.2.2 G.2.1 = some (.inr (8, [.null, .int (nI 0), .int 0, .int 0])) := (d2 _ (by omega)).trans n2
  refine ⟨G.2.1, gUp G3 G.2.1 (.inr (8, [.ref G2.2.1, .int (nI 0), .int 0, .int 0])), ?_, ⟨8, G2.2.1, 101, _, g3, gUp_at, rfl, rfl, rfl, ?_, rfl, d4⟩, fun z hz => ?_, d5.up (by omega), ?_, ?_, ?_, ?_, by omega⟩
  · have isl : f_AB_isLatin1 w G1 a = rI 1 G1 := by
      unfold f_AB_isLatin1
      rw [if_neg (by decide), gFI_of a1 rfl rfl, if_pos rfl, rZ_1]
    unfold f_SB_toString gNewO f_ST_init2 f_ST_init1 f_AB_getValue f_SB_length f_AB_length
    dsimp only
    rw [hG1, gOb_of a1 rfl, gFA_of a1 rfl rfl, bA_rA, gOb_of a1 rfl, gOb_of a1 rfl, gFI_of a1 rfl rfl, bI_rI, bI_rI, gOb_of a1 rfl, isl, bI_rI, if_neg (by decide), gPut_of n1 (show 1 < 4 by decide)]
    rw [show ([.null, .int 0, .int 0, .int 0] : List Value).set 1 (.int (nI 0)) = [.null, .int (nI 0), .int 0, .int 0] from rfl, hG2, d1, bA_rA, gPut_of n3 (show 0 < 4 by decide), bV_rV, bV_rV]
    rfl
  · rw [gUp_ne (by omega)]; exact d3
  · rw [gUp_ne (by omega), d2 z (by omega), c2 z (by omega)]; exact h1 z hz
  · show G0.2.1 ≤ G3.2.1; omega
  · show G3.2.1 ≤ _; omega
  · show G0.1 ≤ G3.1; omega
  · show G3.1 ≤ _; omega
/-- the old cells that texts need -/
def mWs (w : Nat → Nat) (G : gH) : Prop := (∃ g, G.2.2 (w 1) = some (zI 1101 100 g)) ∧ (∃ g, G.2.2 (w 2) = some (zI 1101 100 g)) ∧ kStr G (w 3) 1 ∧ kStr G (w 5) 0 ∧ kStr G (w 7) 1
def txL : List (Nat × Nat × Nat) → Nat
  | [] => 0
  | t :: ts => dg t.2.1 + 1 + dg t.2.2 + txL ts
def kTx (l : List (Nat × Nat × Nat)) : Nat := if l.length = 0 then 1 else txL l + (l.length - 1)
theorem txL_le : ∀ l : List (Nat × Nat × Nat), txL l ≤ 7 * l.length
  | [] => Nat.le_refl _
  | t :: ts => by
    have := txL_le ts
    have := dg_le t.2.1
    have := dg_le t.2.2
    show dg t.2.1 + 1 + dg t.2.2 + txL ts ≤ 7 * (ts.length + 1)
    omega
variable {w : Nat → Nat} {b o m : Nat} {A : mS} {σ : cS} {H : gH} {p r s : Nat}
theorem m_txtL {K : gH → Nat → Int32 → Nat → gR} {G0 : gH} {D : mD} {a : Nat} (h : MS w o G0 A D) (hs : mWs w G0) (hI : mInv m A) (hv : mV A p) (hr : mRw A.2.1 zDp p = some (r, s)) : ∀ (l : List (Nat × Nat × Nat)) (f j n e cap : Nat) (G : gH), (sSeg A r s (mLen A p)).drop j = l → j ≤ mLen A p → l.length < f → isSB G0 a e cap n G → n ≤ 8 * j →
    ∃ (e' cap' : Nat) (G' : gH), f_M_textOf_L10 w K f G o (nI p) a (nI j) = K G' o (nI p) a ∧ isSB G0 a e' cap' (n + txL l + (if j = 0 then l.length - 1 else l.length)) G'
  | _, 0, _, _, _, _, _, _, _, h, _, _ => absurd h (Nat.not_lt_zero _)
  | [], f + 1, j, n, e, cap, G, hd, hj, _, hb, _ => by
    have hM := h.gB hb.1 hb.2.1
    have hsl : (sSeg A r s (mLen A p)).length = mLen A p := sSeg_len (hI.2.1.rw _ _ _ _ hr)
    have := dr_nil hd
    have hl31 := hI.l31 hv
    refine ⟨e, cap, G, ?_, ?_⟩
    · unfold f_M_textOf_L10
      rw [gOb_of hM.2.2.1 rfl, s_len hM hI.1 hv, bI_rI, if_pos (nI_le (by omega) (by omega))]
    · have e1 : n + txL [] + (if j = 0 then ([] : List (Nat × Nat × Nat)).length - 1 else ([] : List (Nat × Nat × Nat)).length) = n := by
        show n + 0 + (if j = 0 then 0 - 1 else 0) = n
        split <;> rfl
      rw [e1]; exact hb
  | t :: l, f + 1, j, n, e, cap, G, hd, hj, hf, hb, hn => by
    obtain ⟨⟨g1, w1⟩, ⟨g2, w2⟩, w3, w5, -⟩ := id hs
    have hM := h.gB hb.1 hb.2.1
    have hr2 := mRw_lt _ _ _ _ hr
    have hfit := hI.2.1.rw _ _ _ _ hr
    have h31 := (hI.2.2.1 r hr2).1
    have hsl : (sSeg A r s (mLen A p)).length = mLen A p := sSeg_len hfit
    have hl31 := hI.l31 hv
    obtain ⟨e1, e2, e3⟩ := dr_cons hd
    have ok := seg_ok (hI.2.2.1 r hr2).2 hI.2.2.2.2.2 e1
    have ht := e1
    rw [sSeg_at (by omega)] at ht
    have dk := dg_le t.2.1
    have dt := dg_le t.2.2
    have rd : ∀ (G : gH), MS w o G A D → f_M_at G o (nI p) (nI j) = rA t.1 G := fun G hM => s_at hM hI.1 hv hr ht
    -- the sign between two, then key, point and tag
    have go : ∀ (q n0 : Nat), kStr G0 q n0 → n0 ≤ 1 → ∃ (G1 G2 G3 G4 : gH) (e4 cap4 : Nat), f_SB_append3 w G a q = rA a G1 ∧ (MS w o G1 A D ∧ ∃ fs, ∀ k : List Value → gR, gOb G1 a 10 k = k fs) ∧ f_SB_append2 w G1 a (nI t.2.1) = rA a G2 ∧ (MS w o G2 A D ∧ ∃ fs, ∀ k : List Value → gR, gOb G2 a 10 k = k fs) ∧ f_SB_append1 w G2 a (nI 46) = rA a G3 ∧ (MS w o G3 A D ∧ ∃ fs, ∀ k : List Value → gR, gOb G3 a 10 k = k fs) ∧ f_SB_append2 w G3 a (nI t.2.2) = rA a G4 ∧ isSB G0 a e4 cap4 (n + n0 + dg t.2.1 + 1 + dg t.2.2) G4 := fun q n0 hq h1 => by
      obtain ⟨x1, y1, G1, r1, i1⟩ := sb_str (w := w) hb h.1 hq (by omega) (by omega)
      obtain ⟨x2, y2, G2, r2, i2⟩ := sb_int (k := t.2.1) i1 h.1 w1 w2 (by omega) (by omega)
      obtain ⟨x3, y3, G3, r3, i3⟩ := sb_chr (w := w) (c := 46) i2 (by omega) (by omega)
      obtain ⟨x4, y4, G4, r4, i4⟩ := sb_int (k := t.2.2) i3 h.1 w1 w2 (by omega) (by omega)
      exact ⟨G1, G2, G3, G4, x4, y4, r1, ⟨h.gB i1.1 i1.2.1, i1.fld.2.2.2.1⟩, r2, ⟨h.gB i2.1 i2.2.1, i2.fld.2.2.2.1⟩, r3, ⟨h.gB i3.1 i3.2.1, i3.fld.2.2.2.1⟩, r4, i4⟩
    obtain ⟨fs, fo⟩ := hb.fld.2.2.2.1
    by_cases h0 : j = 0
    · obtain ⟨G1, G2, G3, G4, e4, cap4, r1, ⟨m1, f1, o1⟩, r2, ⟨m2, f2, o2⟩, r3, ⟨m3, f3, o3⟩, r4, i4⟩ := go (w 5) 0 w5 (by omega)
      obtain ⟨e5, cap5, G5, r5, i5⟩ := m_txtL (K := K) h hs hI hv hr l f (j + 1) _ e4 cap4 G4 e2 (by omega) (by simp at hf; omega) i4 (by omega)
      refine ⟨e5, cap5, G5, ?_, ?_⟩
      · unfold f_M_textOf_L10
        rw [gOb_of hM.2.2.1 rfl, s_len hM hI.1 hv, bI_rI, if_neg (nI_ge (by omega) (by omega)), if_pos (by rw [h0]; exact nI0), fo, r1, bA_rA, gOb_of m1.2.2.1 rfl, rd G1 m1, bA_rA, (s_th m1 hr2 ht).key, o1, r2, bA_rA, o2, r3, bA_rA, gOb_of m3.2.2.1 rfl, rd G3 m3, bA_rA, (s_th m3 hr2 ht).tag, o3, r4, bA_rA, nI_add, r5]
      · have e6 : n + txL (t :: l) + (if j = 0 then (t :: l).length - 1 else (t :: l).length) = n + 0 + dg t.2.1 + 1 + dg t.2.2 + txL l + (if j + 1 = 0 then l.length - 1 else l.length) := by
          rw [if_pos h0, if_neg (by omega)]
          show n + (dg t.2.1 + 1 + dg t.2.2 + txL l) + (l.length + 1 - 1) = _
          omega
        rw [e6]; exact i5
    · obtain ⟨G1, G2, G3, G4, e4, cap4, r1, ⟨m1, f1, o1⟩, r2, ⟨m2, f2, o2⟩, r3, ⟨m3, f3, o3⟩, r4, i4⟩ := go (w 3) 1 w3 (by omega)
      obtain ⟨e5, cap5, G5, r5, i5⟩ := m_txtL (K := K) h hs hI hv hr l f (j + 1) _ e4 cap4 G4 e2 (by omega) (by simp at hf; omega) i4 (by omega)
      refine ⟨e5, cap5, G5, ?_, ?_⟩
      · unfold f_M_textOf_L10
        rw [gOb_of hM.2.2.1 rfl, s_len hM hI.1 hv, bI_rI, if_neg (nI_ge (by omega) (by omega)), if_neg (nI_ne0 (by omega) (by omega)), fo, r1, bA_rA, gOb_of m1.2.2.1 rfl, rd G1 m1, bA_rA, (s_th m1 hr2 ht).key, o1, r2, bA_rA, o2, r3, bA_rA, gOb_of m3.2.2.1 rfl, rd G3 m3, bA_rA, (s_th m3 hr2 ht).tag, o3, r4, bA_rA, nI_add, r5]
      · have e6 : n + txL (t :: l) + (if j = 0 then (t :: l).length - 1 else (t :: l).length) = n + 1 + dg t.2.1 + 1 + dg t.2.2 + txL l + (if j + 1 = 0 then l.length - 1 else l.length) := by
          rw [if_neg h0, if_neg (by omega)]
          show n + (dg t.2.1 + 1 + dg t.2.2 + txL l) + (l.length + 1) = _
          omega
        rw [e6]; exact i5
theorem s_textOf {G : gH} {D : mD} (h : MS w o G A D) (hs : mWs w G) (hI : mInv m A) (hv : mV A p) (hr : mRw A.2.1 zDp p = some (r, s)) :
    ∃ (q : Nat) (G' : gH), f_M_textOf w G o (nI p) = rA q G' ∧ kStr G' q (kTx (sSeg A r s (mLen A p))) ∧ MS w o G' A D ∧ mSt 8 840 G G' := by
  have hl31 := hI.l31 hv
  have hsl : (sSeg A r s (mLen A p)).length = mLen A p := sSeg_len (hI.2.1.rw _ _ _ _ hr)
  have htx := txL_le (sSeg A r s (mLen A p))
  obtain ⟨G1, n1, i1⟩ := sb_new (w := w) h.1
  obtain ⟨e2, cap2, G2, r2, i2⟩ := m_txtL (K := fun G79 x76 x77 x78 => gOb G79 x76 6 fun o81 => bI (f_M_length G79 x76 x77) fun v84 G83 => if v84 = 0 then rA (w 7) G83
    else gOb G83 x78 10 fun o86 => bA (f_SB_toString w G83 x78) fun v89 G88 => rA v89 G88) h hs hI hv hr _ zFu 0 0 _ _ G1 (List.drop_zero ..) (Nat.zero_le _) (by rw [hsl]; unfold zFu; omega) i1 (Nat.zero_le _)
  have hM := h.gB i2.1 i2.2.1
  by_cases h0 : mLen A p = 0
  · have c := i2.2.2.2.2.2.2.2.2
    refine ⟨w 7, G2, ?_, ?_, hM, ?_⟩
    · unfold f_M_textOf
      rw [n1 (fun q1 G4 => f_M_textOf_L10 w _ zFu G4 o (nI p) q1 (nI 0)), r2, gOb_of hM.2.2.1 rfl, s_len hM hI.1 hv, bI_rI, if_pos (by rw [h0]; exact nI0)]
    · unfold kTx
      rw [if_pos (by rw [hsl]; exact h0)]
      exact hs.2.2.2.2.gB h.1 i2.1
    · obtain ⟨c, s, t1, t2, t3⟩ := c
      exact mSt.gB h.1 i2.1 i2.2.1 (by omega) (by omega) (by omega) (by omega)
  · rw [if_pos rfl, Nat.zero_add] at i2
    obtain ⟨q, G3, r3, k3, b3, w3, z1, z2, z3, z4, -⟩ := sb_tos (w := w) i2 (by omega)
    obtain ⟨fs, fo⟩ := i2.fld.2.2.2.1
    refine ⟨q, G3, ?_, ?_, h.gB b3 w3, mSt.gB h.1 b3 w3 (by omega) (by omega) (by omega) (by omega)⟩
    · unfold f_M_textOf
      rw [n1 (fun q1 G4 => f_M_textOf_L10 w _ zFu G4 o (nI p) q1 (nI 0)), r2, gOb_of hM.2.2.1 rfl, s_len hM hI.1 hv, bI_rI, if_neg (nI_ne0 (by omega) (by omega)), fo, r3, bA_rA]
    · unfold kTx
      rw [if_neg (by rw [hsl]; exact h0)]
      exact k3
theorem x_signs (hX : CRepx (-1) σ A) (hI : mInv m A) (hv : mV A p) (hr : mRw A.2.1 zDp p = some (r, s)) : f_X_countSigns (cPut b σ H) b (nI p) = rI (nI (kTx (sSeg A r s (mLen A p)))) (cPut b σ H) := by
  have hr2 := mRw_lt _ _ _ _ hr
  have hfit := hI.2.1.rw _ _ _ _ hr
  have hl31 := hI.l31 hv
  have hW := hI.w p
  have hsl : (sSeg A r s (mLen A p)).length = mLen A p := sSeg_len hfit
  have L : ∀ (l : List (Nat × Nat × Nat)) (n j c : Nat), (sSeg A r s (mLen A p)).drop j = l → j ≤ mLen A p → l.length < n → f_X_countSigns_L22 (fun G27 x26 => rI x26 G27) n (cPut b σ H) b (nI p) (nI (mLen A p)) (nI c) (nI j) = rI (nI (c + txL l)) (cPut b σ H) := by
    intro l
    induction l with
    | nil =>
      intro n j c hd hj hn
      cases n with
      | zero => omega
      | succ n =>
        have := dr_nil hd
        unfold f_X_countSigns_L22
        rw [if_pos (nI_le (by omega) (by omega))]; rfl
    | cons t l ih =>
      intro n j c hd hj hn
      cases n with
      | zero => omega
      | succ n =>
        obtain ⟨e1, e2, e3⟩ := dr_cons hd
        have ok := seg_ok (hI.2.2.1 r hr2).2 hI.2.2.2.2.2 e1
        have ht := e1
        rw [sSeg_at (by omega)] at ht
        have xt : f_I_thingAt (cPut b σ H) (b + 1) (nI p) (nI j) = rI (nI (32 * t.2.2 + t.2.1)) (cPut b σ H) := x_at hX hW hv hr ht
        unfold f_X_countSigns_L22
        rw [if_neg (nI_ge (by omega) (by omega)), c_fa_0_0, c_ob_1, xt, bI_rI, x_keyOf (by omega), bI_rI, x_digits (by omega), bI_rI, x_tagOf (by omega) (by omega), bI_rI, x_digits (by omega), bI_rI, nI_add, nI_add, nI_add, nI_add, ih n (j + 1) _ e2 (by omega) (by simp at hn; omega)]
        show rI (nI (c + (dg t.2.1 + 1 + dg t.2.2) + txL l)) _ = rI (nI (c + (dg t.2.1 + 1 + dg t.2.2 + txL l))) _
        rw [Nat.add_assoc]
  unfold f_X_countSigns kTx
  rw [c_fa_0_0, c_ob_1, x_len hX hI.1 hv, bI_rI, hsl]
  by_cases h0 : mLen A p = 0
  · rw [if_pos (by rw [h0]; exact nI0), if_pos h0]
  · rw [if_neg (nI_ne0 (by omega) (by omega)), if_neg h0, show nI (mLen A p) - nI 1 = nI (mLen A p - 1) from nI_sub (by omega), L _ zFu 0 _ (List.drop_zero ..) (Nat.zero_le _) (by rw [hsl]; unfold zFu; omega), Nat.add_comm]
/-- a heap in which the class lies -/
theorem cPut_self {G : gH} (h : ∀ j, j < 23 → G.2.2 (b + j) = cEnc b σ j) : cPut b σ G = G := by
  unfold cPut
  refine Prod.ext rfl (Prod.ext rfl ?_)
  funext q
  show (if b ≤ q ∧ q < b + 23 then cEnc b σ (q - b) else G.2.2 q) = G.2.2 q
  split
  · rename_i hq
    have := h (q - b) (by omega)
    rw [show b + (q - b) = q by omega] at this
    exact this.symm
  · rfl
theorem cPut_gB {G : gH} (hb : b + 23 ≤ H.2.1) (hB : gB H.2.1 (cPut b σ H) G) : cPut b σ G = G :=
  cPut_self (fun j hj => (hB (b + j) (by omega)).trans (cPut_at hj))
theorem x_text (hX : CRepx (-1) σ A) (hI : mInv m A) (hv : mV A p) (hr : mRw A.2.1 zDp p = some (r, s)) (hw : gWf (cPut b σ H)) (hs : mWs w (cPut b σ H)) (hb : b + 23 ≤ H.2.1) :
    ∃ (q : Nat) (G' : gH), f_X_text w (cPut b σ H) b (nI p) = rA q G' ∧ gB H.2.1 (cPut b σ H) G' ∧ gWf G' ∧ mSt 8 840 (cPut b σ H) G' := by
  have hr2 := mRw_lt _ _ _ _ hr
  have hfit := hI.2.1.rw _ _ _ _ hr
  have hl31 := hI.l31 hv
  have hW := hI.w p
  have hsl : (sSeg A r s (mLen A p)).length = mLen A p := sSeg_len hfit
  have htx := txL_le (sSeg A r s (mLen A p))
  obtain ⟨⟨g1, w1⟩, ⟨g2, w2⟩, -⟩ := hs
  have hL : mIsL A (nI p) := ⟨p, hv.lt hI.1, rfl, hv⟩
  have nl := x_needList (b := b) (G := H) hX hW hL
  have ln := x_len (b := b) (G := H) hX hI.1 hv
  by_cases h0 : mLen A p = 0
  · refine ⟨w 9, cPut b σ H, ?_, gB.refl, hw, mSt.refl.mono (by omega) (by omega)⟩
    unfold f_X_text
    rw [c_ob_0, nl, bV_rV, c_fa_0_0, c_ob_1, ln, bI_rI, if_pos (by rw [h0]; exact nI0)]
  · obtain ⟨G1, n1, i1⟩ := sb_new (w := w) hw
    generalize ha : (cPut b σ H).2.1 = a at n1 i1
    have L : ∀ (l : List (Nat × Nat × Nat)) (f j n e cap : Nat) (G : gH), (sSeg A r s (mLen A p)).drop j = l → j ≤ mLen A p → l.length < f → isSB (cPut b σ H) a e cap n G → n ≤ 8 * j →
        ∃ (e' cap' n' : Nat) (G' : gH), f_X_text_L32 w (fun G77 x76 => gOb G77 x76 10 fun o79 => bA (f_SB_toString w G77 x76) fun v82 G81 => rA v82 G81) f G b (nI p) (nI (mLen A p)) a (nI j) = (gOb G' a 10 fun o79 => bA (f_SB_toString w G' a) fun v82 G81 => rA v82 G81) ∧ isSB (cPut b σ H) a e' cap' n' G' ∧ n' ≤ 8 * 31 := by
      intro l
      induction l with
      | nil =>
        intro f j n e cap G hd hj hf hi hn
        cases f with
        | zero => omega
        | succ f =>
          have := dr_nil hd
          refine ⟨e, cap, n, G, ?_, hi, by omega⟩
          unfold f_X_text_L32
          rw [if_pos (nI_le (by omega) (by omega))]
      | cons t l ih =>
        intro f j n e cap G hd hj hf hi hn
        cases f with
        | zero => omega
        | succ f =>
          obtain ⟨e1, e2, e3⟩ := dr_cons hd
          have ok := seg_ok (hI.2.2.1 r hr2).2 hI.2.2.2.2.2 e1
          have ht := e1
          rw [sSeg_at (by omega)] at ht
          have dk := dg_le t.2.1
          have dt := dg_le t.2.2
          have cs : ∀ (G : gH) (e cap n : Nat), isSB (cPut b σ H) a e cap n G → (∀ K : Nat → gR, gFA G b 3 0 K = K (b + 1)) ∧ (∀ K : gR, gOb G (b + 1) 1 (fun _ => K) = K) ∧ f_I_thingAt G (b + 1) (nI p) (nI j) = rI (nI (32 * t.2.2 + t.2.1)) G := fun G e cap n hi => by
            have hc := cPut_gB hb hi.1
            refine ⟨fun K => ?_, fun K => ?_, ?_⟩
            · rw [← hc, c_fa_0_0]
            · rw [← hc, c_ob_1]
            · have xt : f_I_thingAt (cPut b σ G) (b + 1) (nI p) (nI j) = rI (nI (32 * t.2.2 + t.2.1)) (cPut b σ G) := x_at hX hW hv hr ht
              rw [hc] at xt
              exact xt
          have go : ∀ (G : gH) (e cap n : Nat), isSB (cPut b σ H) a e cap n G → n ≤ 8 * j + 1 → ∃ (G2 G3 G4 : gH) (e4 cap4 : Nat), f_SB_append2 w G a (nI t.2.1) = rA a G2 ∧ (∃ fs, ∀ k : List Value → gR, gOb G2 a 10 k = k fs) ∧ f_SB_append1 w G2 a (nI 46) = rA a G3 ∧ (∃ fs, ∀ k : List Value → gR, gOb G3 a 10 k = k fs) ∧ f_SB_append2 w G3 a (nI t.2.2) = rA a G4 ∧ isSB (cPut b σ H) a e4 cap4 (n + dg t.2.1 + 1 + dg t.2.2) G4 := fun G e cap n hi hn => by
            obtain ⟨x2, y2, G2, r2, i2⟩ := sb_int (k := t.2.1) hi hw w1 w2 (by omega) (by omega)
            obtain ⟨x3, y3, G3, r3, i3⟩ := sb_chr (w := w) (c := 46) i2 (by omega) (by omega)
            obtain ⟨x4, y4, G4, r4, i4⟩ := sb_int (k := t.2.2) i3 hw w1 w2 (by omega) (by omega)
            exact ⟨G2, G3, G4, x4, y4, r2, i2.fld.2.2.2.1, r3, i3.fld.2.2.2.1, r4, i4⟩
          obtain ⟨fs, fo⟩ := hi.fld.2.2.2.1
          by_cases hj0 : j = 0
          · obtain ⟨u1, u2, u3⟩ := cs G e cap n hi
            obtain ⟨G2, G3, G4, e4, cap4, r2, ⟨f2, o2⟩, r3, ⟨f3, o3⟩, r4, i4⟩ := go G e cap n hi (by omega)
            obtain ⟨e5, cap5, n5, G5, r5, i5, l5⟩ := ih f (j + 1) _ e4 cap4 G4 e2 (by omega) (by simp at hf; omega) i4 (by omega)
            refine ⟨e5, cap5, n5, G5, ?_, i5, l5⟩
            unfold f_X_text_L32
            rw [if_neg (nI_ge (by omega) (by omega)), if_pos (by rw [hj0]; decide), u1, u2, u3, bI_rI, x_keyOf (by omega), bI_rI, fo, r2, bA_rA, o2, r3, bA_rA, x_tagOf (by omega) (by omega), bI_rI, o3, r4, bA_rA, nI_add, r5]
          · obtain ⟨x1, y1, G1', r1, i1'⟩ := sb_chr (w := w) (c := 44) hi (by omega) (by omega)
            obtain ⟨u1, u2, u3⟩ := cs G1' _ _ _ i1'
            obtain ⟨fs1, fo1⟩ := i1'.fld.2.2.2.1
            obtain ⟨G2, G3, G4, e4, cap4, r2, ⟨f2, o2⟩, r3, ⟨f3, o3⟩, r4, i4⟩ := go G1' _ _ _ i1' (by omega)
            obtain ⟨e5, cap5, n5, G5, r5, i5, l5⟩ := ih f (j + 1) _ e4 cap4 G4 e2 (by omega) (by simp at hf; omega) i4 (by omega)
            refine ⟨e5, cap5, n5, G5, ?_, i5, l5⟩
            unfold f_X_text_L32
            rw [if_neg (nI_ge (by omega) (by omega)), if_neg (show ¬ nI j ≤ 0 from nI_ge (a := 0) (by omega) (by omega)), fo, r1, bA_rA, u1, u2, u3, bI_rI, x_keyOf (by omega), bI_rI, fo1, r2, bA_rA, o2, r3, bA_rA, x_tagOf (by omega) (by omega), bI_rI, o3, r4, bA_rA, nI_add, r5]
    obtain ⟨e5, cap5, n5, G5, r5, i5, l5⟩ := L _ zFu 0 0 _ _ G1 (List.drop_zero ..) (Nat.zero_le _) (by rw [hsl]; unfold zFu; omega) i1 (Nat.zero_le _)
    obtain ⟨q, G3, r3, k3, b3, w3, z1, z2, z3, z4, -⟩ := sb_tos (w := w) i5 (by omega)
    obtain ⟨fs, fo⟩ := i5.fld.2.2.2.1
    refine ⟨q, G3, ?_, b3, w3, mSt.gB hw b3 w3 z1 (by omega) z3 (by omega)⟩
    unfold f_X_text
    rw [c_ob_0, nl, bV_rV, c_fa_0_0, c_ob_1, ln, bI_rI, if_neg (nI_ne0 (by omega) (by omega)), n1 (fun q11 G14 => f_X_text_L32 w _ zFu G14 b (nI p) (nI (mLen A p)) q11 (nI 0)), r5, fo, r3, bA_rA]
end Txt
end
section
-- digest, both sides
section Dg
def mx (d v : Int64) : Int64 := d * lN 31 + v
def kD1 (A : mS) : Nat → Nat → Int64 → Int64
  | 0, _, d => d
  | k + 1, j, d => kD1 A k (j + 1) (mx d (kHo A j).toInt64)
def kDt : Int64 → List (Nat × Nat × Nat) → Int64
  | d, [] => d
  | d, t :: ts => kDt (mx (mx d (nI t.2.1).toInt64) (nI t.2.2).toInt64) ts
def kDw (x : Nat × Nat × Nat) (r s : Nat) : Nat → Nat → Int64 → Int64
  | 0, _, d => d
  | k + 1, j, d => kDw x r s k (j + 1) (mx d (kWp x r s j).toInt64)
def kDe (A : mS) (p r s : Nat) (d : Int64) : Int64 := mx (mx (mx (mx (mx (mx (mx (kDt d (sSeg A r s (mLen A p))) (kH (nI 1) (kS A r s (mLen A p))).toInt64) (sNo (kEx (!decide (nI 1 = 0)) none (kS A r s (mLen A p)))).toInt64) (sNo (kEx (!decide (nI 0 = 0)) none (kS A r s (mLen A p)))).toInt64) (sNo (kFi 7 (kS A r s (mLen A p)) 0)).toInt64) (sNo (kLa 7 (kS A r s (mLen A p)) (kS A r s (mLen A p)).length)).toInt64) (nI (kCt (fun x => decide (x = 7)) (kS A r s (mLen A p)))).toInt64) (nI (kTx (sSeg A r s (mLen A p)))).toInt64
def kDl (A : mS) (p r s : Nat) (d : Int64) : Int64 := if p < 2 then kDe A p r s d else match A.2.1 p with
  | none => kDe A p r s d
  | some x => kDw x r s 4 0 (kDe A p r s d)
def kTh (A : mS) (p : Nat) : Bool := decide (p < 2) || (A.2.1 p).isSome
def kRS (A : mS) (p : Nat) : Nat × Nat := (mRw A.2.1 zDp p).getD (0, 0)
def kD2 (A : mS) : Nat → Nat → Int64 → Int64
  | 0, _, d => d
  | k + 1, j, d => kD2 A k (j + 1) (if kTh A j = true then kDl A j (kRS A j).1 (kRS A j).2 (mx d (kSz A j).toInt64) else mx d (kSz A j).toInt64)
def bq (z : Bool) : Int64 := if z = true then lN 1 else lN 0
def kKs (A : mS) (p : Nat) : List Nat := kS A (kRS A p).1 (kRS A p).2 (mLen A p)
def kDp (A : mS) (p q : Nat) (d : Int64) : Int64 := mx (mx (mx (mx d (bq (kSm (kKs A p) (kKs A q)))) (bq (decide (∀ k, k ∈ kKs A q → k ∈ kKs A p)))) (bq (decide (∀ k, k ∈ kKs A q → k ∉ kKs A p)))) (sNo (kF (kKs A p) (kKs A q) ((kKs A p).length + 1) 0)).toInt64
def kD4 (A : mS) (p : Nat) : Nat → Nat → Int64 → Int64
  | 0, _, d => d
  | k + 1, j, d => kD4 A p k (j + 1) (if kTh A p = true then (if kTh A j = true then kDp A p j d else d) else d)
def kD3 (A : mS) : Nat → Nat → Int64 → Int64
  | 0, _, d => d
  | k + 1, j, d => kD3 A k (j + 1) (kD4 A j 6 0 d)
def kD6 (A : mS) (c : Nat) : Nat → Nat → Int64 → Int64
  | 0, _, d => d
  | k + 1, j, d => kD6 A c k (j + 1) (mx d (kWc A c j).toInt64)
def kD5 (A : mS) : Nat → Nat → Int64 → Int64
  | 0, _, d => d
  | k + 1, j, d => kD5 A k (j + 1) (kD6 A j 7 0 d)
def kDg (A : mS) : Int64 := mx (kD5 A 3 0 (kD3 A 6 0 (kD2 A 6 0 (kD1 A 8 0 (lN 2203))))) (lN 1)
theorem kTh_iff {A : mS} {p : Nat} : kTh A p = true ↔ mV A p := by
  unfold kTh mV
  cases hx : A.2.1 p with
  | none => simp
  | some x => simp
theorem kRS_of {A : mS} {p r s : Nat} (h : mRw A.2.1 zDp p = some (r, s)) : kRS A p = (r, s) := by unfold kRS; rw [h]; rfl
theorem bq_l (z : Bool) : (mB z).toInt64 = bq z := by
  cases z
  · show (0 : Int32).toInt64 = lN 0; decide
  · show (1 : Int32).toInt64 = lN 1; decide
variable {w : Nat → Nat} {b o m : Nat} {A : mS} {σ : cS} {H : gH} {p q r s : Nat}
theorem mix_e {G : gH} {d v : Int64} : f_X_mix G d v = rL (mx d v) G := rfl
theorem add_e {G : gH} {d v : Int64} : f_M_add2 G d v = rL (mx d v) G := rfl
-- the class
theorem x_dig1 (hR : CRep σ A) (hI : mInv m A) {K : gH → Nat → Int64 → gR} : ∀ (k n j : Nat) (d : Int64), j + k = 8 → k < n → f_X_digest_L6 K n (cPut b σ H) b d (nI j) = K (cPut b σ H) b (kD1 A k j d)
  | _, 0, _, _, _, h => absurd h (Nat.not_lt_zero _)
  | 0, n + 1, j, d, hj, _ => by
    unfold f_X_digest_L6
    rw [if_pos (nI_le (by omega) (by omega))]; rfl
  | k + 1, n + 1, j, d, hj, hn => by
    unfold f_X_digest_L6
    rw [if_neg (nI_ge (by omega) (by omega)), c_ob_0, x_worthH hR hI (by omega), bI_rI, mix_e, bL_rL, nI_add, x_dig1 hR hI k n (j + 1) _ (by omega) (by omega)]; rfl
theorem x_mixT (hX : CRepx (-1) σ A) (hI : mInv m A) (hv : mV A p) (hr : mRw A.2.1 zDp p = some (r, s)) {K : gH → Nat → Int32 → Int64 → gR} : ∀ (l : List (Nat × Nat × Nat)) (n j : Nat) (d : Int64), (sSeg A r s (mLen A p)).drop j = l → j ≤ mLen A p → l.length < n → f_X_mixList_L16 K n (cPut b σ H) b (nI p) d (nI (mLen A p)) (nI j) = K (cPut b σ H) b (nI p) (kDt d l)
  | _, 0, _, _, _, _, h => absurd h (Nat.not_lt_zero _)
  | [], n + 1, j, d, hd, hj, _ => by
    have hl31 := hI.l31 hv
    have hsl : (sSeg A r s (mLen A p)).length = mLen A p := sSeg_len (hI.2.1.rw _ _ _ _ hr)
    have := dr_nil hd
    unfold f_X_mixList_L16
    rw [if_pos (nI_le (by omega) (by omega))]; rfl
  | t :: l, n + 1, j, d, hd, hj, hn => by
    have hl31 := hI.l31 hv
    have hr2 := mRw_lt _ _ _ _ hr
    have hsl : (sSeg A r s (mLen A p)).length = mLen A p := sSeg_len (hI.2.1.rw _ _ _ _ hr)
    obtain ⟨e1, e2, e3⟩ := dr_cons hd
    have ok := seg_ok (hI.2.2.1 r hr2).2 hI.2.2.2.2.2 e1
    have ht := e1
    rw [sSeg_at (by omega)] at ht
    have xt : f_I_thingAt (cPut b σ H) (b + 1) (nI p) (nI j) = rI (nI (32 * t.2.2 + t.2.1)) (cPut b σ H) := x_at hX (hI.w p) hv hr ht
    unfold f_X_mixList_L16
    rw [if_neg (nI_ge (by omega) (by omega)), c_fa_0_0, c_ob_1, xt, bI_rI, x_keyOf (by omega), bI_rI, mix_e, bL_rL, x_tagOf (by omega) (by omega), bI_rI, mix_e, bL_rL, nI_add, x_mixT hX hI hv hr l n (j + 1) _ e2 (by omega) (by simp at hn; omega)]; rfl
theorem x_mixW (hX : CRepx (-1) σ A) (hI : mInv m A) {x : Nat × Nat × Nat} (hp : p < 6) (hx : A.2.1 p = some x) (hr : mRw A.2.1 zDp p = some (r, s)) {K : gH → Int64 → gR} : ∀ (k n j : Nat) (d : Int64), j + k = 4 → k < n → f_X_mixList_L188 K n (cPut b σ H) b (nI p) d (nI j) = K (cPut b σ H) (kDw x r s k j d)
  | _, 0, _, _, _, h => absurd h (Nat.not_lt_zero _)
  | 0, n + 1, j, d, hj, _ => by
    unfold f_X_mixList_L188
    rw [if_pos (nI_le (by omega) (by omega))]; rfl
  | k + 1, n + 1, j, d, hj, hn => by
    unfold f_X_mixList_L188
    rw [if_neg (nI_ge (by omega) (by omega)), c_fa_0_0, c_ob_1, x_worthOf hX hI hp hx hr (by omega), bI_rI, mix_e, bL_rL, nI_add, x_mixW hX hI hp hx hr k n (j + 1) _ (by omega) (by omega)]; rfl
theorem x_mixList (hX : CRepx (-1) σ A) (hI : mInv m A) (hv : mV A p) (hr : mRw A.2.1 zDp p = some (r, s)) {d : Int64} : f_X_mixList (cPut b σ H) b d (nI p) = rL (kDl A p r s d) (cPut b σ H) := by
  have hl31 := hI.l31 hv
  have hp6 := hv.lt hI.1
  have hsl : (sSeg A r s (mLen A p)).length = mLen A p := sSeg_len (hI.2.1.rw _ _ _ _ hr)
  have kc := kyC.of (b := b) (H := H) hX hI hv hr
  unfold f_X_mixList
  rw [c_fa_0_0, c_ob_1, x_len hX hI.1 hv, bI_rI, x_mixT hX hI hv hr _ zFu 0 d (List.drop_zero ..) (Nat.zero_le _) (by rw [hsl]; unfold zFu; omega), c_fa_0_0, c_ob_1, c_hash kc, bI_rI, mix_e, bL_rL, c_fa_0_0, c_ob_1, c_extreme kc, bI_rI, mix_e, bL_rL, c_fa_0_0, c_ob_1, c_extreme kc, bI_rI, mix_e, bL_rL, c_fa_0_0, c_ob_1, c_first kc (by omega), bI_rI, mix_e, bL_rL, c_fa_0_0, c_ob_1, c_last kc (by omega), bI_rI, mix_e, bL_rL, c_fa_0_0, c_ob_1, c_count kc (by omega), bI_rI, mix_e, bL_rL, c_ob_0, x_signs hX hI hv hr, bI_rI, mix_e, bL_rL]
  unfold kDl
  by_cases h2 : p < 2
  · rw [if_pos (nI_lt h2 (by omega)), if_pos h2]; rfl
  · rw [if_neg (nI_nlt (by omega) (by omega)), if_neg h2]
    cases hx : A.2.1 p with
    | none => rcases hv with h | h
              · exact absurd h h2
              · exact absurd hx h
    | some x => rw [x_mixW hX hI hp6 hx hr 4 zFu 0 _ (by omega) (by unfold zFu; omega)]; rfl
theorem x_isTh (hX : CRepx (-1) σ A) (hI : mInv m A) (hp : p < 6) : f_I_isThere (cPut b σ H) (b + 1) (nI p) = rI (mB (kTh A p)) (cPut b σ H) := by
  have key := CRepx.there hX (hI.w 0) (x := nI p)
  refine y_isThere ⟨fun z => ?_, fun z => ?_⟩
  · refine Bool.eq_false_iff.mpr (fun q => key.mp z ⟨p, hp, rfl, kTh_iff.mp q⟩)
  · refine key.mpr (fun ⟨q, hq, e, hz⟩ => ?_)
    have : kTh A p = true := kTh_iff.mpr (by rw [nI_eq31 (by omega) (by omega) e]; exact hz)
    rw [z] at this; cases this
theorem x_dig2 (hX : CRepx (-1) σ A) (hI : mInv m A) {K : gH → Nat → Int64 → gR} : ∀ (k n j : Nat) (d : Int64), j + k = 6 → k < n → f_X_digest_L31 K n (cPut b σ H) b d (nI j) = K (cPut b σ H) b (kD2 A k j d)
  | _, 0, _, _, _, h => absurd h (Nat.not_lt_zero _)
  | 0, n + 1, j, d, hj, _ => by
    unfold f_X_digest_L31
    rw [if_pos (nI_le (by omega) (by omega))]; rfl
  | k + 1, n + 1, j, d, hj, hn => by
    unfold f_X_digest_L31 kD2
    rw [if_neg (nI_ge (by omega) (by omega)), c_fa_0_0, c_ob_1, x_size hX hI (by omega), bI_rI, mix_e, bL_rL, c_fa_0_0, c_ob_1, x_isTh hX hI (by omega), bI_rI, mB_if, nI_add]
    by_cases hv : mV A j
    · obtain ⟨r, s, hr, -⟩ := hI.pl hv
      rw [if_pos (kTh_iff.mpr hv), if_pos (kTh_iff.mpr hv), c_ob_0, x_mixList hX hI hv hr, bL_rL, x_dig2 hX hI k n (j + 1) _ (by omega) (by omega), kRS_of hr]
    · rw [if_neg (fun q => hv (kTh_iff.mp q)), if_neg (fun q => hv (kTh_iff.mp q)), x_dig2 hX hI k n (j + 1) _ (by omega) (by omega)]
theorem kc_of (hX : CRepx (-1) σ A) (hI : mInv m A) (hv : mV A p) : kyC b σ H p (kKs A p) := by
  obtain ⟨r, s, hr, -⟩ := hI.pl hv
  unfold kKs
  rw [kRS_of hr]
  exact kyC.of hX hI hv hr
theorem x_mixPair (hX : CRepx (-1) σ A) (hI : mInv m A) (hv : mV A p) (hv' : mV A q) {d : Int64} : f_X_mixPair (cPut b σ H) b d (nI p) (nI q) = rL (kDp A p q d) (cPut b σ H) := by
  have kc := kc_of (b := b) (H := H) hX hI hv
  have kc' := kc_of (b := b) (H := H) hX hI hv'
  unfold f_X_mixPair kDp
  rw [c_fa_0_0, c_ob_1, c_same kc kc', bI_rI, mB_if]
  have hh := c_holds kc kc'
  have hs := c_share kc kc'
  have hp := c_place kc kc'
  generalize kSm (kKs A p) (kKs A q) = z1
  generalize (decide (∀ k, k ∈ kKs A q → k ∈ kKs A p)) = z2 at hh ⊢
  generalize (decide (∀ k, k ∈ kKs A q → k ∉ kKs A p)) = z3 at hs ⊢
  cases z1 <;> cases z2 <;> cases z3 <;> simp only [mix_e, bL_rL, c_fa_0_0, c_ob_1, hh, hs, hp, bI_rI, mB, bq, if_true, if_false, Bool.false_eq_true] <;> rfl
theorem x_dig4 (hX : CRepx (-1) σ A) (hI : mInv m A) (hp : p < 6) {K : gH → Nat → Int64 → Int32 → gR} : ∀ (k n j : Nat) (d : Int64), j + k = 6 → k < n → f_X_digest_L86 K n (cPut b σ H) b d (nI p) (nI j) = K (cPut b σ H) b (kD4 A p k j d) (nI p)
  | _, 0, _, _, _, h => absurd h (Nat.not_lt_zero _)
  | 0, n + 1, j, d, hj, _ => by
    unfold f_X_digest_L86
    rw [if_pos (nI_le (by omega) (by omega))]; rfl
  | k + 1, n + 1, j, d, hj, hn => by
    unfold f_X_digest_L86 kD4
    rw [if_neg (nI_ge (by omega) (by omega)), c_fa_0_0, c_ob_1, x_isTh hX hI hp, bI_rI, mB_if, nI_add]
    by_cases hv : mV A p
    · rw [if_pos (kTh_iff.mpr hv), if_pos (kTh_iff.mpr hv), c_fa_0_0, c_ob_1, x_isTh hX hI (by omega), bI_rI, mB_if]
      by_cases hv' : mV A j
      · rw [if_pos (kTh_iff.mpr hv'), if_pos (kTh_iff.mpr hv'), c_ob_0, x_mixPair hX hI hv hv', bL_rL, x_dig4 hX hI hp k n (j + 1) _ (by omega) (by omega)]
      · rw [if_neg (fun q => hv' (kTh_iff.mp q)), if_neg (fun q => hv' (kTh_iff.mp q)), x_dig4 hX hI hp k n (j + 1) _ (by omega) (by omega)]
    · rw [if_neg (fun q => hv (kTh_iff.mp q)), if_neg (fun q => hv (kTh_iff.mp q)), x_dig4 hX hI hp k n (j + 1) _ (by omega) (by omega)]
theorem x_dig3 (hX : CRepx (-1) σ A) (hI : mInv m A) {K : gH → Nat → Int64 → gR} : ∀ (k n j : Nat) (d : Int64), j + k = 6 → k < n → f_X_digest_L77 K n (cPut b σ H) b d (nI j) = K (cPut b σ H) b (kD3 A k j d)
  | _, 0, _, _, _, h => absurd h (Nat.not_lt_zero _)
  | 0, n + 1, j, d, hj, _ => by
    unfold f_X_digest_L77
    rw [if_pos (nI_le (by omega) (by omega))]; rfl
  | k + 1, n + 1, j, d, hj, hn => by
    unfold f_X_digest_L77
    rw [if_neg (nI_ge (by omega) (by omega)), x_dig4 hX hI (by omega) 6 zFu 0 d (by omega) (by unfold zFu; omega), nI_add, x_dig3 hX hI k n (j + 1) _ (by omega) (by omega)]; rfl
theorem x_dig6 (hR : CRep σ A) (hI : mInv m A) {c : Nat} (hc : c < 3) {K : gH → Nat → Int64 → Int32 → gR} : ∀ (k n j : Nat) (d : Int64), j + k = 7 → k < n → f_X_digest_L147 K n (cPut b σ H) b d (nI c) (nI j) = K (cPut b σ H) b (kD6 A c k j d) (nI c)
  | _, 0, _, _, _, h => absurd h (Nat.not_lt_zero _)
  | 0, n + 1, j, d, hj, _ => by
    unfold f_X_digest_L147
    rw [if_pos (nI_le (by omega) (by omega))]; rfl
  | k + 1, n + 1, j, d, hj, hn => by
    unfold f_X_digest_L147
    rw [if_neg (nI_ge (by omega) (by omega)), c_ob_0, x_worthC hR hI hc (by omega), bI_rI, mix_e, bL_rL, nI_add, x_dig6 hR hI hc k n (j + 1) _ (by omega) (by omega)]; rfl
theorem x_dig5 (hR : CRep σ A) (hI : mInv m A) {K : gH → Nat → Int64 → gR} : ∀ (k n j : Nat) (d : Int64), j + k = 3 → k < n → f_X_digest_L139 K n (cPut b σ H) b d (nI j) = K (cPut b σ H) b (kD5 A k j d)
  | _, 0, _, _, _, h => absurd h (Nat.not_lt_zero _)
  | 0, n + 1, j, d, hj, _ => by
    unfold f_X_digest_L139
    rw [if_pos (nI_le (by omega) (by omega))]; rfl
  | k + 1, n + 1, j, d, hj, hn => by
    unfold f_X_digest_L139
    rw [if_neg (nI_ge (by omega) (by omega)), x_dig6 hR hI (by omega) 7 zFu 0 d (by omega) (by unfold zFu; omega), nI_add, x_dig5 hR hI k n (j + 1) _ (by omega) (by omega)]; rfl
theorem x_digest (hR : CRep σ A) (hI : mInv m A) : ∃ σ', f_X_digest (cPut b σ H) b = rL (kDg A) (cPut b σ' H) ∧ CRep σ' A := by
  have hX := CRepx.of (exc := -1) hR
  obtain ⟨f5, e5⟩ := x_areSound (b := b) (H := H) hX hI
  refine ⟨cArr σ 5 f5, ?_, hX.spare f5⟩
  unfold f_X_digest
  rw [x_dig1 hR hI 8 zFu 0 _ (by omega) (by unfold zFu; omega), x_dig2 hX hI 6 zFu 0 _ (by omega) (by unfold zFu; omega), x_dig3 hX hI 6 zFu 0 _ (by omega) (by unfold zFu; omega), x_dig5 hR hI 3 zFu 0 _ (by omega) (by unfold zFu; omega), c_fa_0_0, c_ob_1, e5, bI_rI, if_neg (by decide), mix_e, bL_rL]
  rfl
-- the reference
theorem kStr.st {G G' : gH} {q n k c : Nat} (h : kStr G q n) (hs : mSt k c G G') (hw : gWf G) : kStr G' q n := by
  obtain ⟨c0, e, c2, fs, g, h1, h2, h3, h4, h5, h6, h7⟩ := h
  refine ⟨c0, e, c2, fs, g, hs.old hw h1 (fun z => ?_), h2, h3, h4, hs.old hw h5 (fun z => ?_), h6, h7⟩
  · rcases z with ⟨c, f, z1, z2⟩ | ⟨c, n, f, z1, -⟩
    · cases z1; omega
    · cases z1
  · rcases z with ⟨c, f, z1, -⟩ | ⟨c, n, f, z1, -⟩
    · cases z1
    · cases z1
theorem mWs.st {G G' : gH} {k c : Nat} (h : mWs w G) (hs : mSt k c G G') (hw : gWf G) : mWs w G' := by
  obtain ⟨⟨g1, h1⟩, ⟨g2, h2⟩, h3, h5, h7⟩ := h
  have ni : ∀ (a n : Nat) (g : Nat → Int32), ¬ mKd (zI a n g) := fun a n g z => by
    rcases z with ⟨c, f, z1, -⟩ | ⟨c, n, f, z1, -⟩ <;> cases z1
  exact ⟨⟨g1, hs.old hw h1 (ni _ _ _)⟩, ⟨g2, hs.old hw h2 (ni _ _ _)⟩, h3.st hs hw, h5.st hs hw, h7.st hs hw⟩
theorem s_dig1 {D : mD} (hI : mInv m A) {K : gH → Nat → Int64 → gR} : ∀ (k n j : Nat) (d : Int64) (G : gH), j + k = 8 → k < n → MS w o G A D → ∃ G', f_M_digest_L11 w K n G o d (nI j) = K G' o (kD1 A k j d) ∧ MS w o G' A D ∧ mSt (2 * k) (11 * k) G G'
  | _, 0, _, _, _, _, h, _ => absurd h (Nat.not_lt_zero _)
  | 0, n + 1, j, d, G, hj, _, h => by
    refine ⟨G, ?_, h, mSt.refl⟩
    unfold f_M_digest_L11
    rw [if_pos (nI_le (by omega) (by omega))]; rfl
  | k + 1, n + 1, j, d, G, hj, hn, h => by
    obtain ⟨G1, r1, h1, s1⟩ := s_houseTold h hI (show j < 8 by omega)
    obtain ⟨G2, r2, h2, s2⟩ := s_dig1 hI (K := K) k n (j + 1) (mx d (kHo A j).toInt64) G1 (by omega) (by omega) h1
    refine ⟨G2, ?_, h2, (s1.trans s2).mono (by omega) (by omega)⟩
    unfold f_M_digest_L11
    rw [if_neg (nI_ge (by omega) (by omega)), gOb_of h.2.2.1 rfl, r1, bI_rI, add_e, bL_rL, nI_add, r2]; rfl
theorem s_digT {G : gH} {D : mD} (h : MS w o G A D) (hI : mInv m A) (hv : mV A p) (hr : mRw A.2.1 zDp p = some (r, s)) {K : gH → Nat → Int64 → Int32 → gR} : ∀ (l : List (Nat × Nat × Nat)) (n j : Nat) (d : Int64), (sSeg A r s (mLen A p)).drop j = l → j ≤ mLen A p → l.length < n → f_M_digest_L67 w K n G o d (nI p) (nI j) = K G o (kDt d l) (nI p)
  | _, 0, _, _, _, _, h => absurd h (Nat.not_lt_zero _)
  | [], n + 1, j, d, hd, hj, _ => by
    have hl31 := hI.l31 hv
    have hsl : (sSeg A r s (mLen A p)).length = mLen A p := sSeg_len (hI.2.1.rw _ _ _ _ hr)
    have := dr_nil hd
    unfold f_M_digest_L67
    rw [gOb_of h.2.2.1 rfl, s_len h hI.1 hv, bI_rI, if_pos (nI_le (by omega) (by omega))]; rfl
  | t :: l, n + 1, j, d, hd, hj, hn => by
    have hl31 := hI.l31 hv
    have hr2 := mRw_lt _ _ _ _ hr
    have hsl : (sSeg A r s (mLen A p)).length = mLen A p := sSeg_len (hI.2.1.rw _ _ _ _ hr)
    obtain ⟨e1, e2, e3⟩ := dr_cons hd
    have ht := e1
    rw [sSeg_at (by omega)] at ht
    unfold f_M_digest_L67
    rw [gOb_of h.2.2.1 rfl, s_len h hI.1 hv, bI_rI, if_neg (nI_ge (by omega) (by omega)), gOb_of h.2.2.1 rfl, s_at h hI.1 hv hr ht, bA_rA, (s_th h hr2 ht).key, add_e, bL_rL, gOb_of h.2.2.1 rfl, s_at h hI.1 hv hr ht, bA_rA, (s_th h hr2 ht).tag, add_e, bL_rL, nI_add, s_digT h hI hv hr l n (j + 1) _ e2 (by omega) (by simp at hn; omega)]; rfl
theorem s_digW {D : mD} (hI : mInv m A) {x : Nat × Nat × Nat} (h2 : ¬ p < 2) (hp : p < 6) (hx : A.2.1 p = some x) (hr : mRw A.2.1 zDp p = some (r, s)) {K : gH → Nat → Int64 → Int32 → gR} : ∀ (k n j : Nat) (d : Int64) (G : gH), j + k = 4 → k < n → MS w o G A D → ∃ G', f_M_digest_L194 w K n G o d (nI p) (nI j) = K G' o (kDw x r s k j d) (nI p) ∧ MS w o G' A D ∧ mSt k (4 * k) G G'
  | _, 0, _, _, _, _, h, _ => absurd h (Nat.not_lt_zero _)
  | 0, n + 1, j, d, G, hj, _, h => by
    refine ⟨G, ?_, h, mSt.refl⟩
    unfold f_M_digest_L194
    rw [if_pos (nI_le (by omega) (by omega))]; rfl
  | k + 1, n + 1, j, d, G, hj, hn, h => by
    obtain ⟨G1, r1, h1, s1⟩ := s_partTold h hI hp hx hr (show j < 4 by omega)
    obtain ⟨G2, r2, h2', s2⟩ := s_digW hI h2 hp hx hr (K := K) k n (j + 1) (mx d (kWp x r s j).toInt64) G1 (by omega) (by omega) h1
    refine ⟨G2, ?_, h2', (s1.trans s2).mono (by omega) (by omega)⟩
    unfold f_M_digest_L194
    rw [if_neg (nI_ge (by omega) (by omega)), if_neg (nI_nlt (by omega) (by omega)), gOb_of h.2.2.1 rfl, r1, bI_rI, add_e, bL_rL, nI_add, r2]; rfl
theorem s_digV {D : mD} (hI : mInv m A) (hv : mV A p) (hr : mRw A.2.1 zDp p = some (r, s)) {K : gH → Nat → Int64 → Int32 → gR} {d : Int64} {G : gH} (h : MS w o G A D) : ∃ G', f_M_digest_L194 w K zFu G o (kDe A p r s d) (nI p) (nI 0) = K G' o (kDl A p r s d) (nI p) ∧ MS w o G' A D ∧ mSt 4 16 G G' := by
  have hp6 := hv.lt hI.1
  unfold kDl
  by_cases h2 : p < 2
  · refine ⟨G, ?_, h, mSt.refl.mono (by omega) (by omega)⟩
    rw [if_pos h2]
    show f_M_digest_L194 w K (5999 + 1) G o _ (nI p) (nI 0) = _
    unfold f_M_digest_L194
    rw [if_neg (by decide), if_pos (nI_lt h2 (by omega))]
  · rw [if_neg h2]
    cases hx : A.2.1 p with
    | none => rcases hv with z | z
              · exact absurd z h2
              · exact absurd hx z
    | some x => exact s_digW hI h2 hp6 hx hr 4 zFu 0 _ G (by omega) (by unfold zFu; omega) h
theorem s_dig2 {D : mD} (hI : mInv m A) {K : gH → Nat → Int64 → gR} : ∀ (k n j : Nat) (d : Int64) (G : gH), j + k = 6 → k < n → MS w o G A D → mWs w G → ∃ G', f_M_digest_L36 w K n G o d (nI j) = K G' o (kD2 A k j d) ∧ MS w o G' A D ∧ mSt (12 * k) (856 * k) G G'
  | _, 0, _, _, _, _, h, _, _ => absurd h (Nat.not_lt_zero _)
  | 0, n + 1, j, d, G, hj, _, h, _ => by
    refine ⟨G, ?_, h, mSt.refl⟩
    unfold f_M_digest_L36
    rw [if_pos (nI_le (by omega) (by omega))]; rfl
  | k + 1, n + 1, j, d, G, hj, hn, h, hs => by
    by_cases hv : mV A j
    · obtain ⟨r, s, hr, -⟩ := hI.pl hv
      have km := kyM.of h hI hv hr
      have hl31 := hI.l31 hv
      have hsl : (sSeg A r s (mLen A j)).length = mLen A j := sSeg_len (hI.2.1.rw _ _ _ _ hr)
      obtain ⟨q, G1, r1, k1, h1, s1⟩ := s_textOf h hs hI hv hr
      have kl := k1.len (w := w)
      obtain ⟨c0, e, c2, fs, g, z1, z2, -⟩ := k1
      obtain ⟨G2, r2, h2, s2⟩ := s_digV (K := fun G129 x126 x127 x128 => f_M_digest_L36 w K n G129 x126 x127 (x128 + (nI 1))) (d := mx d (kSz A j).toInt64) hI hv hr h1
      obtain ⟨G3, r3, h3, s3⟩ := s_dig2 hI (K := K) k n (j + 1) (kDl A j r s (mx d (kSz A j).toInt64)) G2 (by omega) (by omega) h2 ((hs.st s1 h.1).st s2 h1.1)
      refine ⟨G3, ?_, h3, ((s1.trans s2).trans s3).mono (by omega) (by omega)⟩
      have hT := s_digT h hI hv hr (K := fun G54 x51 x52 x53 => gOb G54 x51 6 fun o56 => bI (f_M_hashOf G54 x51 x53) fun v59 G58 => bL (f_M_add2 G58 x52 v59.toInt64) fun v62 G61 => gOb G61 x51 6 fun o64 => bI (f_M_extremeOf G61 x51 x53 (nI 1)) fun v67 G66 => bL (f_M_add2 G66 v62 v67.toInt64) fun v70 G69 => gOb G69 x51 6 fun o72 => bI (f_M_extremeOf G69 x51 x53 (nI 0)) fun v75 G74 => bL (f_M_add2 G74 v70 v75.toInt64) fun v78 G77 => gOb G77 x51 6 fun o80 => bI (f_M_firstOf G77 x51 x53 (nI 7)) fun v83 G82 => bL (f_M_add2 G82 v78 v83.toInt64) fun v86 G85 => gOb G85 x51 6 fun o88 => bI (f_M_lastOf G85 x51 x53 (nI 7)) fun v91 G90 => bL (f_M_add2 G90 v86 v91.toInt64) fun v94 G93 => gOb G93 x51 6 fun o96 => bI (f_M_manyOf G93 x51 x53 (nI 7)) fun v99 G98 => bL (f_M_add2 G98 v94 v99.toInt64) fun v102 G101 => gOb G101 x51 6 fun o104 => bA (f_M_textOf w G101 x51 x53) fun v107 G106 => gOb G106 v107 8 fun o109 => bI (f_ST_length w G106 v107) fun v112 G111 => bL (f_M_add2 G111 v102 v112.toInt64) fun v115 G114 => f_M_digest_L194 w (fun G129 x126 x127 x128 => f_M_digest_L36 w K n G129 x126 x127 (x128 + (nI 1))) zFu G114 x51 v115 x53 (nI 0)) _ zFu 0 (mx d (kSz A j).toInt64) (List.drop_zero ..) (Nat.zero_le _) (by rw [hsl]; unfold zFu; omega)
      unfold f_M_digest_L36 kD2
      rw [if_neg (nI_ge (by omega) (by omega)), gOb_of h.2.2.1 rfl, s_size h hI (by omega), bI_rI, add_e, bL_rL, gOb_of h.2.2.1 rfl, (s_noList h _).1 ⟨j, by omega, rfl, hv⟩, bI_rI, if_pos rfl, hT, gOb_of h.2.2.1 rfl, m_hsh km, bI_rI, add_e, bL_rL, gOb_of h.2.2.1 rfl, m_ex km, bI_rI, add_e, bL_rL, gOb_of h.2.2.1 rfl, m_ex km, bI_rI, add_e, bL_rL, gOb_of h.2.2.1 rfl, m_fir km (by omega), bI_rI, add_e, bL_rL, gOb_of h.2.2.1 rfl, m_las km (by omega), bI_rI, add_e, bL_rL, gOb_of h.2.2.1 rfl, m_man km (by omega), bI_rI, add_e, bL_rL, gOb_of h.2.2.1 rfl, r1, bA_rA, gOb_of z1 z2, kl, bI_rI, add_e, bL_rL, if_pos (kTh_iff.mpr hv), kRS_of hr, ← r3, ← nI_add]
      exact r2
    · obtain ⟨G3, r3, h3, s3⟩ := s_dig2 hI (K := K) k n (j + 1) (mx d (kSz A j).toInt64) G (by omega) (by omega) h hs
      refine ⟨G3, ?_, h3, s3.mono (by omega) (by omega)⟩
      unfold f_M_digest_L36 kD2
      rw [if_neg (nI_ge (by omega) (by omega)), gOb_of h.2.2.1 rfl, s_size h hI (by omega), bI_rI, add_e, bL_rL, gOb_of h.2.2.1 rfl, (s_noList h _).2 (fun ⟨q, hq, e, hz⟩ => hv (by rw [nI_eq31 (by omega) (by omega) e]; exact hz)), bI_rI, if_neg (by decide), nI_add, r3, if_neg (fun q => hv (kTh_iff.mp q))]
theorem km_of {G : gH} {D : mD} (h : MS w o G A D) (hI : mInv m A) (hv : mV A p) : kyM G o p (kKs A p) := by
  obtain ⟨r, s, hr, -⟩ := hI.pl hv
  unfold kKs
  rw [kRS_of hr]
  exact kyM.of h hI hv hr
theorem one_mB {G : gH} (z : Bool) : f_M_one G (mB z) = rI (mB z) G := by
  cases z
  · exact m_one0
  · exact m_one1
theorem s_dig4 {G : gH} {D : mD} (h : MS w o G A D) (hI : mInv m A) (hp : p < 6) {K : gH → Nat → Int64 → Int32 → gR} : ∀ (k n j : Nat) (d : Int64), j + k = 6 → k < n → f_M_digest_L241 w K n G o d (nI p) (nI j) = K G o (kD4 A p k j d) (nI p)
  | _, 0, _, _, _, h => absurd h (Nat.not_lt_zero _)
  | 0, n + 1, j, d, hj, _ => by
    unfold f_M_digest_L241
    rw [if_pos (nI_le (by omega) (by omega))]; rfl
  | k + 1, n + 1, j, d, hj, hn => by
    have no : ∀ i, i < 6 → ¬ mV A i → f_M_isNoList G o (nI i) = rI 1 G := fun i hi hv => (s_noList h _).2 (fun ⟨q, hq, e, hz⟩ => hv (by rw [nI_eq31 (by omega) (by omega) e]; exact hz))
    have ih := fun d => s_dig4 h hI hp (K := K) k n (j + 1) d (by omega) (by omega)
    unfold f_M_digest_L241 kD4
    rw [if_neg (nI_ge (by omega) (by omega)), gOb_of h.2.2.1 rfl]
    by_cases hv : mV A p
    · rw [if_pos (kTh_iff.mpr hv), (s_noList h _).1 ⟨p, hp, rfl, hv⟩, bI_rI, if_pos rfl, gOb_of h.2.2.1 rfl]
      by_cases hv' : mV A j
      · have km := km_of h hI hv
        have km' := km_of h hI hv'
        rw [if_pos (kTh_iff.mpr hv'), (s_noList h _).1 ⟨j, by omega, rfl, hv'⟩, bI_rI, if_pos rfl, gOb_of h.2.2.1 rfl, m_sam km km', bI_rI, one_mB, bI_rI, add_e, bL_rL, bq_l, gOb_of h.2.2.1 rfl, m_has km km', bI_rI, one_mB, bI_rI, add_e, bL_rL, bq_l, gOb_of h.2.2.1 rfl, m_non km km', bI_rI, one_mB, bI_rI, add_e, bL_rL, bq_l, gOb_of h.2.2.1 rfl, m_fou km km', bI_rI, add_e, bL_rL, nI_add, ih]
        rfl
      · rw [if_neg (fun q => hv' (kTh_iff.mp q)), no j (by omega) hv', bI_rI, if_neg (by decide), nI_add, ih]
    · rw [if_neg (fun q => hv (kTh_iff.mp q)), no p hp hv, bI_rI, if_neg (by decide), nI_add, ih]
theorem s_dig3 {G : gH} {D : mD} (h : MS w o G A D) (hI : mInv m A) {K : gH → Nat → Int64 → gR} : ∀ (k n j : Nat) (d : Int64), j + k = 6 → k < n → f_M_digest_L232 w K n G o d (nI j) = K G o (kD3 A k j d)
  | _, 0, _, _, _, h => absurd h (Nat.not_lt_zero _)
  | 0, n + 1, j, d, hj, _ => by
    unfold f_M_digest_L232
    rw [if_pos (nI_le (by omega) (by omega))]; rfl
  | k + 1, n + 1, j, d, hj, hn => by
    unfold f_M_digest_L232
    rw [if_neg (nI_ge (by omega) (by omega)), s_dig4 h hI (by omega) 6 zFu 0 d (by omega) (by unfold zFu; omega), nI_add, s_dig3 h hI k n (j + 1) _ (by omega) (by omega)]; rfl
theorem s_dig6 {D : mD} (hI : mInv m A) {c : Nat} (hc : c < 3) {K : gH → Nat → Int64 → Int32 → gR} : ∀ (k n j : Nat) (d : Int64) (G : gH), j + k = 7 → k < n → MS w o G A D → ∃ G', f_M_digest_L347 w K n G o d (nI c) (nI j) = K G' o (kD6 A c k j d) (nI c) ∧ MS w o G' A D ∧ mSt k (5 * k) G G'
  | _, 0, _, _, _, _, h, _ => absurd h (Nat.not_lt_zero _)
  | 0, n + 1, j, d, G, hj, _, h => by
    refine ⟨G, ?_, h, mSt.refl⟩
    unfold f_M_digest_L347
    rw [if_pos (nI_le (by omega) (by omega))]; rfl
  | k + 1, n + 1, j, d, G, hj, hn, h => by
    obtain ⟨G1, r1, h1, s1⟩ := s_curTold h hI hc (show j < 7 by omega)
    obtain ⟨G2, r2, h2, s2⟩ := s_dig6 hI hc (K := K) k n (j + 1) (mx d (kWc A c j).toInt64) G1 (by omega) (by omega) h1
    refine ⟨G2, ?_, h2, (s1.trans s2).mono (by omega) (by omega)⟩
    unfold f_M_digest_L347
    rw [if_neg (nI_ge (by omega) (by omega)), gOb_of h.2.2.1 rfl, r1, bI_rI, add_e, bL_rL, nI_add, r2]; rfl
theorem s_dig5 {D : mD} (hI : mInv m A) {K : gH → Nat → Int64 → gR} : ∀ (k n j : Nat) (d : Int64) (G : gH), j + k = 3 → k < n → MS w o G A D → ∃ G', f_M_digest_L339 w K n G o d (nI j) = K G' o (kD5 A k j d) ∧ MS w o G' A D ∧ mSt (7 * k) (35 * k) G G'
  | _, 0, _, _, _, _, h, _ => absurd h (Nat.not_lt_zero _)
  | 0, n + 1, j, d, G, hj, _, h => by
    refine ⟨G, ?_, h, mSt.refl⟩
    unfold f_M_digest_L339
    rw [if_pos (nI_le (by omega) (by omega))]; rfl
  | k + 1, n + 1, j, d, G, hj, hn, h => by
    obtain ⟨G1, r1, h1, s1⟩ := s_dig6 hI (show j < 3 by omega) (K := fun G209 x206 x207 x208 => f_M_digest_L339 w K n G209 x206 x207 (x208 + (nI 1))) 7 zFu 0 d G (by omega) (by unfold zFu; omega) h
    obtain ⟨G2, r2, h2, s2⟩ := s_dig5 hI (K := K) k n (j + 1) (kD6 A j 7 0 d) G1 (by omega) (by omega) h1
    refine ⟨G2, ?_, h2, (s1.trans s2).mono (by omega) (by omega)⟩
    unfold f_M_digest_L339
    rw [if_neg (nI_ge (by omega) (by omega)), r1, nI_add, r2]; rfl
theorem s_digest {G : gH} {D : mD} (h : MS w o G A D) (hs : mWs w G) (hI : mInv m A) : ∃ G', f_M_digest w G o = rL (kDg (mSet A 0 0)) G' ∧ MS w o G' (mSet A 0 0) D ∧ mSt 400 12000 G G' := by
  obtain ⟨h1, s1⟩ := h.set 0 (nI 0)
  have e0 : ∀ k : gH → gR, gPut G o 6 0 (.int (nI 0)) k = k (gUp G o (.inr (6, mOb (mSet A 0 (nI 0)) D))) := fun k => m_put (j := 0) (i := 0) h.2.2 (by omega) rfl
  generalize gUp G o (.inr (6, mOb (mSet A 0 (nI 0)) D)) = G1 at h1 s1 e0
  have hIt : mInv m (mSet A 0 0) := hI.thr 0
  obtain ⟨G2, r2, h2, s2⟩ := s_dig1 (A := mSet A 0 0) hIt (K := fun G13 x11 x12 => f_M_digest_L36 w (fun G134 x132 x133 => f_M_digest_L232 w (fun G196 x194 x195 => f_M_digest_L339 w (fun G213 x211 x212 => gOb G213 x211 6 fun o215 => bI (f_M_isWhole w G213 x211) fun v218 G217 => bI (f_M_one G217 v218) fun v221 G220 => bL (f_M_add2 G220 x212 v221.toInt64) fun v224 G223 => rL v224 G223) zFu G196 x194 x195 (nI 0)) zFu G134 x132 x133 (nI 0)) zFu G13 x11 x12 (nI 0)) 8 zFu 0 (lN 2203) G1 (by omega) (by unfold zFu; omega) h1
  obtain ⟨G3, r3, h3, s3⟩ := s_dig2 (A := mSet A 0 0) hIt (K := fun G134 x132 x133 => f_M_digest_L232 w (fun G196 x194 x195 => f_M_digest_L339 w (fun G213 x211 x212 => gOb G213 x211 6 fun o215 => bI (f_M_isWhole w G213 x211) fun v218 G217 => bI (f_M_one G217 v218) fun v221 G220 => bL (f_M_add2 G220 x212 v221.toInt64) fun v224 G223 => rL v224 G223) zFu G196 x194 x195 (nI 0)) zFu G134 x132 x133 (nI 0)) 6 zFu 0 (kD1 (mSet A 0 0) 8 0 (lN 2203)) G2 (by omega) (by unfold zFu; omega) h2 ((hs.st s1 h.1).st s2 h1.1)
  obtain ⟨G4, r4, h4, s4⟩ := s_dig5 (A := mSet A 0 0) hIt (K := fun G213 x211 x212 => gOb G213 x211 6 fun o215 => bI (f_M_isWhole w G213 x211) fun v218 G217 => bI (f_M_one G217 v218) fun v221 G220 => bL (f_M_add2 G220 x212 v221.toInt64) fun v224 G223 => rL v224 G223) 3 zFu 0 (kD3 (mSet A 0 0) 6 0 (kD2 (mSet A 0 0) 6 0 (kD1 (mSet A 0 0) 8 0 (lN 2203)))) G3 (by omega) (by unfold zFu; omega) h3
  obtain ⟨G5, r5, h5, s5⟩ := s_isWhole h4 hIt
  refine ⟨G5, ?_, h5, ((((s1.trans s2).trans s3).trans s4).trans s5).mono (by omega) (by omega)⟩
  unfold f_M_digest
  rw [e0, r2, r3, s_dig3 h3 hIt 6 zFu 0 _ (by omega) (by unfold zFu; omega), r4, gOb_of h4.2.2.1 rfl, r5, bI_rI, show (1 : Int32) = mB true from rfl, one_mB, bI_rI, add_e, bL_rL, bq_l]
  rfl
end Dg
end
section
/-! The law's own methods: bodies with a table of handlers. -/
abbrev zHh : Type := List (Nat × Nat × Nat × Nat)
def zWh (M : zM) (hh : zHh) : List Cond := .codeWith M.1 M.2.1 M.2.2.1 M.2.2.2 hh :: zT
def zMeh (V : zV) (M : zM) (hh : zHh) (fr mc ms : Nat) (As : List Value) (G : zH) (Q : Option Value → zH → Prop) (QX : String → zH → Prop) : Prop :=
  vx_Met V.1 M.1 (zWh M hh) (zRm fr mc ms) (zPc V As G) (zQc V Q) (zXC V QX) mc ms (zA V)
def zCh (V : zV) (M : zM) (hh : zHh) (p : Program) (R : Room) (s : State) (m : MethodId) (args : Array Value) (meth : Method) (c : Code) : Prop :=
  p.tables.exec = Jvm.exec ∧ c.code = M.2.1 ∧ c.maxLocals = M.2.2.1 ∧ meth.sig.returnType = M.2.2.2 ∧ meth.locks = false ∧ s.vm.findClass M.1.cls = some m.cls ∧ meth.name = M.1.name ∧ (∀ w ∈ zT, w.before args s = true) ∧ zK V s ∧ V.2.2.2.2.2 s s.heap ∧ V.2.2.2.2.1 ≤ s.heap.size ∧ c.exceptionTable.toList = tableOf hh
def Zh (V : zV) (M : zM) (hh : zHh) (fr : Nat) (Q : Option Value → zH → Prop) (QX : String → zH → Prop) (mc ms pc : Nat) (L : zLs) (st : List Value) (G : zH) : Prop :=
  ∀ (p : Program) (e : Env) (R : Room) (s : State) (m : MethodId) (args : Array Value) (below : List Frame) (meth : Method) (c : Code) (H : Heap) (locs : List Loc) (cells slots CT ST : Nat) (ls : Array Slot),
    zCh V M hh p R s m args meth c → fr ≤ R.frames → 60 * fr ≤ R.locals → CT ≤ R.cells → ST ≤ R.slots → cells + mc ≤ CT → slots + ms ≤ ST → va_S (zA V) s.heap H locs → zRl V G H → zL ls L →
    W p V.1 e R s m args below meth c H locs cells slots (vx_MQ below (zQc V Q) (zXC V QX) args s CT ST (zA V)) (F0 m pc ls st)
section ZH
variable {V : zV} {M : zM} {hh : zHh} {fr : Nat} {Q : Option Value → zH → Prop} {QX : String → zH → Prop} {mc ms pc : Nat} {L : zLs} {st : List Value} {G : zH}
theorem Zh.blk {pc' : Nat} {L' : zLs} {st' : List Value} {sg : zSg} (hs : zSeg M.2.1 sg pc = true) (hr : zRun sg pc L st = some (pc', L', st'))
    (k : Zh V M hh fr Q QX mc ms pc' L' st' G) : Zh V M hh fr Q QX mc ms pc L st G := by
  intro p e R s m args below meth c H locs cells slots CT ST ls C h1 h2 h3 h4 h5 h6 hS hR hl
  exact zRun_sound C.1 C.2.1 sg pc L st _ ls hs hr hl (fun ls' hl' => k p e R s m args below meth c H locs cells slots CT ST ls' C h1 h2 h3 h4 h5 h6 hS hR hl')
theorem Zh.room {fr' mc' ms' : Nat} (hf : fr' ≤ fr) (hc : mc' ≤ mc) (hs : ms' ≤ ms) (k : Zh V M hh fr' Q QX mc' ms' pc L st G) : Zh V M hh fr Q QX mc ms pc L st G := by
  intro p e R s m args below meth c H locs cells slots CT ST ls C h1 h2 h3 h4 h5 h6 hS hR hl
  exact k p e R s m args below meth c H locs cells slots CT ST ls C (by omega) (by omega) h3 h4 (by omega) (by omega) hS hR hl
theorem Zh.goto {off : Int} {tgt : Nat} (hd : decode M.2.1 pc = .ok (.goto off, 3)) (ht : (pc : Int) + off = (tgt : Int)) (k : Zh V M hh fr Q QX mc ms tgt L st G) : Zh V M hh fr Q QX mc ms pc L st G := by
  intro p e R s m args below meth c H locs cells slots CT ST ls C h1 h2 h3 h4 h5 h6 hS hR hl
  exact lv_goto C.1 C.2.1 hd ht (k p e R s m args below meth c H locs cells slots CT ST ls C h1 h2 h3 h4 h5 h6 hS hR hl)
theorem Zh.if_eq {x : Int32} {off : Int} {tgt : Nat} (hd : decode M.2.1 pc = .ok (.ifCond .eq off, 3)) (ht : (pc : Int) + off = (tgt : Int)) (kt : x = 0 → Zh V M hh fr Q QX mc ms tgt L st G) (kf : ¬ x = 0 → Zh V M hh fr Q QX mc ms (pc + 3) L st G) : Zh V M hh fr Q QX mc ms pc L (.int x :: st) G := by
  intro p e R s m args below meth c H locs cells slots CT ST ls C h1 h2 h3 h4 h5 h6 hS hR hl
  exact lv_if_eq C.1 C.2.1 hd ht (fun q => (kt q) p e R s m args below meth c H locs cells slots CT ST ls C h1 h2 h3 h4 h5 h6 hS hR hl) (fun q => kf q p e R s m args below meth c H locs cells slots CT ST ls C h1 h2 h3 h4 h5 h6 hS hR hl)
theorem Zh.iret {ty : FieldType} {v : Int32} (hr : M.2.2.2 = some ty) (hn : narrow ty (.int v) = .int v) (hd : decode M.2.1 pc = .ok (.ireturn, 1)) (hq : Q (some (.int v)) G) : Zh V M hh fr Q QX mc ms pc L [.int v] G := by
  intro p e R s m args below meth c H locs cells slots CT ST ls C h1 h2 h3 h4 h5 h6 hS hR hl
  refine W.widen (k := CT) (n := ST) (by omega) (by omega) (vx_ret (W.zret C.1 C.2.1 (by rw [C.2.2.2.1]; exact hr) hn (fun t hT hW => ⟨some (.int v), G, rfl, hq, by rw [hT]; exact hR, hS.toF hT⟩) hS.2.2 hd C.2.2.2.2.1))
/-- a nest mate's private field -/
def zFn (cl : List vw_C) (own : String) (idx ci k : Nat) (ty : FieldType) (host : String) : Prop := ∃ (C : String) (T : u_T) (N : Nat) (t0 : Nat → FieldType),
  cl[ci]? = some (C, T, N) ∧ k < N ∧ (∀ w ∈ u_ws C T N, w ∈ zT) ∧ Cond.fieldLinkNest own idx (T k).1 (T k).2.1 (T k).2.2.1 host ∈ zT ∧
  (∀ j, j < N → parseFieldDescriptor (T j).2.2.1 = some (t0 j)) ∧ (∀ a, a < N → ∀ b, b < N → a ≠ b → (T a).2.1 ≠ (T b).2.1) ∧ (T k).2.2.2 = false ∧ t0 k = ty
theorem Zh.putn {a ci k idx : Nat} {fs : List Value} {v : Value} {ty : FieldType} {host : String} (hf : zFn V.2.2.1 M.1.cls idx ci k ty host) (hci : ci < 1000) (hd : decode M.2.1 pc = .ok (.putfield idx, 3)) (hG : G.2 a = some (.inr (ci, fs))) (hlt : k < fs.length) (hn : narrow ty v = v) (hfit : fits ty v = true) (kk : Zh V M hh fr Q QX mc ms (pc + 3) L st (zUp G a (.inr (ci, fs.set k v)))) : Zh V M hh fr Q QX mc ms pc L (v :: .ref a :: st) G := by
  intro p e R s m args below meth c H locs cells slots CT ST ls C h1 h2 h3 h4 h5 h6 hS hR hl
  have e9 : ci % 1000 = ci := Nat.mod_eq_of_lt hci
  obtain ⟨C0, T, N, t0, hc, hk, hin, hlink, ht0, hnm, hfin, hty⟩ := hf
  have hts := C.2.2.2.2.2.2.2.1
  have hK : va_K V.2.1 V.2.2.1 (zTy V.2.1 V.2.2.2.1) s := C.2.2.2.2.2.2.2.2.1
  have hap := va_apart (own := M.1.cls) hts hin t0 ht0 hnm hK hc
  obtain ⟨hB0, r, cell, g1, q1, q2, q3, q3b, q3c, q4⟩ := hR.2 a _ hG
  have hBa : zA V a := hB0 (by show decide (1000 ≤ ci) = false; exact decide_eq_false (by omega))
  have q3 : cell.vm = .none := q3 hci
  dsimp only at g1 q2 q4
  rw [e9] at g1 q2 q4
  have hr : r = (C0, T, N) := Option.some.inj (g1.symm.trans hc)
  subst hr
  obtain ⟨hSl, hfc, kC, hkC, hkind⟩ := hK.1 ci _ hc
  obtain ⟨cf, kf, fi, f, hi, hsl⟩ := hSl k hk
  have hlay := hts _ (hin _ (u_in_lay hk))
  unfold u_lay at hlay
  have hst := (u_facts hfc hkC (u_lays hts hin hk) hi).1
  have hdd : parseFieldDescriptor (T k).2.2.1 = some ty := by rw [ht0 k hk, hty]
  have hsz9 : V.2.1.2 ci k < cell.slots.size := k2_hasslot (q4 k _ hk (List.getElem?_eq_getElem hlt))
  rw [if_neg (by rw [hfin]; decide)] at hlay
  have h9 := u_store hfc hkC hkind hlay hi hdd hn hfit
  refine va_WputK C.1 C.2.1 (f := f) C.2.2.2.2.2.1 (hts _ hlink) hi hst (by rw [q2]; exact h9) q1 q3 (by rw [hsl]; exact hsz9) rfl rfl hd fun H' e1 e2 e3 => ?_
  rw [hsl] at e1 ⊢
  refine kk p e R s m args below meth c H' _ cells slots CT ST ls C h1 h2 h3 h4 h5 h6 (hS.put1 hBa e2 e3) (hR.up hBa ?_ e2 e3) hl
  refine ⟨_, _, (by rw [e9]; exact hc), e1, (by rw [e9]; exact q2), fun _ => q3, q3b, q3c, fun j w hj hw => ?_⟩
  dsimp only
  rw [e9]
  by_cases hjk : j = k
  · subst hjk
    rw [List.getElem?_set_self hlt] at hw
    cases hw
    simp [Cell.setSlot, hsz9]
  · rw [List.getElem?_set_ne (fun q => hjk q.symm)] at hw
    have := q4 j w hj hw
    simp only [Cell.setSlot]
    rw [Array.getElem?_setIfInBounds_ne (fun q => hap j k hj hk hjk q.symm)]
    exact this
/-- the row of the table that takes E at pc goes to hp; those ahead let it pass -/
def zRow (V : zV) (own : String) (hh : zHh) (pc : Nat) (E : String) (hp : Nat) : Prop := ∃ (pre suf : List ExceptionTableEntry) (x : ExceptionTableEntry) (nm : String), tableOf hh = pre ++ x :: suf ∧
  (∀ z ∈ pre, z.catchType ≠ 0 ∧ ∃ n2 : String, Cond.classLink own z.catchType n2 ∈ zT ∧ ∀ (U : State) (H : Heap), V.2.2.2.2.2 U H → va_Nc E n2 U) ∧ covers x pc = true ∧ x.catchType ≠ 0 ∧ Cond.classLink own x.catchType nm ∈ zT ∧ Cond.castable E nm ∈ zT ∧ x.handlerPc = hp
theorem zPc_ath {p : Program} {R : Room} {s : State} {m : MethodId} {args : Array Value} {meth : Method} {c : Code} {H : Heap} {locs : List Loc} {As : List Value} (hV : zOk V) (C : zCh V M hh p R s m args meth c) (hS : va_S (zA V) s.heap H locs) (hR : zRl V G H) :
    FrameBlind (zPc V As G) ∧ ∀ U : State, U.heap = H → s.WarmedH U.vm → zPc V As G As.toArray U := by
  refine ⟨fun a U g mk h => ⟨h.1, h.2.1, h.2.2.1, hV.2.1 U _ _ rfl h.2.2.2.1, h.2.2.2.2⟩, fun U hU hW => ⟨rfl, by rw [hU]; exact hR, zKn.moved hW.alike C.2.2.2.2.2.2.2.2.1, ?_, ?_⟩⟩
  · rw [hU]
    exact hV.2.2 s U s.heap H hW (fun q h1 h2 => hS.2.1 q h1 h2) hS.1 C.2.2.2.2.2.2.2.2.2.1
  · rw [hU]
    exact Nat.le_trans C.2.2.2.2.2.2.2.2.2.2.1 hS.1
theorem zAfterH {Qy : Option Value → zH → Prop} {Qyx : String → zH → Prop} {yc ys : Nat} {st0 : List Value} {p : Program} {e : Env} {R : Room} {s : State} {m : MethodId} {args : Array Value} {below : List Frame} {meth : Method} {c : Code} {H : Heap} {locs : List Loc} {cells slots CT ST : Nat} {ls : Array Slot} {a : Array Value}
    (hr : vx_Run p V.1 e R s m args below meth c H locs cells slots yc ys (F0 m pc ls st0) st (zQc V Qy a) (zXC V Qyx) (zA V)) (C : zCh V M hh p R s m args meth c) (h1 : fr ≤ R.frames) (h2 : 60 * fr ≤ R.locals) (h3 : CT ≤ R.cells) (h4 : ST ≤ R.slots) (h5 : cells + yc + mc ≤ CT) (h6 : slots + ys + ms ≤ ST) (hS : va_S (zA V) s.heap H locs) (hl : zL ls L)
    (hx : ∀ (E : String) (G' : zH), Qyx E G' → ∃ hp : Nat, zRow V M.1.cls hh pc E hp ∧ ∀ q9 : Nat, Zh V M hh fr Q QX mc ms hp L [.ref q9] G') (kk : ∀ (v : Option Value) (G' : zH), Qy v G' → Zh V M hh fr Q QX mc ms (pc + 3) L (v.toList ++ st) G') :
    W p V.1 e R s m args below meth c H locs cells slots (vx_MQ below (zQc V Q) (zXC V QX) args s CT ST (zA V)) (F0 m pc ls st0) := by
  intro T hT X
  rcases hr T hT X with ⟨v, st₀, t, T', L9, h0, X', hL9, e1, e2, ⟨v', G', hv, hq, hRl, hF⟩, stp⟩ | ⟨q, st₀, t, T', L9, E, ce, h0, X', hL9, e1, e2, ⟨G', hq, hRl, hF⟩, hce, hcv, hcl, stp⟩
  · cases hv
    obtain ⟨k1, k2, k3⟩ := vx_keep h0 e1 hS (fun _ _ h => h) (fun _ h => h) hL9 hF
    obtain ⟨t2, a1, b1⟩ := kk v G' hq p e R s m args below meth c T'.heap (locs ++ L9) (cells + yc) (slots + ys) CT ST ls C h1 h2 h3 h4 h5 h6 k3 (by rw [e1]; exact hRl) hl T' rfl X'
    exact ⟨t2, stp t2 a1, b1⟩
  · obtain ⟨k1, k2, k3⟩ := vx_keep h0 e1 hS (fun _ _ h => h) (fun _ h => h) hL9 hF
    have hce' : T'.heap[q]? = some ce := by rw [e1]; exact hce
    obtain ⟨hp, ⟨pre, suf, x, nm, z1, z2, z3, z4, z5, z6, z7⟩, kx⟩ := hx E G' hq
    have hts := C.2.2.2.2.2.2.2.1
    have kz : vx_W p V.1 e R s m args below meth c T'.heap (locs ++ L9) (cells + yc) (slots + ys) (vx_MQ below (zQc V Q) (zXC V QX) args s CT ST (zA V)) (F0 m pc ls st) q := by
      refine vx_catch (own := M.1.cls) (name := nm) (E := E) (ce := ce) C.2.2.2.2.2.1 pre x suf (by rw [C.2.2.2.2.2.2.2.2.2.2.2]; exact z1) (fun z hz => Or.inr ⟨(z2 z hz).1, ?_⟩) z3 z4 (hts _ z5) (hts _ z6) hce' hcv hcl ?_
      · obtain ⟨n2, w1, w2⟩ := (z2 z hz).2
        exact ⟨n2, hts _ w1, w2 s s.heap C.2.2.2.2.2.2.2.2.2.1⟩
      · rw [z7]
        exact kx q p e R s m args below meth c T'.heap (locs ++ L9) (cells + yc) (slots + ys) CT ST ls C h1 h2 h3 h4 h5 h6 k3 (by rw [e1]; exact hRl) hl
    obtain ⟨t2, a1, b1⟩ := kz T' rfl X'
    exact ⟨t2, stp.trans a1, b1⟩
theorem Zh.callV {y : zM} {n fr9 yc ys idx : Nat} {As : List Value} {Qy : Option Value → zH → Prop} {Qyx : String → zH → Prop} {b c0 ci : Nat} {r : vw_C} {fs : List Value} (hV : zOk V) (hy : zMet V y fr9 yc ys (.ref b :: As) G Qy Qyx) (hc : zCb y n) (hlk : Cond.methodLink M.1.cls idx y.1 ∈ zT) (hin : Cond.instanceMethod y.1 ∈ zT) (hrc : V.2.2.1[ci]? = some r) (hsl : Cond.selects r.1 y.1 y.1 ∈ zT) (hG : G.2 b = some (.inr (c0, fs))) (hcm : c0 % 1000 = ci) (hd : decode M.2.1 pc = .ok (.invokevirtual idx, 3)) (hn : As.length = n) (hLl : L.length = M.2.2.1) (hcat : (st.map fun v => v.category).sum ≤ 8) (hf9 : fr9 + 1 ≤ fr) (hx : ∀ (E : String) (G' : zH), Qyx E G' → ∃ hp : Nat, zRow V M.1.cls hh pc E hp ∧ ∀ q9 : Nat, Zh V M hh fr Q QX mc ms hp L [.ref q9] G') (kk : ∀ (v : Option Value) (G' : zH), Qy v G' → Zh V M hh fr Q QX mc ms (pc + 3) L (v.toList ++ st) G') : Zh V M hh fr Q QX (mc + yc) (ms + ys) pc L (As.reverse ++ .ref b :: st) G := by
  intro p e R s m args below meth c H locs cells slots CT ST ls C h1 h2 h3 h4 h5 h6 hS hR hl
  have hts := C.2.2.2.2.2.2.2.1
  have hK : va_K V.2.1 V.2.2.1 (zTy V.2.1 V.2.2.2.1) s := C.2.2.2.2.2.2.2.2.1
  have hP := zPc_ath (As := (.ref b :: As)) hV C hS hR
  have hml := hc.2.2.2.2
  have hsz : ls.size = M.2.2.1 := hl.1.trans hLl
  have hcb : CallB R s args M.1.cls idx y.1 y.2.1 y.2.2.1 y.2.2.2 (zW y) (zRm fr9 yc ys) yc ys n := ⟨rfl, rfl, (by show fr9 + 1 ≤ R.frames; omega), (by show 8 + (y.2.2.1 + 11) + 60 * fr9 ≤ R.locals; omega), zW_stay hts hc, List.mem_cons_self, hts _ hc.1, hts _ hc.2.1, hc.2.2.1, zCb_sig hc, hts _ hlk⟩
  subst hcm
  obtain ⟨-, r9, cellB, g0, g1, g2, g3, g4, g5, -⟩ := hR.2 b _ hG
  refine zAfterH (a := ((.ref b :: As)).toArray) (yc := yc) (ys := ys) (st := st) ?_ C h1 h2 h3 h4 (by omega) (by omega) hS hl hx kk
  exact vx_runV (C := r.1) (n := n) ⟨C.1, C.2.1, C.2.2.1, C.2.2.2.2.2.1, hts⟩ hy ⟨hcb, hts _ hin, hts _ hsl⟩ ⟨hP.1, ⟨cellB, g1, g5, by rw [g2]; exact (hK.1 _ r hrc).2.1⟩, hP.2⟩ rfl hn hsz rfl (lv_room hcat) hd ⟨by omega, by omega⟩
end ZH
/-- the contract out of the body's walk -/
theorem zMeh.of {V : zV} {M : zM} {hh : zHh} {fr mc ms : Nat} {As : List Value} {G : zH} {Q : Option Value → zH → Prop} {QX : String → zH → Prop} (hy : plainName M.1.cls = true) (hn : (lg_sl As).length ≤ M.2.2.1)
    (L : zLs) (hL : ∀ ls, lv_has ls M.2.2.1 (lv_args 0 As) → zL ls L) (k : Zh V M hh fr Q QX mc ms 0 L [] G) : zMeh V M hh fr mc ms As G Q QX := by
  refine vx_ofWH (cc := M.2.1) (maxL := M.2.2.1) (ret := M.2.2.2) (hh := hh) hy rfl ?_
  intro p e s m args below meth c s₁ Bd hml hv
  obtain ⟨rfl, hRl, hK, hO, hB⟩ := hv
  have hts := atoms_spec (ws := zWh M hh) Bd.pre
  have hex := vx_table (x := M.1) Bd (hts _ List.mem_cons_self)
  have hl := lv_entry As hn
  rw [lg_entry_eq]
  generalize (lg_sl As ++ List.replicate (M.2.2.1 - (lg_sl As).length) Slot.unset).toArray = ls at hl ⊢
  exact k p e _ s m _ below meth c s.heap [] 0 0 mc ms ls
    ⟨Bd.exec, Bd.bytes, hml, Bd.returns, Bd.notSynchronized, findClass_of_methodNamed Bd.named, (name_of_methodNamed Bd.named Bd.method).1, fun w hw => hts w (List.mem_cons_of_mem _ hw), hK, hO, hB, hex⟩
    (Nat.le_refl _) (Nat.le_refl _) (Nat.le_refl _) (Nat.le_refl _) (by omega) (by omega) va_S.rf hRl (hL ls hl)
/-- the law calls one of them -/
def zCbh (y : zM) (hh : zHh) (n : Nat) : Prop := Cond.codeWith y.1 y.2.1 y.2.2.1 y.2.2.2 hh ∈ zT ∧ Cond.initialized y.1.cls ∈ zT ∧ (y.1.cls ≠ "java/lang/invoke/MethodHandle" ∧ y.1.cls ≠ "java/lang/invoke/VarHandle") ∧ (parseMethodDescriptor y.1.desc).map (fun d => d.parameters.length) = some n ∧ y.2.2.1 ≤ 41
theorem Z.callH {V : zV} {M : zM} {fr : Nat} {Q : Option Value → zH → Prop} {QX : String → zH → Prop} {mc ms pc : Nat} {L : zLs} {st : List Value} {G : zH} {y : zM} {hh : zHh} {n fr9 yc ys idx : Nat} {As : List Value} {Qy : Option Value → zH → Prop} {Qyx : String → zH → Prop} (hV : zOk V) (hy : zMeh V y hh fr9 yc ys As G Qy Qyx) (hc : zCbh y hh n) (hlk : Cond.methodLink M.1.cls idx y.1 ∈ zT) (hst : Cond.static y.1 ∈ zT) (hd : decode M.2.1 pc = .ok (.invokestatic idx, 3)) (hn : As.length = n) (hLl : L.length = M.2.2.1) (hcat : (st.map fun v => v.category).sum ≤ 8) (hf9 : fr9 + 1 ≤ fr) (hx : ∀ (E : String) (G' : zH), Qyx E G' → QX E G') (kk : ∀ (v : Option Value) (G' : zH), Qy v G' → Z V M fr Q QX mc ms (pc + 3) L (v.toList ++ st) G') : Z V M fr Q QX (mc + yc) (ms + ys) pc L (As.reverse ++ st) G := by
  intro p e R s m args below meth c H locs cells slots CT ST ls C h1 h2 h3 h4 h5 h6 hS hR hl
  have hts := C.2.2.2.2.2.2.2.1
  have hK : va_K V.2.1 V.2.2.1 (zTy V.2.1 V.2.2.2.1) s := C.2.2.2.2.2.2.2.2.1
  have hP := zPc_at (As := As) hV C hS hR
  have hml := hc.2.2.2.2
  have hsz : ls.size = M.2.2.1 := hl.1.trans hLl
  have hws : ∀ w ∈ zWh y hh, ∀ (a' : Array Value) (U : State), s.WarmedH U.vm → w.before a' U = true := by
    intro w hw a' U hW
    rcases List.mem_cons.mp hw with h9 | h9
    · rw [h9]; exact zT_stay hW hts _ hc.1
    · exact zT_stay hW hts _ h9
  have hsg : ∀ sig, parseMethodDescriptor y.1.desc = some sig → n = sig.parameters.length := by
    intro sig h9
    have q2 := hc.2.2.2.1
    rw [h9] at q2
    exact (Option.some.inj q2).symm
  have hcb : vx_CSW R s args M.1.cls idx y.1 y.2.1 y.2.2.1 y.2.2.2 hh (zWh y hh) (zRm fr9 yc ys) yc ys n := ⟨⟨rfl, rfl, (by show fr9 + 1 ≤ R.frames; omega), (by show 8 + (y.2.2.1 + 11) + 60 * fr9 ≤ R.locals; omega), hws, List.mem_cons_self⟩, hts _ hc.1, hts _ hc.2.1, hc.2.2.1, hsg, hts _ hlk, hts _ hst⟩
  refine zAfter (a := (As).toArray) (yc := yc) (ys := ys) (st := st) ?_ C h1 h2 h3 h4 (by omega) (by omega) hS hl hx kk
  exact vx_runSX (n := n) ⟨C.1, C.2.1, C.2.2.1, C.2.2.2.2.2.1, hts⟩ hy hcb hP rfl hn hsz rfl (lv_room hcat) hd ⟨by omega, by omega⟩
/-- a call of the class, its refusals told by number -/
def oV (E : Nat × (Nat → String)) (c : Nat) (v : Value) (G : gH) : gR := if c = 0 then some (.inr (some v), G) else gThrow (E.2 c) G
theorem oV_oI {E : Nat × (Nat → String)} {c : Nat} {a : Int32} {G : gH} : oI E c a G = oV E c (.int a) G := rfl
theorem oV_no {E : Nat × (Nat → String)} {c : Nat} {v : Value} {G : gH} (h : ¬ c = 0) : oV E c v G = some (.inl (E.2 c), (G.1 + 6, (G.2.1 + 1, G.2.2))) := by
  unfold oV; rw [if_neg h]; rfl
def zNo (O : State → Heap → Prop) : Prop := ∀ (U : State) (H : Heap), O U H → va_Nc "java/lang/IllegalArgumentException" "java/lang/IndexOutOfBoundsException" U ∧ va_Nc "java/lang/IllegalStateException" "java/lang/IndexOutOfBoundsException" U ∧ va_Nc "java/lang/IllegalStateException" "java/lang/IllegalArgumentException" U
/-- what the law's own method leaves: the code, the class's cells, its answer in Out -/
def wQ (q c k : Nat) (v2 : Value) (H1 : gH) : Option Value → zH → Prop := fun v G' => v = some (.int (nI c)) ∧ H1.2.1 ≤ G'.1 ∧ (∀ z, z ≠ q → G'.2 z = H1.2.2 z) ∧ ∃ fs, G'.2 q = some (.inr (7, fs)) ∧ fs.length = 2 ∧ (c = 0 → fs[k]? = some v2)
theorem Zh.oV {l : Launch} {D : va_G} {B : Nat} {O : State → Heap → Prop} {M : zM} {hh : zHh} {fr : Nat} {Q : Option Value → zH → Prop} {QX : String → zH → Prop} {pc : Nat} {L : zLs} {st : List Value} {y : zM} {n fr9 idx : Nat} {As : List Value} {b : Nat} {fs : List Value} {E : Nat × (Nat → String)} {c : Nat} {a : Value} {G H1 : gH} {r : gR} (hV : zOk (zVm l D B O)) (hg : gMet (zVm l D B O) y fr9 (.ref b :: As) G r) (hr : r = oV E c a H1) (h1 : H1.1 ≤ G.1 + 840) (h2 : H1.2.1 ≤ G.2.1 + 8) (h3 : G.2.1 ≤ H1.2.1) (hc : zCb y n) (hlk : Cond.methodLink M.1.cls idx y.1 ∈ zT) (hin : Cond.instanceMethod y.1 ∈ zT) (hsl : Cond.selects "Partlister" y.1 y.1 ∈ zT) (hG : G.2.2 b = some (.inr (3, fs))) (hd : decode M.2.1 pc = .ok (.invokevirtual idx, 3)) (hn : As.length = n) (hLl : L.length = M.2.2.1) (hcat : (st.map fun v => v.category).sum ≤ 8) (hf9 : fr9 + 1 ≤ fr)
    (hx : 0 < c → ∃ hp : Nat, zRow (zVm l D B O) M.1.cls hh pc (E.2 c) hp ∧ ∀ (G' : zH) (q9 : Nat), G.2.1 ≤ G'.1 → H1.2.1 ≤ G'.1 → G'.2 = H1.2.2 → Zh (zVm l D B O) M hh fr Q QX 0 0 hp L [.ref q9] G')
    (k0 : c = 0 → Zh (zVm l D B O) M hh fr Q QX 0 0 (pc + 3) L (a :: st) H1.2) : Zh (zVm l D B O) M hh fr Q QX 9 846 pc L (As.reverse ++ .ref b :: st) G.2 := by
  by_cases h0 : c = 0
  · subst h0
    obtain ⟨⟨g1, g2⟩, g3⟩ := hg _ _ hr
    refine Zh.room (mc' := 0 + (H1.2.1 - G.2.1)) (ms' := 0 + (H1.1 - G.1)) (Nat.le_refl _) (by omega) (by omega) ?_
    refine Zh.callV (r := ("Partlister", T_X, 5)) hV g3 hc hlk hin rfl hsl hG rfl hd hn hLl hcat hf9 ?_ ?_
    · intro E' G' hq
      exact absurd hq.1 (by simp)
    · intro v G' hq
      obtain ⟨e1, e2⟩ := hq
      obtain rfl := Sum.inr.inj e1
      rw [e2]
      exact k0 rfl
  · have hr' : r = some (.inl (E.2 c), (H1.1 + 6, (H1.2.1 + 1, H1.2.2))) := by
      rw [hr]; exact oV_no h0
    obtain ⟨⟨g1, g2⟩, g3⟩ := hg _ _ hr'
    dsimp only at g1 g2 g3
    refine Zh.room (mc' := 0 + (H1.2.1 + 1 - G.2.1)) (ms' := 0 + (H1.1 + 6 - G.1)) (Nat.le_refl _) (by omega) (by omega) ?_
    refine Zh.callV (r := ("Partlister", T_X, 5)) hV g3 hc hlk hin rfl hsl hG rfl hd hn hLl hcat hf9 ?_ ?_
    · intro E' G' hq
      obtain ⟨e1, e2, e3⟩ := hq
      obtain rfl := Sum.inl.inj e1
      obtain ⟨hp, k1, k2⟩ := hx (Nat.pos_of_ne_zero h0)
      dsimp only at e2 e3
      exact ⟨hp, k1, fun q9 => k2 G' q9 (by omega) (by omega) e3⟩
    · intro v G' hq
      exact absurd hq.1 (by simp)
end
