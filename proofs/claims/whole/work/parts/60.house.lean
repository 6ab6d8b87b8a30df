-- house
section House
variable {w : Nat → Nat} {b o m : Nat} {A : mS} {σ : cS} {H : gH}
def kPt (A : mS) (q : Nat) : Bool := (A.2.1 q).isSome
def kCu (A : mS) (c : Nat) : Bool := (A.2.2.1 c).isSome
def kSt (A : mS) (c : Nat) : Bool := match A.2.2.1 c with
  | none => false
  | some x => !decide (x.2.2.2 = 0)
def kHo (A : mS) (i : Nat) : Int32 := if i = 0 then A.2.2.2 1 else if i = 1 then nI (eCt (kPt A) 2 4) else if i = 2 then nI (eCt (kCu A) 0 3) else if i = 3 then nI (eCt (kSt A) 0 3) else if i = 4 then A.2.2.2 2 else if i = 5 then A.2.2.2 3 else if i = 6 then A.2.2.2 4 else A.2.2.2 5
theorem x_partsL (hX : CRepx (-1) σ A) (hI : mInv m A) {K : gH → Int32 → gR} : ∀ (d n j c : Nat), 2 ≤ j → j + d = 6 → d < n → f_I_countParts_L4 K n (cPut b σ H) (b + 1) (nI c) (nI j) = K (cPut b σ H) (nI (c + eCt (kPt A) j d))
  | _, 0, _, _, _, _, h => absurd h (Nat.not_lt_zero _)
  | 0, n + 1, j, c, _, hj, _ => by
    unfold f_I_countParts_L4
    rw [if_pos (nI_le (by omega) (by omega))]; rfl
  | d + 1, n + 1, j, c, h2, hj, hn => by
    have hth : f_I_isThere (cPut b σ H) (b + 1) (nI j) = rI (mB (kPt A j)) (cPut b σ H) := by
      refine y_isThere ⟨fun z => ?_, fun z => ?_⟩
      · have hn := (CRepx.there hX (hI.w 0)).mp z
        unfold kPt
        cases hx : A.2.1 j with
        | none => rfl
        | some x => exact absurd ⟨j, by omega, rfl, Or.inr (by rw [hx]; exact Option.some_ne_none _)⟩ hn
      · refine (CRepx.there hX (hI.w 0)).mpr (fun ⟨q, hq, e, hz⟩ => ?_)
        cases nI_eq31 (by omega) (by omega) e
        rcases hz with hz | hz
        · omega
        · unfold kPt at z
          cases hx : A.2.1 j with
          | none => exact hz hx
          | some x => rw [hx] at z; cases z
    unfold f_I_countParts_L4 eCt
    rw [if_neg (nI_ge (by omega) (by omega)), c_ob_1, hth, bI_rI, mB_if, nI_add, nI_add]
    cases kPt A j
    · rw [if_neg (by decide), x_partsL hX hI d n (j + 1) c (by omega) (by omega) (by omega)]; simp
    · rw [if_pos rfl, x_partsL hX hI d n (j + 1) (c + 1) (by omega) (by omega) (by omega)]; simp [Nat.add_assoc]
theorem x_thereL (hR : CRep σ A) {K : gH → Int32 → gR} : ∀ (d n j c : Nat), j + d = 3 → d < n → f_U_countThere_L4 K n (cPut b σ H) (b + 14) (nI c) (nI j) = K (cPut b σ H) (nI (c + eCt (kCu A) j d))
  | _, 0, _, _, _, h => absurd h (Nat.not_lt_zero _)
  | 0, n + 1, j, c, hj, _ => by
    unfold f_U_countThere_L4
    rw [if_pos (nI_le (by omega) (by omega))]; rfl
  | d + 1, n + 1, j, c, hj, hn => by
    have hth : f_U_isThere (cPut b σ H) (b + 14) (nI j) = rI (mB (kCu A j)) (cPut b σ H) := by
      haveI := Classical.propDecidable (mIsC A (nI j))
      rw [x_cThere hR]
      unfold kCu
      cases hx : A.2.2.1 j with
      | none => rw [decide_eq_false (fun ⟨c', h3, e, hz⟩ => hz (by rw [← nI_eq31 (by omega) (by omega) e]; exact hx))]; rfl
      | some x => rw [decide_eq_true ⟨j, by omega, rfl, by rw [hx]; exact Option.some_ne_none _⟩]; rfl
    unfold f_U_countThere_L4 eCt
    rw [if_neg (nI_ge (by omega) (by omega)), c_ob_14, hth, bI_rI, mB_if, nI_add, nI_add]
    cases kCu A j
    · rw [if_neg (by decide), x_thereL hR d n (j + 1) c (by omega) (by omega)]; simp
    · rw [if_pos rfl, x_thereL hR d n (j + 1) (c + 1) (by omega) (by omega)]; simp [Nat.add_assoc]
theorem x_staleL (hR : CRep σ A) {K : gH → Int32 → gR} : ∀ (d n j c : Nat), j + d = 3 → d < n → f_U_countStale_L4 K n (cPut b σ H) (b + 14) (nI c) (nI j) = K (cPut b σ H) (nI (c + eCt (kSt A) j d))
  | _, 0, _, _, _, h => absurd h (Nat.not_lt_zero _)
  | 0, n + 1, j, c, hj, _ => by
    unfold f_U_countStale_L4
    rw [if_pos (nI_le (by omega) (by omega))]; rfl
  | d + 1, n + 1, j, c, hj, hn => by
    have hth : f_U_isStale (cPut b σ H) (b + 14) (nI j) = rI (mB (kSt A j)) (cPut b σ H) := by
      unfold kSt
      cases hx : A.2.2.1 j with
      | none =>
        rw [y_isStale, rd_nI (by omega) (by omega), (CRepx.of (exc := -1) hR).nocur (by omega) hx, decide_eq_false (by decide)]
      | some x =>
        rw [x_isStale hR (by omega) hx]
        by_cases hs : x.2.2.2 = 0
        · simp [hs]
        · simp [hs]
    unfold f_U_countStale_L4 eCt
    rw [if_neg (nI_ge (by omega) (by omega)), c_ob_14, hth, bI_rI, mB_if, nI_add, nI_add]
    cases kSt A j
    · rw [if_neg (by decide), x_staleL hR d n (j + 1) c (by omega) (by omega)]; simp
    · rw [if_pos rfl, x_staleL hR d n (j + 1) (c + 1) (by omega) (by omega)]; simp [Nat.add_assoc]
theorem x_worthH (hR : CRep σ A) (hI : mInv m A) {i : Nat} (hi : i < 8) : f_X_worthOfHouse (cPut b σ H) b (nI i) = rI (kHo A i) (cPut b σ H) := by
  have hX := CRepx.of (exc := -1) hR
  obtain ⟨i0, i1, i2, i3, i4⟩ := hX.2.2.2.2.2.2
  have p1 : f_I_countParts (cPut b σ H) (b + 1) = rI (nI (eCt (kPt A) 2 4)) (cPut b σ H) := by
    unfold f_I_countParts
    rw [x_partsL hX hI 4 zFu 2 0 (by omega) (by omega) (by unfold zFu; omega), Nat.zero_add]
  have p2 : f_U_countThere (cPut b σ H) (b + 14) = rI (nI (eCt (kCu A) 0 3)) (cPut b σ H) := by
    unfold f_U_countThere
    rw [x_thereL hR 3 zFu 0 0 (by omega) (by unfold zFu; omega), Nat.zero_add]
  have p3 : f_U_countStale (cPut b σ H) (b + 14) = rI (nI (eCt (kSt A) 0 3)) (cPut b σ H) := by
    unfold f_U_countStale
    rw [x_staleL hR 3 zFu 0 0 (by omega) (by unfold zFu; omega), Nat.zero_add]
  have p4 : f_I_countEnded (cPut b σ H) (b + 1) = rI (A.2.2.2 2) (cPut b σ H) := by unfold f_I_countEnded; rw [c_fi_1_6, i0]
  have p5 : f_U_countEnded (cPut b σ H) (b + 14) = rI (A.2.2.2 3) (cPut b σ H) := by unfold f_U_countEnded; rw [c_fi_14_4, i1]
  unfold f_X_worthOfHouse
  rw [nI_toInt (by omega)]
  rcases (by omega : i = 0 ∨ i = 1 ∨ i = 2 ∨ i = 3 ∨ i = 4 ∨ i = 5 ∨ i = 6 ∨ i = 7) with rfl | rfl | rfl | rfl | rfl | rfl | rfl | rfl
  · rw [if_pos (show ((0 : Nat) : Int) = 0 from rfl), c_fi_0_2, i2]; rfl
  · rw [if_neg (by decide), if_pos (show ((1 : Nat) : Int) = 1 from rfl), c_fa_0_0, c_ob_1, p1, bI_rI]; rfl
  · rw [if_neg (by decide), if_neg (by decide), if_pos (show ((2 : Nat) : Int) = 2 from rfl), c_fa_0_1, c_ob_14, p2, bI_rI]; rfl
  · rw [if_neg (by decide), if_neg (by decide), if_neg (by decide), if_pos (show ((3 : Nat) : Int) = 3 from rfl), c_fa_0_1, c_ob_14, p3, bI_rI]; rfl
  · rw [if_neg (by decide), if_neg (by decide), if_neg (by decide), if_neg (by decide), if_pos (show ((4 : Nat) : Int) = 4 from rfl), c_fa_0_0, c_ob_1, p4, bI_rI]; rfl
  · rw [if_neg (by decide), if_neg (by decide), if_neg (by decide), if_neg (by decide), if_neg (by decide), if_pos (show ((5 : Nat) : Int) = 5 from rfl), c_fa_0_1, c_ob_14, p5, bI_rI]; rfl
  · rw [if_neg (by decide), if_neg (by decide), if_neg (by decide), if_neg (by decide), if_neg (by decide), if_neg (by decide), if_pos (show ((6 : Nat) : Int) = 6 from rfl), c_fi_0_3, i3]; rfl
  · rw [if_neg (by decide), if_neg (by decide), if_neg (by decide), if_neg (by decide), if_neg (by decide), if_neg (by decide), if_neg (by decide), c_fi_0_4, i4]; rfl
-- the reference
theorem s_h16 {G0 : gH} {D : mD} (h : MS w o G0 A D) {K : gH → Nat → Int32 → Nat → gR} {x1 : Int32} {q : Nat} : ∀ (d n j c : Nat) (G : gH) (f : Nat → Int32), j + d = 6 → d < n → lA G0 1 3 q 3 f G → f 0 = nI c → ∃ (f' : Nat → Int32) (G' : gH), f_M_houseTold_L16 K n G o x1 q D.1.2.2.1 (nI 6) (nI j) = K G' o x1 q ∧ lA G0 1 3 q 3 f' G' ∧ f' 0 = nI (c + eCt (kPt A) j d) ∧ f' 1 = f 1 ∧ f' 2 = f 2
  | _, 0, _, _, _, _, _, h, _, _ => absurd h (Nat.not_lt_zero _)
  | 0, n + 1, j, c, G, f, hj, _, hl, hc => by
    refine ⟨f, G, ?_, hl, hc, rfl, rfl⟩
    unfold f_M_houseTold_L16
    rw [if_pos (nI_le (by omega) (by omega))]
  | d + 1, n + 1, j, c, G, f, hj, hn, hl, hc => by
    have hM := hl.ms h
    unfold f_M_houseTold_L16 eCt
    rw [if_neg (nI_ge (by omega) (by omega))]
    cases hx : A.2.1 j with
    | none =>
      obtain ⟨G2, r2, l2⟩ := hl.st (i := 0) (by omega) (by omega) (nI (c + 0))
      obtain ⟨f', G', a1, a2, a3, a4, a5⟩ := s_h16 h (K := K) (x1 := x1) d n (j + 1) (c + 0) G2 _ (by omega) (by omega) l2 upd_at
      refine ⟨f', G', ?_, a2, ?_, a4.trans (upd_ne (by omega)), a5.trans (upd_ne (by omega))⟩
      · rw [gLdq_no hM.2.2.2.2.2.1 rfl (by omega) (by omega) (hM.2.2.nopart (by omega) hx), hl.ld (i := 0) (by omega) (by omega), hc, m_one0, bI_rI, nI_add, r2, nI_add, a1]
      · rw [a3]; unfold kPt; rw [hx]; simp
    | some x =>
      obtain ⟨u, e1, -⟩ := hM.2.2.part (show j < 6 by omega) hx
      obtain ⟨G2, r2, l2⟩ := hl.st (i := 0) (by omega) (by omega) (nI (c + 1))
      obtain ⟨f', G', a1, a2, a3, a4, a5⟩ := s_h16 h (K := K) (x1 := x1) d n (j + 1) (c + 1) G2 _ (by omega) (by omega) l2 upd_at
      refine ⟨f', G', ?_, a2, ?_, a4.trans (upd_ne (by omega)), a5.trans (upd_ne (by omega))⟩
      · rw [gLdq_of hM.2.2.2.2.2.1 rfl (by omega) (by omega) e1, hl.ld (i := 0) (by omega) (by omega), hc, m_one1, bI_rI, nI_add, r2, nI_add, a1]
      · rw [a3]; unfold kPt; rw [hx]; simp [Nat.add_assoc]
theorem s_h66 {G0 : gH} {D : mD} (h : MS w o G0 A D) (hI : mInv m A) {K : gH → Nat → Int32 → Nat → gR} {x1 : Int32} {q : Nat} : ∀ (d n j c1 c2 : Nat) (G : gH) (f : Nat → Int32), j + d = 3 → d < n → lA G0 1 3 q 3 f G → f 1 = nI c1 → f 2 = nI c2 → ∃ (f' : Nat → Int32) (G' : gH), f_M_houseTold_L66 K n G o x1 q D.1.2.2.2 (nI 3) (nI j) = K G' o x1 q ∧ lA G0 1 3 q 3 f' G' ∧ f' 1 = nI (c1 + eCt (kCu A) j d) ∧ f' 2 = nI (c2 + eCt (kSt A) j d) ∧ f' 0 = f 0
  | _, 0, _, _, _, _, _, _, h, _, _, _ => absurd h (Nat.not_lt_zero _)
  | 0, n + 1, j, c1, c2, G, f, hj, _, hl, h1, h2 => by
    refine ⟨f, G, ?_, hl, h1, h2, rfl⟩
    unfold f_M_houseTold_L66
    rw [if_pos (nI_le (by omega) (by omega))]
  | d + 1, n + 1, j, c1, c2, G, f, hj, hn, hl, h1, h2 => by
    have hM := hl.ms h
    -- two numbers are written
    have go : ∀ v1 v2 : Nat, ∃ (G2 G3 : gH) (f' : Nat → Int32) (G' : gH), (∀ k : gH → gR, gSt G q 100 (nI 1) (nI (c1 + v1)) k = k G2) ∧ MS w o G2 A D ∧ (∀ k : Int32 → gR, gLd G2 q 100 (nI 2) k = k (nI c2)) ∧ (∀ k : gH → gR, gSt G2 q 100 (nI 2) (nI (c2 + v2)) k = k G3) ∧ f_M_houseTold_L66 K n G3 o x1 q D.1.2.2.2 (nI 3) (nI (j + 1)) = K G' o x1 q ∧ lA G0 1 3 q 3 f' G' ∧ f' 1 = nI (c1 + v1 + eCt (kCu A) (j + 1) d) ∧ f' 2 = nI (c2 + v2 + eCt (kSt A) (j + 1) d) ∧ f' 0 = f 0 := fun v1 v2 => by
      obtain ⟨G2, r2, l2⟩ := hl.st (i := 1) (by omega) (by omega) (nI (c1 + v1))
      obtain ⟨G3, r3, l3⟩ := l2.st (i := 2) (by omega) (by omega) (nI (c2 + v2))
      obtain ⟨f', G', a1, a2, a3, a4, a5⟩ := s_h66 h hI (K := K) (x1 := x1) d n (j + 1) (c1 + v1) (c2 + v2) G3 _ (by omega) (by omega) l3 ((upd_ne (by omega)).trans upd_at) upd_at
      refine ⟨G2, G3, f', G', r2, l2.ms h, fun k => ?_, r3, a1, a2, a3, a4, a5.trans ((upd_ne (by omega)).trans (upd_ne (by omega)))⟩
      rw [l2.ld (i := 2) (by omega) (by omega), upd_ne (by omega), h2]
    unfold f_M_houseTold_L66 eCt
    rw [if_neg (nI_ge (by omega) (by omega))]
    cases hx : A.2.2.1 j with
    | none =>
      obtain ⟨G2, G3, f', G', r2, -, l2, r3, a1, a2, a3, a4, a5⟩ := go 0 0
      refine ⟨f', G', ?_, a2, ?_, ?_, a5⟩
      · rw [gLdq_no hM.2.2.2.2.2.2.1 rfl (by omega) (by omega) (hM.2.2.nocur (by omega) hx), hl.ld (i := 1) (by omega) (by omega), h1, m_one0, bI_rI, nI_add, r2, l2, m_one0, bI_rI, nI_add, r3, nI_add, a1]
      · rw [a3]; unfold kCu; rw [hx]; simp
      · rw [a4]; unfold kSt; rw [hx]; simp
    | some x =>
      obtain ⟨u, e1, -⟩ := s_curq hM (show j < 3 by omega) hx
      by_cases hs : x.2.2.2 = 0
      · obtain ⟨G2, G3, f', G', r2, hM2, l2, r3, a1, a2, a3, a4, a5⟩ := go 1 0
        obtain ⟨-, -, -, g3⟩ := s_fi hM2 (show j < 3 by omega) hx e1
        refine ⟨f', G', ?_, a2, ?_, ?_, a5⟩
        · rw [gLdq_of hM.2.2.2.2.2.2.1 rfl (by omega) (by omega) e1, hl.ld (i := 1) (by omega) (by omega), h1, m_one1, bI_rI, nI_add, r2, l2, g3, if_pos hs, m_one0, bI_rI, nI_add, r3, nI_add, a1]
        · rw [a3]; unfold kCu; rw [hx]; simp [Nat.add_assoc]
        · rw [a4]; unfold kSt; rw [hx]; simp [hs]
      · obtain ⟨G2, G3, f', G', r2, hM2, l2, r3, a1, a2, a3, a4, a5⟩ := go 1 1
        obtain ⟨-, -, -, g3⟩ := s_fi hM2 (show j < 3 by omega) hx e1
        refine ⟨f', G', ?_, a2, ?_, ?_, a5⟩
        · rw [gLdq_of hM.2.2.2.2.2.2.1 rfl (by omega) (by omega) e1, hl.ld (i := 1) (by omega) (by omega), h1, m_one1, bI_rI, nI_add, r2, l2, g3, if_neg hs, m_one1, bI_rI, nI_add, r3, nI_add, a1]
        · rw [a3]; unfold kCu; rw [hx]; simp [Nat.add_assoc]
        · rw [a4]; unfold kSt; rw [hx]; simp [hs, Nat.add_assoc]
theorem s_houseTold {G : gH} {D : mD} (h : MS w o G A D) (hI : mInv m A) {i : Nat} (hi : i < 8) : ∃ G', f_M_houseTold G o (nI i) = rI (kHo A i) G' ∧ MS w o G' A D ∧ mSt 2 11 G G' := by
  have l0 : lA G 1 3 G.2.1 3 (fun _ => 0) (gNew G 3 (zI 100 3 (fun _ => 0))) := lA.new (c := 0) (s := 0) (n := 3) gB.refl h.1 rfl rfl
  have e0 : ∀ k : Nat → gH → gR, gNewA G 100 (nI 3) k = k G.2.1 (gNew G 3 (zI 100 3 (fun _ => 0))) := fun k => gNewA_of (by omega)
  generalize gNew G 3 (zI 100 3 (fun _ => 0)) = G1 at l0 e0
  have h1 := l0.ms h
  have hd01 : A.2.1 0 = none ∧ A.2.1 1 = none := by
    refine ⟨?_, ?_⟩
    · cases hx : A.2.1 0 with
      | none => rfl
      | some x => have := (hI.1.1 0 x hx).1; omega
    · cases hx : A.2.1 1 with
      | none => rfl
      | some x => have := (hI.1.1 1 x hx).1; omega
  -- what is made and told at the end
  have fin : ∀ (G3 : gH) (f : Nat → Int32), lA G 1 3 G.2.1 3 f G3 → f 0 = nI (eCt (kPt A) 2 4) → f 1 = nI (eCt (kCu A) 0 3) → f 2 = nI (eCt (kSt A) 0 3) → ∃ G', (gNewA G3 100 (nI 8) fun q55 G56 => gFI G56 o 6 4 fun v57 => gSt G56 q55 100 (nI 0) v57 fun G58 => gLd G58 G.2.1 100 (nI 0) fun v59 => gSt G58 q55 100 (nI 1) v59 fun G60 => gLd G60 G.2.1 100 (nI 1) fun v61 => gSt G60 q55 100 (nI 2) v61 fun G62 => gLd G62 G.2.1 100 (nI 2) fun v63 => gSt G62 q55 100 (nI 3) v63 fun G64 => gFI G64 o 6 5 fun v65 => gSt G64 q55 100 (nI 4) v65 fun G66 => gFI G66 o 6 6 fun v67 => gSt G66 q55 100 (nI 5) v67 fun G68 => gFI G68 o 6 7 fun v69 => gSt G68 q55 100 (nI 6) v69 fun G70 => gFI G70 o 6 8 fun v71 => gSt G70 q55 100 (nI 7) v71 fun G72 => gLd G72 q55 100 (nI i) fun v73 => rI v73 G72) = rI (kHo A i) G' ∧ MS w o G' A D ∧ mSt 2 11 G G' := fun G3 f lf y0 y1 y2 => by
    have hf := lf.fin h.1
    have h3 := lf.ms h
    have k0 : lA G3 1 8 G3.2.1 8 (fun _ => 0) (gNew G3 8 (zI 100 8 (fun _ => 0))) := lA.new (c := 0) (s := 0) (n := 8) gB.refl h3.1 rfl rfl
    have t0 : ∀ k : Nat → gH → gR, gNewA G3 100 (nI 8) k = k G3.2.1 (gNew G3 8 (zI 100 8 (fun _ => 0))) := fun k => gNewA_of (by omega)
    generalize gNew G3 8 (zI 100 8 (fun _ => 0)) = G4 at k0 t0
    -- the first row is still there
    have rd : ∀ (g : Nat → Int32) (G5 : gH), lA G3 1 8 G3.2.1 8 g G5 → ∀ j, j < 3 → ∀ k : Int32 → gR, gLd G5 G.2.1 100 (nI j) k = k (f j) := fun g G5 l5 j hj k => by
      have e : G5.2.2 G.2.1 = some (zI 100 3 f) := (l5.1 _ lf.2.2.2.2.2.1).trans lf.2.2.2.2.2.2
      unfold gLd gAr
      rw [e]
      simp only [zI]
      rw [if_pos (by decide), if_pos (gIn_nI hj (by omega)), nI_clamp (by omega)]
    have fd : ∀ (g : Nat → Int32) (G5 : gH), lA G3 1 8 G3.2.1 8 g G5 → ∀ j i, j < 6 → i = mFd j → ∀ k : Int32 → gR, gFI G5 o 6 i k = k (A.2.2.2 j) := fun g G5 l5 j i hj hi k => m_int (l5.ms h3).2.2 hj hi
    obtain ⟨G5, r5, k5⟩ := k0.st (i := 0) (by omega) (by omega) (A.2.2.2 1)
    obtain ⟨G6, r6, k6⟩ := k5.st (i := 1) (by omega) (by omega) (f 0)
    obtain ⟨G7, r7, k7⟩ := k6.st (i := 2) (by omega) (by omega) (f 1)
    obtain ⟨G8, r8, k8⟩ := k7.st (i := 3) (by omega) (by omega) (f 2)
    obtain ⟨G9, r9, k9⟩ := k8.st (i := 4) (by omega) (by omega) (A.2.2.2 2)
    obtain ⟨Ga, ra, ka⟩ := k9.st (i := 5) (by omega) (by omega) (A.2.2.2 3)
    obtain ⟨Gb, rb, kb⟩ := ka.st (i := 6) (by omega) (by omega) (A.2.2.2 4)
    obtain ⟨Gc, rc, kc⟩ := kb.st (i := 7) (by omega) (by omega) (A.2.2.2 5)
    refine ⟨Gc, ?_, kc.ms h3, (hf.trans (kc.fin h3.1)).mono (by omega) (by omega)⟩
    rw [t0, fd _ _ k0 1 4 (by omega) rfl, r5, rd _ _ k5 0 (by omega), r6, rd _ _ k6 1 (by omega), r7, rd _ _ k7 2 (by omega), r8, fd _ _ k8 2 5 (by omega) rfl, r9, fd _ _ k9 3 6 (by omega) rfl, ra, fd _ _ ka 4 7 (by omega) rfl, rb, fd _ _ kb 5 8 (by omega) rfl, rc, kc.ld hi (by omega), y0, y1, y2]
    rcases (by omega : i = 0 ∨ i = 1 ∨ i = 2 ∨ i = 3 ∨ i = 4 ∨ i = 5 ∨ i = 6 ∨ i = 7) with rfl | rfl | rfl | rfl | rfl | rfl | rfl | rfl <;> rfl
  obtain ⟨f1, G2, a1, a2, a3, a4, a5⟩ := s_h16 (A := A) h (K := fun G20 x17 x18 x19 => gFA G20 x17 6 3 fun v21 => gLenq G20 v21 105 fun v22 => f_M_houseTold_L66 (fun G54 x51 x52 x53 => gNewA G54 100 (nI 8) fun q55 G56 => gFI G56 x51 6 4 fun v57 => gSt G56 q55 100 (nI 0) v57 fun G58 => gLd G58 x53 100 (nI 0) fun v59 => gSt G58 q55 100 (nI 1) v59 fun G60 => gLd G60 x53 100 (nI 1) fun v61 => gSt G60 q55 100 (nI 2) v61 fun G62 => gLd G62 x53 100 (nI 2) fun v63 => gSt G62 q55 100 (nI 3) v63 fun G64 => gFI G64 x51 6 5 fun v65 => gSt G64 q55 100 (nI 4) v65 fun G66 => gFI G66 x51 6 6 fun v67 => gSt G66 q55 100 (nI 5) v67 fun G68 => gFI G68 x51 6 7 fun v69 => gSt G68 q55 100 (nI 6) v69 fun G70 => gFI G70 x51 6 8 fun v71 => gSt G70 q55 100 (nI 7) v71 fun G72 => gLd G72 q55 100 x52 fun v73 => rI v73 G72) zFu G20 x17 x18 x19 v21 v22 (nI 0)) (x1 := nI i) 6 zFu 0 0 G1 (fun _ => 0) (by omega) (by unfold zFu; omega) l0 nI0.symm
  have h2 := a2.ms h
  obtain ⟨f2, G3, b1, b2, b3, b4, b5⟩ := s_h66 (A := A) h hI (K := fun G54 x51 x52 x53 => gNewA G54 100 (nI 8) fun q55 G56 => gFI G56 x51 6 4 fun v57 => gSt G56 q55 100 (nI 0) v57 fun G58 => gLd G58 x53 100 (nI 0) fun v59 => gSt G58 q55 100 (nI 1) v59 fun G60 => gLd G60 x53 100 (nI 1) fun v61 => gSt G60 q55 100 (nI 2) v61 fun G62 => gLd G62 x53 100 (nI 2) fun v63 => gSt G62 q55 100 (nI 3) v63 fun G64 => gFI G64 x51 6 5 fun v65 => gSt G64 q55 100 (nI 4) v65 fun G66 => gFI G66 x51 6 6 fun v67 => gSt G66 q55 100 (nI 5) v67 fun G68 => gFI G68 x51 6 7 fun v69 => gSt G68 q55 100 (nI 6) v69 fun G70 => gFI G70 x51 6 8 fun v71 => gSt G70 q55 100 (nI 7) v71 fun G72 => gLd G72 q55 100 x52 fun v73 => rI v73 G72) (x1 := nI i) 3 zFu 0 0 0 G2 f1 (by omega) (by unfold zFu; omega) a2 (a4.trans nI0.symm) (a5.trans nI0.symm)
  have hc : eCt (kPt A) 0 6 = eCt (kPt A) 2 4 := by
    have e1 : kPt A 0 = false := by unfold kPt; rw [hd01.1]; rfl
    have e2 : kPt A 1 = false := by unfold kPt; rw [hd01.2]; rfl
    simp [eCt, e1, e2]
  obtain ⟨G', c1, c2, c3⟩ := fin G3 f2 b2 (by rw [b5, a3, hc, Nat.zero_add]) (by rw [b3, Nat.zero_add]) (by rw [b4, Nat.zero_add])
  refine ⟨G', ?_, c2, c3⟩
  unfold f_M_houseTold
  rw [e0, gFA_of h1.2.2.1 rfl rfl, gLenq_of h1.2.2.2.2.2.1 rfl, a1, gFA_of h2.2.2.1 rfl rfl, gLenq_of h2.2.2.2.2.2.2.1 rfl, b1, c1]
theorem sim_house (hR : CRep σ A) (hI : mInv m A) (x : Int32) : SimOp w b o A m σ H xA1 (f_X_house (cPut b σ H) b x) (fun G => f_M_house G o x) := by
  by_cases hx : mIsG 7 x
  · have hx' := hx
    obtain ⟨i, hi, rfl⟩ := hx
    refine Sim.ask hR hI (kHo A i) ?_ (fun G D h => ?_)
    · unfold f_X_house
      rw [if_neg (nI_pos (by omega)), if_pos (nI_lt (by omega) (by omega)), c_ob_0, x_worthH hR hI (by omega), bI_rI]
    · obtain ⟨G1, r1, h1, s1⟩ := s_go h
      obtain ⟨G2, r2, h2, s2⟩ := s_houseTold h1 (hI.thr 0) (show i < 8 by omega)
      refine ⟨G2, ?_, h2, (s1.trans s2).mono (by omega) (by omega)⟩
      unfold f_M_house
      rw [(s_isIn G 7 (by omega) _).1 hx', bI_rI, if_neg (by decide), gOb_of h.2.2.1 rfl, r1, bI_rI, if_pos rfl, gOb_of h1.2.2.1 rfl, r2, bI_rI]
      rfl
  · refine Sim.no hR hI 1 (by decide) (by decide) ?_ (fun G D h => ?_)
    · unfold f_X_house
      by_cases h0 : x < 0
      · rw [if_pos h0]; rfl
      · rw [if_neg h0, if_neg (fun q => hx (by
          obtain ⟨i, hi, e⟩ := (nI_plc (L := 8) (by omega)).mpr ⟨h0, q⟩
          exact ⟨i, by omega, e⟩))]; rfl
    · obtain ⟨G1, r1, h1, s1⟩ := s_halt1 h
      refine ⟨G1, ?_, h1, s1⟩
      unfold f_M_house
      rw [(s_isIn G 7 (by omega) _).2 hx, bI_rI, if_pos rfl, gOb_of h.2.2.1 rfl, r1, bI_rI, if_neg (by decide)]
      rfl
end House
