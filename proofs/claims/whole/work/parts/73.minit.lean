/-! The reference's constructor. -/
section MI
variable {w : Nat → Nat}
theorem isAL.size_lt {G : gH} {a e : Nat} {xs : List Nat} (h : isAL w G a e xs) (hw : gWf G) : a < G.2.1 ∧ e < G.2.1 := by
  obtain ⟨m, κ, cap, f, h1, h2, -⟩ := h
  exact ⟨hw _ _ h1, hw _ _ h2⟩
theorem MI_step {G : gH} {o q1 e i n : Nat} {fs : List Value} {xs : List Nat} {f0 : Nat → Option Nat} {K : gH → gR} (hw : gWf G) (ho : G.2.2 o = some (.inr (6, fs))) (hfs : fs[1]? = some (.ref q1)) (h0 : G.2.2 (w 0) = some (zQ 1103 0 f0)) (hA : isAL w G q1 e xs) (hl : xs.length ≤ 40) (hae : q1 ≠ e) (hi : i < 2) :
    ∃ (e' : Nat) (G' : gH), f_M_init_L34 w K (n + 1) G o (nI i) = f_M_init_L34 w K n G' o (nI (i + 1)) ∧ gWf G' ∧ isAL w G' q1 e' (xs ++ [G.2.1]) ∧ q1 ≠ e' ∧ isAL w G' G.2.1 (w 0) [] ∧ (e' ≠ w 0 ∧ (e' = e ∨ e' = G.2.1 + 1)) ∧ (∀ q, q < G.2.1 → q ≠ q1 → q ≠ e ∨ e = w 0 → G'.2.2 q = G.2.2 q) ∧ gKeep G G' ∧ G'.2.1 ≤ G.2.1 + 2 ∧ G.2.1 < G'.2.1 ∧ G'.1 ≤ G.1 + 64 := by
  obtain ⟨hq1, he1⟩ := hA.size_lt hw
  have hw0 : w 0 < G.2.1 := hw _ _ h0
  have hos : o < G.2.1 := hw _ _ ho
  have hoq : o ≠ q1 := by
    rintro rfl
    obtain ⟨m, κ, cap, f, h1, -⟩ := hA
    rw [ho] at h1; cases h1
  have q1w : q1 ≠ w 0 := by
    rintro rfl
    obtain ⟨m, κ, cap, f, h1, -⟩ := hA
    rw [h0] at h1; cases h1
  have hwN : gWf (gNew G 3 (.inr (9, [.null, .int 0, .int 0]))) := hw.new
  have hNs : (gNew G 3 (.inr (9, [.null, .int 0, .int 0]))).2.1 = G.2.1 + 1 := rfl
  obtain ⟨G1, a1, a2, a3, a4⟩ := al_init (w := w) (G := gNew G 3 (.inr (9, [.null, .int 0, .int 0]))) (a := G.2.1) hwN gNew_at rfl (by rw [gNew_ne (by omega)]; exact h0) (by omega)
  have hB1 : ∀ q, q < G.2.1 → G1.2.2 q = G.2.2 q := by
    intro q hq
    rw [a3.2.2.2.2.2 q (by omega) (by omega), gNew_ne (by omega)]
  have hw1 : gWf G1 := a3.2.2.2.2.1 hwN
  have hk1 : gKeep G G1 := gKeep.new hw hB1
  have hz1 : G1.2.1 = G.2.1 + 1 ∧ G1.1 = G.1 + 3 := by
    obtain ⟨b1, b2, b3, b4, -⟩ := a3
    have e2 : (gNew G 3 (.inr (9, [.null, .int 0, .int 0]))).1 = G.1 + 3 := rfl
    omega
  have hA1 : isAL w G1 q1 e xs := hA.cell (hB1 _ hq1) (hB1 _ he1) hk1
  have hEl : gEl G1 G.2.1 := by
    obtain ⟨m, κ, cap, f, h1, -⟩ := a2
    exact Or.inl ⟨_, h1⟩
  obtain ⟨e', G2, c1, c2, c3, c4, c5, c6⟩ := al_add hw1 hA1 hl hEl hae
  have hk2 : gKeep G1 G2 := c6
  have e'w : e' ≠ w 0 := by
    rintro rfl
    rcases c4 with ⟨rfl, cap, f, h⟩ | h
    · rw [hB1 _ hw0, h0] at h; cases h
    · omega
  have hfr : ∀ q, q < G.2.1 → q ≠ q1 → q ≠ e ∨ e = w 0 → G2.2.2 q = G.2.2 q := by
    intro q hq hqq hqe
    rw [c5.2.2.2.2.2 q (by omega) ?_, hB1 q hq]
    rintro (h | ⟨h1, h2⟩)
    · exact hqq h
    · rcases hqe with h | h
      · exact h h1
      · exact e'w (h2.trans h)
  have hr0 : isAL w G2 G.2.1 (w 0) [] := by
    refine a2.cell (c5.2.2.2.2.2 _ (by omega) ?_) (c5.2.2.2.2.2 _ (by omega) ?_) hk2
    · rintro (h | ⟨h1, h2⟩)
      · omega
      · omega
    · rintro (h | ⟨h1, h2⟩)
      · exact q1w h.symm
      · exact e'w (h2.trans h1.symm)
  have hs2 := c5.1
  have hs3 := c5.2.1
  have hs4 := c5.2.2.2.1
  refine ⟨e', G2, ?_, c5.2.2.2.2.1 hw1, c2, c3, hr0, ⟨e'w, c4.imp And.left (fun h => by omega)⟩, hfr, hk1.trans hk2, by omega, by omega, by omega⟩
  show (if (nI 2) ≤ (nI i) then _ else _) = _
  rw [if_neg (nI_ge hi (by decide)), gFA_of ho rfl hfs]
  unfold gNewO
  dsimp only
  rw [a1, bV_rV]
  obtain ⟨m9, κ9, cap9, f9, k1, -⟩ := hA1
  rw [gOb_of k1 rfl, c1, bI_rI, nI_add]
theorem m_init {G : zH} {f0 : Nat → Option Nat} (hw : gWf (0, G)) (h0 : G.2 (w 0) = some (zQ 1103 0 f0)) :
    ∃ (G' : gH) (D : mD), f_M_init w (0, zNew G (.inr (6, [.int 0, .null, .null, .null, .int 0, .int 0, .int 0, .int 0, .int 0]))) G.1 = rV G' ∧ MS w G.1 G' A0 D ∧ (∀ q, q < G.1 → G'.2.2 q = G.2 q) ∧ G.1 < G'.2.1 ∧ G'.2.1 ≤ G.1 + 20 ∧ G'.1 ≤ 300 := by
  have hw0 : w 0 < G.1 := hw _ _ h0
  generalize hN0 : ((0, zNew G (.inr (6, [.int 0, .null, .null, .null, .int 0, .int 0, .int 0, .int 0, .int 0]))) : gH) = N0
  have hN0w : gWf N0 := by rw [← hN0]; exact fun q e h => gWf.new (n := 0) hw q e h
  have n1 : N0.2.1 = G.1 + 1 := by rw [← hN0]; rfl
  have n1s : N0.1 = 0 := by rw [← hN0]
  have n2 : N0.2.2 G.1 = some (.inr (6, [.int 0, .null, .null, .null, .int 0, .int 0, .int 0, .int 0, .int 0])) := by rw [← hN0]; exact zNew_at _ _
  have n3 : ∀ q, q < G.1 → N0.2.2 q = G.2 q := fun q hq => by rw [← hN0]; exact zNew_ne _ _ (by omega)
  -- the list of rows
  obtain ⟨G1, a1, a2, a3, a4⟩ := al_init (w := w) (G := gNew N0 3 (.inr (9, [.null, .int 0, .int 0]))) (a := N0.2.1) hN0w.new gNew_at rfl (by rw [gNew_ne (by omega), n3 _ hw0]; exact h0) (by omega)
  have hz1 : G1.2.1 = G.1 + 2 ∧ G1.1 = 3 := by
    obtain ⟨b1, b2, b3, b4, -⟩ := a3
    have e1 : (gNew N0 3 (.inr (9, [.null, .int 0, .int 0]))).2.1 = N0.2.1 + 1 := rfl
    have e2 : (gNew N0 3 (.inr (9, [.null, .int 0, .int 0]))).1 = N0.1 + 3 := rfl
    omega
  have hB1 : ∀ q, q < G.1 + 1 → G1.2.2 q = N0.2.2 q := by
    intro q hq
    rw [a3.2.2.2.2.2 q (by show q < N0.2.1 + 1; omega) (by omega), gNew_ne (by omega)]
  have hw1 : gWf G1 := a3.2.2.2.2.1 hN0w.new
  have o1 : G1.2.2 G.1 = some (.inr (6, [.int 0, .null, .null, .null, .int 0, .int 0, .int 0, .int 0, .int 0])) := by rw [hB1 _ (by omega)]; exact n2
  -- the two arrays
  generalize hG2 : gUp G1 G.1 (.inr (6, [.int 0, .ref N0.2.1, .null, .null, .int 0, .int 0, .int 0, .int 0, .int 0])) = G2
  have s2 : G2.2.1 = G.1 + 2 ∧ G2.1 = 3 := by rw [← hG2]; exact hz1
  have o2 : G2.2.2 G.1 = some (.inr (6, [.int 0, .ref N0.2.1, .null, .null, .int 0, .int 0, .int 0, .int 0, .int 0])) := by rw [← hG2]; exact gUp_at
  have m2 : ∀ q, q ≠ G.1 → G2.2.2 q = G1.2.2 q := fun q hq => by rw [← hG2]; exact gUp_ne hq
  have w2 : gWf G2 := by rw [← hG2]; exact hw1.up (by omega)
  generalize hG3 : gNew G2 6 (zQ 104 6 (fun _ => none)) = G3
  have s3 : G3.2.1 = G.1 + 3 ∧ G3.1 = 9 := by rw [← hG3]; exact ⟨by show G2.2.1 + 1 = _; omega, by show G2.1 + 6 = _; omega⟩
  have w3 : gWf G3 := by rw [← hG3]; exact w2.new
  have m3 : ∀ q, q ≠ G.1 + 2 → G3.2.2 q = G2.2.2 q := fun q hq => by rw [← hG3]; exact gNew_ne (by omega)
  have p3 : G3.2.2 (G.1 + 2) = some (zQ 104 6 (fun _ => none)) := by rw [← hG3, ← s2.1]; exact gNew_at
  have o3 : G3.2.2 G.1 = some (.inr (6, [.int 0, .ref N0.2.1, .null, .null, .int 0, .int 0, .int 0, .int 0, .int 0])) := by rw [m3 _ (by omega)]; exact o2
  generalize hG4 : gUp G3 G.1 (.inr (6, [.int 0, .ref N0.2.1, .ref (G.1 + 2), .null, .int 0, .int 0, .int 0, .int 0, .int 0])) = G4
  have s4 : G4.2.1 = G.1 + 3 ∧ G4.1 = 9 := by rw [← hG4]; exact s3
  have o4 : G4.2.2 G.1 = some (.inr (6, [.int 0, .ref N0.2.1, .ref (G.1 + 2), .null, .int 0, .int 0, .int 0, .int 0, .int 0])) := by rw [← hG4]; exact gUp_at
  have m4 : ∀ q, q ≠ G.1 → G4.2.2 q = G3.2.2 q := fun q hq => by rw [← hG4]; exact gUp_ne hq
  have w4 : gWf G4 := by rw [← hG4]; exact w3.up (by omega)
  generalize hG5 : gNew G4 3 (zQ 105 3 (fun _ => none)) = G5
  have s5 : G5.2.1 = G.1 + 4 ∧ G5.1 = 12 := by rw [← hG5]; exact ⟨by show G4.2.1 + 1 = _; omega, by show G4.1 + 3 = _; omega⟩
  have w5 : gWf G5 := by rw [← hG5]; exact w4.new
  have m5 : ∀ q, q ≠ G.1 + 3 → G5.2.2 q = G4.2.2 q := fun q hq => by rw [← hG5]; exact gNew_ne (by omega)
  have p5 : G5.2.2 (G.1 + 3) = some (zQ 105 3 (fun _ => none)) := by rw [← hG5, ← s4.1]; exact gNew_at
  have o5 : G5.2.2 G.1 = some (.inr (6, [.int 0, .ref N0.2.1, .ref (G.1 + 2), .null, .int 0, .int 0, .int 0, .int 0, .int 0])) := by rw [m5 _ (by omega)]; exact o4
  generalize hG6 : gUp G5 G.1 (.inr (6, [.int 0, .ref N0.2.1, .ref (G.1 + 2), .ref (G.1 + 3), .int 0, .int 0, .int 0, .int 0, .int 0])) = G6
  have s6 : G6.2.1 = G.1 + 4 ∧ G6.1 = 12 := by rw [← hG6]; exact s5
  have o6 : G6.2.2 G.1 = some (.inr (6, [.int 0, .ref N0.2.1, .ref (G.1 + 2), .ref (G.1 + 3), .int 0, .int 0, .int 0, .int 0, .int 0])) := by rw [← hG6]; exact gUp_at
  have m6 : ∀ q, q ≠ G.1 → G6.2.2 q = G5.2.2 q := fun q hq => by rw [← hG6]; exact gUp_ne hq
  have w6 : gWf G6 := by rw [← hG6]; exact w5.up (by omega)
  have old6 : ∀ q, q < G.1 → G6.2.2 q = G.2 q := fun q hq => by rw [m6 q (by omega), m5 q (by omega), m4 q (by omega), m3 q (by omega), m2 q (by omega), hB1 q (by omega), n3 q hq]
  have k6 : ∀ q, q = G.1 + 1 → G6.2.2 q = G1.2.2 q := fun q hq => by rw [m6 q (by omega), m5 q (by omega), m4 q (by omega), m3 q (by omega), m2 q (by omega)]
  have w06 : G6.2.2 (w 0) = some (zQ 1103 0 f0) := (old6 _ hw0).trans h0
  have A6 : isAL w G6 N0.2.1 (w 0) [] := by
    obtain ⟨m, κ, cap, f, q1, q2, q3, q4, q5, q6, q7⟩ := a2
    have e0 : G1.2.2 (w 0) = some (zQ 1103 0 f0) := by rw [hB1 _ (by omega), n3 _ hw0]; exact h0
    rw [e0] at q2
    obtain ⟨rfl, rfl, rfl⟩ := zQ_inj q2
    exact ⟨m, 1103, 0, f0, (k6 _ n1).trans q1, w06, Or.inr ⟨rfl, rfl, rfl⟩, by simp, by omega, fun i hi => by simp at hi, fun i hi => by simp at hi⟩
  obtain ⟨e7, G7, r7, w7, A7, ne7, B7, ew7, fr7, kp7, z7, y7, x7⟩ := MI_step (w := w) (K := fun G23 => rV G23) (n := 5999) (i := 0) w6 o6 rfl w06 A6 (by simp) (by omega) (by decide)
  have o7 : G7.2.2 G.1 = some (.inr (6, [.int 0, .ref N0.2.1, .ref (G.1 + 2), .ref (G.1 + 3), .int 0, .int 0, .int 0, .int 0, .int 0])) := by rw [fr7 _ (by omega) (by omega) (Or.inr rfl)]; exact o6
  have w07 : G7.2.2 (w 0) = some (zQ 1103 0 f0) := by rw [fr7 _ (by omega) (by omega) (Or.inr rfl)]; exact w06
  obtain ⟨e8, G8, r8, w8, A8, ne8, B8, ew8, fr8, kp8, z8, y8, x8⟩ := MI_step (w := w) (K := fun G23 => rV G23) (n := 5998) (i := 1) w7 o7 rfl w07 A7 (by simp) ne7 (by decide)
  have e7e : e7 = G.1 + 5 := by
    rcases ew7.2 with h | h
    · exact absurd h ew7.1
    · omega
  have o8 : G8.2.2 G.1 = some (.inr (6, [.int 0, .ref N0.2.1, .ref (G.1 + 2), .ref (G.1 + 3), .int 0, .int 0, .int 0, .int 0, .int 0])) := by rw [fr8 _ (by omega) (by omega) (Or.inl (by omega))]; exact o7
  have p8 : G8.2.2 (G.1 + 2) = some (zQ 104 6 (fun _ => none)) := by
    rw [fr8 _ (by omega) (by omega) (Or.inl (by omega)), fr7 _ (by omega) (by omega) (Or.inr rfl), m6 _ (by omega), m5 _ (by omega), m4 _ (by omega)]; exact p3
  have c8 : G8.2.2 (G.1 + 3) = some (zQ 105 3 (fun _ => none)) := by
    rw [fr8 _ (by omega) (by omega) (Or.inl (by omega)), fr7 _ (by omega) (by omega) (Or.inr rfl), m6 _ (by omega)]; exact p5
  have w08 : G8.2.2 (w 0) = some (zQ 1103 0 f0) := by rw [fr8 _ (by omega) (by omega) (Or.inl (by omega))]; exact w07
  have B7' : isAL w G8 G6.2.1 (w 0) [] := B7.cell (fr8 _ (by omega) (by omega) (Or.inl (by omega))) (fr8 _ (by omega) (by omega) (Or.inl (by omega))) kp8
  refine ⟨G8, ((N0.2.1, e8, G.1 + 2, G.1 + 3), (fun i => if i = 0 then G6.2.1 else G7.2.1), fun _ => w 0, fun _ => 0, fun _ => none, fun _ => none), ?_, ⟨w8, ⟨f0, w08⟩, o8, A8, fun i hi => ?_, p8, c8, fun i hi t ht => absurd ht List.not_mem_nil, fun p hp => trivial, fun c hc => trivial, ⟨?_, fun i hi => ⟨?_, ew8.1⟩, fun _ => rfl, fun i j q _ _ h => (by cases h), fun i j q _ _ h => (by cases h)⟩, fun i hi => Nat.zero_le _⟩, fun q hq => ?_, by omega, by omega, by omega⟩
  · unfold f_M_init gNewO
    try dsimp only
    rw [a1, bV_rV, gPut_of o1 (by decide)]
    show gNewQ (gUp G1 G.1 (.inr (6, [.int 0, .ref N0.2.1, .null, .null, .int 0, .int 0, .int 0, .int 0, .int 0]))) 104 (nI 6) _ = _
    rw [hG2, gNewQ_of (by decide), hG3, s2.1]
    try dsimp only
    rw [gPut_of o3 (Nat.le_of_ble_eq_true rfl)]
    show gNewQ (gUp G3 G.1 (.inr (6, [.int 0, .ref N0.2.1, .ref (G.1 + 2), .null, .int 0, .int 0, .int 0, .int 0, .int 0]))) 105 (nI 3) _ = _
    rw [hG4, gNewQ_of (by decide), hG5, s4.1]
    try dsimp only
    rw [gPut_of o5 (Nat.le_of_ble_eq_true rfl)]
    show f_M_init_L34 w _ (5999 + 1) (gUp G5 G.1 (.inr (6, [.int 0, .ref N0.2.1, .ref (G.1 + 2), .ref (G.1 + 3), .int 0, .int 0, .int 0, .int 0, .int 0]))) G.1 (nI 0) = _
    rw [hG6, r7]
    show f_M_init_L34 w _ (5998 + 1) G7 G.1 (nI 1) = _
    rw [r8]
    show (if (nI 2) ≤ (nI 2) then _ else _) = _
    rw [if_pos (by decide)]
  · match i, hi with
    | 0, _ => exact B7'
    | 1, _ => exact B8
  · show G6.2.1 ≠ G7.2.1
    omega
  · show N0.2.1 ≠ (if i = 0 then G6.2.1 else G7.2.1)
    split <;> omega
  · rw [fr8 _ (by omega) (by omega) (Or.inl (by omega)), fr7 _ (by omega) (by omega) (Or.inr rfl)]
    exact old6 q hq
end MI
