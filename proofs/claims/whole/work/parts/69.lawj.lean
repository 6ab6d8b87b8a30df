/-! The law's state between its calls. -/
def lN4 (z : zE) : Prop := (∀ c fs, z = .inr (c, fs) → 4 ≤ c ∧ c ≠ 7) ∧ ∀ n f, z = zI 100 n f → n = 2
theorem lN4_r {c : Nat} {fs : List Value} (h : 4 ≤ c) (h7 : c ≠ 7) : lN4 (.inr (c, fs)) :=
  ⟨fun c' f' e => (by cases e; exact ⟨h, h7⟩), fun n f e => (by cases e)⟩
theorem lN4_q {c n : Nat} {f : Nat → Option Nat} : lN4 (zQ c n f) := ⟨fun c' f' e => (by cases e), fun n f e => (by cases e)⟩
theorem lN4_i {c n : Nat} {f : Nat → Int32} (h : c ≠ 100 ∨ n = 2) : lN4 (zI c n f) := by
  refine ⟨fun c' f' e => (by cases e), fun n' f' e => ?_⟩
  cases e
  rcases h with h | h
  · exact absurd rfl h
  · exact h
theorem lN4_c {b j : Nat} {σ : cS} {z : zE} (hj : j < 23) (h : cEnc b σ j = some z) : ¬ lN4 z := by
  intro hz
  match j, hj, h with
  | 0, _, h => cases h; exact absurd (hz.1 _ _ rfl).1 (by decide)
  | 1, _, h => cases h; exact absurd (hz.1 _ _ rfl).1 (by decide)
  | 2, _, h => cases h; exact absurd (hz.1 _ _ rfl).1 (by decide)
  | 3, _, h => cases h; exact absurd (hz.2 _ _ rfl) (by decide)
  | 4, _, h => cases h; exact absurd (hz.1 _ _ rfl).1 (by decide)
  | 5, _, h => cases h; exact absurd (hz.2 _ _ rfl) (by decide)
  | 6, _, h => cases h; exact absurd (hz.1 _ _ rfl).1 (by decide)
  | 7, _, h => cases h; exact absurd (hz.2 _ _ rfl) (by decide)
  | 8, _, h => cases h; exact absurd (hz.1 _ _ rfl).1 (by decide)
  | 9, _, h => cases h; exact absurd (hz.2 _ _ rfl) (by decide)
  | 10, _, h => cases h; exact absurd (hz.1 _ _ rfl).1 (by decide)
  | 11, _, h => cases h; exact absurd (hz.2 _ _ rfl) (by decide)
  | 12, _, h => cases h; exact absurd (hz.1 _ _ rfl).1 (by decide)
  | 13, _, h => cases h; exact absurd (hz.2 _ _ rfl) (by decide)
  | 14, _, h => cases h; exact absurd (hz.1 _ _ rfl).1 (by decide)
  | 15, _, h => cases h; exact absurd (hz.1 _ _ rfl).1 (by decide)
  | 16, _, h => cases h; exact absurd (hz.2 _ _ rfl) (by decide)
  | 17, _, h => cases h; exact absurd (hz.1 _ _ rfl).1 (by decide)
  | 18, _, h => cases h; exact absurd (hz.2 _ _ rfl) (by decide)
  | 19, _, h => cases h; exact absurd (hz.1 _ _ rfl).1 (by decide)
  | 20, _, h => cases h; exact absurd (hz.2 _ _ rfl) (by decide)
  | 21, _, h => cases h; exact absurd (hz.1 _ _ rfl).1 (by decide)
  | 22, _, h => cases h; exact absurd (hz.2 _ _ rfl) (by decide)
/-- a class's cell never is the reference's -/
theorem lKd_c {b j : Nat} {σ : cS} {z : zE} (hj : j < 23) (h : cEnc b σ j = some z) : ¬ mKd z := by
  intro hz
  have hn := lN4_c hj h
  rcases hz with ⟨c, fs, rfl, hc⟩ | ⟨c, n, f, rfl, -⟩
  · exact hn (lN4_r (by omega) (by omega))
  · exact hn lN4_q
/-- .. and stays what it is: an object, or a row of ints -/
theorem lEl_c {b j : Nat} {σ σ' : cS} {m : Nat} {g : Nat → Int32} (hj : j < 23) (h : cEnc b σ j = some (zI 100 m g)) : ∃ g', cEnc b σ' j = some (zI 100 m g') := by
  match j, hj, h with
  | 3, _, h => cases h; exact ⟨_, rfl⟩
  | 5, _, h => cases h; exact ⟨_, rfl⟩
  | 7, _, h => cases h; exact ⟨_, rfl⟩
  | 9, _, h => cases h; exact ⟨_, rfl⟩
  | 11, _, h => cases h; exact ⟨_, rfl⟩
  | 13, _, h => cases h; exact ⟨_, rfl⟩
  | 16, _, h => cases h; exact ⟨_, rfl⟩
  | 18, _, h => cases h; exact ⟨_, rfl⟩
  | 20, _, h => cases h; exact ⟨_, rfl⟩
  | 22, _, h => cases h; exact ⟨_, rfl⟩
  | 0, _, h => cases h
  | 1, _, h => cases h
  | 2, _, h => cases h
  | 4, _, h => cases h
  | 6, _, h => cases h
  | 8, _, h => cases h
  | 10, _, h => cases h
  | 12, _, h => cases h
  | 14, _, h => cases h
  | 15, _, h => cases h
  | 17, _, h => cases h
  | 19, _, h => cases h
  | 21, _, h => cases h
theorem cEnc_ex {b j : Nat} {σ : cS} (hj : j < 23) : ∃ z, cEnc b σ j = some z := by
  match j, hj with
  | 0, _ => exact ⟨_, rfl⟩
  | 1, _ => exact ⟨_, rfl⟩
  | 2, _ => exact ⟨_, rfl⟩
  | 3, _ => exact ⟨_, rfl⟩
  | 4, _ => exact ⟨_, rfl⟩
  | 5, _ => exact ⟨_, rfl⟩
  | 6, _ => exact ⟨_, rfl⟩
  | 7, _ => exact ⟨_, rfl⟩
  | 8, _ => exact ⟨_, rfl⟩
  | 9, _ => exact ⟨_, rfl⟩
  | 10, _ => exact ⟨_, rfl⟩
  | 11, _ => exact ⟨_, rfl⟩
  | 12, _ => exact ⟨_, rfl⟩
  | 13, _ => exact ⟨_, rfl⟩
  | 14, _ => exact ⟨_, rfl⟩
  | 15, _ => exact ⟨_, rfl⟩
  | 16, _ => exact ⟨_, rfl⟩
  | 17, _ => exact ⟨_, rfl⟩
  | 18, _ => exact ⟨_, rfl⟩
  | 19, _ => exact ⟨_, rfl⟩
  | 20, _ => exact ⟨_, rfl⟩
  | 21, _ => exact ⟨_, rfl⟩
  | 22, _ => exact ⟨_, rfl⟩
  | n + 23, h => omega
def lCl (b : Nat) (σ : cS) (G : zH) : Prop := ∀ j, j < 23 → G.2 (b + j) = cEnc b σ j
/-- the script lies among the old cells: told apart (zSc) -/
def lScr (bS Ln : Nat) (xs : Nat → Int32) (G : zH) : Prop := bS = bS ∧ Ln = Ln ∧ xs = xs ∧ G = G
theorem lScr.i {bS Ln : Nat} {xs : Nat → Int32} {G : zH} : lScr bS Ln xs G := ⟨rfl, rfl, rfl, rfl⟩
def lOut (q : Nat) (G : zH) : Prop := ∃ fs, G.2 q = some (.inr (7, fs)) ∧ fs.length = 2
/-- b the class's, o the reference's, q Out, bS the script -/
def lJ (w : Nat → Nat) (b o q bS Ln : Nat) (xs : Nat → Int32) (m : Nat) (G : zH) : Prop :=
  (∃ (σ : cS) (A : mS) (D : mD), lCl b σ G ∧ CRep σ A ∧ mInv m A ∧ MS w o (0, G) A D) ∧ mWs w (0, G) ∧ lOut q G ∧ lScr bS Ln xs G ∧ b + 23 ≤ q
theorem kStr_sm {G G' : gH} (hk : gSm lN4 G G') {a n : Nat} (h : kStr G a n) : kStr G' a n := by
  obtain ⟨c, e, c2, fs, g, h1, h2, h3, h4, h5, h6, h7⟩ := h
  exact ⟨c, e, c2, fs, g, hk _ _ h1 (lN4_r (by omega) (by omega)), h2, h3, h4, hk _ _ h5 (lN4_i (Or.inl (by omega))), h6, h7⟩
section LJ
variable {w : Nat → Nat} {b o q bS Ln m : Nat} {xs : Nat → Int32} {G G' : zH} {σ σ' : cS} {A : mS} {D : mD}
theorem lCl.put (h : lCl b σ G) : cPut b σ (0, G) = (0, G) := cPut_self h
/-- only the class's cells and Out are written, and new ones made -/
theorem l_cls (hc : lCl b σ G) (hM : MS w o (0, G) A D) (hs : mWs w (0, G)) (hS : lScr bS Ln xs G) (hq : lOut q G) (ha : b + 23 ≤ q) (hz : G.1 ≤ G'.1) (hw : gWf (0, G'))
    (hk : ∀ z, z < G.1 → z ≠ q → G'.2 z = (cPut b σ' (0, G)).2.2 z) : lCl b σ' G' ∧ MS w o (0, G') A D ∧ mWs w (0, G') ∧ lScr bS Ln xs G' := by
  have hwf : gWf (0, G) := hM.1
  obtain ⟨fq, hq1, hq2⟩ := hq
  have hqs : q < G.1 := hwf q _ hq1
  have hsm : gSm lN4 (0, G) (0, G') := by
    intro x z hx hn
    have hxs : x < G.1 := hwf x _ hx
    have hxq : x ≠ q := by
      rintro rfl
      rw [show ((0, G) : gH).2.2 x = G.2 x from rfl, hq1] at hx
      cases hx
      exact absurd rfl (hn.1 _ _ rfl).2
    show G'.2 x = some z
    rw [hk x hxs hxq]
    show (if b ≤ x ∧ x < b + 23 then cEnc b σ' (x - b) else G.2 x) = some z
    split
    · rename_i hb
      have e := hc (x - b) (by omega)
      rw [show b + (x - b) = x by omega] at e
      exact absurd hn (lN4_c (by omega) (e.symm.trans hx))
    · exact hx
  have hkp : gKeep (0, G) (0, G') := by
    intro y hy
    by_cases hb : b ≤ y ∧ y < b + 23
    · have e := hc (y - b) (by omega)
      rw [show b + (y - b) = y by omega] at e
      rcases hy with ⟨fs, h⟩ | ⟨m9, g, h⟩
      · exact absurd (lN4_r (c := 9) (fs := fs) (by decide) (by decide)) (lN4_c (by omega) (e.symm.trans h))
      · obtain ⟨g', e'⟩ := lEl_c (σ' := σ') (by omega) (e.symm.trans h)
        refine Or.inr ⟨m9, g', ?_⟩
        show G'.2 y = _
        rw [hk y (by omega) (by omega)]
        show (if b ≤ y ∧ y < b + 23 then cEnc b σ' (y - b) else G.2 y) = _
        rw [if_pos hb, e']
    · have hyq : y ≠ q := by
        rintro rfl
        rcases hy with ⟨fs, h⟩ | ⟨m9, g, h⟩ <;> rw [show ((0, G) : gH).2.2 y = G.2 y from rfl, hq1] at h <;> cases h
      have hys : y < G.1 := by
        rcases hy with ⟨fs, h⟩ | ⟨m9, g, h⟩ <;> exact hwf _ _ h
      have e : G'.2 y = G.2 y := by
        rw [hk y hys hyq]
        show (if b ≤ y ∧ y < b + 23 then cEnc b σ' (y - b) else G.2 y) = _
        rw [if_neg hb]
      rcases hy with ⟨fs, h⟩ | ⟨m9, g, h⟩
      · exact Or.inl ⟨fs, e.trans h⟩
      · exact Or.inr ⟨m9, g, e.trans h⟩
  refine ⟨fun j hj => ?_, ⟨hw, ?_, ?_⟩, ?_, lScr.i⟩
  · rw [hk (b + j) (by omega) (by omega)]
    exact cPut_at hj
  · obtain ⟨f, h⟩ := hM.2.1
    exact ⟨f, hsm _ _ h lN4_q⟩
  · refine hM.2.2.tr (N := lN4) ?_ hsm hkp (hsm _ _ hM.2.2.1 (lN4_r (by decide) (by decide))) rfl rfl rfl
    exact ⟨⟨fun fs => lN4_r (by decide) (by decide), fun c n f _ => lN4_q, fun g => lN4_i (Or.inr rfl)⟩, ⟨fun n f => lN4_q, fun n f => lN4_q⟩, fun fs => lN4_r (by decide) (by decide), fun fs => lN4_r (by decide) (by decide)⟩
  · obtain ⟨⟨g1, h1⟩, ⟨g2, h2⟩, h3, h5, h7⟩ := hs
    exact ⟨⟨g1, hsm _ _ h1 (lN4_i (Or.inl (by decide)))⟩, ⟨g2, hsm _ _ h2 (lN4_i (Or.inl (by decide)))⟩, kStr_sm hsm h3, kStr_sm hsm h5, kStr_sm hsm h7⟩
theorem mSt.keep {G G' : gH} {k n : Nat} (h : mSt k n G G') (hw : gWf G) {x : Nat} {e : zE} (hx : G.2.2 x = some e) (hn : ¬ mKd e) : G'.2.2 x = some e := by
  rw [h.1.2.2.2.2.2 x (hw x e hx) (fun ⟨e', h1, h2⟩ => hn (by rw [hx] at h1; cases h1; exact h2))]
  exact hx
/-- the reference's call: the class's cells, Out and the script stay -/
theorem l_ref {G1 : gH} {k n : Nat} (hc : lCl b σ G) (hM : MS w o (0, G) A D) (hs : mWs w (0, G)) (hS : lScr bS Ln xs G) (hq : lOut q G) (hst : mSt k n (0, G) G1) : lCl b σ G1.2 ∧ mWs w (0, G1.2) ∧ lOut q G1.2 ∧ lScr bS Ln xs G1.2 := by
  have hwf : gWf (0, G) := hM.1
  obtain ⟨fq, hq1, hq2⟩ := hq
  have ni : ∀ (a n : Nat) (g : Nat → Int32), ¬ mKd (zI a n g) := fun a n g z => by
    rcases z with ⟨c, f, z1, -⟩ | ⟨c, n, f, z1, -⟩ <;> cases z1
  refine ⟨fun j hj => ?_, ?_, ⟨fq, hst.keep hwf hq1 ?_, hq2⟩, lScr.i⟩
  · obtain ⟨z, hx⟩ := cEnc_ex (b := b) (σ := σ) hj
    rw [hx]
    exact hst.keep hwf ((hc j hj).trans hx) (lKd_c hj hx)
  · exact (mWs.st hs hst hwf : mWs w G1)
  · rintro (⟨c, fs, e, hc⟩ | ⟨c, n, f, e, -⟩)
    · cases e
      omega
    · cases e
/-- a call of both, by number of refusal: what the class answers; then what the reference does -/
theorem l_op {E : Nat × (Nat → String)} {F : gH → gR} {R : gH → gR} (hJ : lJ w b o q bS Ln xs m G) (hS : ∀ (A : mS) (σ : cS), CRep σ A → mInv m A → SimOp w b o A m σ (0, G) E (F (cPut b σ (0, G))) R) :
    ∃ (c : Nat) (a : Int32) (H1 : gH) (fq : List Value), c ≤ E.1 ∧ F (0, G) = oV E c (.int a) H1 ∧ H1.1 ≤ 0 + 840 ∧ H1.2.1 ≤ G.1 + 8 ∧ G.1 ≤ H1.2.1 ∧ H1.2.2 q = some (.inr (7, fq)) ∧ fq.length = 2 ∧
      ∀ (G' : zH), H1.2.1 ≤ G'.1 → (∀ z, z ≠ q → G'.2 z = H1.2.2 z) → lOut q G' → (∃ fs, G'.2 o = some (.inr (6, fs))) ∧ lScr bS Ln xs G' ∧
        ∃ (Gf : gH) (m' : Nat), R (0, G') = rI (if c = 0 then a else 0) Gf ∧ Gf.1 ≤ 0 + 12000 ∧ Gf.2.1 ≤ G'.1 + 400 ∧ m' ≤ m + 1 ∧ lJ w b o q bS Ln xs m' Gf.2 ∧ (∃ fs9, Gf.2.2 o = some (.inr (6, .int (nI c) :: fs9))) ∧ ∀ fs9, G'.2 q = some (.inr (7, fs9)) → Gf.2.2 q = some (.inr (7, fs9)) := by
  obtain ⟨⟨σ, A, D, hc, hR, hI, hM⟩, hs, ho, hsc, ha⟩ := hJ
  obtain ⟨c, a, σ', hcE, hF, hMo⟩ := hS A σ hR hI
  rw [hc.put] at hF
  obtain ⟨fq, hq1, hq2⟩ := ho
  have hwf : gWf (0, G) := hM.1
  have hqs : q < G.1 := hwf q _ hq1
  refine ⟨c, a, cPut b σ' (0, G), fq, hcE, hF, Nat.zero_le _, Nat.le_add_right _ _, Nat.le_refl _, ?_, hq2, fun G' hz hk hout => ?_⟩
  · show (if b ≤ q ∧ q < b + 23 then cEnc b σ' (q - b) else G.2 q) = _
    rw [if_neg (by omega)]
    exact hq1
  · have hw' : gWf (0, G') := by
      intro x e hx
      by_cases hxq : x = q
      · subst hxq
        exact Nat.lt_of_lt_of_le hqs hz
      · have hx' : G'.2 x = some e := hx
        rw [hk x hxq] at hx'
        by_cases hb : b ≤ x ∧ x < b + 23
        · show x < G'.1
          have : G.1 ≤ G'.1 := hz
          omega
        · have : (if b ≤ x ∧ x < b + 23 then cEnc b σ' (x - b) else G.2 x) = some e := hx'
          rw [if_neg hb] at this
          exact Nat.lt_of_lt_of_le (hwf x e this) hz
    obtain ⟨c1, c2, c3, c4⟩ := l_cls (σ' := σ') hc hM hs hsc ⟨fq, hq1, hq2⟩ ha hz hw' (fun z _ hzq => hk z hzq)
    obtain ⟨A', D', Gf, m', r1, r2, r3, r4, r5, r6, r7⟩ := hMo (0, G') D c2
    obtain ⟨d1, d2, d3, d4⟩ := l_ref c1 c2 c3 c4 hout r7
    refine ⟨⟨_, c2.2.2.1⟩, c4, Gf, m', r1, r7.1.2.2.2.1, r7.1.2.1, r5, ⟨⟨σ', A', D', d1, r3, r4, r2⟩, d2, d3, d4, ha⟩, ⟨[.ref D'.1.1, .ref D'.1.2.2.1, .ref D'.1.2.2.2, .int (A'.2.2.2 1), .int (A'.2.2.2 2), .int (A'.2.2.2 3), .int (A'.2.2.2 4), .int (A'.2.2.2 5)], ?_⟩, fun fs9 h9 => r7.keep c2.1 h9 ?_⟩
    · have h8 := r2.2.2.1
      unfold mOb at h8
      rw [r6] at h8
      exact h8
    · rintro (⟨c9, fs8, e, hc9⟩ | ⟨c9, n, f, e, -⟩)
      · cases e
        omega
      · cases e
end LJ
