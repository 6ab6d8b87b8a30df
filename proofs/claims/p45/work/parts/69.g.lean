section
/-! The law's state between its calls. -/
def lN4 (z : zE) : Prop := (∀ c fs, z = .inr (c, fs) → 4 ≤ c ∧ c ≠ 7) ∧ ∀ n f, z = zI 100 n f → n = 2
theorem lN4_r {c : Nat} {fs : List Value} (h : 4 ≤ c) (h7 : c ≠ 7) : lN4 (.inr (c, fs)) :=
  ⟨fun c' f' e => (by cases e; exact ⟨h, h7⟩), fun n f e => (by cases e)⟩
theorem lN4_q {c n : Nat} {f : Nat → Option Nat} : lN4 (zQ c n f) := ⟨fun c' f' e => (by cases e), fun n f e => (by cases e)⟩
theorem lN4_i {c n : Nat} {f : Nat → Int32} (h : c ≠ 100 ∨ n = 2) : lN4 (zI c n f) := by
  refine ⟨fun c' f' e => (by cases e), fun n' f' e => ?_⟩
  cases e
  rcases h with h | h
  · exact absurd rfl h
  · exact h
theorem lN4_c {b j : Nat} {σ : cS} {z : zE} (hj : j < 23) (h : cEnc b σ j = some z) : ¬ lN4 z := by
  intro hz
  match j, hj, h with
  | 0, _, h => cases h; exact absurd (hz.1 _ _ rfl).1 (by decide)
  | 1, _, h => cases h; exact absurd (hz.1 _ _ rfl).1 (by decide)
  | 2, _, h => cases h; exact absurd (hz.1 _ _ rfl).1 (by decide)
  | 3, _, h => cases h; exact absurd (hz.2 _ _ rfl) (by decide)
  | 4, _, h => cases h; exact absurd (hz.1 _ _ rfl).1 (by decide)
  | 5, _, h => cases h; exact absurd (hz.2 _ _ rfl) (by decide)
  | 6, _, h => cases h; exact absurd (hz.1 _ _ rfl).1 (by decide)
  | 7, _, h => cases h; exact absurd (hz.2 _ _ rfl) (by decide)
  | 8, _, h => cases h; exact absurd (hz.1 _ _ rfl).1 (by decide)
  | 9, _, h => cases h; exact absurd (hz.2 _ _ rfl) (by decide)
  | 10, _, h => cases h; exact absurd (hz.1 _ _ rfl).1 (by decide)
  | 11, _, h => cases h; exact absurd (hz.2 _ _ rfl) (by decide)
  | 12, _, h => cases h; exact absurd (hz.1 _ _ rfl).1 (by decide)
  | 13, _, h => cases h; exact absurd (hz.2 _ _ rfl) (by decide)
  | 14, _, h => cases h; exact absurd (hz.1 _ _ rfl).1 (by decide)
  | 15, _, h => cases h; exact absurd (hz.1 _ _ rfl).1 (by decide)
  | 16, _, h => cases h; exact absurd (hz.2 _ _ rfl) (by decide)
  | 17, _, h => cases h; exact absurd (hz.1 _ _ rfl).1 (by decide)
  | 18, _, h => cases h; exact absurd (hz.2 _ _ rfl) (by decide)
  | 19, _, h => cases h; exact absurd (hz.1 _ _ rfl).1 (by decide)
  | 20, _, h => cases h; exact absurd (hz.2 _ _ rfl) (by decide)
  | 21, _, h => cases h; exact absurd (hz.1 _ _ rfl).1 (by decide)
  | 22, _, h => cases h; exact absurd (hz.2 _ _ rfl) (by decide)
/-- a class's cell never is the reference's -/
theorem lKd_c {b j : Nat} {σ : cS} {z : zE} (hj : j < 23) (h : cEnc b σ j = some z) : ¬ mKd z := by
  intro hz
  have hn := lN4_c hj h
  rcases hz with ⟨c, fs, rfl, hc⟩ | ⟨c, n, f, rfl, -⟩
  · exact hn (lN4_r (by omega) (by omega))
  · exact hn lN4_q
/-- .. and stays what it is: an object, or a row of ints -/
theorem lEl_c {b j : Nat} {σ σ' : cS} {m : Nat} {g : Nat → Int32} (hj : j < 23) (h : cEnc b σ j = some (zI 100 m g)) : ∃ g', cEnc b σ' j = some (zI 100 m g') := by
  match j, hj, h with
  | 3, _, h => cases h; exact ⟨_, rfl⟩
  | 5, _, h => cases h; exact ⟨_, rfl⟩
  | 7, _, h => cases h; exact ⟨_, rfl⟩
  | 9, _, h => cases h; exact ⟨_, rfl⟩
  | 11, _, h => cases h; exact ⟨_, rfl⟩
  | 13, _, h => cases h; exact ⟨_, rfl⟩
  | 16, _, h => cases h; exact ⟨_, rfl⟩
  | 18, _, h => cases h; exact ⟨_, rfl⟩
  | 20, _, h => cases h; exact ⟨_, rfl⟩
  | 22, _, h => cases h; exact ⟨_, rfl⟩
  | 0, _, h => cases h
  | 1, _, h => cases h
  | 2, _, h => cases h
  | 4, _, h => cases h
  | 6, _, h => cases h
  | 8, _, h => cases h
  | 10, _, h => cases h
  | 12, _, h => cases h
  | 14, _, h => cases h
  | 15, _, h => cases h
  | 17, _, h => cases h
  | 19, _, h => cases h
  | 21, _, h => cases h
theorem cEnc_ex {b j : Nat} {σ : cS} (hj : j < 23) : ∃ z, cEnc b σ j = some z := by
  match j, hj with
  | 0, _ => exact ⟨_, rfl⟩
  | 1, _ => exact ⟨_, rfl⟩
  | 2, _ => exact ⟨_, rfl⟩
  | 3, _ => exact ⟨_, rfl⟩
  | 4, _ => exact ⟨_, rfl⟩
  | 5, _ => exact ⟨_, rfl⟩
  | 6, _ => exact ⟨_, rfl⟩
  | 7, _ => exact ⟨_, rfl⟩
  | 8, _ => exact ⟨_, rfl⟩
  | 9, _ => exact ⟨_, rfl⟩
  | 10, _ => exact ⟨_, rfl⟩
  | 11, _ => exact ⟨_, rfl⟩
  | 12, _ => exact ⟨_, rfl⟩
  | 13, _ => exact ⟨_, rfl⟩
  | 14, _ => exact ⟨_, rfl⟩
  | 15, _ => exact ⟨_, rfl⟩
  | 16, _ => exact ⟨_, rfl⟩
  | 17, _ => exact ⟨_, rfl⟩
  | 18, _ => exact ⟨_, rfl⟩
  | 19, _ => exact ⟨_, rfl⟩
  | 20, _ => exact ⟨_, rfl⟩
  | 21, _ => exact ⟨_, rfl⟩
  | 22, _ => exact ⟨_, rfl⟩
  | n + 23, h => omega
def lCl (b : Nat) (σ : cS) (G : zH) : Prop := ∀ j, j < 23 → G.2 (b + j) = cEnc b σ j
/-- the script lies among the old cells: told apart (zSc) -/
def lScr (bS Ln : Nat) (xs : Nat → Int32) (G : zH) : Prop := bS = bS ∧ Ln = Ln ∧ xs = xs ∧ G = G
theorem lScr.i {bS Ln : Nat} {xs : Nat → Int32} {G : zH} : lScr bS Ln xs G := ⟨rfl, rfl, rfl, rfl⟩
def lOut (q : Nat) (G : zH) : Prop := ∃ fs, G.2 q = some (.inr (7, fs)) ∧ fs.length = 2
/-- b the class's, o the reference's, q Out, bS the script -/
def lJ (w : Nat → Nat) (b o q bS Ln : Nat) (xs : Nat → Int32) (m : Nat) (G : zH) : Prop :=
  (∃ (σ : cS) (A : mS) (D : mD), lCl b σ G ∧ CRep σ A ∧ mInv m A ∧ MS w o (0, G) A D) ∧ mWs w (0, G) ∧ lOut q G ∧ lScr bS Ln xs G ∧ b + 23 ≤ q
theorem kStr_sm {G G' : gH} (hk : gSm lN4 G G') {a n : Nat} (h : kStr G a n) : kStr G' a n := by
  obtain ⟨c, e, c2, fs, g, h1, h2, h3, h4, h5, h6, h7⟩ := h
  exact ⟨c, e, c2, fs, g, hk _ _ h1 (lN4_r (by omega) (by omega)), h2, h3, h4, hk _ _ h5 (lN4_i (Or.inl (by omega))), h6, h7⟩
section LJ
variable {w : Nat → Nat} {b o q bS Ln m : Nat} {xs : Nat → Int32} {G G' : zH} {σ σ' : cS} {A : mS} {D : mD}
theorem lCl.put (h : lCl b σ G) : cPut b σ (0, G) = (0, G) := cPut_self h
/-- only the class's cells and Out are written, and new ones made -/
theorem l_cls (hc : lCl b σ G) (hM : MS w o (0, G) A D) (hs : mWs w (0, G)) (hS : lScr bS Ln xs G) (hq : lOut q G) (ha : b + 23 ≤ q) (hz : G.1 ≤ G'.1) (hw : gWf (0, G'))
    (hk : ∀ z, z < G.1 → z ≠ q → G'.2 z = (cPut b σ' (0, G)).2.2 z) : lCl b σ' G' ∧ MS w o (0, G') A D ∧ mWs w (0, G') ∧ lScr bS Ln xs G' := by
  have hwf : gWf (0, G) := hM.1
  obtain ⟨fq, hq1, hq2⟩ := hq
  have hqs : q < G.1 := hwf q _ hq1
  have hsm : gSm lN4 (0, G) (0, G') := by
    intro x z hx hn
    have hxs : x < G.1 := hwf x _ hx
    have hxq : x ≠ q := by
      rintro rfl
      rw [show ((0, G) : gH).2.2 x = G.2 x from rfl, hq1] at hx
      cases hx
      exact absurd rfl (hn.1 _ _ rfl).2
    show G'.2 x = some z
    rw [hk x hxs hxq]
    show (if b ≤ x ∧ x < b + 23 then cEnc b σ' (x - b) else G.2 x) = some z
    split
    · rename_i hb
      have e := hc (x - b) (by omega)
      rw [show b + (x - b) = x by omega] at e
      exact absurd hn (lN4_c (by omega) (e.symm.trans hx))
    · exact hx
  have hkp : gKeep (0, G) (0, G') := by
    intro y hy
    by_cases hb : b ≤ y ∧ y < b + 23
    · have e := hc (y - b) (by omega)
      rw [show b + (y - b) = y by omega] at e
      rcases hy with ⟨fs, h⟩ | ⟨m9, g, h⟩
      · exact absurd (lN4_r (c := 9) (fs := fs) (by decide) (by decide)) (lN4_c (by omega) (e.symm.trans h))
      · obtain ⟨g', e'⟩ := lEl_c (σ' := σ') (by omega) (e.symm.trans h)
        refine Or.inr ⟨m9, g', ?_⟩
        show G'.2 y = _
        rw [hk y (by omega) (by omega)]
        show (if b ≤ y ∧ y < b + 23 then cEnc b σ' (y - b) else G.2 y) = _
        rw [if_pos hb, e']
    · have hyq : y ≠ q := by
        rintro rfl
        rcases hy with ⟨fs, h⟩ | ⟨m9, g, h⟩ <;> rw [show ((0, G) : gH).2.2 y = G.2 y from rfl, hq1] at h <;> cases h
      have hys : y < G.1 := by
        rcases hy with ⟨fs, h⟩ | ⟨m9, g, h⟩ <;> exact hwf _ _ h
      have e : G'.2 y = G.2 y := by
        rw [hk y hys hyq]
        show (if b ≤ y ∧ y < b + 23 then cEnc b σ' (y - b) else G.2 y) = _
        rw [if_neg hb]
      rcases hy with ⟨fs, h⟩ | ⟨m9, g, h⟩
      · exact Or.inl ⟨fs, e.trans h⟩
      · exact Or.inr ⟨m9, g, e.trans h⟩
  refine ⟨fun j hj => ?_, ⟨hw, ?_, ?_⟩, ?_, lScr.i⟩
  · rw [hk (b + j) (by omega) (by omega)]
    exact cPut_at hj
  · obtain ⟨f, h⟩ := hM.2.1
    exact ⟨f, hsm _ _ h lN4_q⟩
  · refine hM.2.2.tr (N := lN4) ?_ hsm hkp (hsm _ _ hM.2.2.1 (lN4_r (by decide) (by decide))) rfl rfl rfl
    exact ⟨⟨fun fs => lN4_r (by decide) (by decide), fun c n f _ => lN4_q, fun g => lN4_i (Or.inr rfl)⟩, ⟨fun n f => lN4_q, fun n f => lN4_q⟩, fun fs => lN4_r (by decide) (by decide), fun fs => lN4_r (by decide) (by decide)⟩
  · obtain ⟨⟨g1, h1⟩, ⟨g2, h2⟩, h3, h5, h7⟩ := hs
    exact ⟨⟨g1, hsm _ _ h1 (lN4_i (Or.inl (by decide)))⟩, ⟨g2, hsm _ _ h2 (lN4_i (Or.inl (by decide)))⟩, kStr_sm hsm h3, kStr_sm hsm h5, kStr_sm hsm h7⟩
theorem mSt.keep {G G' : gH} {k n : Nat} (h : mSt k n G G') (hw : gWf G) {x : Nat} {e : zE} (hx : G.2.2 x = some e) (hn : ¬ mKd e) : G'.2.2 x = some e := by
  rw [h.1.2.2.2.2.2 x (hw x e hx) (fun ⟨e', h1, h2⟩ => hn (by rw [hx] at h1; cases h1; exact h2))]
  exact hx
/-- the reference's call: the class's cells, Out and the script stay -/
theorem l_ref {G1 : gH} {k n : Nat} (hc : lCl b σ G) (hM : MS w o (0, G) A D) (hs : mWs w (0, G)) (hS : lScr bS Ln xs G) (hq : lOut q G) (hst : mSt k n (0, G) G1) : lCl b σ G1.2 ∧ mWs w (0, G1.2) ∧ lOut q G1.2 ∧ lScr bS Ln xs G1.2 := by
  have hwf : gWf (0, G) := hM.1
  obtain ⟨fq, hq1, hq2⟩ := hq
  have ni : ∀ (a n : Nat) (g : Nat → Int32), ¬ mKd (zI a n g) := fun a n g z => by
    rcases z with ⟨c, f, z1, -⟩ | ⟨c, n, f, z1, -⟩ <;> cases z1
  refine ⟨fun j hj => ?_, ?_, ⟨fq, hst.keep hwf hq1 ?_, hq2⟩, lScr.i⟩
  · obtain ⟨z, hx⟩ := cEnc_ex (b := b) (σ := σ) hj
    rw [hx]
    exact hst.keep hwf ((hc j hj).trans hx) (lKd_c hj hx)
  · exact (mWs.st hs hst hwf : mWs w G1)
  · rintro (⟨c, fs, e, hc⟩ | ⟨c, n, f, e, -⟩)
    · cases e
      omega
    · cases e
/-- a call of both, by number of refusal: what the class answers; then what the reference does -/
theorem l_op {E : Nat × (Nat → String)} {F : gH → gR} {R : gH → gR} (hJ : lJ w b o q bS Ln xs m G) (hS : ∀ (A : mS) (σ : cS), CRep σ A → mInv m A → SimOp w b o A m σ (0, G) E (F (cPut b σ (0, G))) R) :
    ∃ (c : Nat) (a : Int32) (H1 : gH) (fq : List Value), c ≤ E.1 ∧ F (0, G) = oV E c (.int a) H1 ∧ H1.1 ≤ 0 + 840 ∧ H1.2.1 ≤ G.1 + 8 ∧ G.1 ≤ H1.2.1 ∧ H1.2.2 q = some (.inr (7, fq)) ∧ fq.length = 2 ∧
      ∀ (G' : zH), H1.2.1 ≤ G'.1 → (∀ z, z ≠ q → G'.2 z = H1.2.2 z) → lOut q G' → (∃ fs, G'.2 o = some (.inr (6, fs))) ∧ lScr bS Ln xs G' ∧
        ∃ (Gf : gH) (m' : Nat), R (0, G') = rI (if c = 0 then a else 0) Gf ∧ Gf.1 ≤ 0 + 12000 ∧ Gf.2.1 ≤ G'.1 + 400 ∧ m' ≤ m + 1 ∧ lJ w b o q bS Ln xs m' Gf.2 ∧ (∃ fs9, Gf.2.2 o = some (.inr (6, .int (nI c) :: fs9))) ∧ ∀ fs9, G'.2 q = some (.inr (7, fs9)) → Gf.2.2 q = some (.inr (7, fs9)) := by
  obtain ⟨⟨σ, A, D, hc, hR, hI, hM⟩, hs, ho, hsc, ha⟩ := hJ
  obtain ⟨c, a, σ', hcE, hF, hMo⟩ := hS A σ hR hI
  rw [hc.put] at hF
  obtain ⟨fq, hq1, hq2⟩ := ho
  have hwf : gWf (0, G) := hM.1
  have hqs : q < G.1 := hwf q _ hq1
  refine ⟨c, a, cPut b σ' (0, G), fq, hcE, hF, Nat.zero_le _, Nat.le_add_right _ _, Nat.le_refl _, ?_, hq2, fun G' hz hk hout => ?_⟩
  · show (if b ≤ q ∧ q < b + 23 then cEnc b σ' (q - b) else G.2 q) = _
    rw [if_neg (by omega)]
    exact hq1
  · have hw' : gWf (0, G') := by
      intro x e hx
      by_cases hxq : x = q
      · subst hxq
        exact Nat.lt_of_lt_of_le hqs hz
      · have hx' : G'.2 x = some e := hx
        rw [hk x hxq] at hx'
        by_cases hb : b ≤ x ∧ x < b + 23
        · show x < G'.1
          have : G.1 ≤ G'.1 := hz
          omega
        · have : (if b ≤ x ∧ x < b + 23 then cEnc b σ' (x - b) else G.2 x) = some e := hx'
          rw [if_neg hb] at this
          exact Nat.lt_of_lt_of_le (hwf x e this) hz
    obtain ⟨c1, c2, c3, c4⟩ := l_cls (σ' := σ') hc hM hs hsc ⟨fq, hq1, hq2⟩ ha hz hw' (fun z _ hzq => hk z hzq)
    obtain ⟨A', D', Gf, m', r1, r2, r3, r4, r5, r6, r7⟩ := hMo (0, G') D c2
    obtain ⟨d1, d2, d3, d4⟩ := l_ref c1 c2 c3 c4 hout r7
    refine ⟨⟨_, c2.2.2.1⟩, c4, Gf, m', r1, r7.1.2.2.2.1, r7.1.2.1, r5, ⟨⟨σ', A', D', d1, r3, r4, r2⟩, d2, d3, d4, ha⟩, ⟨[.ref D'.1.1, .ref D'.1.2.2.1, .ref D'.1.2.2.2, .int (A'.2.2.2 1), .int (A'.2.2.2 2), .int (A'.2.2.2 3), .int (A'.2.2.2 4), .int (A'.2.2.2 5)], ?_⟩, fun fs9 h9 => r7.keep c2.1 h9 ?_⟩
    · have h8 := r2.2.2.1
      unfold mOb at h8
      rw [r6] at h8
      exact h8
    · rintro (⟨c9, fs8, e, hc9⟩ | ⟨c9, n, f, e, -⟩)
      · cases e
        omega
      · cases e
end LJ
end
section
/-! The law's other calls: text, digest, those called with no handler; its rules. -/
section LO
variable {w : Nat → Nat} {b o q bS Ln m : Nat} {xs : Nat → Int32} {G G' : zH} {σ σ' : cS} {A : mS} {D : mD}
theorem lJ.cls (hJ : lJ w b o q bS Ln xs m G) : ∃ fs, G.2 b = some (.inr (3, fs)) := by
  obtain ⟨⟨σ, A, D, hc, -⟩, -⟩ := hJ
  exact ⟨_, hc 0 (by decide)⟩
theorem lJ.mod (hJ : lJ w b o q bS Ln xs m G) : ∃ fs, G.2 o = some (.inr (6, fs)) := by
  obtain ⟨⟨σ, A, D, hc, hR, hI, hM⟩, -⟩ := hJ
  exact ⟨_, hM.2.2.1⟩
/-- called with no handler: it never refuses -/
theorem l_dir {E : Nat × (Nat → String)} {F : gH → gR} {R : gH → gR} (hJ : lJ w b o q bS Ln xs m G) (hS : ∀ (A : mS) (σ : cS), CRep σ A → mInv m A → SimOp w b o A m σ (0, G) E (F (cPut b σ (0, G))) R)
    (h0 : ∀ (A : mS) (σ : cS), CRep σ A → mInv m A → ∃ (a : Int32) (H : gH), F (cPut b σ (0, G)) = rI a H) :
    ∃ (a : Int32) (H1 : gH), F (0, G) = some (.inr (some (.int a)), H1) ∧ H1.1 ≤ 0 + 840 ∧ H1.2.1 ≤ G.1 + 8 ∧ (∃ fs, H1.2.2 o = some (.inr (6, fs))) ∧
      ∃ (Gf : gH) (m' : Nat), R (0, H1.2) = some (.inr (some (.int a)), Gf) ∧ Gf.1 ≤ 0 + 12000 ∧ Gf.2.1 ≤ H1.2.1 + 400 ∧ m' ≤ m + 1 ∧ lJ w b o q bS Ln xs m' Gf.2 := by
  obtain ⟨c, a, H1, fq, z1, z2, z3, z4, z5, z6, z7, z8⟩ := l_op hJ hS
  obtain ⟨⟨σ, A, D, hc, hR, hI, hM⟩, -⟩ := hJ
  obtain ⟨a9, H9, e9⟩ := h0 A σ hR hI
  rw [hc.put] at e9
  have hc0 : c = 0 := by
    by_cases k : c = 0
    · exact k
    · rw [oV_no k, e9] at z2
      cases z2
  subst hc0
  obtain ⟨y1, y2, Gf, m', y3, y4, y5, y6, y7, -, -⟩ := z8 H1.2 (Nat.le_refl _) (fun _ _ => rfl) ⟨fq, z6, z7⟩
  exact ⟨a, H1, z2, z3, z4, y1, Gf, m', y3, y4, y5, y6, y7⟩
theorem f_knock_no (hR : CRep σ A) {H : gH} : ∃ (a : Int32) (H' : gH), f_X_knock (cPut b σ H) b = rI a H' := ⟨_, _, (x_knock hR).1⟩
theorem f_sound_no (hR : CRep σ A) (hI : mInv m A) {H : gH} : ∃ (a : Int32) (H' : gH), f_X_isSound (cPut b σ H) b = rI a H' := by
  have hX := CRepx.of (exc := -1) hR
  obtain ⟨f5, e5⟩ := x_areSound (b := b) (H := H) hX hI
  refine ⟨1, cPut b (cArr σ 5 f5) H, ?_⟩
  unfold f_X_isSound
  rw [c_fa_0_0, c_ob_1, e5, bI_rI, rZ_1']
/-- the digests -/
theorem l_dig (hJ : lJ w b o q bS Ln xs m G) : ∃ (a : Int64) (H1 : gH), f_X_digest (0, G) b = some (.inr (some (.long a)), H1) ∧ H1.1 ≤ 0 + 840 ∧ H1.2.1 ≤ G.1 + 8 ∧ (∃ fs, H1.2.2 o = some (.inr (6, fs))) ∧
      ∃ (Gf : gH) (m' : Nat), f_M_digest w (0, H1.2) o = some (.inr (some (.long a)), Gf) ∧ Gf.1 ≤ 0 + 12000 ∧ Gf.2.1 ≤ H1.2.1 + 400 ∧ m' ≤ m + 1 ∧ lJ w b o q bS Ln xs m' Gf.2 := by
  obtain ⟨⟨σ, A, D, hc, hR, hI, hM⟩, hs, ho, hsc, ha⟩ := hJ
  have hX := CRepx.of (exc := -1) hR
  have hR0 : CRep σ (mSet A 0 0) := hX.thr 0
  obtain ⟨σ', e1, e2⟩ := x_digest (b := b) (H := (0, G)) hR0 (hI.thr 0)
  rw [hc.put] at e1
  obtain ⟨fq, hq1, hq2⟩ := ho
  have hwf : gWf (0, G) := hM.1
  have hqs : q < G.1 := hwf q _ hq1
  have hq' : (cPut b σ' (0, G)).2.2 q = some (.inr (7, fq)) := by
    show (if b ≤ q ∧ q < b + 23 then cEnc b σ' (q - b) else G.2 q) = _
    rw [if_neg (by omega)]
    exact hq1
  have hw' : gWf (0, (cPut b σ' (0, G)).2) := by
    intro x e hx
    show x < G.1
    by_cases hb : b ≤ x ∧ x < b + 23
    · omega
    · have : (if b ≤ x ∧ x < b + 23 then cEnc b σ' (x - b) else G.2 x) = some e := hx
      rw [if_neg hb] at this
      exact hwf x e this
  obtain ⟨c1, c2, c3, c4⟩ := l_cls (G' := (cPut b σ' (0, G)).2) (σ' := σ') hc hM hs hsc ⟨fq, hq1, hq2⟩ ha (Nat.le_refl _) hw' (fun z _ hzq => rfl)
  obtain ⟨Gf, r1, r2, r3⟩ := s_digest c2 c3 hI
  obtain ⟨d1, d2, d3, d4⟩ := l_ref c1 c2 c3 c4 ⟨fq, hq', hq2⟩ r3
  exact ⟨_, _, e1, Nat.zero_le _, Nat.le_add_right _ _, ⟨_, c2.2.2.1⟩, Gf, m, r1, r3.1.2.2.2.1, r3.1.2.1, Nat.le_succ m, ⟨σ', _, D, d1, e2, hI.thr 0, r2⟩, d2, d3, d4, ha⟩
theorem l_text (hJ : lJ w b o q bS Ln xs m G) (x : Int32) : ∃ (c a : Nat) (H1 : gH) (fq : List Value), c ≤ 1 ∧ f_X_text w (0, G) b x = oV xI1 c (.ref a) H1 ∧ H1.1 ≤ 0 + 840 ∧ H1.2.1 ≤ G.1 + 8 ∧ G.1 ≤ H1.2.1 ∧ H1.2.2 q = some (.inr (7, fq)) ∧ fq.length = 2 ∧
      ∀ (G' : zH), H1.2.1 ≤ G'.1 → (∀ z, z ≠ q → G'.2 z = H1.2.2 z) → lOut q G' → (∃ fs, G'.2 o = some (.inr (6, fs))) ∧ lScr bS Ln xs G' ∧
        ∃ (v : Nat) (Gf : gH) (m' : Nat), f_M_text w (0, G') o x = some (.inr (some (.ref v)), Gf) ∧ Gf.1 ≤ 0 + 12000 ∧ Gf.2.1 ≤ G'.1 + 400 ∧ m' ≤ m + 1 ∧ lJ w b o q bS Ln xs m' Gf.2 := by
  obtain ⟨⟨σ, A, D, hc, hR, hI, hM⟩, hs, ho, hsc, ha⟩ := hJ
  have hX := CRepx.of (exc := -1) hR
  obtain ⟨fq, hq1, hq2⟩ := ho
  have hwf : gWf (0, G) := hM.1
  have hqs : q < G.1 := hwf q _ hq1
  by_cases hx : mIsL A x
  · have hL := hx
    obtain ⟨p, hp, rfl, hv⟩ := hx
    have hv : mV A p := hv
    obtain ⟨r, s, hr, hr2, hfit, h31, hp6, hro⟩ := hI.pl hv
    obtain ⟨a, H1, e1, gb, hw1, st1⟩ := x_text (w := w) (b := b) (H := (0, G)) hX hI hv hr (by rw [hc.put]; exact hwf) (by rw [hc.put]; exact hs) (by show b + 23 ≤ G.1; omega)
    rw [hc.put] at e1 gb st1
    have hz1 : G.1 ≤ H1.2.1 := st1.1.1
    have hgb : ∀ z, z < G.1 → H1.2.2 z = G.2 z := fun z hz => gb z hz
    refine ⟨0, a, H1, fq, Nat.zero_le _, e1, st1.1.2.2.2.1, st1.1.2.1, hz1, (hgb q hqs).trans hq1, hq2, fun G' hz hk hout => ?_⟩
    have hw' : gWf (0, G') := by
      intro y e hy
      show y < G'.1
      by_cases hyq : y = q
      · omega
      · have hy' : G'.2 y = some e := hy
        rw [hk y hyq] at hy'
        exact Nat.lt_of_lt_of_le (hw1 y e hy') hz
    obtain ⟨c1, c2, c3, c4⟩ := l_cls (σ' := σ) hc hM hs hsc ⟨fq, hq1, hq2⟩ ha (Nat.le_trans hz1 hz) hw' (fun z hz9 hzq => by rw [hk z hzq, hgb z hz9, hc.put])
    obtain ⟨G2, r1, r2, r3⟩ := r_list1 c2 hL
    obtain ⟨d1, d2, d3, d4⟩ := l_ref c1 c2 c3 c4 hout r3
    have c3' : mWs w G2 := d2
    obtain ⟨v, Gf, t1, -, t2, t3⟩ := s_textOf r2 c3' (hI.thr 0) (A := mSet A 0 0) (p := p) hv hr
    have r4 := r3.trans t3
    obtain ⟨d1, d2, d3, d4⟩ := l_ref c1 c2 c3 c4 hout r4
    refine ⟨⟨_, c2.2.2.1⟩, c4, v, Gf, m, ?_, Nat.le_trans r4.1.2.2.2.1 (by show 0 + (0 + 840) ≤ _; omega), Nat.le_trans r4.1.2.1 (by show G'.1 + (0 + 8) ≤ _; omega), Nat.le_succ m, ⟨σ, mSet A 0 0, D, d1, hX.thr 0, hI.thr 0, t2⟩, d2, d3, d4, ha⟩
    unfold f_M_text
    rw [r1, gOb_of r2.2.2.1 rfl, t1]
    rfl
  · have hF : f_X_text w (0, G) b x = oV xI1 1 (.ref 0) (0, G) := by
      have : f_X_text w (cPut b σ (0, G)) b x = gThrow "java/lang/IndexOutOfBoundsException" (cPut b σ (0, G)) := by
        unfold f_X_text
        simp only [x_needList_no hX (hI.w 0) hx, c_ob_0, c_fa_0_0, c_fa_0_1, c_fi_0_2, c_put_0_2, c_fi_0_3, c_put_0_3, c_fi_0_4, c_put_0_4, c_ob_1, c_fa_1_0, c_fa_1_1, c_fa_1_2, c_fa_1_3, c_fa_1_4, c_fa_1_5, c_fi_1_6, c_put_1_6, c_ob_2, c_fa_2_0, c_ob_4, c_fa_4_0, c_ob_6, c_fa_6_0, c_ob_8, c_fa_8_0, c_ob_10, c_fa_10_0, c_ob_12, c_fa_12_0, c_ob_14, c_fa_14_0, c_fa_14_1, c_fa_14_2, c_fa_14_3, c_fi_14_4, c_put_14_4, c_ob_15, c_fa_15_0, c_ob_17, c_fa_17_0, c_ob_19, c_fa_19_0, c_ob_21, c_fa_21_0, c_len_0, c_ld_0, c_st_0, c_rd_0, c_wr_0, c_len_1, c_ld_1, c_st_1, c_rd_1, c_wr_1, c_len_2, c_ld_2, c_st_2, c_rd_2, c_wr_2, c_len_3, c_ld_3, c_st_3, c_rd_3, c_wr_3, c_len_4, c_ld_4, c_st_4, c_rd_4, c_wr_4, c_len_5, c_ld_5, c_st_5, c_rd_5, c_wr_5, c_len_6, c_ld_6, c_st_6, c_rd_6, c_wr_6, c_len_7, c_ld_7, c_st_7, c_rd_7, c_wr_7, c_len_8, c_ld_8, c_st_8, c_rd_8, c_wr_8, c_len_9, c_ld_9, c_st_9, c_rd_9, c_wr_9, bI_rI, bL_rL, bA_rA, bV_rV, bI_th, bL_th, bA_th, bV_th, rZ_0, rZ_1]
        try rfl
      rw [hc.put] at this
      exact this
    refine ⟨1, 0, (0, G), fq, Nat.le_refl _, hF, Nat.zero_le _, Nat.le_add_right _ _, Nat.le_refl _, hq1, hq2, fun G' hz hk hout => ?_⟩
    have hw' : gWf (0, G') := by
      intro y e hy
      show y < G'.1
      have hz' : G.1 ≤ G'.1 := hz
      by_cases hyq : y = q
      · omega
      · have hy' : G'.2 y = some e := hy
        rw [hk y hyq] at hy'
        exact Nat.lt_of_lt_of_le (hwf y e hy') hz
    obtain ⟨c1, c2, c3, c4⟩ := l_cls (σ' := σ) hc hM hs hsc ⟨fq, hq1, hq2⟩ ha hz hw' (fun z hz9 hzq => by rw [hk z hzq, hc.put])
    obtain ⟨G2, r1, r2, r3⟩ := r_list0 c2 hx
    obtain ⟨d1, d2, d3, d4⟩ := l_ref c1 c2 c3 c4 hout r3
    refine ⟨⟨_, c2.2.2.1⟩, c4, w 5, G2, m, ?_, Nat.le_trans r3.1.2.2.2.1 (Nat.zero_le _), Nat.le_trans r3.1.2.1 (by show G'.1 + 0 ≤ _; omega), Nat.le_succ m, ⟨σ, _, D, d1, hX.thr 1, hI.thr 1, r2⟩, d2, d3, d4, ha⟩
    unfold f_M_text
    rw [r1]
    rfl
end LO
section LZ
variable {l : Launch} {D : va_G} {B : Nat} {O : State → Heap → Prop} {M : zM} {fr : Nat} {Q : Option Value → zH → Prop} {QX : String → zH → Prop} {mc ms pc : Nat} {L : zLs} {st : List Value} {G : zH}
theorem Z.lawX {y : zM} {hh : zHh} {n fr9 idx q c k : Nat} {As : List Value} {v2 : Value} {H1 : gH} (hV : zOk (zVm l D B O)) (hy : zMeh (zVm l D B O) y hh fr9 9 846 As G (wQ q c k v2 H1) (fun _ _ => False)) (hc : zCbh y hh n) (hlk : Cond.methodLink M.1.cls idx y.1 ∈ zT) (hst : Cond.static y.1 ∈ zT) (hd : decode M.2.1 pc = .ok (.invokestatic idx, 3)) (hn : As.length = n) (hLl : L.length = M.2.2.1) (hcat : (st.map fun v => v.category).sum ≤ 8) (hf9 : fr9 + 1 ≤ fr)
    (kk : ∀ G' : zH, wQ q c k v2 H1 (some (.int (nI c))) G' → Z (zVm l D B O) M fr Q QX mc ms (pc + 3) L (.int (nI c) :: st) G') : Z (zVm l D B O) M fr Q QX (mc + 9) (ms + 846) pc L (As.reverse ++ st) G := by
  refine Z.callH hV hy hc hlk hst hd hn hLl hcat hf9 (fun _ _ h => h.elim) (fun v G' hq => ?_)
  obtain ⟨rfl, h2⟩ := hq
  exact kk G' ⟨rfl, h2⟩
theorem wQ.out {q c k : Nat} {v2 : Value} {H1 : gH} {v : Option Value} {G' : zH} (h : wQ q c k v2 H1 v G') : lOut q G' := by
  obtain ⟨-, -, -, fs, h1, h2, -⟩ := h
  exact ⟨fs, h1, h2⟩
theorem Z.lawM {y : zM} {n fr9 idx o c0 ci kc ks : Nat} {As : List Value} {fs : List Value} {rc : vw_C} {r : gR} {v : Value} {Gf : gH} (hV : zOk (zVm l D B O)) (hg : gMet (zVm l D B O) y fr9 (.ref o :: As) (0, G) r) (hr : r = some (.inr (some v), Gf)) (h1 : Gf.1 ≤ 0 + ks) (h2 : Gf.2.1 ≤ G.1 + kc) (hc : zCb y n) (hlk : Cond.methodLink M.1.cls idx y.1 ∈ zT) (hin : Cond.instanceMethod y.1 ∈ zT) (hrc : zCl[ci]? = some rc) (hsl : Cond.selects rc.1 y.1 y.1 ∈ zT) (hG : G.2 o = some (.inr (c0, fs))) (hcm : c0 % 1000 = ci) (hd : decode M.2.1 pc = .ok (.invokevirtual idx, 3)) (hn : As.length = n) (hLl : L.length = M.2.2.1) (hcat : (st.map fun v => v.category).sum ≤ 8) (hf9 : fr9 + 1 ≤ fr)
    (kk : Z (zVm l D B O) M fr Q QX mc ms (pc + 3) L (v :: st) Gf.2) : Z (zVm l D B O) M fr Q QX (mc + kc) (ms + ks) pc L (As.reverse ++ .ref o :: st) G := by
  obtain ⟨⟨g1, g2⟩, g3⟩ := hg _ _ hr
  dsimp only at g1 g2 g3
  refine Z.room (mc' := mc + (Gf.2.1 - G.1)) (ms' := ms + (Gf.1 - 0)) (Nat.le_refl _) (by omega) (by omega) ?_
  refine Z.callV hV g3 hc hlk hin hrc hsl hG hcm hd hn hLl hcat hf9 (fun E' G' hq => absurd hq.1 (by simp)) (fun v9 G' hq => ?_)
  obtain ⟨e1, e2⟩ := hq
  obtain rfl := Sum.inr.inj e1
  rw [e2]
  exact kk
/-- the script -/
def zSc (O : State → Heap → Prop) (B bS Ln : Nat) (xs : Nat → Int32) : Prop := (∀ (U : State) (H : Heap), O U H → va_X bS Ln xs U H) ∧ bS < B
theorem Z.sald {bS Ln : Nat} {xs : Nat → Int32} {i : Int32} (hX : zSc O B bS Ln xs) (hin : vp_in i Ln) (hd : decode M.2.1 pc = .ok (.iaload, 1)) (k : Z (zVm l D B O) M fr Q QX mc ms (pc + 1) L (.int (xs i.toNatClampNeg) :: st) G) : Z (zVm l D B O) M fr Q QX mc ms pc L (.int i :: .ref bS :: st) G := by
  intro p e R s m args below meth c H locs cells slots CT ST ls C h1 h2 h3 h4 h5 h6 hS hR hl
  exact va_sld C.1 C.2.1 (hX.1 _ _ C.2.2.2.2.2.2.2.2.2.1) (Nat.lt_of_lt_of_le hX.2 C.2.2.2.2.2.2.2.2.2.2.1) (Nat.not_le.mpr hX.2) hS hin hd (k p e R s m args below meth c H locs cells slots CT ST ls C h1 h2 h3 h4 h5 h6 hS hR hl)
theorem Z.slen {bS Ln : Nat} {xs : Nat → Int32} (hX : zSc O B bS Ln xs) (hd : decode M.2.1 pc = .ok (.arraylength, 1)) (k : Z (zVm l D B O) M fr Q QX mc ms (pc + 1) L (.int (nI Ln) :: st) G) : Z (zVm l D B O) M fr Q QX mc ms pc L (.ref bS :: st) G := by
  intro p e R s m args below meth c H locs cells slots CT ST ls C h1 h2 h3 h4 h5 h6 hS hR hl
  exact va_slen C.1 C.2.1 (hX.1 _ _ C.2.2.2.2.2.2.2.2.2.1) (Nat.lt_of_lt_of_le hX.2 C.2.2.2.2.2.2.2.2.2.2.1) (Nat.not_le.mpr hX.2) hS hd (k p e R s m args below meth c H locs cells slots CT ST ls C h1 h2 h3 h4 h5 h6 hS hR hl)
end LZ
end
section
/-! What a compared case needs: a nest mate's field read, longs compared, thrown(). -/
theorem lv_lcmpE {p : Program} {l : Launch} {e : Env} {R : Room} {s : State} {m : MethodId} {args : Array Value} {below : List Frame} {meth : Method} {c : Code} {H : Heap} {locs : List Loc} {cells slots : Nat} {Q : State → Prop} {cc : ByteArray} {pc : Nat} {ls : Array Slot} {rest : List Value} (hexec : p.tables.exec = Jvm.exec) (hb : c.code = cc) {x : Int64} (hdg : decode cc pc = .ok (.lcmp, 1))
    (k : W p l e R s m args below meth c H locs cells slots Q (F0 m (pc + 1) ls (.int 0 :: rest))) : W p l e R s m args below meth c H locs cells slots Q (F0 m pc ls (.long x :: .long x :: rest)) := by
  intro T hT X
  obtain ⟨t, a, b⟩ := k T hT X
  refine ⟨t, ?_, b⟩
  have hxx : ¬ x > x := Int64.lt_irrefl
  jvm_step X.here [X.here.top, hexec, hb, hdg, hxx]
  exact a
theorem Z.lcmpE {V : zV} {M : zM} {fr : Nat} {Q : Option Value → zH → Prop} {QX : String → zH → Prop} {mc ms pc : Nat} {L : zLs} {st : List Value} {G : zH} {x y : Int64} (hxy : x = y) (hd : decode M.2.1 pc = .ok (.lcmp, 1)) (kk : Z V M fr Q QX mc ms (pc + 1) L (.int 0 :: st) G) : Z V M fr Q QX mc ms pc L (.long y :: .long x :: st) G := by
  subst hxy
  intro p e R s m args below meth c H locs cells slots CT ST ls C h1 h2 h3 h4 h5 h6 hS hR hl
  exact lv_lcmpE C.1 C.2.1 hd (kk p e R s m args below meth c H locs cells slots CT ST ls C h1 h2 h3 h4 h5 h6 hS hR hl)
theorem Z.getn {V : zV} {M : zM} {fr : Nat} {Q : Option Value → zH → Prop} {QX : String → zH → Prop} {mc ms pc : Nat} {L : zLs} {st : List Value} {G : zH} {a c0 ci k idx : Nat} {fs : List Value} {v : Value} {ty : FieldType} {host : String} (hf : zFn V.2.2.1 M.1.cls idx ci k ty host) (hd : decode M.2.1 pc = .ok (.getfield idx, 3)) (hG : G.2 a = some (.inr (c0, fs))) (hcm : c0 % 1000 = ci) (hv : fs[k]? = some v) (kk : Z V M fr Q QX mc ms (pc + 3) L (v :: st) G) : Z V M fr Q QX mc ms pc L (.ref a :: st) G := by
  intro p e R s m args below meth c H locs cells slots CT ST ls C h1 h2 h3 h4 h5 h6 hS hR hl
  subst hcm
  obtain ⟨C0, T, N, t0, hc, hk, hin, hlink, ht0, hnm, hfin, hty⟩ := hf
  have hts := C.2.2.2.2.2.2.2.1
  have hK : va_K V.2.1 V.2.2.1 (zTy V.2.1 V.2.2.2.1) s := C.2.2.2.2.2.2.2.2.1
  obtain ⟨-, r, cell, g1, q1, q2, q3, q3b, q3c, q4⟩ := hR.2 a _ hG
  have hr : r = (C0, T, N) := Option.some.inj (g1.symm.trans hc)
  subst hr
  obtain ⟨hSl, hfc, kC, hkC, hkind⟩ := hK.1 _ _ hc
  obtain ⟨cf, kf, fi, f, hi, hsl⟩ := hSl k hk
  refine va_Wgetf C.1 C.2.1 C.2.2.2.2.2.1 (hts _ hlink) hi (u_facts hfc hkC (u_lays hts hin hk) hi).1 q1 q3b (v := v) ?_ rfl rfl hd (kk p e R s m args below meth c H locs cells slots CT ST ls C h1 h2 h3 h4 h5 h6 hS hR hl)
  rw [hsl, q4 k v hk hv]
end
section
def f_M_thrown (G : gH) (a0 : Nat) : gR := gFI G a0 6 0 fun v => rI v G
theorem k_M_thrown {l : Launch} {D : va_G} {B : Nat} {O : State → Heap → Prop} (hV : zG l D B O) (G : gH) (a0 : Nat) : gMet (zVm l D B O) m_M_thrown 1 [.ref a0] G (f_M_thrown G a0) := by
  refine gMet.of (by decide +kernel) (Nat.le_of_ble_eq_true rfl) [some (.ref a0)] (fun ls h => zEn_ok (n := 1) h) ?_
  intro o Gf h
  unfold f_M_thrown at h
  refine Y.blk (pc' := 1) (L' := [some (.ref a0)]) (st' := [.ref a0]) (sg := [(.aload_n 0, 0)]) (by decide +kernel) rfl ?_
  refine Y.getI fl_M_32 (by decide +kernel) h (fun v4 h => ?_)
  exact Y.iret rfl (by decide +kernel) h
theorem Z.lawT {l : Launch} {D : va_G} {B : Nat} {O : State → Heap → Prop} {M : zM} {fr : Nat} {Q : Option Value → zH → Prop} {QX : String → zH → Prop} {mc ms pc : Nat} {L : zLs} {st : List Value} {G : zH} {o idx : Nat} {x : Int32} {fs : List Value} (hV : zG l D B O) (hG : G.2 o = some (.inr (6, .int x :: fs))) (hlk : Cond.methodLink M.1.cls idx m_M_thrown.1 ∈ zT) (hd : decode M.2.1 pc = .ok (.invokevirtual idx, 3)) (hLl : L.length = M.2.2.1) (hcat : (st.map fun v => v.category).sum ≤ 8) (hf9 : 2 ≤ fr)
    (kk : Z (zVm l D B O) M fr Q QX mc ms (pc + 3) L (.int x :: st) G) : Z (zVm l D B O) M fr Q QX mc ms pc L (.ref o :: st) G := by
  have hr : f_M_thrown (0, G) o = some (.inr (some (.int x)), (0, G)) := by
    unfold f_M_thrown gFI
    rw [gOb_of (G := (0, G)) hG rfl]
    rfl
  have k9 := Z.lawM (kc := 0) (ks := 0) (As := []) (st := st) (n := 0) (ci := 6) (rc := ("PartlisterModel", T_M, 9)) hV.1 (k_M_thrown hV (0, G) o) hr (Nat.le_refl _) (Nat.le_refl _) cb_M_thrown hlk in_M_thrown rfl se_M_thrown hG rfl hd rfl hLl hcat hf9 kk
  exact k9
end
