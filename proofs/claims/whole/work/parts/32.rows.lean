-- the reference: its rows
theorem dRow_id {D : mD} {r : Nat} : dRow D r (D.2.2.1 r) = D := by
  refine Prod.ext rfl (Prod.ext rfl (Prod.ext ?_ rfl))
  funext i
  show (if i = r then D.2.2.1 r else D.2.2.1 i) = D.2.2.1 i
  by_cases e : i = r
  · rw [if_pos e, e]
  · rw [if_neg e]
theorem isALc.frame {w : Nat → Nat} {G G' : gH} {a e cap : Nat} {xs : List Nat} (h : isALc w G a e cap xs) (ha : G'.2.2 a = G.2.2 a) (he : G'.2.2 e = G.2.2 e) (hk : gKeep G G') : isALc w G' a e cap xs := by
  obtain ⟨m, κ, f, h1, h2, h3, h4, h5, h6, h7⟩ := h
  exact ⟨m, κ, f, by rw [ha]; exact h1, by rw [he]; exact h2, h3, h4, h5, h6, fun i hi y hy => hk y (h7 i hi y hy)⟩
/-- a list of one's own, apart from the reference's -/
def mAp (w : Nat → Nat) (D : mD) (a e : Nat) : Prop := ∀ i, i < 2 → a ≠ D.2.1 i ∧ (e ≠ D.2.2.1 i ∨ e = w 0)
theorem mChOk_of {z : Int} {ρ : Nat → Nat} : ∀ (d : Nat) (A : mS) (p : Nat), (∀ q x, A.2.1 q = some x → x.1 < 2 ∨ (A.2.1 x.1 ≠ none ∧ ρ x.1 < ρ q)) → (∀ q x, 2 ≤ q → A.2.1 q = some x → mAb A.2.1 d q p = true → 0 ≤ (x.2.2 : Int) + z ∧ (x.2.2 : Int) + z < 100) → mChOk z d A p
  | 0, _, _, _, _ => True.intro
  | d + 1, A, p, hρ, h => by
    unfold mChOk
    by_cases h2 : p < 2
    · exact Or.inl h2
    · refine Or.inr ?_
      cases hx : A.2.1 p with
      | none => exact True.intro
      | some y =>
        refine ⟨h p y (by omega) hx (by rw [mAb_s, if_pos rfl]), mChOk_of (ρ := ρ) d _ _ ?_ ?_⟩
        · intro q x hq
          have hq' : va_up A.2.1 p (some (y.1, y.2.1, ((y.2.2 : Int) + z).toNat)) q = some x := hq
          have hz : x.1 < 2 ∨ (A.2.1 x.1 ≠ none ∧ ρ x.1 < ρ q) := by
            simp only [va_up] at hq'
            by_cases e : q = p
            · rw [if_pos e] at hq'; cases hq'; rw [e]; exact hρ p y hx
            · rw [if_neg e] at hq'; exact hρ q x hq'
          refine hz.imp_right (fun k => ⟨?_, k.2⟩)
          show va_up A.2.1 p _ x.1 ≠ none
          simp only [va_up]
          by_cases e : x.1 = p
          · rw [if_pos e]; exact Option.some_ne_none _
          · rw [if_neg e]; exact k.1
        · intro q x hq2 hq hab
          have hab' : mAb A.2.1 d q y.1 = true := by
            have : mAb (va_up A.2.1 p (some (y.1, y.2.1, ((y.2.2 : Int) + z).toNat))) d q y.1 = true := hab
            rw [mAb_va hx] at this; exact this
          have hqp : q ≠ p := by
            rintro rfl
            have h5 := mAb_rank hρ d q y.1 hq2 hab'
            rcases hρ q y hx with k | k
            · omega
            · have := k.2; omega
          have hq' : va_up A.2.1 p (some (y.1, y.2.1, ((y.2.2 : Int) + z).toNat)) q = some x := hq
          simp only [va_up, if_neg hqp] at hq'
          exact h q x hq2 hq' (by rw [mAb_s, if_neg hqp, if_neg h2, hx]; exact hab')
section Ref2
variable {w : Nat → Nat} {G : gH} {o : Nat} {A : mS} {D : mD}
theorem s_take {p r s i : Nat} {t : Nat × Nat × Nat} (h : MS w o G A D) (hok : mOk A.2.1) (hv : mV A p) (hr : mRw A.2.1 zDp p = some (r, s)) (hi : (A.1 r)[s + i]? = some t) :
    ∃ G', f_M_take G o (nI p) (nI i) = rA t.1 G' ∧ MS w o G' (mRows A r ((A.1 r).eraseIdx (s + i))) D ∧ mSt 0 0 G G' ∧ mTh G' t.1 t.2 ∧ gFr (fun q => q = D.2.1 r ∨ q = D.2.2.1 r) 0 0 G G' := by
  obtain ⟨G', a1, a2, a3, a4, a5⟩ := m_take h.1 h.2.2 h.2.1 (hv.lt hok) hr hi
  rw [dRow_id] at a2
  exact ⟨G', a1, h.step a3 a2, a3, a4, a5⟩
theorem s_come {p r s i : Nat} {t : Nat × Nat × Nat} (h : MS w o G A D) (hok : mOk A.2.1) (hv : mV A p) (hr : mRw A.2.1 zDp p = some (r, s)) (hi : s + i ≤ (A.1 r).length) (hl : (A.1 r).length ≤ 30) (ht : mTh G t.1 t.2) :
    ∃ G' e', f_M_come w G o (nI p) (nI i) t.1 = rV G' ∧ MS w o G' (mRows A r ((A.1 r).insertIdx (s + i) t)) (dRow D r e') ∧ mSt 1 61 G G' ∧ ((e' = D.2.2.1 r ∧ ∃ cap f, G.2.2 (D.2.2.1 r) = some (zQ 103 cap f)) ∨ e' = G.2.1) ∧ gFr (fun q => q = D.2.1 r ∨ (q = D.2.2.1 r ∧ e' = D.2.2.1 r)) 1 61 G G' := by
  obtain ⟨G', e', a1, a2, a3, a4, a5⟩ := m_come h.1 h.2.2 h.2.1 (hv.lt hok) hr hi hl ht
  exact ⟨G', e', a1, h.step a3 a2, a3, a4, a5⟩
theorem s_comeL {r a e cap : Nat} {e' : Nat} {xs : List Nat} {G' : gH} (h : MS w o G A D) (hr : r < 2) (hl : isALc w G a e cap xs) (hap : mAp w D a e) (h4 : (e' = D.2.2.1 r ∧ ∃ cap f, G.2.2 (D.2.2.1 r) = some (zQ 103 cap f)) ∨ e' = G.2.1) (h5 : gFr (fun q => q = D.2.1 r ∨ (q = D.2.2.1 r ∧ e' = D.2.2.1 r)) 1 61 G G') (hk : gKeep G G') : isALc w G' a e cap xs ∧ mAp w (dRow D r e') a e := by
  have hrow := h.2.2.2.2.1 r hr
  have n1 := hl.al.ne hrow
  have n2 := hrow.ne hl.al
  have p1 := hap r hr
  obtain ⟨f0, hf0⟩ := h.2.1
  obtain ⟨m, κ, f, q1, q2, -⟩ := id hl
  have ha := h.1 _ _ q1
  have he := h.1 _ _ q2
  refine ⟨hl.frame (h5.2.2.2.2.2 a ha ?_) (h5.2.2.2.2.2 e he ?_) hk, fun i hi => ⟨(hap i hi).1, ?_⟩⟩
  · rintro (q | ⟨q, -⟩)
    · exact p1.1 q
    · exact n1 q
  · rintro (q | ⟨q, q3⟩)
    · exact n2 q.symm
    · rcases p1.2 with k | k
      · exact k q
      · rcases h4 with ⟨-, cp, fp, z⟩ | z
        · rw [← q, k, hf0] at z
          have := (zQ_inj z).1
          omega
        · have : D.2.2.1 r < G.2.1 := by
            obtain ⟨m', κ', cap', f', -, z2, -⟩ := hrow
            exact h.1 _ _ z2
          omega
  · show e ≠ (if i = r then e' else D.2.2.1 i) ∨ e = w 0
    by_cases hir : i = r
    · rw [if_pos hir]
      rcases h4 with ⟨z, -⟩ | z
      · rw [z]; exact p1.2
      · exact Or.inl (by omega)
    · rw [if_neg hir]; exact (hap i hi).2
theorem s_write {p r s i : Nat} {t u : Nat × Nat × Nat} (h : MS w o G A D) (hok : mOk A.2.1) (hv : mV A p) (hr : mRw A.2.1 zDp p = some (r, s)) (hi : (A.1 r)[s + i]? = some t) (hu : mTh G u.1 u.2) :
    ∃ G', f_M_write G o (nI p) (nI i) u.1 = rA t.1 G' ∧ MS w o G' (mRows A r ((A.1 r).set (s + i) u)) D ∧ mSt 0 0 G G' ∧ mTh G' t.1 t.2 ∧ gFr (fun q => q = D.2.2.1 r) 0 0 G G' := by
  have hr2 := mRw_lt _ _ _ _ hr
  have hp := hv.lt hok
  have hrow := h.2.2.2.2.1 r hr2
  have hlt : s + i < (A.1 r).length := (List.getElem?_eq_some_iff.mp hi).1
  have ht := s_th h hr2 hi
  obtain ⟨gu, hu1, -, -⟩ := id hu
  obtain ⟨cap, f, a1, a2⟩ := al_set (i := s + i) (x := t.1) (y := u.1) hrow (by rw [List.getElem?_map, hi]; rfl) (Or.inr ⟨_, _, hu1⟩)
  have hae := hrow.ne hrow
  generalize hG' : gUp G (D.2.2.1 r) (zQ 103 cap (va_up f (s + i) (some u.1))) = G' at a2
  have hfr : gFr (fun q => q = D.2.2.1 r) 0 0 G G' := by rw [← hG']; exact gFr.up (h.1 _ _ a1)
  have hk : gKeep G G' := fun y hy => by rw [← hG']; exact hy.upQ a1
  have hS : mSt 0 0 G G' := ⟨hfr.mono (fun q _ e => by rw [e]; exact ⟨_, a1, Or.inr ⟨_, _, _, rfl, by decide⟩⟩) (Nat.le_refl _) (Nat.le_refl _), hk⟩
  have hsame : ∀ q z, G.2.2 q = some z → (∀ c n f, z ≠ zQ c n f) → G'.2.2 q = some z := by
    intro q z hq hz
    rw [← hG', gUp_ne, hq]
    rintro rfl
    rw [a1] at hq
    exact hz _ _ _ (Option.some.inj hq).symm
  have hth : ∀ x, mTh G x.1 x.2 → ∀ x' : Nat × Nat × Nat, x' = x → mTh G' x'.1 x'.2 := by
    intro x hx x' e
    obtain ⟨g', j1, j2⟩ := hx
    rw [e]
    exact ⟨g', hsame _ _ j1 (fun _ _ _ q => by cases q), j2⟩
  have hal := hrow.set (i := s + i) (by rw [List.length_map]; exact hlt) (Or.inr ⟨_, _, hu1⟩) a1 hae
  rw [hG'] at hal
  have hR : MRep w G' o (mRows A r ((A.1 r).set (s + i) u)) D := by
    have z := h.2.2.row (e' := D.2.2.1 r) (ts := (A.1 r).set (s + i) u) h.1 h.2.1 hr2 (by rw [List.map_set]; exact hal) (Or.inl ⟨rfl, cap, f, a1⟩) (fun q hq hn => hfr.2.2.2.2.2 q hq (fun e => hn (Or.inr ⟨e, rfl⟩))) hk (fun t' ht' => ?_) (by rw [List.length_set]; exact h.2.2.2.2.2.2.2.2.2.2.2 r hr2)
    · rw [dRow_id] at z; exact z
    · rcases set_mem ht' with k | k
      · exact hth _ (h.2.2.2.2.2.2.2.1 r hr2 t' k) _ rfl
      · exact hth u hu _ k
  refine ⟨G', ?_, h.step hS hR, hS, hth t ht _ rfl, hfr⟩
  obtain ⟨m, κ, cap', f', q1, -⟩ := id hrow
  obtain ⟨g', j1, -⟩ := hth t ht _ rfl
  unfold f_M_write
  rw [gOb_of h.2.2.1 rfl, m_row h.2.2 hp hr, bA_rA, gOb_of h.2.2.1 rfl, m_base h.2.2 _ _ _ _ hp hr, bI_rI, gOb_of q1 rfl, nI_add, a2, bA_rA]
  unfold gCaA gAr
  rw [j1]; rfl
theorem s_writeL {r a e cap : Nat} {xs : List Nat} {G' : gH} (h : MS w o G A D) (hr : r < 2) (hne : A.1 r ≠ []) (hl : isALc w G a e cap xs) (hap : mAp w D a e) (h5 : gFr (fun q => q = D.2.2.1 r) 0 0 G G') (hk : gKeep G G') : isALc w G' a e cap xs := by
  have hrow := h.2.2.2.2.1 r hr
  have n1 := hl.al.ne hrow
  have p1 := hap r hr
  obtain ⟨f0, hf0⟩ := h.2.1
  obtain ⟨m, κ, f, q1, q2, -⟩ := id hl
  refine hl.frame (h5.2.2.2.2.2 a (h.1 _ _ q1) n1) (h5.2.2.2.2.2 e (h.1 _ _ q2) (fun q => ?_)) hk
  rcases p1.2 with k | k
  · exact k q
  · obtain ⟨m', κ', cap', f', z1, z2, z3, z4, -⟩ := hrow
    rw [← q, k, hf0] at z2
    obtain ⟨-, e2, -⟩ := zQ_inj z2
    rw [List.length_map] at z4
    have : (A.1 r).length = 0 := by omega
    exact hne (List.length_eq_zero_iff.mp this)
theorem s_change {exc : Int32} {p r s : Nat} {z : Int} {ts : List (Nat × Nat × Nat)} (h : MS w o G (mRows A r ts) D) (hw : mInw exc p A) (hv : mV A p) (hr : mRw A.2.1 zDp p = some (r, s)) (hz : -100 < z ∧ z < 100) (hpos : 0 ≤ (mLen A p : Int) + z) (hup : ((A.1 r).length : Int) + z ≤ 31) :
    ∃ (G' : gH) (D' : (Nat → Option Nat) × (Nat → Option Nat)), f_M_change G o (nI p) (Int32.ofInt z) exc = rV G' ∧ MS w o G' (mChange (mRows A r ts) p z exc) (dS D D') ∧ mSq 0 0 G G' := by
  obtain ⟨-, ρ, -, hρ⟩ := id hw.1
  have hro := mRo_of hr
  obtain ⟨G', D', a1, a2, a3, -⟩ := m_change (A := mRows A r ts) (z := z) (exc := exc) h.1 h.2.2 hw.1 (fun c x hx => (hw.2.2.2 c x hx).2.2.1) (hv.lt hw.1) hv hz (mChOk_of (ρ := ρ) zDp (mRows A r ts) p hρ (fun q x hq2 hx hab => by
    have hx' : A.2.1 q = some x := hx
    have hab' : mAb A.2.1 zDp q p = true := hab
    have l1 := mAb_len hw.2.1 zDp p q r s hr hab'
    have hq : mV A q := Or.inr (by rw [hx']; exact Option.some_ne_none _)
    have l2 := mLen_part (A := A) (p := q) (by omega) hx'
    obtain ⟨r1, s1, b1, b2, b3, b4, -⟩ := hw.len hq
    have e : r1 = r := by
      have := (mAb_ro hw.1 hv zDp q r s hr hab').2
      rw [← this]; exact (mRo_of b1).symm
    rw [e] at b3
    omega))
  exact ⟨G', D', a1, h.step a3.st a2, a3⟩
end Ref2
