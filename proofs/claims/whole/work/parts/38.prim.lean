-- the reference: cursors, parts, rows anew
def dAsg (D : mD) (r a e : Nat) : mD := (D.1, (fun i => if i = r then a else D.2.1 i), (fun i => if i = r then e else D.2.2.1 i), D.2.2.2)
section Ref8
variable {w : Nat → Nat} {G : gH} {o : Nat} {A : mS} {D : mD}
theorem MRep.asg {r a e cap : Nat} {src : List (Nat × Nat × Nat)} (hw : gWf G) (h0 : mW0 w G) (h : MRep w G o A D) (hr : r < 2) (hal : isALc w G a e cap (src.map fun t => t.1)) (hap : mAp w D a e) (h1 : a ≠ D.1.1) (h2 : e ≠ D.1.2.1) (hts : ∀ t, t ∈ src → mTh G t.1 t.2) (hl : src.length ≤ 31) :
    ∃ G', f_AL_set G D.1.1 (nI r) a = rA (D.2.1 r) G' ∧ MRep w G' o (mRows A r src) (dAsg D r a e) ∧ mSt 0 0 G G' := by
  obtain ⟨k1, k2, k3, k4, k5, k6, k7, k8, k9, k10⟩ := h
  obtain ⟨m, κ, f, q1, q2, q3, -⟩ := id hal
  have hgel : gEl G a := Or.inl ⟨_, q1⟩
  have hlt : r < [D.2.1 0, D.2.1 1].length := hr
  obtain ⟨cp, f1, a1, a2⟩ := al_set (i := r) (x := D.2.1 r) k2 (by rcases (by omega : r = 0 ∨ r = 1) with rfl | rfl <;> rfl) hgel
  have hne := k2.ne k2
  generalize hG' : gUp G D.1.2.1 (zQ 103 cp (va_up f1 r (some a))) = G' at a2
  have hfr : gFr (fun q => q = D.1.2.1) 0 0 G G' := by rw [← hG']; exact gFr.up (hw _ _ a1)
  have hk : gKeep G G' := fun y hy => by rw [← hG']; exact hy.upQ a1
  have hS : mSt 0 0 G G' := ⟨hfr.mono (fun q _ e => by rw [e]; exact ⟨_, a1, Or.inr ⟨_, _, _, rfl, by decide⟩⟩) (Nat.le_refl _) (Nat.le_refl _), hk⟩
  have hsm : gSm (fun z => ∀ n f, z ≠ zQ 103 n f) G G' := by
    intro q z hq hz
    rw [← hG', gUp_ne, hq]
    rintro rfl
    rw [a1] at hq
    exact hz _ _ (Option.some.inj hq).symm
  have hsame : ∀ q, q < G.2.1 → q ≠ D.1.2.1 → G'.2.2 q = G.2.2 q := fun q hq hn => hfr.2.2.2.2.2 q hq hn
  have hset := k2.set (i := r) hlt hgel a1 hne
  rw [hG'] at hset
  have frA : ∀ a' e' xs, isAL w G a' e' xs → a' ≠ D.1.2.1 → (e' ≠ D.1.2.1) → isAL w G' a' e' xs := by
    intro a' e' xs hh n1 n2
    obtain ⟨m', κ', cap', f', z1, z2, -⟩ := id hh
    exact hh.cell (hsame _ (hw _ _ z1) n1) (hsame _ (hw _ _ z2) n2) hk
  refine ⟨G', a2, ⟨?_, ?_, fun i hi => ?_, ?_, ?_, fun i hi t ht => ?_, fun p hp => ?_, fun c hc => ?_, ⟨?_, fun i hi => ?_, ?_, k9.2.2.2.1, k9.2.2.2.2⟩, fun i hi => ?_⟩, hS⟩
  · exact hsm _ _ k1 (fun _ _ q => by cases q)
  · have e1 : ([D.2.1 0, D.2.1 1] : List Nat).set r a = [(dAsg D r a e).2.1 0, (dAsg D r a e).2.1 1] := by
      rcases (by omega : r = 0 ∨ r = 1) with rfl | rfl <;> rfl
    rw [e1] at hset
    exact hset
  · show isAL w G' (if i = r then a else D.2.1 i) (if i = r then e else D.2.2.1 i) ((if i = r then src else A.1 i).map fun t => t.1)
    by_cases e1 : i = r
    · rw [if_pos e1, if_pos e1, if_pos e1]
      exact frA a e _ hal.al (hal.al.ne k2) h2
    · rw [if_neg e1, if_neg e1, if_neg e1]
      exact frA _ _ _ (k3 i hi) ((k3 i hi).ne k2) (fun q => (k9.2.1 i hi).2 q.symm)
  · exact hsm _ _ k4 (fun _ _ q => by have := (zQ_inj (congrArg some q)).1; omega)
  · exact hsm _ _ k5 (fun _ _ q => by have := (zQ_inj (congrArg some q)).1; omega)
  · have ht' : t ∈ (if i = r then src else A.1 i) := ht
    have hh : mTh G t.1 t.2 := by
      by_cases e1 : i = r
      · rw [if_pos e1] at ht'; exact hts t ht'
      · rw [if_neg e1] at ht'; exact k6 i hi t ht'
    exact hh.trs (fun g _ _ q => by cases q) hsm
  · exact (k7 p hp).tr (fun fs _ _ q => by cases q) hsm
  · exact (k8 c hc).tr (fun fs _ _ q => by cases q) hsm
  · show (if 0 = r then a else D.2.1 0) ≠ (if 1 = r then a else D.2.1 1)
    rcases (by omega : r = 0 ∨ r = 1) with rfl | rfl
    · rw [if_pos rfl, if_neg (by omega)]; exact (hap 1 (by omega)).1
    · rw [if_neg (by omega), if_pos rfl]; exact fun q => (hap 0 (by omega)).1 q.symm
  · show D.1.1 ≠ (if i = r then a else D.2.1 i) ∧ D.1.2.1 ≠ (if i = r then e else D.2.2.1 i)
    by_cases e1 : i = r
    · rw [if_pos e1, if_pos e1]; exact ⟨fun q => h1 q.symm, fun q => h2 q.symm⟩
    · rw [if_neg e1, if_neg e1]; exact k9.2.1 i hi
  · show (if 0 = r then e else D.2.2.1 0) = (if 1 = r then e else D.2.2.1 1) → (if 0 = r then e else D.2.2.1 0) = w 0
    rcases (by omega : r = 0 ∨ r = 1) with rfl | rfl
    · rw [if_pos rfl, if_neg (by omega)]
      intro q
      rcases (hap 1 (by omega)).2 with z | z
      · exact absurd q z
      · exact z
    · rw [if_neg (by omega), if_pos rfl]
      intro q
      rcases (hap 0 (by omega)).2 with z | z
      · exact absurd q.symm z
      · rw [q]; exact z
  · show (if i = r then src else A.1 i).length ≤ 31
    by_cases e1 : i = r
    · rw [if_pos e1]; exact hl
    · rw [if_neg e1]; exact k10 i hi
-- cursors
theorem s_noCursor (h : MS w o G A D) (x : Int32) : (mIsC A x → f_M_isNoCursor G o x = rI 0 G) ∧ (¬ mIsC A x → f_M_isNoCursor G o x = rI 1 G) := by
  unfold f_M_isNoCursor
  obtain ⟨i1, i2⟩ := s_isIn G 2 (by omega) x
  have nc : ∀ {c : Nat}, c < 3 → A.2.2.1 c = none → D.2.2.2.2.2 c = none := fun hc hx => h.2.2.nocur hc hx
  refine ⟨fun k => ?_, fun k => ?_⟩
  · obtain ⟨c, hc, rfl, hx⟩ := k
    cases hy : A.2.2.1 c with
    | none => exact absurd hy hx
    | some y =>
      obtain ⟨q, e1, -⟩ := h.2.2.cur hc hy
      rw [i1 ⟨c, by omega, rfl⟩, bI_rI, if_neg (by decide), gFA_of h.2.2.1 rfl rfl, gLdq_of h.2.2.2.2.2.2.1 rfl hc (by omega) e1]
      exact rZ_0
  · by_cases hh : mIsG 2 x
    · obtain ⟨c, hc, rfl⟩ := hh
      have hx : A.2.2.1 c = none := by
        cases hy : A.2.2.1 c with
        | none => rfl
        | some y => exact absurd ⟨c, by omega, rfl, by rw [hy]; exact Option.some_ne_none _⟩ k
      rw [i1 ⟨c, hc, rfl⟩, bI_rI, if_neg (by decide), gFA_of h.2.2.1 rfl rfl, gLdq_no h.2.2.2.2.2.2.1 rfl (by omega) (by omega) (nc (by omega) hx)]
      exact rZ_1
    · rw [i2 hh, bI_rI, if_pos rfl]
      exact rZ_1
theorem s_curq (h : MS w o G A D) {c : Nat} {x : Nat × Nat × Int32 × Int32} (hc : c < 3) (hx : A.2.2.1 c = some x) : ∃ q, D.2.2.2.2.2 c = some q ∧ x.1 < 6 ∧ x.2.1 < 100 ∧ G.2.2 q = some (.inr (4, [.int (nI x.1), .int (nI x.2.1), .int x.2.2.1, .int x.2.2.2])) := by
  obtain ⟨q, e1, e2, e3, e4⟩ := h.2.2.cur hc hx
  exact ⟨q, e1, e2, e3, e4⟩
theorem s_ldC (h : MS w o G A D) {c q : Nat} (hc : c < 3) (hq : D.2.2.2.2.2 c = some q) {k0 : gR} {k : Nat → gR} : (gFA G o 6 3 fun v => gLdq G v 105 (nI c) k0 k) = k q := by
  rw [gFA_of h.2.2.1 rfl rfl, gLdq_of h.2.2.2.2.2.2.1 rfl hc (by omega) hq]
theorem MS.putC (h : MS w o G A D) {c q : Nat} {x y : Nat × Nat × Int32 × Int32} (hc : c < 3) (hx : A.2.2.1 c = some x) (hq : D.2.2.2.2.2 c = some q) (b1 : y.1 < 6) (b2 : y.2.1 < 100) : MS w o (gUp G q (.inr (4, [.int (nI y.1), .int (nI y.2.1), .int y.2.2.1, .int y.2.2.2]))) (mSetC A c y) D ∧ mSq 0 0 G (gUp G q (.inr (4, [.int (nI y.1), .int (nI y.2.1), .int y.2.2.1, .int y.2.2.2]))) := by
  obtain ⟨q', e1, e2, e3, e4⟩ := h.2.2.cur hc hx
  have hqq : q' = q := Option.some.inj (e1.symm.trans hq)
  subst hqq
  have s : mSq 0 0 G (gUp G q' (.inr (4, [.int (nI y.1), .int (nI y.2.1), .int y.2.2.1, .int y.2.2.2]))) := mSq.up h.1 e4 (Or.inl ⟨4, _, rfl, by omega⟩) (fun _ q => by cases q)
  exact ⟨h.step s.st (h.2.2.setC hc hx hq b1 b2), s⟩
theorem s_fault (h : MS w o G A D) (v : Int32) : ∃ G', f_M_fault G o v = rI v G' ∧ MS w o G' (mSet A 4 (A.2.2.2 4 + nI 1)) D ∧ mSt 0 0 G G' := by
  obtain ⟨h1, s1⟩ := h.set 4 (A.2.2.2 4 + nI 1)
  refine ⟨_, ?_, h1, s1⟩
  unfold f_M_fault
  rw [m_int h.2.2 (j := 4) (i := 7) (by omega) rfl, m_put h.2.2 (j := 4) (i := 7) (by omega) rfl]
theorem s_make (h : MS w o G A D) {k m : Nat} (hm : A.2.2.2 1 = nI m) : ∃ G', f_M_make G o (nI k) = rA G.2.1 G' ∧ MS w o G' (mSet A 1 (nI (m + 1))) D ∧ mSt 1 2 G G' ∧ mTh G' G.2.1 (k, m) := by
  obtain ⟨G', a1, a2, a3, a4, -⟩ := m_make h.1 h.2.2 k m hm
  rw [hm, nI_add] at a2
  exact ⟨G', a1, h.step a3.st a2, a3.st, a4⟩
theorem s_freeCursor (h : MS w o G A D) : f_M_freeCursor G o = rI (sNo (sFree (fun c => (A.2.2.1 c).isNone) 0 3)) G := by
  have key : ∀ (k n j : Nat), j + k = 3 → k < n → f_M_freeCursor_L2 (fun G5 x4 => rI x4 G5) (fun G6 => rI (-1) G6) n G o (nI j) = rI (sNo (sFree (fun c => (A.2.2.1 c).isNone) j k)) G := by
    intro k
    induction k with
    | zero =>
      intro n j hj hn
      cases n with
      | zero => omega
      | succ n =>
        unfold f_M_freeCursor_L2
        rw [if_pos (nI_le (by omega) (by omega))]; rfl
    | succ k ih =>
      intro n j hj hn
      cases n with
      | zero => omega
      | succ n =>
        unfold f_M_freeCursor_L2 sFree
        rw [if_neg (nI_ge (by omega) (by omega)), gFA_of h.2.2.1 rfl rfl]
        cases hx : A.2.2.1 j with
        | none => rw [gLdq_no h.2.2.2.2.2.2.1 rfl (by omega) (by omega) (h.2.2.nocur (by omega) hx)]; rfl
        | some x =>
          obtain ⟨q, e1, -⟩ := h.2.2.cur (by omega) hx
          rw [gLdq_of h.2.2.2.2.2.2.1 rfl (by omega) (by omega) e1, nI_add, ih n (j + 1) (by omega) (by omega), if_neg (by simp)]
  unfold f_M_freeCursor
  exact key 3 zFu 0 rfl (by unfold zFu; omega)
theorem s_freePart (h : MS w o G A D) : f_M_freePart G o = rI (sNo (sFree (fun c => (A.2.1 c).isNone) 2 4)) G := by
  have key : ∀ (k n j : Nat), j + k = 6 → k < n → f_M_freePart_L2 (fun G5 x4 => rI x4 G5) (fun G6 => rI (-1) G6) n G o (nI j) = rI (sNo (sFree (fun c => (A.2.1 c).isNone) j k)) G := by
    intro k
    induction k with
    | zero =>
      intro n j hj hn
      cases n with
      | zero => omega
      | succ n =>
        unfold f_M_freePart_L2
        rw [if_pos (nI_le (by omega) (by omega))]; rfl
    | succ k ih =>
      intro n j hj hn
      cases n with
      | zero => omega
      | succ n =>
        unfold f_M_freePart_L2 sFree
        rw [if_neg (nI_ge (by omega) (by omega)), gFA_of h.2.2.1 rfl rfl]
        cases hx : A.2.1 j with
        | none => rw [gLdq_no h.2.2.2.2.2.1 rfl (by omega) (by omega) (h.2.2.nopart (by omega) hx)]; rfl
        | some x =>
          obtain ⟨q, e1, -⟩ := h.2.2.part (by omega) hx
          rw [gLdq_of h.2.2.2.2.2.1 rfl (by omega) (by omega) e1, nI_add, ih n (j + 1) (by omega) (by omega), if_neg (by simp)]
  unfold f_M_freePart
  exact key 4 zFu 2 rfl (by unfold zFu; omega)
-- new cursors and parts
theorem gStq_of {a ka ci n i b : Nat} {f : Nat → Option Nat} {fs : List Value} {k : gH → gR} (h : G.2.2 a = some (zQ ka n f)) (hi : i < n) (hn : n < 2 ^ 31) (hb : G.2.2 b = some (.inr (ci, fs))) (hc : ci < 1000) : gStq G a ka ci (nI i) b k = k (gUp G a (zQ ka n (va_up f i (some b)))) := by
  unfold gStq gAqW
  rw [h]
  simp only [zQ]
  rw [if_pos trivial, if_pos (gIn_nI hi hn), nI_clamp (by omega), gOb_of hb (by omega)]
theorem mIn.put {n : Nat} {f : Nat → Option Nat} (h : mIn n f) {i q : Nat} (hq : ∀ j, j < n → f j ≠ some q) : mIn n (va_up f i (some q)) := by
  intro a b x la lb ha hb
  simp only [va_up] at ha hb
  by_cases h1 : a = i
  · by_cases h2 : b = i
    · rw [h1, h2]
    · rw [if_pos h1] at ha
      rw [if_neg h2] at hb
      cases ha
      exact absurd hb (hq b lb)
  · by_cases h2 : b = i
    · rw [if_neg h1] at ha
      rw [if_pos h2] at hb
      cases hb
      exact absurd ha (hq a la)
    · rw [if_neg h1] at ha
      rw [if_neg h2] at hb
      exact h a b x la lb ha hb
/-- every address of the state's parts and cursors lies in the heap -/
theorem MRep.lt (hw : gWf G) (h : MRep w G o A D) : (∀ p q, p < 6 → D.2.2.2.2.1 p = some q → q < G.2.1) ∧ ∀ c q, c < 3 → D.2.2.2.2.2 c = some q → q < G.2.1 := by
  refine ⟨fun p q hp hq => ?_, fun c q hc hq => ?_⟩
  · cases hx : A.2.1 p with
    | none => rw [h.nopart hp hx] at hq; cases hq
    | some x =>
      obtain ⟨q', e1, -, -, -, e2⟩ := h.part hp hx
      rw [hq] at e1
      cases e1
      exact hw _ _ e2
  · cases hx : A.2.2.1 c with
    | none => rw [h.nocur hc hx] at hq; cases hq
    | some x =>
      obtain ⟨q', e1, -, -, e2⟩ := h.cur hc hx
      rw [hq] at e1
      cases e1
      exact hw _ _ e2
end Ref8
