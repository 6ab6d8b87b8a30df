
-- the reference's state: rows of (key, tag), parts (of, from, length), cursors (list, next, last, stale), ints: 0 thrown 1 made 2 partsOver 3 cursorsOver 4 faults 5 refused
abbrev mS := (Nat → List (Int32 × Int32)) × (Nat → Option (Nat × Nat × Nat)) × (Nat → Option (Nat × Nat × Int32 × Int32)) × (Nat → Int32)
abbrev mD := (Nat × Nat × Nat × Nat) × (Nat → Nat) × (Nat → Nat) × (Int32 → Nat) × (Nat → Option Nat) × (Nat → Option Nat)
/-- row and place in the row where a list begins -/
def mRw (P : Nat → Option (Nat × Nat × Nat)) : Nat → Nat → Option (Nat × Nat)
  | 0, _ => none
  | d + 1, p => if p < 2 then some (p, 0) else match P p with
    | none => none
    | some (o, f, _) => (mRw P d o).map fun x => (x.1, f + x.2)
def mLen (A : mS) (p : Nat) : Nat := if p < 2 then (A.1 p).length else match A.2.1 p with
  | none => 0
  | some (_, _, l) => l
def mOb (A : mS) (D : mD) : List Value := [.int (A.2.2.2 0), .ref D.1.1, .ref D.1.2.2.1, .ref D.1.2.2.2, .int (A.2.2.2 1), .int (A.2.2.2 2), .int (A.2.2.2 3), .int (A.2.2.2 4), .int (A.2.2.2 5)]
def mTh (G : gH) (x : Nat) (t : Int32 × Int32) : Prop := ∃ g : Nat → Int32, G.2.2 x = some (zI 100 2 g) ∧ g 0 = t.1 ∧ g 1 = t.2
def mPt (G : gH) (x : Option (Nat × Nat × Nat)) (y : Option Nat) : Prop := match x, y with
  | none, none => True
  | some (o, f, l), some q => o < 6 ∧ f < 100 ∧ l < 100 ∧ G.2.2 q = some (.inr (5, [.int (nI o), .int (nI f), .int (nI l)]))
  | _, _ => False
def mCu (G : gH) (x : Option (Nat × Nat × Int32 × Int32)) (y : Option Nat) : Prop := match x, y with
  | none, none => True
  | some (i, n, la, s), some q => i < 6 ∧ n < 100 ∧ G.2.2 q = some (.inr (4, [.int (nI i), .int (nI n), .int la, .int s]))
  | _, _ => False
def mIn (f : Nat → Option Nat) : Prop := ∀ i j q, f i = some q → f j = some q → i = j
def MRep (w : Nat → Nat) (G : gH) (o : Nat) (A : mS) (D : mD) : Prop :=
  G.2.2 o = some (.inr (6, mOb A D)) ∧ isAL w G D.1.1 D.1.2.1 [D.2.1 0, D.2.1 1] ∧
  (∀ i, i < 2 → isAL w G (D.2.1 i) (D.2.2.1 i) ((A.1 i).map fun t => D.2.2.2.1 t.2)) ∧
  G.2.2 D.1.2.2.1 = some (zQ 104 6 D.2.2.2.2.1) ∧ G.2.2 D.1.2.2.2 = some (zQ 105 3 D.2.2.2.2.2) ∧
  (∀ i, i < 2 → ∀ t, t ∈ A.1 i → mTh G (D.2.2.2.1 t.2) t) ∧
  (∀ p, p < 6 → mPt G (A.2.1 p) (D.2.2.2.2.1 p)) ∧ (∀ c, c < 3 → mCu G (A.2.2.1 c) (D.2.2.2.2.2 c)) ∧
  (D.2.1 0 ≠ D.2.1 1 ∧ (∀ i, i < 2 → D.1.1 ≠ D.2.1 i ∧ D.1.2.1 ≠ D.2.2.1 i) ∧ (D.2.2.1 0 = D.2.2.1 1 → D.2.2.1 0 = w 0) ∧ mIn D.2.2.2.2.1 ∧ mIn D.2.2.2.2.2) ∧
  (∀ i, i < 2 → (A.1 i).length ≤ 31)

theorem mRw_lt {P : Nat → Option (Nat × Nat × Nat)} : ∀ (d p r b : Nat), mRw P d p = some (r, b) → r < 2
  | 0, _, _, _, h => by cases h
  | d + 1, p, r, b, h => by
    unfold mRw at h
    by_cases hp : p < 2
    · rw [if_pos hp] at h; cases h; exact hp
    · rw [if_neg hp] at h
      cases hq : P p with
      | none => rw [hq] at h; cases h
      | some x =>
        obtain ⟨o, f, l⟩ := x
        rw [hq] at h
        simp only at h
        cases hr : mRw P d o with
        | none => rw [hr] at h; cases h
        | some y =>
          obtain ⟨r', b'⟩ := y
          rw [hr] at h
          cases h
          exact mRw_lt d o _ _ hr
theorem MRep.part {w : Nat → Nat} {G : gH} {o : Nat} {A : mS} {D : mD} (h : MRep w G o A D) {p : Nat} (hp : p < 6) {x : Nat × Nat × Nat} (hx : A.2.1 p = some x) :
    ∃ q, D.2.2.2.2.1 p = some q ∧ x.1 < 6 ∧ x.2.1 < 100 ∧ x.2.2 < 100 ∧ G.2.2 q = some (.inr (5, [.int (nI x.1), .int (nI x.2.1), .int (nI x.2.2)])) := by
  have k := h.2.2.2.2.2.2.1 p hp
  obtain ⟨o', f, l⟩ := x
  rw [hx] at k
  cases hq : D.2.2.2.2.1 p with
  | none => rw [hq] at k; exact k.elim
  | some q => rw [hq] at k; exact ⟨q, rfl, k⟩
theorem MRep.nopart {w : Nat → Nat} {G : gH} {o : Nat} {A : mS} {D : mD} (h : MRep w G o A D) {p : Nat} (hp : p < 6) (hx : A.2.1 p = none) : D.2.2.2.2.1 p = none := by
  have k := h.2.2.2.2.2.2.1 p hp
  rw [hx] at k
  cases hq : D.2.2.2.2.1 p with
  | none => rfl
  | some q => rw [hq] at k; exact k.elim
theorem MRep.cur {w : Nat → Nat} {G : gH} {o : Nat} {A : mS} {D : mD} (h : MRep w G o A D) {c : Nat} (hp : c < 3) {x : Nat × Nat × Int32 × Int32} (hx : A.2.2.1 c = some x) :
    ∃ q, D.2.2.2.2.2 c = some q ∧ x.1 < 6 ∧ x.2.1 < 100 ∧ G.2.2 q = some (.inr (4, [.int (nI x.1), .int (nI x.2.1), .int x.2.2.1, .int x.2.2.2])) := by
  have k := h.2.2.2.2.2.2.2.1 c hp
  obtain ⟨i, n, la, s⟩ := x
  rw [hx] at k
  cases hq : D.2.2.2.2.2 c with
  | none => rw [hq] at k; exact k.elim
  | some q => rw [hq] at k; exact ⟨q, rfl, k⟩
theorem MRep.nocur {w : Nat → Nat} {G : gH} {o : Nat} {A : mS} {D : mD} (h : MRep w G o A D) {c : Nat} (hp : c < 3) (hx : A.2.2.1 c = none) : D.2.2.2.2.2 c = none := by
  have k := h.2.2.2.2.2.2.2.1 c hp
  rw [hx] at k
  cases hq : D.2.2.2.2.2 c with
  | none => rfl
  | some q => rw [hq] at k; exact k.elim

theorem m_rowOf {w : Nat → Nat} {G : gH} {o : Nat} {A : mS} {D : mD} (h : MRep w G o A D) : ∀ (d p r b : Nat), p < 6 → mRw A.2.1 d p = some (r, b) → f_M_rowOf d G o (nI p) = rI (nI r) G
  | 0, _, _, _, _, k => by cases k
  | d + 1, p, r, b, hp, k => by
    unfold mRw at k
    unfold f_M_rowOf f_M_rowOf_B
    by_cases h2 : p < 2
    · rw [if_pos h2] at k; cases k
      rw [if_neg (nI_ge h2 (by omega))]
    · rw [if_neg h2] at k
      cases hq : A.2.1 p with
      | none => rw [hq] at k; cases k
      | some x =>
        rw [hq] at k
        obtain ⟨q, e1, e2, e3, e4, e5⟩ := h.part hp hq
        obtain ⟨o', f, l⟩ := x
        simp only at k e2 e3 e4 e5
        cases hr : mRw A.2.1 d o' with
        | none => rw [hr] at k; cases k
        | some y =>
          obtain ⟨r', b'⟩ := y
          rw [hr] at k; cases k
          rw [if_pos (nI_le (by omega) (by omega)), gFA_of h.1 rfl rfl, gLdq_of h.2.2.2.1 rfl hp (by omega) e1, gFI_of e5 rfl rfl, gOb_of h.1 rfl, m_rowOf h d o' _ _ e2 hr]
          rfl
theorem m_base {w : Nat → Nat} {G : gH} {o : Nat} {A : mS} {D : mD} (h : MRep w G o A D) : ∀ (d p r b : Nat), p < 6 → mRw A.2.1 d p = some (r, b) → f_M_base d G o (nI p) = rI (nI b) G
  | 0, _, _, _, _, k => by cases k
  | d + 1, p, r, b, hp, k => by
    unfold mRw at k
    unfold f_M_base f_M_base_B
    by_cases h2 : p < 2
    · rw [if_pos h2] at k; cases k
      rw [if_neg (nI_ge h2 (by omega))]
    · rw [if_neg h2] at k
      cases hq : A.2.1 p with
      | none => rw [hq] at k; cases k
      | some x =>
        rw [hq] at k
        obtain ⟨q, e1, e2, e3, e4, e5⟩ := h.part hp hq
        obtain ⟨o', f, l⟩ := x
        simp only at k e2 e3 e4 e5
        cases hr : mRw A.2.1 d o' with
        | none => rw [hr] at k; cases k
        | some y =>
          obtain ⟨r', b'⟩ := y
          rw [hr] at k; cases k
          rw [if_pos (nI_le (by omega) (by omega)), gFA_of h.1 rfl rfl, gLdq_of h.2.2.2.1 rfl hp (by omega) e1, gFI_of e5 rfl rfl, gFA_of h.1 rfl rfl, gLdq_of h.2.2.2.1 rfl hp (by omega) e1, gFI_of e5 rfl rfl, gOb_of h.1 rfl, m_base h d o' _ _ e2 hr]
          show rI (nI f + nI b') G = _
          rw [nI_add]
theorem m_row {w : Nat → Nat} {G : gH} {o : Nat} {A : mS} {D : mD} (h : MRep w G o A D) {p r b : Nat} (hp : p < 6) (k : mRw A.2.1 zDp p = some (r, b)) : f_M_row G o (nI p) = rA (D.2.1 r) G := by
  have hr := mRw_lt _ _ _ _ k
  obtain ⟨m, κ, cap, f, h1, -⟩ := h.2.1
  obtain ⟨m', κ', cap', f', h1', -⟩ := h.2.2.1 r hr
  unfold f_M_row
  rw [gFA_of h.1 rfl rfl, gOb_of h.1 rfl, m_rowOf h _ _ _ _ hp k]
  show gOb G D.1.1 9 _ = _
  rw [gOb_of h1 rfl, al_get (x := D.2.1 r) h.2.1 (by rcases (by omega : r = 0 ∨ r = 1) with rfl | rfl <;> rfl)]
  show gCaO G (D.2.1 r) 9 _ = _
  unfold gCaO
  rw [gOb_of h1' rfl]
theorem m_length {w : Nat → Nat} {G : gH} {o : Nat} {A : mS} {D : mD} (h : MRep w G o A D) {p : Nat} (hp : p < 6) (k : p < 2 ∨ A.2.1 p ≠ none) : f_M_length G o (nI p) = rI (nI (mLen A p)) G := by
  unfold f_M_length mLen
  by_cases h2 : p < 2
  · obtain ⟨m, κ, cap, f, h1, -⟩ := h.2.1
    obtain ⟨m', κ', cap', f', h1', -⟩ := h.2.2.1 p h2
    rw [if_neg (nI_ge h2 (by omega)), if_pos h2, gFA_of h.1 rfl rfl]
    show gOb G D.1.1 9 _ = _
    rw [gOb_of h1 rfl, al_get (x := D.2.1 p) h.2.1 (by rcases (by omega : p = 0 ∨ p = 1) with rfl | rfl <;> rfl)]
    show gCaO G (D.2.1 p) 9 _ = _
    unfold gCaO
    rw [gOb_of h1' rfl, gOb_of h1' rfl, al_size (h.2.2.1 p h2), List.length_map]
    rfl
  · rw [if_pos (nI_le (by omega) (by omega)), if_neg h2]
    cases hq : A.2.1 p with
    | none => exact absurd hq (by rcases k with k | k; · exact absurd k h2
                                  · exact k)
    | some x =>
      obtain ⟨q, e1, e2, e3, e4, e5⟩ := h.part hp hq
      obtain ⟨o', f, l⟩ := x
      rw [gFA_of h.1 rfl rfl, gLdq_of h.2.2.2.1 rfl hp (by omega) e1, gFI_of e5 rfl rfl]
theorem m_at {w : Nat → Nat} {G : gH} {o : Nat} {A : mS} {D : mD} (h : MRep w G o A D) {p r b i : Nat} {t : Int32 × Int32} (hp : p < 6) (k : mRw A.2.1 zDp p = some (r, b)) (ht : (A.1 r)[b + i]? = some t) : f_M_at G o (nI p) (nI i) = rA (D.2.2.2.1 t.2) G := by
  have hr := mRw_lt _ _ _ _ k
  have hm : t ∈ A.1 r := List.mem_of_getElem? ht
  obtain ⟨g, t1, -⟩ := h.2.2.2.2.2.1 r hr t hm
  obtain ⟨m', κ', cap', f', h1', -⟩ := h.2.2.1 r hr
  unfold f_M_at
  rw [gOb_of h.1 rfl, m_row h hp k]
  show gOb G o 6 _ = _
  rw [gOb_of h.1 rfl, m_base h _ _ _ _ hp k]
  show gOb G (D.2.1 r) 9 _ = _
  rw [gOb_of h1' rfl, nI_add, al_get (h.2.2.1 r hr) (x := D.2.2.2.1 t.2) (by rw [List.getElem?_map, ht]; rfl)]
  show gCaA G _ 100 _ = _
  unfold gCaA gAr
  rw [t1]
  rfl
