
-- the reference's state: rows of (key, tag), parts (of, from, length), cursors (list, next, last, stale), ints: 0 thrown 1 made 2 partsOver 3 cursorsOver 4 faults 5 refused
abbrev mS := (Nat → List (Nat × Nat × Nat)) × (Nat → Option (Nat × Nat × Nat)) × (Nat → Option (Nat × Nat × Int32 × Int32)) × (Nat → Int32)
abbrev mD := (Nat × Nat × Nat × Nat) × (Nat → Nat) × (Nat → Nat) × (Int32 → Nat) × (Nat → Option Nat) × (Nat → Option Nat)
/-- row and place in the row where a list begins -/
def mRw (P : Nat → Option (Nat × Nat × Nat)) : Nat → Nat → Option (Nat × Nat)
  | 0, _ => none
  | d + 1, p => if p < 2 then some (p, 0) else match P p with
    | none => none
    | some (o, f, _) => (mRw P d o).map fun x => (x.1, f + x.2)
def mLen (A : mS) (p : Nat) : Nat := if p < 2 then (A.1 p).length else match A.2.1 p with
  | none => 0
  | some (_, _, l) => l
def mOb (A : mS) (D : mD) : List Value := [.int (A.2.2.2 0), .ref D.1.1, .ref D.1.2.2.1, .ref D.1.2.2.2, .int (A.2.2.2 1), .int (A.2.2.2 2), .int (A.2.2.2 3), .int (A.2.2.2 4), .int (A.2.2.2 5)]
def mTh (G : gH) (x : Nat) (t : Nat × Nat) : Prop := ∃ g : Nat → Int32, G.2.2 x = some (zI 100 2 g) ∧ g 0 = nI t.1 ∧ g 1 = nI t.2
def mPt (G : gH) (x : Option (Nat × Nat × Nat)) (y : Option Nat) : Prop := match x, y with
  | none, none => True
  | some (o, f, l), some q => o < 6 ∧ f < 100 ∧ l < 100 ∧ G.2.2 q = some (.inr (5, [.int (nI o), .int (nI f), .int (nI l)]))
  | _, _ => False
def mCu (G : gH) (x : Option (Nat × Nat × Int32 × Int32)) (y : Option Nat) : Prop := match x, y with
  | none, none => True
  | some (i, n, la, s), some q => i < 6 ∧ n < 100 ∧ G.2.2 q = some (.inr (4, [.int (nI i), .int (nI n), .int la, .int s]))
  | _, _ => False
def mIn (n : Nat) (f : Nat → Option Nat) : Prop := ∀ i j q, i < n → j < n → f i = some q → f j = some q → i = j
def MRep (w : Nat → Nat) (G : gH) (o : Nat) (A : mS) (D : mD) : Prop :=
  G.2.2 o = some (.inr (6, mOb A D)) ∧ isAL w G D.1.1 D.1.2.1 [D.2.1 0, D.2.1 1] ∧
  (∀ i, i < 2 → isAL w G (D.2.1 i) (D.2.2.1 i) ((A.1 i).map fun t => t.1)) ∧
  G.2.2 D.1.2.2.1 = some (zQ 104 6 D.2.2.2.2.1) ∧ G.2.2 D.1.2.2.2 = some (zQ 105 3 D.2.2.2.2.2) ∧
  (∀ i, i < 2 → ∀ t, t ∈ A.1 i → mTh G t.1 t.2) ∧
  (∀ p, p < 6 → mPt G (A.2.1 p) (D.2.2.2.2.1 p)) ∧ (∀ c, c < 3 → mCu G (A.2.2.1 c) (D.2.2.2.2.2 c)) ∧
  (D.2.1 0 ≠ D.2.1 1 ∧ (∀ i, i < 2 → D.1.1 ≠ D.2.1 i ∧ D.1.2.1 ≠ D.2.2.1 i) ∧ (D.2.2.1 0 = D.2.2.1 1 → D.2.2.1 0 = w 0) ∧ mIn 6 D.2.2.2.2.1 ∧ mIn 3 D.2.2.2.2.2) ∧
  (∀ i, i < 2 → (A.1 i).length ≤ 31)
/-- the empty array of the library -/
def mW0 (w : Nat → Nat) (G : gH) : Prop := ∃ f, G.2.2 (w 0) = some (zQ 1103 0 f)

theorem mRw_lt {P : Nat → Option (Nat × Nat × Nat)} : ∀ (d p r b : Nat), mRw P d p = some (r, b) → r < 2
  | 0, _, _, _, h => by cases h
  | d + 1, p, r, b, h => by
    unfold mRw at h
    by_cases hp : p < 2
    · rw [if_pos hp] at h; cases h; exact hp
    · rw [if_neg hp] at h
      cases hq : P p with
      | none => rw [hq] at h; cases h
      | some x =>
        obtain ⟨o, f, l⟩ := x
        rw [hq] at h
        simp only at h
        cases hr : mRw P d o with
        | none => rw [hr] at h; cases h
        | some y =>
          obtain ⟨r', b'⟩ := y
          rw [hr] at h
          cases h
          exact mRw_lt d o _ _ hr
theorem MRep.part {w : Nat → Nat} {G : gH} {o : Nat} {A : mS} {D : mD} (h : MRep w G o A D) {p : Nat} (hp : p < 6) {x : Nat × Nat × Nat} (hx : A.2.1 p = some x) :
    ∃ q, D.2.2.2.2.1 p = some q ∧ x.1 < 6 ∧ x.2.1 < 100 ∧ x.2.2 < 100 ∧ G.2.2 q = some (.inr (5, [.int (nI x.1), .int (nI x.2.1), .int (nI x.2.2)])) := by
  have k := h.2.2.2.2.2.2.1 p hp
  obtain ⟨o', f, l⟩ := x
  rw [hx] at k
  cases hq : D.2.2.2.2.1 p with
  | none => rw [hq] at k; exact k.elim
  | some q => rw [hq] at k; exact ⟨q, rfl, k⟩
theorem MRep.nopart {w : Nat → Nat} {G : gH} {o : Nat} {A : mS} {D : mD} (h : MRep w G o A D) {p : Nat} (hp : p < 6) (hx : A.2.1 p = none) : D.2.2.2.2.1 p = none := by
  have k := h.2.2.2.2.2.2.1 p hp
  rw [hx] at k
  cases hq : D.2.2.2.2.1 p with
  | none => rfl
  | some q => rw [hq] at k; exact k.elim
theorem MRep.cur {w : Nat → Nat} {G : gH} {o : Nat} {A : mS} {D : mD} (h : MRep w G o A D) {c : Nat} (hp : c < 3) {x : Nat × Nat × Int32 × Int32} (hx : A.2.2.1 c = some x) :
    ∃ q, D.2.2.2.2.2 c = some q ∧ x.1 < 6 ∧ x.2.1 < 100 ∧ G.2.2 q = some (.inr (4, [.int (nI x.1), .int (nI x.2.1), .int x.2.2.1, .int x.2.2.2])) := by
  have k := h.2.2.2.2.2.2.2.1 c hp
  obtain ⟨i, n, la, s⟩ := x
  rw [hx] at k
  cases hq : D.2.2.2.2.2 c with
  | none => rw [hq] at k; exact k.elim
  | some q => rw [hq] at k; exact ⟨q, rfl, k⟩
theorem MRep.nocur {w : Nat → Nat} {G : gH} {o : Nat} {A : mS} {D : mD} (h : MRep w G o A D) {c : Nat} (hp : c < 3) (hx : A.2.2.1 c = none) : D.2.2.2.2.2 c = none := by
  have k := h.2.2.2.2.2.2.2.1 c hp
  rw [hx] at k
  cases hq : D.2.2.2.2.2 c with
  | none => rfl
  | some q => rw [hq] at k; exact k.elim

theorem m_rowOf {w : Nat → Nat} {G : gH} {o : Nat} {A : mS} {D : mD} (h : MRep w G o A D) : ∀ (d p r b : Nat), p < 6 → mRw A.2.1 d p = some (r, b) → f_M_rowOf d G o (nI p) = rI (nI r) G
  | 0, _, _, _, _, k => by cases k
  | d + 1, p, r, b, hp, k => by
    unfold mRw at k
    unfold f_M_rowOf f_M_rowOf_B
    by_cases h2 : p < 2
    · rw [if_pos h2] at k; cases k
      rw [if_neg (nI_ge h2 (by omega))]
    · rw [if_neg h2] at k
      cases hq : A.2.1 p with
      | none => rw [hq] at k; cases k
      | some x =>
        rw [hq] at k
        obtain ⟨q, e1, e2, e3, e4, e5⟩ := h.part hp hq
        obtain ⟨o', f, l⟩ := x
        simp only at k e2 e3 e4 e5
        cases hr : mRw A.2.1 d o' with
        | none => rw [hr] at k; cases k
        | some y =>
          obtain ⟨r', b'⟩ := y
          rw [hr] at k; cases k
          rw [if_pos (nI_le (by omega) (by omega)), gFA_of h.1 rfl rfl, gLdq_of h.2.2.2.1 rfl hp (by omega) e1, gFI_of e5 rfl rfl, gOb_of h.1 rfl, m_rowOf h d o' _ _ e2 hr]
          rfl
theorem m_base {w : Nat → Nat} {G : gH} {o : Nat} {A : mS} {D : mD} (h : MRep w G o A D) : ∀ (d p r b : Nat), p < 6 → mRw A.2.1 d p = some (r, b) → f_M_base d G o (nI p) = rI (nI b) G
  | 0, _, _, _, _, k => by cases k
  | d + 1, p, r, b, hp, k => by
    unfold mRw at k
    unfold f_M_base f_M_base_B
    by_cases h2 : p < 2
    · rw [if_pos h2] at k; cases k
      rw [if_neg (nI_ge h2 (by omega))]
    · rw [if_neg h2] at k
      cases hq : A.2.1 p with
      | none => rw [hq] at k; cases k
      | some x =>
        rw [hq] at k
        obtain ⟨q, e1, e2, e3, e4, e5⟩ := h.part hp hq
        obtain ⟨o', f, l⟩ := x
        simp only at k e2 e3 e4 e5
        cases hr : mRw A.2.1 d o' with
        | none => rw [hr] at k; cases k
        | some y =>
          obtain ⟨r', b'⟩ := y
          rw [hr] at k; cases k
          rw [if_pos (nI_le (by omega) (by omega)), gFA_of h.1 rfl rfl, gLdq_of h.2.2.2.1 rfl hp (by omega) e1, gFI_of e5 rfl rfl, gFA_of h.1 rfl rfl, gLdq_of h.2.2.2.1 rfl hp (by omega) e1, gFI_of e5 rfl rfl, gOb_of h.1 rfl, m_base h d o' _ _ e2 hr]
          show rI (nI f + nI b') G = _
          rw [nI_add]
theorem m_row {w : Nat → Nat} {G : gH} {o : Nat} {A : mS} {D : mD} (h : MRep w G o A D) {p r b : Nat} (hp : p < 6) (k : mRw A.2.1 zDp p = some (r, b)) : f_M_row G o (nI p) = rA (D.2.1 r) G := by
  have hr := mRw_lt _ _ _ _ k
  obtain ⟨m, κ, cap, f, h1, -⟩ := h.2.1
  obtain ⟨m', κ', cap', f', h1', -⟩ := h.2.2.1 r hr
  unfold f_M_row
  rw [gFA_of h.1 rfl rfl, gOb_of h.1 rfl, m_rowOf h _ _ _ _ hp k]
  show gOb G D.1.1 9 _ = _
  rw [gOb_of h1 rfl, al_get (x := D.2.1 r) h.2.1 (by rcases (by omega : r = 0 ∨ r = 1) with rfl | rfl <;> rfl)]
  show gCaO G (D.2.1 r) 9 _ = _
  unfold gCaO
  rw [gOb_of h1' rfl]
theorem m_length {w : Nat → Nat} {G : gH} {o : Nat} {A : mS} {D : mD} (h : MRep w G o A D) {p : Nat} (hp : p < 6) (k : p < 2 ∨ A.2.1 p ≠ none) : f_M_length G o (nI p) = rI (nI (mLen A p)) G := by
  unfold f_M_length mLen
  by_cases h2 : p < 2
  · obtain ⟨m, κ, cap, f, h1, -⟩ := h.2.1
    obtain ⟨m', κ', cap', f', h1', -⟩ := h.2.2.1 p h2
    rw [if_neg (nI_ge h2 (by omega)), if_pos h2, gFA_of h.1 rfl rfl]
    show gOb G D.1.1 9 _ = _
    rw [gOb_of h1 rfl, al_get (x := D.2.1 p) h.2.1 (by rcases (by omega : p = 0 ∨ p = 1) with rfl | rfl <;> rfl)]
    show gCaO G (D.2.1 p) 9 _ = _
    unfold gCaO
    rw [gOb_of h1' rfl, gOb_of h1' rfl, al_size (h.2.2.1 p h2), List.length_map]
    rfl
  · rw [if_pos (nI_le (by omega) (by omega)), if_neg h2]
    cases hq : A.2.1 p with
    | none => exact absurd hq (by rcases k with k | k; · exact absurd k h2
                                  · exact k)
    | some x =>
      obtain ⟨q, e1, e2, e3, e4, e5⟩ := h.part hp hq
      obtain ⟨o', f, l⟩ := x
      rw [gFA_of h.1 rfl rfl, gLdq_of h.2.2.2.1 rfl hp (by omega) e1, gFI_of e5 rfl rfl]
theorem m_at {w : Nat → Nat} {G : gH} {o : Nat} {A : mS} {D : mD} (h : MRep w G o A D) {p r b i : Nat} {t : Nat × Nat × Nat} (hp : p < 6) (k : mRw A.2.1 zDp p = some (r, b)) (ht : (A.1 r)[b + i]? = some t) : f_M_at G o (nI p) (nI i) = rA (t.1) G := by
  have hr := mRw_lt _ _ _ _ k
  have hm : t ∈ A.1 r := List.mem_of_getElem? ht
  obtain ⟨g, t1, -⟩ := h.2.2.2.2.2.1 r hr t hm
  obtain ⟨m', κ', cap', f', h1', -⟩ := h.2.2.1 r hr
  unfold f_M_at
  rw [gOb_of h.1 rfl, m_row h hp k]
  show gOb G o 6 _ = _
  rw [gOb_of h.1 rfl, m_base h _ _ _ _ hp k]
  show gOb G (D.2.1 r) 9 _ = _
  rw [gOb_of h1' rfl, nI_add, al_get (h.2.2.1 r hr) (x := t.1) (by rw [List.getElem?_map, ht]; rfl)]
  show gCaA G _ 100 _ = _
  unfold gCaA gAr
  rw [t1]
  rfl

-- what leaves the reference's cells alone keeps its state
def mN3 (N : zE → Prop) : Prop := (∀ fs, N (.inr (9, fs))) ∧ (∀ c n f, c % 1000 = 103 → N (zQ c n f)) ∧ ∀ g, N (zI 100 2 g)
def mN (N : zE → Prop) : Prop := mN3 N ∧ ((∀ n f, N (zQ 104 n f)) ∧ ∀ n f, N (zQ 105 n f)) ∧ (∀ fs, N (.inr (5, fs))) ∧ ∀ fs, N (.inr (4, fs))
def gSm (N : zE → Prop) (G G' : gH) : Prop := ∀ q z, G.2.2 q = some z → N z → G'.2.2 q = some z
theorem isAL.tr {N : zE → Prop} (hN : mN3 N) {w : Nat → Nat} {G G' : gH} {a e : Nat} {xs : List Nat} (h : isAL w G a e xs) (hk : gSm N G G') (hel : gKeep G G') : isAL w G' a e xs := by
  obtain ⟨m, κ, cap, f, h1, h2, h3, h4, h5, h6, h7⟩ := h
  exact ⟨m, κ, cap, f, hk _ _ h1 (hN.1 _), hk _ _ h2 (hN.2.1 _ _ _ (by rcases h3 with ⟨rfl, -⟩ | ⟨rfl, -⟩ <;> rfl)), h3, h4, h5, h6, fun i hi y hy => hel y (h7 i hi y hy)⟩
theorem mTh.trs {N : zE → Prop} (hN : ∀ g, N (zI 100 2 g)) {G G' : gH} {x : Nat} {t : Nat × Nat} (h : mTh G x t) (hk : gSm N G G') : mTh G' x t := by
  obtain ⟨g, h1, h2⟩ := h
  exact ⟨g, hk _ _ h1 (hN _), h2⟩
theorem mTh.tr {N : zE → Prop} (hN : mN3 N) {G G' : gH} {x : Nat} {t : Nat × Nat} (h : mTh G x t) (hk : gSm N G G') : mTh G' x t := by
  obtain ⟨g, h1, h2⟩ := h
  exact ⟨g, hk _ _ h1 (hN.2.2 _), h2⟩
theorem mPt.tr {N : zE → Prop} (hN : ∀ fs, N (.inr (5, fs))) {G G' : gH} {x : Option (Nat × Nat × Nat)} {y : Option Nat} (h : mPt G x y) (hk : gSm N G G') : mPt G' x y := by
  cases x with
  | none => cases y with
    | none => exact h
    | some q => exact h
  | some x =>
    obtain ⟨o, f, l⟩ := x
    cases y with
    | none => exact h
    | some q => exact ⟨h.1, h.2.1, h.2.2.1, hk _ _ h.2.2.2 (hN _)⟩
theorem mCu.tr {N : zE → Prop} (hN : ∀ fs, N (.inr (4, fs))) {G G' : gH} {x : Option (Nat × Nat × Int32 × Int32)} {y : Option Nat} (h : mCu G x y) (hk : gSm N G G') : mCu G' x y := by
  cases x with
  | none => cases y with
    | none => exact h
    | some q => exact h
  | some x =>
    obtain ⟨i, n, la, s⟩ := x
    cases y with
    | none => exact h
    | some q => exact ⟨h.1, h.2.1, hk _ _ h.2.2 (hN _)⟩
theorem MRep.tr {N : zE → Prop} (hN : mN N) {w : Nat → Nat} {G G' : gH} {o : Nat} {A A' : mS} {D : mD} (h : MRep w G o A D) (hk : gSm N G G') (hel : gKeep G G')
    (ho : G'.2.2 o = some (.inr (6, mOb A' D))) (hA : A'.1 = A.1) (hB : A'.2.1 = A.2.1) (hC : A'.2.2.1 = A.2.2.1) : MRep w G' o A' D := by
  obtain ⟨k1, k2, k3, k4, k5, k6, k7, k8, k9, k10⟩ := h
  refine ⟨ho, k2.tr hN.1 hk hel, ?_, hk _ _ k4 (hN.2.1.1 _ _), hk _ _ k5 (hN.2.1.2 _ _), ?_, ?_, ?_, k9, ?_⟩
  · rw [hA]; exact fun i hi => (k3 i hi).tr hN.1 hk hel
  · rw [hA]; exact fun i hi t ht => (k6 i hi t ht).tr hN.1 hk
  · rw [hB]; exact fun p hp => (k7 p hp).tr hN.2.2.1 hk
  · rw [hC]; exact fun c hc => (k8 c hc).tr hN.2.2.2 hk
  · rw [hA]; exact k10
/-- a cell is written: the cells of other kinds stay -/
theorem gSm.up {N : zE → Prop} {G : gH} {q : Nat} {e0 e' : zE} (h0 : G.2.2 q = some e0) (hn : ¬ N e0) : gSm N G (gUp G q e') := by
  intro x z hx hz
  rw [gUp_ne]
  · exact hx
  · rintro rfl
    rw [h0] at hx
    cases hx
    exact hn hz
theorem gSm.trans {N : zE → Prop} {G G1 G2 : gH} (h1 : gSm N G G1) (h2 : gSm N G1 G2) : gSm N G G2 := fun q z hq hz => h2 q z (h1 q z hq hz) hz
theorem gKeep.trans {G G1 G2 : gH} (h1 : gKeep G G1) (h2 : gKeep G1 G2) : gKeep G G2 := fun y hy => h2 y (h1 y hy)
theorem gKeep.refl {G : gH} : gKeep G G := fun _ h => h
/-- a cell that lies in no list is written -/
theorem gKeep.up {G : gH} {q : Nat} {e0 e' : zE} (h0 : G.2.2 q = some e0) (h9 : ∀ fs, e0 ≠ .inr (9, fs)) (hI : ∀ m g, e0 ≠ zI 100 m g) : gKeep G (gUp G q e') := by
  intro y hy
  have hne : y ≠ q := by
    rintro rfl
    rcases hy with ⟨fs, h⟩ | ⟨m, g, h⟩ <;> rw [h0] at h
    · exact h9 _ (Option.some.inj h)
    · exact hI _ _ (Option.some.inj h)
  rcases hy with ⟨fs, h⟩ | ⟨m, g, h⟩
  · exact Or.inl ⟨fs, by rw [gUp_ne hne]; exact h⟩
  · exact Or.inr ⟨m, g, by rw [gUp_ne hne]; exact h⟩
/-- all but the model's object -/
def mN6 (e : zE) : Prop := ∀ fs, e ≠ .inr (6, fs)
theorem mN6_ok : mN mN6 := by
  refine ⟨⟨fun fs x h => ?_, fun c n f _ x h => ?_, fun g x h => ?_⟩, ⟨fun n f x h => ?_, fun n f x h => ?_⟩, fun fs x h => ?_, fun fs x h => ?_⟩ <;> cases h
def mSet (A : mS) (j : Nat) (v : Int32) : mS := (A.1, A.2.1, A.2.2.1, fun k => if k = j then v else A.2.2.2 k)
def mFd (j : Nat) : Nat := if j = 0 then 0 else 3 + j
theorem mOb_set {A : mS} {D : mD} {j : Nat} {v : Int32} (hj : j < 6) : (mOb A D).set (mFd j) (.int v) = mOb (mSet A j v) D := by
  rcases (by omega : j = 0 ∨ j = 1 ∨ j = 2 ∨ j = 3 ∨ j = 4 ∨ j = 5) with rfl | rfl | rfl | rfl | rfl | rfl <;> rfl
theorem mOb_int {A : mS} {D : mD} {j : Nat} (hj : j < 6) : (mOb A D)[mFd j]? = some (.int (A.2.2.2 j)) := by
  rcases (by omega : j = 0 ∨ j = 1 ∨ j = 2 ∨ j = 3 ∨ j = 4 ∨ j = 5) with rfl | rfl | rfl | rfl | rfl | rfl <;> rfl
theorem MRep.setI {w : Nat → Nat} {G : gH} {o : Nat} {A : mS} {D : mD} (h : MRep w G o A D) (j : Nat) (v : Int32) : MRep w (gUp G o (.inr (6, mOb (mSet A j v) D))) o (mSet A j v) D :=
  h.tr (N := mN6) mN6_ok (gSm.up h.1 (fun q => q _ rfl)) (gKeep.up h.1 (fun _ q => by cases q) (fun _ _ q => by cases q)) gUp_at rfl rfl rfl
theorem m_put {w : Nat → Nat} {G : gH} {o : Nat} {A : mS} {D : mD} (h : MRep w G o A D) {j i : Nat} {v : Int32} {k : gH → gR} (hj : j < 6) (hi : i = mFd j) : gPut G o 6 i (.int v) k = k (gUp G o (.inr (6, mOb (mSet A j v) D))) := by
  subst hi
  rw [gPut_of (ci := 6) h.1 (by show mFd j < 9; unfold mFd; split <;> omega), mOb_set hj]
theorem m_int {w : Nat → Nat} {G : gH} {o : Nat} {A : mS} {D : mD} (h : MRep w G o A D) {j i : Nat} {k : Int32 → gR} (hj : j < 6) (hi : i = mFd j) : gFI G o 6 i k = k (A.2.2.2 j) := by
  subst hi
  exact gFI_of h.1 rfl (mOb_int hj)
def mB (b : Bool) : Int32 := if b then 1 else 0
/-- the first reason for a refusal stays -/
def mRef (A : mS) (c : Bool) (code : Int32) : mS := if c && A.2.2.2 0 == 0 then mSet A 0 code else A
theorem m_refuse {w : Nat → Nat} {G : gH} {o : Nat} {A : mS} {D : mD} (hw : gWf G) (h : MRep w G o A D) (c : Bool) (code : Int32) :
    ∃ G', f_M_refuse G o (mB c) code = rZ (mB (decide (¬ (mRef A c code).2.2.2 0 ≤ 0))) G' ∧ MRep w G' o (mRef A c code) D ∧ gFr (fun q => q = o) 0 0 G G' := by
  have fin : ∀ (A1 : mS) (G1 : gH), MRep w G1 o A1 D → (gFI G1 o 6 0 fun v => if v ≤ 0 then rZ (nI 0) G1 else rZ (nI 1) G1) = rZ (mB (decide (¬ A1.2.2.2 0 ≤ 0))) G1 := by
    intro A1 G1 h1
    rw [m_int h1 (j := 0) (i := 0) (by omega) rfl]
    by_cases hv : A1.2.2.2 0 ≤ 0
    · rw [if_pos hv, decide_eq_false (fun q => q hv)]; rfl
    · rw [if_neg hv, decide_eq_true hv]; rfl
  unfold f_M_refuse
  cases c with
  | false =>
    refine ⟨G, ?_, h, gFr.refl⟩
    show (if (0 : Int32) = 0 then _ else _) = _
    rw [if_pos rfl, fin A G h]; rfl
  | true =>
    show ∃ G', (if (1 : Int32) = 0 then _ else _) = _ ∧ _
    rw [if_neg (by decide), m_int h (j := 0) (i := 0) (by omega) rfl]
    by_cases hv : A.2.2.2 0 = 0
    · have e1 : mRef A true code = mSet A 0 code := by simp [mRef, hv]
      rw [e1, if_pos hv, m_put h (j := 0) (i := 0) (by omega) rfl]
      exact ⟨_, fin _ _ (h.setI 0 code), h.setI 0 code, gFr.up (hw _ _ h.1)⟩
    · have e1 : mRef A true code = A := by simp [mRef, hv]
      rw [e1, if_neg hv]
      exact ⟨G, fin A G h, h, gFr.refl⟩
theorem m_start {w : Nat → Nat} {G : gH} {o : Nat} {A : mS} {D : mD} (hw : gWf G) (h : MRep w G o A D) (c : Bool) (code : Int32) :
    ∃ G', f_M_start G o (mB c) code = rZ (mB (decide (¬ (mRef (mSet A 0 (nI 0)) c code).2.2.2 0 ≤ 0))) G' ∧ MRep w G' o (mRef (mSet A 0 (nI 0)) c code) D ∧ gFr (fun q => q = o) 0 0 G G' := by
  obtain ⟨G', k1, k2, k3⟩ := m_refuse (G := gUp G o (.inr (6, mOb (mSet A 0 (nI 0)) D))) (hw.up (hw _ _ h.1)) (h.setI 0 (nI 0)) c code
  refine ⟨G', ?_, k2, (gFr.up (hw _ _ h.1)).trans k3⟩
  unfold f_M_start
  rw [m_put h (j := 0) (i := 0) (by omega) rfl, gOb_of (h.setI 0 (nI 0)).1 rfl]
  show bI (f_M_refuse (gUp G o (.inr (6, mOb (mSet A 0 (nI 0)) D))) o (mB c) code) _ = _
  rw [k1]
  cases decide (¬ (mRef (mSet A 0 (nI 0)) c code).2.2.2 0 ≤ 0) <;> rfl
theorem m_isIn {G : gH} {x a b : Int32} : f_M_isIn G x a b = rZ (mB (decide (¬ x < a ∧ ¬ b < x))) G := by
  unfold f_M_isIn
  by_cases h1 : x < a
  · rw [if_pos h1, decide_eq_false (fun q => q.1 h1)]; rfl
  · rw [if_neg h1]
    by_cases h2 : b < x
    · rw [if_pos h2, decide_eq_false (fun q => q.2 h2)]; rfl
    · rw [if_neg h2, decide_eq_true ⟨h1, h2⟩]; rfl
/-- a number of a list that is there -/
def mIsL (A : mS) (x : Int32) : Prop := ∃ p, p < 6 ∧ x = nI p ∧ (p < 2 ∨ A.2.1 p ≠ none)
theorem mB_Z {b : Bool} {G : gH} {k : Int32 → gH → gR} : bI (rZ (mB b) G) k = k (mB b) G := by cases b <;> rfl
theorem m_isNoList {w : Nat → Nat} {G : gH} {o : Nat} {A : mS} {D : mD} (h : MRep w G o A D) (x : Int32) [dd : Decidable (mIsL A x)] : f_M_isNoList G o x = rZ (mB (decide (¬ mIsL A x))) G := by
  unfold f_M_isNoList
  rw [m_isIn, mB_Z]
  by_cases h1 : ¬ x < nI 0 ∧ ¬ nI 5 < x
  · obtain ⟨p, hp, rfl⟩ := nI_of h1.1
    have hp6 : p < 6 := by
      rcases Nat.lt_or_ge p 6 with q | q
      · exact q
      · exact absurd (nI_lt (by omega) hp) h1.2
    rw [decide_eq_true h1]
    show (if (1 : Int32) = 0 then _ else _) = _
    rw [if_neg (by decide)]
    by_cases h2 : p < 2
    · rw [if_pos (nI_lt h2 (by omega)), decide_eq_false (fun q => q ⟨p, hp6, rfl, Or.inl h2⟩)]; rfl
    · rw [if_neg (nI_nlt (by omega) hp), gFA_of h.1 rfl rfl]
      cases hq : A.2.1 p with
      | none =>
        rw [gLdq_no h.2.2.2.1 rfl hp6 (by omega) (h.nopart hp6 hq), decide_eq_true]
        · rfl
        · rintro ⟨p', h3, h4, h5⟩
          have := (nI_eq hp (by omega)).mp h4
          subst this
          rcases h5 with h5 | h5
          · exact h2 h5
          · exact h5 hq
      | some y =>
        obtain ⟨q, e1, -⟩ := h.part hp6 hq
        rw [gLdq_of h.2.2.2.1 rfl hp6 (by omega) e1, decide_eq_false (fun q => q ⟨p, hp6, rfl, Or.inr (by rw [hq]; exact Option.some_ne_none _)⟩)]
        rfl
  · rw [decide_eq_false h1]
    show (if (0 : Int32) = 0 then _ else _) = _
    rw [if_pos rfl, decide_eq_true]
    · rfl
    · rintro ⟨p, h3, rfl, -⟩
      exact h1 ⟨nI_pos (by omega), nI_nlt (by omega) (by omega)⟩
theorem m_isFull {w : Nat → Nat} {G : gH} {o : Nat} {A : mS} {D : mD} (h : MRep w G o A D) {p r b n : Nat} (hp : p < 6) (k : mRw A.2.1 zDp p = some (r, b)) (hn : n < 100) : f_M_isFull G o (nI p) (nI n) = rZ (mB (decide (31 < (A.1 r).length + n))) G := by
  have hr := mRw_lt _ _ _ _ k
  obtain ⟨m', κ', cap', f', h1', -⟩ := h.2.2.1 r hr
  have hl := h.2.2.2.2.2.2.2.2.2 r hr
  unfold f_M_isFull
  rw [gOb_of h.1 rfl, m_row h hp k]
  show gOb G (D.2.1 r) 9 _ = _
  rw [gOb_of h1' rfl, al_size (h.2.2.1 r hr), List.length_map]
  show (if nI (A.1 r).length + nI n ≤ nI 31 then _ else _) = _
  rw [nI_add]
  by_cases hh : 31 < (A.1 r).length + n
  · rw [if_neg (nI_ge hh (by omega)), decide_eq_true hh]; rfl
  · rw [if_pos (nI_le (by omega) (by omega)), decide_eq_false hh]; rfl

-- a step of the reference: only its own cells (objects of the classes 4, 5, 6, arrays of parts and cursors) change
def mKq (e : zE) : Prop := (∃ c fs, e = .inr (c, fs) ∧ (c = 4 ∨ c = 5 ∨ c = 6)) ∨ ∃ c n f, e = zQ c n f ∧ (c = 104 ∨ c = 105)
def mOwq (G : gH) (q : Nat) : Prop := ∃ e, G.2.2 q = some e ∧ mKq e
def mSq (k n : Nat) (G G' : gH) : Prop := gFr (mOwq G) k n G G' ∧ gKeep G G'
theorem mSq.refl {G : gH} : mSq 0 0 G G := ⟨gFr.refl, gKeep.refl⟩
theorem mSq.trans {k n k' n' : Nat} {G G1 G2 : gH} (h1 : mSq k n G G1) (h2 : mSq k' n' G1 G2) : mSq (k + k') (n + n') G G2 := by
  refine ⟨?_, h1.2.trans h2.2⟩
  obtain ⟨a1, a2, a3, a4, a5, a6⟩ := h1.1
  obtain ⟨b1, b2, b3, b4, b5, b6⟩ := h2.1
  refine ⟨by omega, by omega, by omega, by omega, fun h => b5 (a5 h), fun q hq hp => ?_⟩
  have e := a6 q hq hp
  rw [b6 q (by omega) (fun ⟨z, hz, hk⟩ => hp ⟨z, by rw [← e]; exact hz, hk⟩), e]
theorem mSq.mono {k n k' n' : Nat} {G G' : gH} (h : mSq k n G G') (hk : k ≤ k') (hn : n ≤ n') : mSq k' n' G G' := ⟨h.1.mono (fun _ _ p => p) hk hn, h.2⟩
theorem mSq.up {G : gH} {q : Nat} {e0 e' : zE} (hw : gWf G) (h0 : G.2.2 q = some e0) (hm : mKq e0) (h9 : ∀ fs, e0 ≠ .inr (9, fs)) : mSq 0 0 G (gUp G q e') :=
  ⟨(gFr.up (hw _ _ h0)).mono (fun _ _ p => by subst p; exact ⟨e0, h0, hm⟩) (Nat.le_refl _) (Nat.le_refl _),
   gKeep.up h0 h9 (by
    intro m g q
    subst q
    rcases hm with ⟨c, fs, q, -⟩ | ⟨c, n, f, q, -⟩ <;> cases q)⟩
theorem mSq.wf {k n : Nat} {G G' : gH} (h : mSq k n G G') (hw : gWf G) : gWf G' := h.1.2.2.2.2.1 hw
/-- null into an array of parts or of cursors -/
theorem gStN_k {G : gH} {a c n i : Nat} {f : Nat → Option Nat} {k : gH → gR} (h : G.2.2 a = some (zQ c n f)) (hi : i < n) (hn : n < 2 ^ 31) : gStN G a c (nI i) k = k (gUp G a (zQ c n (va_up f i none))) := by
  unfold gStN gAqW; rw [h]; simp [gIn_nI hi hn, nI_clamp (Nat.lt_trans hi hn)]
def mEndC (A : mS) (c : Nat) : mS := mSet (A.1, A.2.1, va_up A.2.2.1 c none, A.2.2.2) 3 (A.2.2.2 3 + nI 1)
def dS (D : mD) (F : (Nat → Option Nat) × (Nat → Option Nat)) : mD := (D.1, D.2.1, D.2.2.1, D.2.2.2.1, F)
def dCur (D : mD) (f : Nat → Option Nat) : mD := (D.1, D.2.1, D.2.2.1, D.2.2.2.1, D.2.2.2.2.1, f)
def dPart (D : mD) (f : Nat → Option Nat) : mD := (D.1, D.2.1, D.2.2.1, D.2.2.2.1, f, D.2.2.2.2.2)
theorem mIn.none {n : Nat} {f : Nat → Option Nat} (h : mIn n f) (i : Nat) : mIn n (va_up f i none) := by
  intro a b q la lb ha hb
  simp only [va_up] at ha hb
  by_cases h1 : a = i
  · rw [if_pos h1] at ha; cases ha
  · by_cases h2 : b = i
    · rw [if_pos h2] at hb; cases hb
    · rw [if_neg h1] at ha; rw [if_neg h2] at hb; exact h a b q la lb ha hb
theorem MRep.endC {w : Nat → Nat} {G : gH} {o : Nat} {A : mS} {D : mD} (h : MRep w G o A D) (c : Nat) : MRep w (gUp G D.1.2.2.2 (zQ 105 3 (va_up D.2.2.2.2.2 c none))) o (A.1, A.2.1, va_up A.2.2.1 c none, A.2.2.2) (dCur D (va_up D.2.2.2.2.2 c none)) := by
  obtain ⟨k1, k2, k3, k4, k5, k6, k7, k8, k9, k10⟩ := h
  have hk : gSm (fun e => ∀ f, e ≠ zQ 105 3 f) G (gUp G D.1.2.2.2 (zQ 105 3 (va_up D.2.2.2.2.2 c none))) := gSm.up k5 (fun q => q _ rfl)
  have hel : gKeep G (gUp G D.1.2.2.2 (zQ 105 3 (va_up D.2.2.2.2.2 c none))) := gKeep.up k5 (fun _ q => by cases q) (fun _ _ q => by cases q)
  have hN : mN3 (fun e => ∀ f, e ≠ zQ 105 3 f) := by
    refine ⟨fun fs f q => (by cases q), fun c n f hc f' q => ?_, fun g f q => (by cases q)⟩
    obtain ⟨rfl, -, -⟩ := zQ_inj (congrArg some q)
    exact absurd hc (by decide)
  refine ⟨hk _ _ k1 (fun f q => by cases q), k2.tr hN hk hel, fun i hi => (k3 i hi).tr hN hk hel, hk _ _ k4 (fun f q => by have := (zQ_inj (congrArg some q)).1; omega), gUp_at, fun i hi t ht => (k6 i hi t ht).tr hN hk,
    fun p hp => (k7 p hp).tr (fun fs f q => by cases q) hk, fun c' hc' => ?_, ⟨k9.1, k9.2.1, k9.2.2.1, k9.2.2.2.1, k9.2.2.2.2.none c⟩, k10⟩
  show mCu _ (va_up A.2.2.1 c none c') (va_up D.2.2.2.2.2 c none c')
  simp only [va_up]
  by_cases e : c' = c
  · rw [if_pos e, if_pos e]; exact True.intro
  · rw [if_neg e, if_neg e]; exact (k8 c' hc').tr (fun fs f q => by cases q) hk
theorem m_endCursor {w : Nat → Nat} {G : gH} {o : Nat} {A : mS} {D : mD} (hw : gWf G) (h : MRep w G o A D) {c : Nat} (hc : c < 3) :
    ∃ G', f_M_endCursor G o (nI c) = rV G' ∧ MRep w G' o (mEndC A c) (dCur D (va_up D.2.2.2.2.2 c none)) ∧ mSq 0 0 G G' := by
  have h1 := h.endC c
  have s1 : mSq 0 0 G (gUp G D.1.2.2.2 (zQ 105 3 (va_up D.2.2.2.2.2 c none))) := mSq.up hw h.2.2.2.2.1 (Or.inr ⟨_, _, _, rfl, by decide⟩) (fun _ q => by cases q)
  refine ⟨_, ?_, h1.setI 3 _, s1.trans (mSq.up (s1.wf hw) h1.1 (Or.inl ⟨6, _, rfl, by omega⟩) (fun _ q => by cases q))⟩
  unfold f_M_endCursor
  rw [gFA_of h.1 rfl rfl, gStN_k h.2.2.2.2.1 hc (by omega), m_int h1 (j := 3) (i := 6) (by omega) rfl, m_put h1 (j := 3) (i := 6) (by omega) rfl]

theorem MRep.endP {w : Nat → Nat} {G : gH} {o : Nat} {A : mS} {D : mD} (h : MRep w G o A D) (p : Nat) : MRep w (gUp G D.1.2.2.1 (zQ 104 6 (va_up D.2.2.2.2.1 p none))) o (A.1, va_up A.2.1 p none, A.2.2.1, A.2.2.2) (dPart D (va_up D.2.2.2.2.1 p none)) := by
  obtain ⟨k1, k2, k3, k4, k5, k6, k7, k8, k9, k10⟩ := h
  have hk : gSm (fun e => ∀ f, e ≠ zQ 104 6 f) G (gUp G D.1.2.2.1 (zQ 104 6 (va_up D.2.2.2.2.1 p none))) := gSm.up k4 (fun q => q _ rfl)
  have hel : gKeep G (gUp G D.1.2.2.1 (zQ 104 6 (va_up D.2.2.2.2.1 p none))) := gKeep.up k4 (fun _ q => by cases q) (fun _ _ q => by cases q)
  have hN : mN3 (fun e => ∀ f, e ≠ zQ 104 6 f) := by
    refine ⟨fun fs f q => (by cases q), fun c n f hc f' q => ?_, fun g f q => (by cases q)⟩
    obtain ⟨rfl, -, -⟩ := zQ_inj (congrArg some q)
    exact absurd hc (by decide)
  refine ⟨hk _ _ k1 (fun f q => by cases q), k2.tr hN hk hel, fun i hi => (k3 i hi).tr hN hk hel, gUp_at, hk _ _ k5 (fun f q => by have := (zQ_inj (congrArg some q)).1; omega), fun i hi t ht => (k6 i hi t ht).tr hN hk,
    fun p' hp' => ?_, fun c hc => (k8 c hc).tr (fun fs f q => by cases q) hk, ⟨k9.1, k9.2.1, k9.2.2.1, k9.2.2.2.1.none p, k9.2.2.2.2⟩, k10⟩
  show mPt _ (va_up A.2.1 p none p') (va_up D.2.2.2.2.1 p none p')
  simp only [va_up]
  by_cases e : p' = p
  · rw [if_pos e, if_pos e]; exact True.intro
  · rw [if_neg e, if_neg e]; exact (k7 p' hp').tr (fun fs f q => by cases q) hk

-- a part and all that stand on it come to their end
def mEPst (r : mS → Nat → mS × Nat) (p : Nat) (s : mS × Nat) (q : Nat) : mS × Nat := match s.1.2.1 q with
  | some x => if x.1 = p then ((r s.1 q).1, s.2 + (r s.1 q).2) else s
  | none => s
def mECst (p : Nat) (A : mS) (c : Nat) : mS := match A.2.2.1 c with
  | some x => if x.1 = p then mEndC A c else A
  | none => A
def mEPz (p : Nat) (A : mS) : mS := mSet (A.1, va_up A.2.1 p none, A.2.2.1, A.2.2.2) 2 (A.2.2.2 2 + nI 1)
def mEPb (r : mS → Nat → mS × Nat) (A : mS) (p : Nat) : mS × Nat :=
  (mEPz p ((List.range' 0 3).foldl (mECst p) ((List.range' 2 4).foldl (mEPst r p) (A, 1)).1), ((List.range' 2 4).foldl (mEPst r p) (A, 1)).2)
def mEP : Nat → mS → Nat → mS × Nat
  | 0, A, _ => (A, 0)
  | d + 1, A, p => mEPb (mEP d) A p
def mDeep : Nat → (Nat → Option (Nat × Nat × Nat)) → Nat → Prop
  | 0, _, _ => False
  | d + 1, P, p => ∀ q x, 2 ≤ q → q < 6 → P q = some x → x.1 = p → mDeep d P q
def mSub (P' P : Nat → Option (Nat × Nat × Nat)) : Prop := ∀ q x, P' q = some x → P q = some x
theorem mDeep.sub {P P' : Nat → Option (Nat × Nat × Nat)} (hs : mSub P' P) : ∀ (d p : Nat), mDeep d P p → mDeep d P' p
  | 0, _, h => h
  | d + 1, p, h => fun q x h1 h2 h3 h4 => (h q x h1 h2 (hs q x h3) h4).sub hs d q
theorem mECst_P {p : Nat} {A : mS} {c : Nat} : (mECst p A c).2.1 = A.2.1 := by
  unfold mECst
  cases A.2.2.1 c with
  | none => rfl
  | some x =>
    show (if x.1 = p then mEndC A c else A).2.1 = _
    split <;> rfl
theorem mECst_Ps {p : Nat} : ∀ (l : List Nat) (A : mS), (l.foldl (mECst p) A).2.1 = A.2.1
  | [], _ => rfl
  | c :: l, A => by rw [List.foldl_cons, mECst_Ps l, mECst_P]
theorem m_ep48 {w : Nat → Nat} {o p : Nat} {x2 : Int32} {rec : gH → Nat → Int32 → gR} {K : gH → Nat → Int32 → Int32 → gR} (hp : p < 6) : ∀ (k j n : Nat) (G : gH) (A : mS) (D : mD), j + k = 3 → k < n → gWf G → MRep w G o A D →
    ∃ (G' : gH) (D' : (Nat → Option Nat) × (Nat → Option Nat)), f_M_endPart_L48 rec K n G o (nI p) x2 (nI j) = K G' o (nI p) x2 ∧ MRep w G' o ((List.range' j k).foldl (mECst p) A) (dS D D') ∧ mSq 0 0 G G'
  | _, _, 0, _, _, _, _, hn, _, _ => absurd hn (Nat.not_lt_zero _)
  | 0, j, n + 1, G, A, D, hj, _, hw, h => by
    refine ⟨G, D.2.2.2.2, ?_, h, mSq.refl⟩
    unfold f_M_endPart_L48
    rw [if_pos (nI_le (by omega) (by omega))]
  | k + 1, j, n + 1, G, A, D, hj, hn, hw, h => by
    have hj3 : j < 3 := by omega
    unfold f_M_endPart_L48
    rw [if_neg (nI_ge hj3 (by omega)), gFA_of h.1 rfl rfl, List.range'_succ, List.foldl_cons, nI_add]
    cases hc : A.2.2.1 j with
    | none =>
      rw [gLdq_no h.2.2.2.2.1 rfl hj3 (by omega) (h.nocur hj3 hc)]
      have e : mECst p A j = A := by unfold mECst; rw [hc]
      rw [e]
      exact m_ep48 hp k (j + 1) n G A D (by omega) (by omega) hw h
    | some x =>
      obtain ⟨q, e1, e2, e3, e4⟩ := h.cur hj3 hc
      rw [gLdq_of h.2.2.2.2.1 rfl hj3 (by omega) e1, gFA_of h.1 rfl rfl, gLdq_of h.2.2.2.2.1 rfl hj3 (by omega) e1, gFI_of e4 rfl rfl]
      by_cases hx : x.1 = p
      · have e : mECst p A j = mEndC A j := by unfold mECst; rw [hc]; exact if_pos hx
        obtain ⟨G1, r1, r2, r3⟩ := m_endCursor hw h hj3
        obtain ⟨G', D', z1, z2, z3⟩ := m_ep48 (rec := rec) (K := K) (x2 := x2) hp k (j + 1) n G1 _ _ (by omega) (by omega) (r3.wf hw) r2
        refine ⟨G', D', ?_, by rw [e]; exact z2, r3.trans z3⟩
        rw [if_pos (by rw [hx]), gOb_of h.1 rfl, r1]
        exact z1
      · have e : mECst p A j = A := by unfold mECst; rw [hc]; exact if_neg hx
        rw [if_neg (fun q => hx ((nI_eq (by omega) (by omega)).mp q)), e]
        exact m_ep48 hp k (j + 1) n G A D (by omega) (by omega) hw h
theorem m_ep4 {w : Nat → Nat} {o p d : Nat} {r : mS → Nat → mS × Nat} {rec : gH → Nat → Int32 → gR} {K : gH → Nat → Int32 → Int32 → gR} (hp : p < 6)
    (hr : ∀ (G : gH) (A : mS) (D : mD) (q : Nat), gWf G → MRep w G o A D → 2 ≤ q → q < 6 → mDeep d A.2.1 q → ∃ (G' : gH) (D' : (Nat → Option Nat) × (Nat → Option Nat)), rec G o (nI q) = rI (nI (r A q).2) G' ∧ MRep w G' o (r A q).1 (dS D D') ∧ mSq 0 0 G G' ∧ mSub (r A q).1.2.1 A.2.1) :
    ∀ (k j n c : Nat) (G : gH) (A : mS) (D : mD), j + k = 6 → 2 ≤ j → k < n → gWf G → MRep w G o A D → mDeep (d + 1) A.2.1 p →
    ∃ (G' : gH) (D' : (Nat → Option Nat) × (Nat → Option Nat)), f_M_endPart_L4 rec K n G o (nI p) (nI c) (nI j) = K G' o (nI p) (nI ((List.range' j k).foldl (mEPst r p) (A, c)).2) ∧ MRep w G' o ((List.range' j k).foldl (mEPst r p) (A, c)).1 (dS D D') ∧ mSq 0 0 G G' ∧ mSub ((List.range' j k).foldl (mEPst r p) (A, c)).1.2.1 A.2.1
  | _, _, 0, _, _, _, _, _, _, hn, _, _, _ => absurd hn (Nat.not_lt_zero _)
  | 0, j, n + 1, c, G, A, D, hj, _, _, hw, h, _ => by
    refine ⟨G, D.2.2.2.2, ?_, h, mSq.refl, fun _ _ q => q⟩
    unfold f_M_endPart_L4
    rw [if_pos (nI_le (by omega) (by omega))]
    rfl
  | k + 1, j, n + 1, c, G, A, D, hj, hj2, hn, hw, h, hd => by
    have hj6 : j < 6 := by omega
    unfold f_M_endPart_L4
    rw [if_neg (nI_ge hj6 (by omega)), gFA_of h.1 rfl rfl, List.range'_succ, List.foldl_cons, nI_add]
    cases hc : A.2.1 j with
    | none =>
      rw [gLdq_no h.2.2.2.1 rfl hj6 (by omega) (h.nopart hj6 hc)]
      have e : mEPst r p (A, c) j = (A, c) := by unfold mEPst; rw [hc]
      rw [e]
      exact m_ep4 hp hr k (j + 1) n c G A D (by omega) (by omega) (by omega) hw h hd
    | some x =>
      obtain ⟨q, e1, e2, e3, e4, e5⟩ := h.part hj6 hc
      rw [gLdq_of h.2.2.2.1 rfl hj6 (by omega) e1, gFA_of h.1 rfl rfl, gLdq_of h.2.2.2.1 rfl hj6 (by omega) e1, gFI_of e5 rfl rfl]
      by_cases hx : x.1 = p
      · have e : mEPst r p (A, c) j = ((r A j).1, c + (r A j).2) := by unfold mEPst; rw [hc]; exact if_pos hx
        obtain ⟨G1, D1, r1, r2, r3, r4⟩ := hr G A D j hw h hj2 hj6 (hd j x hj2 hj6 hc hx)
        obtain ⟨G', D', z1, z2, z3, z4⟩ := m_ep4 hp hr k (j + 1) n (c + (r A j).2) G1 _ _ (by omega) (by omega) (by omega) (r3.wf hw) r2 (hd.sub r4)
        refine ⟨G', D', ?_, by rw [e]; exact z2, r3.trans z3, by rw [e]; exact fun q x hq => r4 q x (z4 q x hq)⟩
        rw [if_pos (by rw [hx]), gOb_of h.1 rfl, r1, e]
        show f_M_endPart_L4 rec K n G1 o (nI p) (nI c + nI (r A j).2) (nI (j + 1)) = _
        rw [nI_add]
        exact z1
      · have e : mEPst r p (A, c) j = (A, c) := by unfold mEPst; rw [hc]; exact if_neg hx
        rw [if_neg (fun q => hx ((nI_eq (by omega) (by omega)).mp q)), e]
        exact m_ep4 hp hr k (j + 1) n c G A D (by omega) (by omega) (by omega) hw h hd
theorem m_endPart {w : Nat → Nat} {o : Nat} : ∀ (d : Nat) (G : gH) (A : mS) (D : mD) (p : Nat), gWf G → MRep w G o A D → 2 ≤ p → p < 6 → mDeep d A.2.1 p →
    ∃ (G' : gH) (D' : (Nat → Option Nat) × (Nat → Option Nat)), f_M_endPart d G o (nI p) = rI (nI (mEP d A p).2) G' ∧ MRep w G' o (mEP d A p).1 (dS D D') ∧ mSq 0 0 G G' ∧ mSub (mEP d A p).1.2.1 A.2.1
  | 0, _, _, _, _, _, _, _, _, hd => hd.elim
  | d + 1, G, A, D, p, hw, h, hp2, hp, hd => by
    obtain ⟨G1, D1, a1, a2, a3, a4⟩ := m_ep4 (K := fun G16 x13 x14 x15 => f_M_endPart_L48 (f_M_endPart d) (fun G31 x28 x29 x30 => gFA G31 x28 6 2 fun v32 => gStN G31 v32 104 x29 fun G33 => gFI G33 x28 6 5 fun v34 => gPut G33 x28 6 5 (.int (v34 + (nI 1))) fun G35 => rI x30 G35) zFu G16 x13 x14 x15 (nI 0))
      hp (m_endPart d) 4 2 zFu 1 G A D rfl (Nat.le_refl _) (by unfold zFu; omega) hw h hd
    obtain ⟨G2, D2, b1, b2, b3⟩ := m_ep48 (rec := f_M_endPart d) (x2 := nI ((List.range' 2 4).foldl (mEPst (mEP d) p) (A, 1)).2) (K := fun G31 x28 x29 x30 => gFA G31 x28 6 2 fun v32 => gStN G31 v32 104 x29 fun G33 => gFI G33 x28 6 5 fun v34 => gPut G33 x28 6 5 (.int (v34 + (nI 1))) fun G35 => rI x30 G35)
      hp 3 0 zFu G1 _ (dS D D1) rfl (by unfold zFu; omega) (a3.wf hw) a2
    have h1 := b2.endP p
    have s0 := a3.trans b3
    have s1 : mSq 0 0 G2 (gUp G2 (dS D D2).1.2.2.1 (zQ 104 6 (va_up D2.1 p none))) := mSq.up (s0.wf hw) b2.2.2.2.1 (Or.inr ⟨_, _, _, rfl, by decide⟩) (fun _ q => by cases q)
    refine ⟨_, (va_up D2.1 p none, D2.2), ?_, h1.setI 2 _, (s0.trans s1).trans (mSq.up ((s0.trans s1).wf hw) h1.1 (Or.inl ⟨6, _, rfl, by omega⟩) (fun _ q => by cases q)), ?_⟩
    · unfold f_M_endPart f_M_endPart_B
      rw [a1, b1]
      show gFA G2 o 6 2 _ = _
      rw [gFA_of b2.1 rfl rfl, gStN_k b2.2.2.2.1 hp (by omega), m_int h1 (j := 2) (i := 5) (by omega) rfl, m_put h1 (j := 2) (i := 5) (by omega) rfl]
      rfl
    · intro q x hq
      refine a4 q x ?_
      have hq' : va_up ((List.range' 0 3).foldl (mECst p) ((List.range' 2 4).foldl (mEPst (mEP d) p) (A, 1)).1).2.1 p none q = some x := hq
      rw [mECst_Ps] at hq'
      simp only [va_up] at hq'
      by_cases e : q = p
      · rw [if_pos e] at hq'; cases hq'
      · rw [if_neg e] at hq'; exact hq'

-- parts stand on rows or on open parts, and not in a ring
def mDom (P : Nat → Option (Nat × Nat × Nat)) : Prop := ∀ q x, P q = some x → 2 ≤ q ∧ q < 6
def mCl (P : Nat → Option (Nat × Nat × Nat)) : Prop := ∀ q x, P q = some x → x.1 < 2 ∨ P x.1 ≠ none
def mOk (P : Nat → Option (Nat × Nat × Nat)) : Prop := mDom P ∧ ∃ ρ : Nat → Nat, (∀ q, ρ q < 6) ∧ ∀ q x, P q = some x → x.1 < 2 ∨ (P x.1 ≠ none ∧ ρ x.1 < ρ q)
theorem mSub.trans {P P1 P2 : Nat → Option (Nat × Nat × Nat)} (h1 : mSub P1 P) (h2 : mSub P2 P1) : mSub P2 P := fun q x h => h1 q x (h2 q x h)
theorem mDom.sub {P P' : Nat → Option (Nat × Nat × Nat)} (h : mDom P) (hs : mSub P' P) : mDom P' := fun q x hq => h q x (hs q x hq)
theorem mOk.cl {P : Nat → Option (Nat × Nat × Nat)} (h : mOk P) : mCl P := by
  obtain ⟨-, ρ, -, h2⟩ := h
  exact fun q x hq => (h2 q x hq).imp_right And.left
theorem mOk.sub {P P' : Nat → Option (Nat × Nat × Nat)} (h : mOk P) (hs : mSub P' P) (hc : mCl P') : mOk P' := by
  obtain ⟨h0, ρ, h1, h2⟩ := h
  refine ⟨h0.sub hs, ρ, h1, fun q x hq => ?_⟩
  rcases hc q x hq with k | k
  · exact Or.inl k
  · rcases h2 q x (hs q x hq) with k2 | k2
    · exact Or.inl k2
    · exact Or.inr ⟨k, k2.2⟩
theorem mOk.deep {P : Nat → Option (Nat × Nat × Nat)} (h : mOk P) {p : Nat} (hp : 2 ≤ p) : mDeep zDp P p := by
  obtain ⟨h0, ρ, h1, h2⟩ := h
  have key : ∀ (d p : Nat), 2 ≤ p → 6 ≤ ρ p + d → mDeep d P p := by
    intro d
    induction d with
    | zero => intro p _ h; exact absurd (h1 p) (by omega)
    | succ d ih =>
      intro p hp h q x hq1 hq2 hq hx
      refine ih q hq1 ?_
      rcases h2 q x hq with k | k
      · omega
      · rw [hx] at k; omega
  exact key zDp p hp (by unfold zDp; omega)
theorem mOk.rw' {P : Nat → Option (Nat × Nat × Nat)} (h : mOk P) {p : Nat} (hp : p < 2 ∨ P p ≠ none) : ∃ r b, mRw P zDp p = some (r, b) := by
  obtain ⟨h0, ρ, h1, h2⟩ := h
  have key : ∀ (d p : Nat), (p < 2 ∧ 1 ≤ d) ∨ (P p ≠ none ∧ ρ p + 2 ≤ d) → ∃ r b, mRw P d p = some (r, b) := by
    intro d
    induction d with
    | zero => intro p h; omega
    | succ d ih =>
      intro p h
      unfold mRw
      by_cases hp : p < 2
      · exact ⟨p, 0, if_pos hp⟩
      · rw [if_neg hp]
        cases hq : P p with
        | none => rcases h with h | h; · omega
                  · exact absurd hq h.1
        | some x =>
          obtain ⟨o', f, l⟩ := x
          have hk : (o' < 2 ∧ 1 ≤ d) ∨ (P o' ≠ none ∧ ρ o' + 2 ≤ d) := by
            rcases h2 p _ hq with k | k
            · refine Or.inl ⟨k, ?_⟩
              rcases h with h | h <;> omega
            · refine Or.inr ⟨k.1, ?_⟩
              have := k.2
              rcases h with h | h <;> simp only at this <;> omega
          obtain ⟨r, b, e⟩ := ih o' hk
          exact ⟨r, f + b, by simp only [e]; rfl⟩
  refine key zDp p ?_
  rcases hp with hp | hp
  · exact Or.inl ⟨hp, by unfold zDp; omega⟩
  · exact Or.inr ⟨hp, by have := h1 p; unfold zDp; omega⟩
theorem mEPs_cl {d p : Nat} {r : mS → Nat → mS × Nat}
    (hr : ∀ (A : mS) (q : Nat), mDom A.2.1 → mCl A.2.1 → mDeep d A.2.1 q → mCl (r A q).1.2.1 ∧ (r A q).1.2.1 q = none ∧ mSub (r A q).1.2.1 A.2.1) :
    ∀ (k j : Nat) (s : mS × Nat), j + k = 6 → mDom s.1.2.1 → mCl s.1.2.1 → mDeep (d + 1) s.1.2.1 p → (∀ q x, q < j → s.1.2.1 q = some x → x.1 ≠ p) →
    mCl ((List.range' j k).foldl (mEPst r p) s).1.2.1 ∧ mSub ((List.range' j k).foldl (mEPst r p) s).1.2.1 s.1.2.1 ∧ ∀ q x, ((List.range' j k).foldl (mEPst r p) s).1.2.1 q = some x → x.1 ≠ p
  | 0, j, s, hj, h1, h2, h3, h4 => ⟨h2, fun _ _ q => q, fun q x hq => h4 q x (by have := (h1 q x hq).2; omega) hq⟩
  | k + 1, j, s, hj, h1, h2, h3, h4 => by
    rw [List.range'_succ, List.foldl_cons]
    obtain ⟨A, c⟩ := s
    cases hc : A.2.1 j with
    | none =>
      have e : mEPst r p (A, c) j = (A, c) := by unfold mEPst; rw [hc]
      rw [e]
      refine mEPs_cl hr k (j + 1) (A, c) (by omega) h1 h2 h3 (fun q x hq hx => ?_)
      by_cases hqj : q = j
      · subst hqj; exact absurd (hc.symm.trans hx) (Option.some_ne_none _).symm
      · exact h4 q x (by omega) hx
    | some x =>
      by_cases hx : x.1 = p
      · have e : mEPst r p (A, c) j = ((r A j).1, c + (r A j).2) := by unfold mEPst; rw [hc]; exact if_pos hx
        obtain ⟨k1, k2, k3⟩ := hr A j h1 h2 (h3 j x (h1 j x hc).1 (h1 j x hc).2 hc hx)
        rw [e]
        obtain ⟨z1, z2, z3⟩ := mEPs_cl hr k (j + 1) ((r A j).1, c + (r A j).2) (by omega) (h1.sub k3) k1 (h3.sub k3) (fun q x hq hx => by
          by_cases hqj : q = j
          · subst hqj; exact absurd (k2.symm.trans hx) (Option.some_ne_none _).symm
          · exact h4 q x (by omega) (k3 q x hx))
        exact ⟨z1, mSub.trans k3 z2, z3⟩
      · have e : mEPst r p (A, c) j = (A, c) := by unfold mEPst; rw [hc]; exact if_neg hx
        rw [e]
        refine mEPs_cl hr k (j + 1) (A, c) (by omega) h1 h2 h3 (fun q y hq hy => ?_)
        by_cases hqj : q = j
        · subst hqj
          rw [← Option.some.inj (hc.symm.trans hy)]
          exact hx
        · exact h4 q y (by omega) hy
theorem mEP_cl : ∀ (d : Nat) (A : mS) (p : Nat), mDom A.2.1 → mCl A.2.1 → mDeep d A.2.1 p → mCl (mEP d A p).1.2.1 ∧ (mEP d A p).1.2.1 p = none ∧ mSub (mEP d A p).1.2.1 A.2.1
  | 0, _, _, _, _, h => h.elim
  | d + 1, A, p, h1, h2, h3 => by
    obtain ⟨z1, z2, z3⟩ := mEPs_cl (mEP_cl d) 4 2 (A, 1) rfl h1 h2 h3 (fun q x hq hx => by have := (h1 q x hx).1; omega)
    have e : (mEP (d + 1) A p).1.2.1 = va_up ((List.range' 2 4).foldl (mEPst (mEP d) p) (A, 1)).1.2.1 p none := by
      show va_up ((List.range' 0 3).foldl (mECst p) _).2.1 p none = _
      rw [mECst_Ps]
    rw [e]
    refine ⟨fun q x hq => ?_, by simp [va_up], fun q x hq => ?_⟩
    · simp only [va_up] at hq ⊢
      by_cases hqp : q = p
      · rw [if_pos hqp] at hq; cases hq
      · rw [if_neg hqp] at hq
        rw [if_neg (z3 q x hq)]
        exact z1 q x hq
    · simp only [va_up] at hq
      by_cases hqp : q = p
      · rw [if_pos hqp] at hq; cases hq
      · rw [if_neg hqp] at hq; exact z2 q x hq
theorem mOk.endP {A : mS} (h : mOk A.2.1) {p : Nat} (hp : 2 ≤ p) : mOk (mEP zDp A p).1.2.1 := by
  obtain ⟨z1, -, z3⟩ := mEP_cl zDp A p h.1 h.cl (h.deep hp)
  exact h.sub z3 z1

-- the way from a list to its row
def mAb (P : Nat → Option (Nat × Nat × Nat)) : Nat → Nat → Nat → Bool
  | 0, _, _ => false
  | d + 1, x, p => if x = p then true else if p < 2 then false else match P p with
    | none => false
    | some y => mAb P d x y.1
theorem m_isAbove {w : Nat → Nat} {G : gH} {o : Nat} {A : mS} {D : mD} (h : MRep w G o A D) : ∀ (d x p r b : Nat), x < 6 → p < 6 → mRw A.2.1 d p = some (r, b) → f_M_isAbove d G o (nI x) (nI p) = rZ (mB (mAb A.2.1 d x p)) G
  | 0, _, _, _, _, _, _, k => by cases k
  | d + 1, x, p, r, b, hx6, hp, k => by
    unfold mRw at k
    unfold f_M_isAbove f_M_isAbove_B mAb
    by_cases hx : x = p
    · rw [if_pos (by rw [hx]), if_pos hx]; rfl
    · rw [if_neg (fun q => hx ((nI_eq (by omega) (by omega)).mp q)), if_neg hx]
      by_cases h2 : p < 2
      · rw [if_pos (nI_lt h2 (by omega)), if_pos h2]; rfl
      · rw [if_neg h2] at k
        rw [if_neg (nI_nlt (by omega) (by omega)), if_neg h2]
        cases hq : A.2.1 p with
        | none => rw [hq] at k; cases k
        | some y =>
          rw [hq] at k
          obtain ⟨q, e1, e2, e3, e4, e5⟩ := h.part hp hq
          obtain ⟨o', f, l⟩ := y
          simp only at k e2 e3 e4 e5
          cases hr : mRw A.2.1 d o' with
          | none => rw [hr] at k; cases k
          | some y =>
            obtain ⟨r', b'⟩ := y
            rw [gFA_of h.1 rfl rfl, gLdq_of h.2.2.2.1 rfl hp (by omega) e1, gFI_of e5 rfl rfl, gOb_of h.1 rfl, m_isAbove h d x o' _ _ hx6 e2 hr, mB_Z]
            show _ = rZ (mB (mAb A.2.1 d x o')) G
            generalize mAb A.2.1 d x o' = b1
            cases b1 <;> rfl
theorem mAb.closed {P : Nat → Option (Nat × Nat × Nat)} : ∀ (d e r b : Nat), mRw P d e = some (r, b) → ∀ q, mAb P d q e = true → 2 ≤ q → ∃ x, P q = some x ∧ mAb P d x.1 e = true
  | 0, _, _, _, h => by cases h
  | d + 1, e, r, b, h => by
    intro q hq hq2
    unfold mRw at h
    unfold mAb at hq ⊢
    by_cases he : e < 2
    · by_cases hqe : q = e
      · omega
      · rw [if_neg hqe, if_pos he] at hq; cases hq
    · rw [if_neg he] at h
      cases hP : P e with
      | none => rw [hP] at h; cases h
      | some y =>
        rw [hP] at h hq
        obtain ⟨o', f, l⟩ := y
        simp only at h
        cases hr : mRw P d o' with
        | none => rw [hr] at h; cases h
        | some z =>
          obtain ⟨r', b'⟩ := z
          by_cases hqe : q = e
          · subst hqe
            refine ⟨(o', f, l), hP, ?_⟩
            by_cases hoe : o' = q
            · rw [if_pos hoe]
            · rw [if_neg hoe, if_neg he]
              show mAb P d o' o' = true
              cases d with
              | zero => cases hr
              | succ d => unfold mAb; rw [if_pos rfl]
          · rw [if_neg hqe, if_neg he] at hq
            obtain ⟨x, k1, k2⟩ := mAb.closed d o' r' b' hr q hq hq2
            refine ⟨x, k1, ?_⟩
            by_cases hxe : x.1 = e
            · rw [if_pos hxe]
            · rw [if_neg hxe, if_neg he]; exact k2
theorem mAb.congr {P P' : Nat → Option (Nat × Nat × Nat)} : ∀ (d e : Nat), (∀ q, mAb P d q e = true → 2 ≤ q → P' q = P q) → (∀ q, mAb P' d q e = mAb P d q e) ∧ mRw P' d e = mRw P d e
  | 0, _, _ => ⟨fun _ => rfl, rfl⟩
  | d + 1, e, h => by
    by_cases he : e < 2
    · refine ⟨fun q => ?_, ?_⟩
      · unfold mAb; rw [if_pos he, if_pos he]
      · unfold mRw; rw [if_pos he, if_pos he]
    · have e1 : P' e = P e := h e (by unfold mAb; rw [if_pos rfl]) (by omega)
      cases hP : P e with
      | none =>
        refine ⟨fun q => ?_, ?_⟩
        · unfold mAb; rw [e1, hP]
        · unfold mRw; rw [e1, hP]
      | some y =>
        obtain ⟨o', f, l⟩ := y
        have ih := mAb.congr (P := P) (P' := P') d o' (fun q hq hq2 => h q (by
          unfold mAb
          rw [hP]
          by_cases hqe : q = e
          · rw [if_pos hqe]
          · rw [if_neg hqe, if_neg he]; exact hq) hq2)
        refine ⟨fun q => ?_, ?_⟩
        · unfold mAb; rw [e1, hP]; simp only [ih.1]
        · unfold mRw; rw [e1, hP]; simp only [ih.2]
def mKc (K : Nat → Prop) (P : Nat → Option (Nat × Nat × Nat)) : Prop := ∀ q, K q → 2 ≤ q → ∃ x, P q = some x ∧ K x.1
theorem mKc.of {K : Nat → Prop} {P P' : Nat → Option (Nat × Nat × Nat)} (h : mKc K P) (he : ∀ q, K q → 2 ≤ q → P' q = P q) : mKc K P' := fun q hq h2 => by
  rw [he q hq h2]; exact h q hq h2
theorem mEPs_keep {K : Nat → Prop} {p : Nat} {r : mS → Nat → mS × Nat} (hp : ¬ K p) (hr : ∀ (A : mS) (q : Nat), mKc K A.2.1 → ¬ K q → ∀ q', K q' → 2 ≤ q' → (r A q).1.2.1 q' = A.2.1 q') :
    ∀ (l : List Nat) (s : mS × Nat), (∀ q, q ∈ l → 2 ≤ q) → mKc K s.1.2.1 → ∀ q', K q' → 2 ≤ q' → (l.foldl (mEPst r p) s).1.2.1 q' = s.1.2.1 q'
  | [], _, _, _, _, _, _ => rfl
  | j :: l, s, hl, hc, q', hq', h2 => by
    obtain ⟨A, c⟩ := s
    rw [List.foldl_cons]
    have hl' : ∀ q, q ∈ l → 2 ≤ q := fun q hq => hl q (List.mem_cons_of_mem _ hq)
    cases hP : A.2.1 j with
    | none =>
      have e : mEPst r p (A, c) j = (A, c) := by unfold mEPst; rw [hP]
      rw [e]; exact mEPs_keep hp hr l (A, c) hl' hc q' hq' h2
    | some x =>
      by_cases hx : x.1 = p
      · have e : mEPst r p (A, c) j = ((r A j).1, c + (r A j).2) := by unfold mEPst; rw [hP]; exact if_pos hx
        have hj : ¬ K j := by
          intro hj
          obtain ⟨y, hy, hK⟩ := hc j hj (hl j (List.mem_cons_self ..))
          rw [← Option.some.inj (hP.symm.trans hy), hx] at hK
          exact hp hK
        have hs := hr A j hc hj
        rw [e, mEPs_keep hp hr l ((r A j).1, c + (r A j).2) hl' (hc.of hs) q' hq' h2]
        exact hs q' hq' h2
      · have e : mEPst r p (A, c) j = (A, c) := by unfold mEPst; rw [hP]; exact if_neg hx
        rw [e]; exact mEPs_keep hp hr l (A, c) hl' hc q' hq' h2
theorem mEP_keep {K : Nat → Prop} : ∀ (d : Nat) (A : mS) (p : Nat), mKc K A.2.1 → ¬ K p → ∀ q', K q' → 2 ≤ q' → (mEP d A p).1.2.1 q' = A.2.1 q'
  | 0, _, _, _, _, _, _, _ => rfl
  | d + 1, A, p, hc, hp, q', hq', h2 => by
    have e : (mEP (d + 1) A p).1.2.1 = va_up ((List.range' 2 4).foldl (mEPst (mEP d) p) (A, 1)).1.2.1 p none := by
      show va_up ((List.range' 0 3).foldl (mECst p) _).2.1 p none = _
      rw [mECst_Ps]
    rw [e]
    simp only [va_up]
    rw [if_neg (fun q => hp (by rw [← q]; exact hq')), mEPs_keep hp (mEP_keep d) _ (A, 1) (fun q hq => by have := List.mem_range'.mp hq; omega) hc q' hq' h2]

-- the parts on a row come to their end, but those on the way of one list
def mRo (P : Nat → Option (Nat × Nat × Nat)) (p : Nat) : Nat := match mRw P zDp p with
  | some x => x.1
  | none => 0
def mESt (r exc : Nat) (s : mS × Nat) (q : Nat) : mS × Nat := match s.1.2.1 q with
  | some _ => if mRo s.1.2.1 q = r ∧ mAb s.1.2.1 zDp q exc = false then ((mEP zDp s.1 q).1, s.2 + (mEP zDp s.1 q).2) else s
  | none => s
def mES (A : mS) (r exc : Nat) : mS × Nat := (List.range' 2 4).foldl (mESt r exc) (A, 0)
theorem m_es {w : Nat → Nat} {o r exc : Nat} {K : gH → Int32 → gR} (hr2 : r < 2) (hexc : exc < 6) : ∀ (k j n c : Nat) (G : gH) (A : mS) (D : mD), j + k = 6 → 2 ≤ j → k < n → gWf G → MRep w G o A D → mOk A.2.1 → (exc < 2 ∨ A.2.1 exc ≠ none) →
    ∃ (G' : gH) (D' : (Nat → Option Nat) × (Nat → Option Nat)), f_M_endParts_L5 K n G o (nI r) (nI exc) (nI c) (nI j) = K G' (nI ((List.range' j k).foldl (mESt r exc) (A, c)).2) ∧ MRep w G' o ((List.range' j k).foldl (mESt r exc) (A, c)).1 (dS D D') ∧ mSq 0 0 G G' ∧
      mSub ((List.range' j k).foldl (mESt r exc) (A, c)).1.2.1 A.2.1 ∧ mOk ((List.range' j k).foldl (mESt r exc) (A, c)).1.2.1 ∧ ∀ q, mAb A.2.1 zDp q exc = true → 2 ≤ q → ((List.range' j k).foldl (mESt r exc) (A, c)).1.2.1 q = A.2.1 q
  | _, _, 0, _, _, _, _, _, _, hn, _, _, _, _ => absurd hn (Nat.not_lt_zero _)
  | 0, j, n + 1, c, G, A, D, hj, _, _, hw, h, hok, _ => by
    refine ⟨G, D.2.2.2.2, ?_, h, mSq.refl, fun _ _ q => q, hok, fun _ _ _ => rfl⟩
    unfold f_M_endParts_L5
    rw [if_pos (nI_le (by omega) (by omega))]
    rfl
  | k + 1, j, n + 1, c, G, A, D, hj, hj2, hn, hw, h, hok, hex => by
    have hj6 : j < 6 := by omega
    unfold f_M_endParts_L5
    rw [if_neg (nI_ge hj6 (by omega)), gFA_of h.1 rfl rfl, List.range'_succ, List.foldl_cons, nI_add]
    cases hc : A.2.1 j with
    | none =>
      rw [gLdq_no h.2.2.2.1 rfl hj6 (by omega) (h.nopart hj6 hc)]
      have e : mESt r exc (A, c) j = (A, c) := by unfold mESt; rw [hc]
      rw [e]
      exact m_es hr2 hexc k (j + 1) n c G A D (by omega) (by omega) (by omega) hw h hok hex
    | some x =>
      obtain ⟨q, e1, -⟩ := h.part hj6 hc
      obtain ⟨r', b', hrw⟩ := hok.rw' (p := j) (Or.inr (by rw [hc]; exact Option.some_ne_none _))
      obtain ⟨r2, b2, hrx⟩ := hok.rw' hex
      have hr' := mRw_lt _ _ _ _ hrw
      have hRo : mRo A.2.1 j = r' := by unfold mRo; rw [hrw]
      rw [gLdq_of h.2.2.2.1 rfl hj6 (by omega) e1, gOb_of h.1 rfl, m_rowOf h _ _ _ _ hj6 hrw]
      show ∃ G' D', (if nI r' = nI r then _ else _) = _ ∧ _
      by_cases hrr : r' = r
      · rw [if_pos (by rw [hrr]), gOb_of h.1 rfl, m_isAbove h _ _ _ _ _ hj6 hexc hrx, mB_Z]
        cases hab : mAb A.2.1 zDp j exc with
        | true =>
          have e : mESt r exc (A, c) j = (A, c) := by unfold mESt; rw [hc]; exact if_neg (fun q => by have := q.2; simp only at this; rw [hab] at this; cases this)
          rw [e]
          show ∃ G' D', (if (1 : Int32) = 0 then _ else _) = _ ∧ _
          rw [if_neg (by decide)]
          exact m_es hr2 hexc k (j + 1) n c G A D (by omega) (by omega) (by omega) hw h hok hex
        | false =>
          have e : mESt r exc (A, c) j = ((mEP zDp A j).1, c + (mEP zDp A j).2) := by unfold mESt; rw [hc]; exact if_pos ⟨hRo.trans hrr, hab⟩
          obtain ⟨G1, D1, a1, a2, a3, a4⟩ := m_endPart zDp G A D j hw h hj2 hj6 (hok.deep hj2)
          have keep := mEP_keep (K := fun q => mAb A.2.1 zDp q exc = true) zDp A j (mAb.closed zDp exc r2 b2 hrx) (by rw [hab]; exact Bool.false_ne_true)
          have hex' : exc < 2 ∨ (mEP zDp A j).1.2.1 exc ≠ none := by
            rcases hex with q | q
            · exact Or.inl q
            · by_cases h2 : exc < 2
              · exact Or.inl h2
              · rw [keep exc (by unfold zDp mAb; rw [if_pos rfl]) (by omega)]; exact Or.inr q
          obtain ⟨G', D', z1, z2, z3, z4, z5, z6⟩ := m_es (K := K) hr2 hexc k (j + 1) n (c + (mEP zDp A j).2) G1 _ (dS D D1) (by omega) (by omega) (by omega) (a3.wf hw) a2 (hok.endP hj2) hex'
          refine ⟨G', D', ?_, by rw [e]; exact z2, a3.trans z3, by rw [e]; exact mSub.trans a4 z4, by rw [e]; exact z5, ?_⟩
          · show (if (0 : Int32) = 0 then _ else _) = _
            rw [if_pos rfl, gOb_of h.1 rfl, a1, e]
            show f_M_endParts_L5 K n G1 o (nI r) (nI exc) (nI c + nI (mEP zDp A j).2) (nI (j + 1)) = _
            rw [nI_add]
            exact z1
          · intro q hq hq2
            rw [e, z6 q (by rw [(mAb.congr zDp exc keep).1]; exact hq) hq2]
            exact keep q hq hq2
      · have e : mESt r exc (A, c) j = (A, c) := by unfold mESt; rw [hc]; exact if_neg (fun q => hrr (hRo.symm.trans q.1))
        rw [if_neg (fun q => hrr ((nI_eq (by omega) (by omega)).mp q)), e]
        exact m_es hr2 hexc k (j + 1) n c G A D (by omega) (by omega) (by omega) hw h hok hex
theorem m_endParts {w : Nat → Nat} {o r exc : Nat} {G : gH} {A : mS} {D : mD} (hw : gWf G) (h : MRep w G o A D) (hok : mOk A.2.1) (hr : r < 2) (hexc : exc < 6) (hex : exc < 2 ∨ A.2.1 exc ≠ none) :
    ∃ (G' : gH) (D' : (Nat → Option Nat) × (Nat → Option Nat)), f_M_endParts G o (nI r) (nI exc) = rI (nI (mES A r exc).2) G' ∧ MRep w G' o (mES A r exc).1 (dS D D') ∧ mSq 0 0 G G' ∧
      mSub (mES A r exc).1.2.1 A.2.1 ∧ mOk (mES A r exc).1.2.1 ∧ ∀ q, mAb A.2.1 zDp q exc = true → 2 ≤ q → (mES A r exc).1.2.1 q = A.2.1 q :=
  m_es (K := fun G22 x21 => rI x21 G22) hr hexc 4 2 zFu 0 G A D rfl (Nat.le_refl _) (by unfold zFu; omega) hw h hok hex

-- a part's, a cursor's fields are written
theorem MRep.setP {w : Nat → Nat} {G : gH} {o : Nat} {A : mS} {D : mD} (h : MRep w G o A D) {p q : Nat} {x y : Nat × Nat × Nat} (hp : p < 6) (hx : A.2.1 p = some x) (hq : D.2.2.2.2.1 p = some q) (b1 : y.1 < 6) (b2 : y.2.1 < 100) (b3 : y.2.2 < 100) :
    MRep w (gUp G q (.inr (5, [.int (nI y.1), .int (nI y.2.1), .int (nI y.2.2)]))) o (A.1, va_up A.2.1 p (some y), A.2.2.1, A.2.2.2) D := by
  obtain ⟨q', e1, e2, e3, e4, e5⟩ := h.part hp hx
  have hqq : q' = q := Option.some.inj (e1.symm.trans hq)
  subst hqq
  obtain ⟨k1, k2, k3, k4, k5, k6, k7, k8, k9, k10⟩ := h
  have hk : gSm (fun e => ∀ fs, e ≠ .inr (5, fs)) G (gUp G q' (.inr (5, [.int (nI y.1), .int (nI y.2.1), .int (nI y.2.2)]))) := gSm.up e5 (fun q => q _ rfl)
  have hel : gKeep G (gUp G q' (.inr (5, [.int (nI y.1), .int (nI y.2.1), .int (nI y.2.2)]))) := gKeep.up e5 (fun _ q => by cases q) (fun _ _ q => by cases q)
  have hN : mN3 (fun e => ∀ fs, e ≠ .inr (5, fs)) := ⟨fun fs f q => (by cases q), fun c n f hc f' q => (by cases q), fun g f q => (by cases q)⟩
  refine ⟨hk _ _ k1 (fun f q => by cases q), k2.tr hN hk hel, fun i hi => (k3 i hi).tr hN hk hel, hk _ _ k4 (fun f q => by cases q), hk _ _ k5 (fun f q => by cases q), fun i hi t ht => (k6 i hi t ht).tr hN hk,
    fun p' hp' => ?_, fun c hc => (k8 c hc).tr (fun fs f q => by cases q) hk, k9, k10⟩
  show mPt _ (va_up A.2.1 p (some y) p') (D.2.2.2.2.1 p')
  simp only [va_up]
  by_cases e : p' = p
  · subst e
    rw [if_pos rfl, e1]
    exact ⟨b1, b2, b3, gUp_at⟩
  · rw [if_neg e]
    have k := k7 p' hp'
    cases hx' : A.2.1 p' with
    | none =>
      cases hq' : D.2.2.2.2.1 p' with
      | none => exact True.intro
      | some z => rw [hx', hq'] at k; exact k.elim
    | some x' =>
      cases hq' : D.2.2.2.2.1 p' with
      | none => rw [hx', hq'] at k; exact k.elim
      | some z =>
        rw [hx', hq'] at k
        obtain ⟨i1, i2, i3⟩ := x'
        exact ⟨k.1, k.2.1, k.2.2.1, by rw [gUp_ne (by rintro rfl; exact e (k9.2.2.2.1 _ _ _ hp' hp hq' e1))]; exact k.2.2.2⟩
theorem MRep.setC {w : Nat → Nat} {G : gH} {o : Nat} {A : mS} {D : mD} (h : MRep w G o A D) {c q : Nat} {x y : Nat × Nat × Int32 × Int32} (hc : c < 3) (hx : A.2.2.1 c = some x) (hq : D.2.2.2.2.2 c = some q) (b1 : y.1 < 6) (b2 : y.2.1 < 100) :
    MRep w (gUp G q (.inr (4, [.int (nI y.1), .int (nI y.2.1), .int y.2.2.1, .int y.2.2.2]))) o (A.1, A.2.1, va_up A.2.2.1 c (some y), A.2.2.2) D := by
  obtain ⟨q', e1, e2, e3, e5⟩ := h.cur hc hx
  have hqq : q' = q := Option.some.inj (e1.symm.trans hq)
  subst hqq
  obtain ⟨k1, k2, k3, k4, k5, k6, k7, k8, k9, k10⟩ := h
  have hk : gSm (fun e => ∀ fs, e ≠ .inr (4, fs)) G (gUp G q' (.inr (4, [.int (nI y.1), .int (nI y.2.1), .int y.2.2.1, .int y.2.2.2]))) := gSm.up e5 (fun q => q _ rfl)
  have hel : gKeep G (gUp G q' (.inr (4, [.int (nI y.1), .int (nI y.2.1), .int y.2.2.1, .int y.2.2.2]))) := gKeep.up e5 (fun _ q => by cases q) (fun _ _ q => by cases q)
  have hN : mN3 (fun e => ∀ fs, e ≠ .inr (4, fs)) := ⟨fun fs f q => (by cases q), fun c n f hc f' q => (by cases q), fun g f q => (by cases q)⟩
  refine ⟨hk _ _ k1 (fun f q => by cases q), k2.tr hN hk hel, fun i hi => (k3 i hi).tr hN hk hel, hk _ _ k4 (fun f q => by cases q), hk _ _ k5 (fun f q => by cases q), fun i hi t ht => (k6 i hi t ht).tr hN hk,
    fun p hp => (k7 p hp).tr (fun fs f q => by cases q) hk, fun c' hc' => ?_, k9, k10⟩
  show mCu _ (va_up A.2.2.1 c (some y) c') (D.2.2.2.2.2 c')
  simp only [va_up]
  by_cases e : c' = c
  · subst e
    rw [if_pos rfl, e1]
    exact ⟨b1, b2, gUp_at⟩
  · rw [if_neg e]
    have k := k8 c' hc'
    cases hx' : A.2.2.1 c' with
    | none =>
      cases hq' : D.2.2.2.2.2 c' with
      | none => exact True.intro
      | some z => rw [hx', hq'] at k; exact k.elim
    | some x' =>
      cases hq' : D.2.2.2.2.2 c' with
      | none => rw [hx', hq'] at k; exact k.elim
      | some z =>
        rw [hx', hq'] at k
        obtain ⟨i1, i2, i3, i4⟩ := x'
        exact ⟨k.1, k.2.1, by rw [gUp_ne (by rintro rfl; exact e (k9.2.2.2.2 _ _ _ hc' hc hq' e1))]; exact k.2.2⟩

-- a change of a list's length: first the lengths on its way
theorem ofInt_nI (n : Nat) : Int32.ofInt (n : Int) = nI n := by
  first
  | exact Int32.ofInt_natCast
  | exact Int32.ofInt_eq_ofNat
  | exact (Int32.ofNat_eq_ofInt ..).symm
  | (show Int32.mk (UInt32.mk (BitVec.ofInt 32 (n : Int))) = Int32.mk (UInt32.mk (BitVec.ofNat 32 n)); rw [BitVec.ofInt_natCast])
theorem nI_int {l : Nat} {z : Int} (h : 0 ≤ (l : Int) + z) : nI l + Int32.ofInt z = nI ((l : Int) + z).toNat := by
  rw [← ofInt_nI, ← ofInt_nI, ← Int32.ofInt_add, Int.toNat_of_nonneg h]
theorem mRw_va {P : Nat → Option (Nat × Nat × Nat)} {p : Nat} {x : Nat × Nat × Nat} {l : Nat} (hx : P p = some x) : ∀ (d q : Nat), mRw (va_up P p (some (x.1, x.2.1, l))) d q = mRw P d q
  | 0, _ => rfl
  | d + 1, q => by
    unfold mRw
    by_cases hq : q < 2
    · rw [if_pos hq, if_pos hq]
    · rw [if_neg hq, if_neg hq]
      simp only [va_up]
      by_cases e : q = p
      · subst e
        rw [if_pos rfl, hx]
        obtain ⟨o', f, l'⟩ := x
        show Option.map _ (mRw _ d o') = Option.map _ (mRw P d o')
        have := mRw_va (P := P) (l := l) hx d o'
        rw [← this]
      · rw [if_neg e]
        cases P q with
        | none => rfl
        | some y =>
          obtain ⟨o', f, l'⟩ := y
          show Option.map _ (mRw _ d o') = Option.map _ (mRw P d o')
          have := mRw_va (P := P) (l := l) hx d o'
          rw [← this]
theorem mOk.va {P : Nat → Option (Nat × Nat × Nat)} (h : mOk P) {p : Nat} {x : Nat × Nat × Nat} {l : Nat} (hx : P p = some x) : mOk (va_up P p (some (x.1, x.2.1, l))) := by
  obtain ⟨h0, ρ, h1, h2⟩ := h
  have hn : ∀ q, P q ≠ none → va_up P p (some (x.1, x.2.1, l)) q ≠ none := by
    intro q hq
    simp only [va_up]
    by_cases e : q = p
    · rw [if_pos e]; exact Option.some_ne_none _
    · rw [if_neg e]; exact hq
  refine ⟨fun q y hq => ?_, ρ, h1, fun q y hq => ?_⟩
  · simp only [va_up] at hq
    by_cases e : q = p
    · subst e; exact h0 q x hx
    · rw [if_neg e] at hq; exact h0 q y hq
  · have hq' := hq
    simp only [va_up] at hq
    by_cases e : q = p
    · subst e
      rw [if_pos rfl] at hq
      rw [← Option.some.inj hq]
      exact (h2 q x hx).imp_right (fun k => ⟨hn _ k.1, k.2⟩)
    · rw [if_neg e] at hq
      exact (h2 q y hq).imp_right (fun k => ⟨hn _ k.1, k.2⟩)
/-- every length on the way changes by z -/
def mChL (z : Int) : Nat → mS → Nat → mS
  | 0, A, _ => A
  | d + 1, A, p => if p < 2 then A else match A.2.1 p with
    | none => A
    | some x => mChL z d (A.1, va_up A.2.1 p (some (x.1, x.2.1, ((x.2.2 : Int) + z).toNat)), A.2.2.1, A.2.2.2) x.1
def mChOk (z : Int) : Nat → mS → Nat → Prop
  | 0, _, _ => True
  | d + 1, A, p => p < 2 ∨ match A.2.1 p with
    | none => True
    | some x => (0 ≤ (x.2.2 : Int) + z ∧ (x.2.2 : Int) + z < 100) ∧ mChOk z d (A.1, va_up A.2.1 p (some (x.1, x.2.1, ((x.2.2 : Int) + z).toNat)), A.2.2.1, A.2.2.2) x.1
theorem m_ch8 {w : Nat → Nat} {o : Nat} {x1 x3 : Int32} {z : Int} {K : gH → Nat → Int32 → Int32 → gR} : ∀ (d n p r b : Nat) (G : gH) (A : mS) (D : mD), d ≤ n → p < 6 → gWf G → MRep w G o A D → mOk A.2.1 → mRw A.2.1 d p = some (r, b) → mChOk z d A p →
    ∃ G', f_M_change_L8 K n G o x1 (Int32.ofInt z) x3 (nI p) = K G' o x1 x3 ∧ MRep w G' o (mChL z d A p) D ∧ mSq 0 0 G G' ∧ mOk (mChL z d A p).2.1 ∧ (∀ d' q, mRw (mChL z d A p).2.1 d' q = mRw A.2.1 d' q) ∧ ∀ q, A.2.1 q = none ↔ (mChL z d A p).2.1 q = none
  | 0, _, _, _, _, _, _, _, _, _, _, _, _, k, _ => by cases k
  | d + 1, 0, _, _, _, _, _, _, hn, _, _, _, _, _, _ => absurd hn (by omega)
  | d + 1, n + 1, p, r, b, G, A, D, hn, hp, hw, h, hok, k, hz => by
    unfold mRw at k
    unfold f_M_change_L8 mChL
    unfold mChOk at hz
    by_cases h2 : p < 2
    · refine ⟨G, ?_, ?_, mSq.refl, ?_, ?_, ?_⟩
      · rw [if_pos (nI_lt h2 (by omega))]
      · rw [if_pos h2]; exact h
      · rw [if_pos h2]; exact hok
      · rw [if_pos h2]; exact fun _ _ => rfl
      · rw [if_pos h2]; exact fun _ => Iff.rfl
    · rw [if_neg h2] at k
      rw [if_neg (nI_nlt (by omega) (by omega)), if_neg h2, gFA_of h.1 rfl rfl]
      cases hq : A.2.1 p with
      | none => rw [hq] at k; cases k
      | some x =>
        rw [hq] at k
        obtain ⟨q, e1, e2, e3, e4, e5⟩ := h.part hp hq
        rw [hq] at hz
        have hz' := hz.resolve_left h2
        simp only at hz'
        have hr1 : ∃ b', mRw A.2.1 d x.1 = some (r, b') := by
          obtain ⟨o', f, l⟩ := x
          simp only at k
          cases hr : mRw A.2.1 d o' with
          | none => rw [hr] at k; cases k
          | some y =>
            obtain ⟨r', b'⟩ := y
            rw [hr] at k; cases k
            exact ⟨b', rfl⟩
        obtain ⟨b', hr1⟩ := hr1
        have hl : (((x.2.2 : Int) + z).toNat) < 100 := by omega
        have h1 : MRep w (gUp G q (.inr (5, [.int (nI x.1), .int (nI x.2.1), .int (nI ((x.2.2 : Int) + z).toNat)]))) o (A.1, va_up A.2.1 p (some (x.1, x.2.1, ((x.2.2 : Int) + z).toNat)), A.2.2.1, A.2.2.2) D := h.setP (y := (x.1, x.2.1, ((x.2.2 : Int) + z).toNat)) hp hq e1 e2 e3 hl
        have s1 : mSq 0 0 G (gUp G q (.inr (5, [.int (nI x.1), .int (nI x.2.1), .int (nI ((x.2.2 : Int) + z).toNat)]))) := mSq.up hw e5 (Or.inl ⟨5, _, rfl, by omega⟩) (fun _ q => by cases q)
        have hc5 : (gUp G q (.inr (5, [.int (nI x.1), .int (nI x.2.1), .int (nI ((x.2.2 : Int) + z).toNat)]))).2.2 q = some (.inr (5, [.int (nI x.1), .int (nI x.2.1), .int (nI ((x.2.2 : Int) + z).toNat)])) := gUp_at
        have hset : gUp G q (.inr (5, ([.int (nI x.1), .int (nI x.2.1), .int (nI x.2.2)] : List Value).set 2 (.int (nI ((x.2.2 : Int) + z).toNat)))) = gUp G q (.inr (5, [.int (nI x.1), .int (nI x.2.1), .int (nI ((x.2.2 : Int) + z).toNat)])) := rfl
        generalize gUp G q (.inr (5, [.int (nI x.1), .int (nI x.2.1), .int (nI ((x.2.2 : Int) + z).toNat)])) = G1 at h1 s1 hc5 hset
        obtain ⟨G', z1, z2, z3, z4, z5, z6⟩ := m_ch8 (x1 := x1) (x3 := x3) (z := z) (K := K) d n x.1 r b' _ _ D (by omega) e2 (s1.wf hw) h1 (hok.va hq) (by rw [← hr1]; exact mRw_va hq d x.1) hz'.2
        refine ⟨G', ?_, z2, s1.trans z3, z4, fun d' q' => (z5 d' q').trans (mRw_va hq d' q'), fun q' => ?_⟩
        · rw [gLdq_of h.2.2.2.1 rfl hp (by omega) e1, gFI_of e5 rfl rfl, nI_int hz'.1.1, gPut_of (ci := 5) e5 (by simp), hset, gFA_of h1.1 rfl rfl, gLdq_of h1.2.2.2.1 rfl hp (by omega) e1, gFI_of hc5 rfl rfl]
          exact z1
        · rw [← z6 q']
          show _ ↔ va_up A.2.1 p _ q' = none
          simp only [va_up]
          by_cases e : q' = p
          · subst e
            rw [if_pos rfl, hq]
            exact ⟨fun q => absurd q (Option.some_ne_none _), fun q => absurd q (Option.some_ne_none _)⟩
          · rw [if_neg e]

-- then the cursors on its row: those on rows grow stale, those on parts come to their end
def mCC (r : Nat) (exc : Int32) (A : mS) (c : Nat) : mS := if nI c = exc then A else match A.2.2.1 c with
  | some x => if mRo A.2.1 x.1 = r then (if x.1 < 2 then (A.1, A.2.1, va_up A.2.2.1 c (some (x.1, x.2.1, x.2.2.1, nI 1)), A.2.2.2) else mEndC A c) else A
  | none => A
def mCV (A : mS) : Prop := ∀ c x, A.2.2.1 c = some x → x.1 < 2 ∨ A.2.1 x.1 ≠ none
theorem mCC_P {r : Nat} {exc : Int32} {A : mS} {c : Nat} : (mCC r exc A c).2.1 = A.2.1 := by
  unfold mCC
  by_cases h : nI c = exc
  · rw [if_pos h]
  · rw [if_neg h]
    cases A.2.2.1 c with
    | none => rfl
    | some x =>
      show (if mRo A.2.1 x.1 = r then _ else A).2.1 = _
      split
      · split <;> rfl
      · rfl
theorem mCC_Ps {r : Nat} {exc : Int32} : ∀ (l : List Nat) (A : mS), (l.foldl (mCC r exc) A).2.1 = A.2.1
  | [], _ => rfl
  | c :: l, A => by rw [List.foldl_cons, mCC_Ps l, mCC_P]
theorem m_ch55 {w : Nat → Nat} {o r : Nat} {x1 exc : Int32} {K : gH → Nat → Int32 → Int32 → gR} (hr : r < 2) : ∀ (k j n : Nat) (G : gH) (A : mS) (D : mD), j + k = 3 → k < n → gWf G → MRep w G o A D → mOk A.2.1 → (∀ c x, j ≤ c → A.2.2.1 c = some x → x.1 < 2 ∨ A.2.1 x.1 ≠ none) →
    ∃ (G' : gH) (D' : (Nat → Option Nat) × (Nat → Option Nat)), f_M_change_L55 K n G o x1 exc (nI r) (nI j) = K G' o x1 (nI r) ∧ MRep w G' o ((List.range' j k).foldl (mCC r exc) A) (dS D D') ∧ mSq 0 0 G G'
  | _, _, 0, _, _, _, _, hn, _, _, _, _ => absurd hn (Nat.not_lt_zero _)
  | 0, j, n + 1, G, A, D, hj, _, hw, h, _, _ => by
    refine ⟨G, D.2.2.2.2, ?_, h, mSq.refl⟩
    unfold f_M_change_L55
    rw [if_pos (nI_le (by omega) (by omega))]
  | k + 1, j, n + 1, G, A, D, hj, hn, hw, h, hok, hcv => by
    have hj3 : j < 3 := by omega
    have hcv' : ∀ c x, j + 1 ≤ c → A.2.2.1 c = some x → x.1 < 2 ∨ A.2.1 x.1 ≠ none := fun c x hc => hcv c x (by omega)
    unfold f_M_change_L55
    rw [if_neg (nI_ge hj3 (by omega)), List.range'_succ, List.foldl_cons, nI_add]
    by_cases hje : nI j = exc
    · have e : mCC r exc A j = A := by unfold mCC; rw [if_pos hje]
      rw [if_pos hje, e]
      exact m_ch55 hr k (j + 1) n G A D (by omega) (by omega) hw h hok hcv'
    · rw [if_neg hje, gFA_of h.1 rfl rfl]
      cases hc : A.2.2.1 j with
      | none =>
        rw [gLdq_no h.2.2.2.2.1 rfl hj3 (by omega) (h.nocur hj3 hc)]
        have e : mCC r exc A j = A := by unfold mCC; rw [if_neg hje, hc]
        rw [e]
        exact m_ch55 hr k (j + 1) n G A D (by omega) (by omega) hw h hok hcv'
      | some x =>
        obtain ⟨q, e1, e2, e3, e4⟩ := h.cur hj3 hc
        obtain ⟨r', b', hrw⟩ := hok.rw' (hcv j x (Nat.le_refl _) hc)
        have hr' := mRw_lt _ _ _ _ hrw
        have hRo : mRo A.2.1 x.1 = r' := by unfold mRo; rw [hrw]
        rw [gLdq_of h.2.2.2.2.1 rfl hj3 (by omega) e1, gFA_of h.1 rfl rfl, gLdq_of h.2.2.2.2.1 rfl hj3 (by omega) e1, gFI_of e4 rfl rfl, gOb_of h.1 rfl, m_rowOf h _ _ _ _ e2 hrw]
        show ∃ G' D', (if nI r' = nI r then _ else _) = _ ∧ _
        by_cases hrr : r' = r
        · rw [if_pos (by rw [hrr]), gFA_of h.1 rfl rfl, gLdq_of h.2.2.2.2.1 rfl hj3 (by omega) e1, gFI_of e4 rfl rfl]
          by_cases h2 : x.1 < 2
          · have e : mCC r exc A j = (A.1, A.2.1, va_up A.2.2.1 j (some (x.1, x.2.1, x.2.2.1, nI 1)), A.2.2.2) := by unfold mCC; rw [if_neg hje, hc]; show (if mRo A.2.1 x.1 = r then _ else A) = _; rw [if_pos (hRo.trans hrr), if_pos h2]
            have h1 : MRep w (gUp G q (.inr (4, [.int (nI x.1), .int (nI x.2.1), .int x.2.2.1, .int (nI 1)]))) o (A.1, A.2.1, va_up A.2.2.1 j (some (x.1, x.2.1, x.2.2.1, nI 1)), A.2.2.2) D := h.setC (y := (x.1, x.2.1, x.2.2.1, nI 1)) hj3 hc e1 e2 e3
            have s1 : mSq 0 0 G (gUp G q (.inr (4, [.int (nI x.1), .int (nI x.2.1), .int x.2.2.1, .int (nI 1)]))) := mSq.up hw e4 (Or.inl ⟨4, _, rfl, by omega⟩) (fun _ q => by cases q)
            obtain ⟨G', D', z1, z2, z3⟩ := m_ch55 (x1 := x1) (exc := exc) (K := K) hr k (j + 1) n _ _ D (by omega) (by omega) (s1.wf hw) h1 hok (fun c y hc' hy => by
              simp only [va_up] at hy
              rw [if_neg (by omega)] at hy
              exact hcv' c y hc' hy)
            refine ⟨G', D', ?_, by rw [e]; exact z2, s1.trans z3⟩
            rw [if_pos (nI_lt h2 (by omega)), gFA_of h.1 rfl rfl, gLdq_of h.2.2.2.2.1 rfl hj3 (by omega) e1, gPut_of (ci := 4) e4 (by simp)]
            exact z1
          · have e : mCC r exc A j = mEndC A j := by unfold mCC; rw [if_neg hje, hc]; show (if mRo A.2.1 x.1 = r then _ else A) = _; rw [if_pos (hRo.trans hrr), if_neg h2]
            obtain ⟨G1, r1, r2, r3⟩ := m_endCursor hw h hj3
            obtain ⟨G', D', z1, z2, z3⟩ := m_ch55 (x1 := x1) (exc := exc) (K := K) hr k (j + 1) n G1 _ _ (by omega) (by omega) (r3.wf hw) r2 hok (fun c y hc' hy => by
              have hy' : va_up A.2.2.1 j none c = some y := hy
              simp only [va_up] at hy'
              rw [if_neg (by omega)] at hy'
              exact hcv' c y hc' hy')
            refine ⟨G', D', ?_, by rw [e]; exact z2, r3.trans z3⟩
            rw [if_neg (nI_nlt (by omega) (by omega)), gOb_of h.1 rfl, r1]
            exact z1
        · have e : mCC r exc A j = A := by unfold mCC; rw [if_neg hje, hc]; show (if mRo A.2.1 x.1 = r then _ else A) = _; rw [if_neg (fun q => hrr (hRo.symm.trans q))]
          rw [if_neg (fun q => hrr ((nI_eq (by omega) (by omega)).mp q)), e]
          exact m_ch55 hr k (j + 1) n G A D (by omega) (by omega) hw h hok hcv'
def mChange (A : mS) (p : Nat) (z : Int) (exc : Int32) : mS := if z = 0 then A else
  (mES ((List.range' 0 3).foldl (mCC (mRo A.2.1 p) exc) (mChL z zDp A p)) (mRo A.2.1 p) p).1
theorem mChL_C {z : Int} : ∀ (d : Nat) (A : mS) (p : Nat), (mChL z d A p).2.2 = A.2.2 ∧ (mChL z d A p).1 = A.1
  | 0, _, _ => ⟨rfl, rfl⟩
  | d + 1, A, p => by
    unfold mChL
    by_cases h2 : p < 2
    · rw [if_pos h2]; exact ⟨rfl, rfl⟩
    · rw [if_neg h2]
      cases A.2.1 p with
      | none => exact ⟨rfl, rfl⟩
      | some x => exact mChL_C d _ x.1
theorem m_change {w : Nat → Nat} {G : gH} {o p : Nat} {A : mS} {D : mD} {z : Int} {exc : Int32} (hw : gWf G) (h : MRep w G o A D) (hok : mOk A.2.1) (hcv : mCV A) (hp : p < 6) (hpv : p < 2 ∨ A.2.1 p ≠ none) (hz : -100 < z ∧ z < 100) (hch : mChOk z zDp A p) :
    ∃ (G' : gH) (D' : (Nat → Option Nat) × (Nat → Option Nat)), f_M_change G o (nI p) (Int32.ofInt z) exc = rV G' ∧ MRep w G' o (mChange A p z exc) (dS D D') ∧ mSq 0 0 G G' ∧ mOk (mChange A p z exc).2.1 := by
  unfold f_M_change mChange
  by_cases hz0 : z = 0
  · subst hz0
    rw [if_pos (show Int32.ofInt 0 = 0 by decide), if_pos rfl]
    exact ⟨G, D.2.2.2.2, rfl, h, mSq.refl, hok⟩
  · have hne : Int32.ofInt z ≠ 0 := by
      intro q
      have q' := congrArg Int32.toInt q
      rw [Int32.toInt_ofInt_of_le (by omega) (by omega)] at q'
      exact hz0 q'
    rw [if_neg hne, if_neg hz0]
    obtain ⟨r, b, hrw⟩ := hok.rw' hpv
    have hr := mRw_lt _ _ _ _ hrw
    have hRo : mRo A.2.1 p = r := by unfold mRo; rw [hrw]
    rw [hRo]
    obtain ⟨G1, a1, a2, a3, a4, a5, a6⟩ := m_ch8 (x1 := nI p) (x3 := exc) (z := z) (K := fun G12 x9 x10 x11 => gOb G12 x9 6 fun o14 => bI (f_M_rowOf zDp G12 x9 x10) fun v17 G16 => f_M_change_L55 (fun G45 x42 x43 x44 => gOb G45 x42 6 fun o47 => bI (f_M_endParts G45 x42 x44 x43) fun v50 G49 => rV G49) zFu G16 x9 x10 x11 v17 (nI 0))
      zDp zFu p r b G A D (by unfold zDp zFu; omega) hp hw h hok hrw hch
    have hrw1 : mRw (mChL z zDp A p).2.1 zDp p = some (r, b) := (a5 zDp p).trans hrw
    obtain ⟨G2, D2, b1, b2, b3⟩ := m_ch55 (x1 := nI p) (exc := exc) (K := fun G45 x42 x43 x44 => gOb G45 x42 6 fun o47 => bI (f_M_endParts G45 x42 x44 x43) fun v50 G49 => rV G49) hr 3 0 zFu G1 _ D rfl (by unfold zFu; omega) (a3.wf hw) a2 a4 (fun c x _ hx => by
      rw [(mChL_C zDp A p).1] at hx
      exact (hcv c x hx).imp_right (fun k q => k ((a6 _).mpr q)))
    have s12 := a3.trans b3
    obtain ⟨G3, D3, c1, c2, c3, -, c5, -⟩ := m_endParts (r := r) (exc := p) (s12.wf hw) b2 (by rw [mCC_Ps]; exact a4) hr hp (hpv.imp_right (fun k => by rw [mCC_Ps]; exact fun q => k ((a6 _).mpr q)))
    refine ⟨G3, D3, ?_, c2, s12.trans c3, c5⟩
    rw [a1, gOb_of a2.1 rfl, m_rowOf a2 _ _ _ _ hp hrw1]
    show f_M_change_L55 _ zFu G1 o (nI p) exc (nI r) (nI 0) = _
    rw [b1, gOb_of b2.1 rfl, c1]
    rfl

-- a thing is made
theorem gSm.new {G G' : gH} (hw : gWf G) (h : ∀ q, q < G.2.1 → G'.2.2 q = G.2.2 q) : gSm (fun _ => True) G G' := fun q z hq _ => by rw [h q (hw q z hq)]; exact hq
theorem gKeep.new {G G' : gH} (hw : gWf G) (h : ∀ q, q < G.2.1 → G'.2.2 q = G.2.2 q) : gKeep G G' := by
  rintro y (⟨fs, hy⟩ | ⟨m, g, hy⟩)
  · exact Or.inl ⟨fs, by rw [h y (hw _ _ hy)]; exact hy⟩
  · exact Or.inr ⟨m, g, by rw [h y (hw _ _ hy)]; exact hy⟩
theorem mN_all : mN (fun _ => True) := ⟨⟨fun _ => True.intro, fun _ _ _ _ => True.intro, fun _ => True.intro⟩, ⟨fun _ _ => True.intro, fun _ _ => True.intro⟩, fun _ => True.intro, fun _ => True.intro⟩
theorem MRep.new {w : Nat → Nat} {G G' : gH} {o : Nat} {A : mS} {D : mD} (hw : gWf G) (h : MRep w G o A D) (hs : ∀ q, q < G.2.1 → G'.2.2 q = G.2.2 q) : MRep w G' o A D :=
  h.tr mN_all (gSm.new hw hs) (gKeep.new hw hs) (by rw [hs o (hw _ _ h.1)]; exact h.1) rfl rfl rfl
theorem gNewA_of {G : gH} {ka n : Nat} {k : Nat → gH → gR} (hn : n ≤ 60000000) : gNewA G ka (nI n) k = k G.2.1 (gNew G n (zI ka n (fun _ => 0))) := by
  unfold gNewA
  rw [nI_clamp (by omega), if_pos ⟨nI_pos (by omega), hn⟩]
theorem gStI_of {G : gH} {a n i : Nat} {v : Int32} {f : Nat → Int32} {k : gH → gR} (h : G.2.2 a = some (zI 100 n f)) (hi : i < n) (hn : n < 2 ^ 31) : gSt G a 100 (nI i) v k = k (gUp G a (zI 100 n (upd f i v))) := by
  unfold gSt gArW; rw [h]; simp [zI, gIn_nI hi hn, nI_clamp (Nat.lt_trans hi hn)]
theorem m_make {w : Nat → Nat} {G : gH} {o : Nat} {A : mS} {D : mD} (hw : gWf G) (h : MRep w G o A D) (key m : Nat) (hm : A.2.2.2 1 = nI m) :
    ∃ G', f_M_make G o (nI key) = rA G.2.1 G' ∧ MRep w G' o (mSet A 1 (A.2.2.2 1 + nI 1)) D ∧ mSq 1 2 G G' ∧ mTh G' G.2.1 (key, m) ∧ G'.2.1 = G.2.1 + 1 := by
  have h1 := h.setI 1 (A.2.2.2 1 + nI 1)
  have s1 : mSq 0 0 G (gUp G o (.inr (6, mOb (mSet A 1 (A.2.2.2 1 + nI 1)) D))) := mSq.up hw h.1 (Or.inl ⟨6, _, rfl, by omega⟩) (fun _ q => by cases q)
  unfold f_M_make
  rw [m_int h (j := 1) (i := 4) (by omega) rfl, m_put h (j := 1) (i := 4) (by omega) rfl]
  have hw1 := s1.wf hw
  have hsz : (gUp G o (.inr (6, mOb (mSet A 1 (A.2.2.2 1 + nI 1)) D))).2.1 = G.2.1 := rfl
  generalize gUp G o (.inr (6, mOb (mSet A 1 (A.2.2.2 1 + nI 1)) D)) = G1 at h1 s1 hw1 hsz
  rw [gNewA_of (by omega), hsz]
  have n1 : (gNew G1 2 (zI 100 2 (fun _ => 0))).2.2 G.2.1 = some (zI 100 2 (fun _ => 0)) := by rw [← hsz]; exact gNew_at
  rw [gStI_of n1 (by omega) (by omega)]
  have hsame : ∀ f q, q < G1.2.1 → (gUp (gUp (gNew G1 2 (zI 100 2 (fun _ => 0))) G.2.1 (zI 100 2 (upd (fun _ => 0) 0 (nI key)))) G.2.1 (zI 100 2 f)).2.2 q = G1.2.2 q := by
    intro f q hq
    rw [gUp_ne (by omega), gUp_ne (by omega), gNew_ne (by omega)]
  have hsame1 : ∀ q, q < G1.2.1 → (gUp (gNew G1 2 (zI 100 2 (fun _ => 0))) G.2.1 (zI 100 2 (upd (fun _ => 0) 0 (nI key)))).2.2 q = G1.2.2 q := by
    intro q hq
    rw [gUp_ne (by omega), gNew_ne (by omega)]
  have h2 := h1.new (G' := gUp (gNew G1 2 (zI 100 2 (fun _ => 0))) G.2.1 (zI 100 2 (upd (fun _ => 0) 0 (nI key)))) hw1 hsame1
  rw [m_int h2 (j := 1) (i := 4) (by omega) rfl, gStI_of gUp_at (by omega) (by omega)]
  refine ⟨_, rfl, h1.new hw1 (hsame _), (s1.trans (k' := 1) (n' := 2) ⟨⟨?_, ?_, ?_, ?_, ?_, fun q hq _ => hsame _ q hq⟩, gKeep.new hw1 (hsame _)⟩).mono (by omega) (by omega), ⟨_, gUp_at, ?_, ?_⟩, ?_⟩
  · exact Nat.le_succ _
  · exact Nat.le_refl _
  · exact Nat.le_add_right _ _
  · exact Nat.le_refl _
  · intro _
    refine ((gWf.new hw1).up ?_).up ?_
    · show G.2.1 < G1.2.1 + 1; omega
    · show G.2.1 < G1.2.1 + 1; omega
  · show upd (upd (fun _ => 0) 0 (nI key)) 1 _ 0 = nI key
    simp [upd]
  · show upd (upd (fun _ => 0) 0 (nI key)) 1 _ 1 = nI m
    simp only [upd, if_true]
    show A.2.2.2 1 + nI 1 - nI 1 = nI m
    rw [← hm]; exact Int32.add_sub_cancel _ _
  · show G1.2.1 + 1 = _; omega

-- .. and its rows
def mKd (e : zE) : Prop := (∃ c fs, e = .inr (c, fs) ∧ (c = 4 ∨ c = 5 ∨ c = 6 ∨ c = 9)) ∨ ∃ c n f, e = zQ c n f ∧ c < 1000
def mOwn (G : gH) (q : Nat) : Prop := ∃ e, G.2.2 q = some e ∧ mKd e
def mSt (k n : Nat) (G G' : gH) : Prop := gFr (mOwn G) k n G G' ∧ gKeep G G'
theorem mSt.refl {G : gH} : mSt 0 0 G G := ⟨gFr.refl, gKeep.refl⟩
theorem mSt.trans {k n k' n' : Nat} {G G1 G2 : gH} (h1 : mSt k n G G1) (h2 : mSt k' n' G1 G2) : mSt (k + k') (n + n') G G2 := by
  refine ⟨?_, h1.2.trans h2.2⟩
  obtain ⟨a1, a2, a3, a4, a5, a6⟩ := h1.1
  obtain ⟨b1, b2, b3, b4, b5, b6⟩ := h2.1
  refine ⟨by omega, by omega, by omega, by omega, fun h => b5 (a5 h), fun q hq hp => ?_⟩
  have e := a6 q hq hp
  rw [b6 q (by omega) (fun ⟨z, hz, hk⟩ => hp ⟨z, by rw [← e]; exact hz, hk⟩), e]
theorem mSt.mono {k n k' n' : Nat} {G G' : gH} (h : mSt k n G G') (hk : k ≤ k') (hn : n ≤ n') : mSt k' n' G G' := ⟨h.1.mono (fun _ _ p => p) hk hn, h.2⟩
theorem mSt.up {G : gH} {q : Nat} {e0 e' : zE} (hw : gWf G) (h0 : G.2.2 q = some e0) (hm : mKd e0) (h9 : ∀ fs, e0 ≠ .inr (9, fs)) : mSt 0 0 G (gUp G q e') :=
  ⟨(gFr.up (hw _ _ h0)).mono (fun _ _ p => by subst p; exact ⟨e0, h0, hm⟩) (Nat.le_refl _) (Nat.le_refl _),
   gKeep.up h0 h9 (by
    intro m g q
    subst q
    rcases hm with ⟨c, fs, q, -⟩ | ⟨c, n, f, q, -⟩ <;> cases q)⟩
theorem mSt.wf {k n : Nat} {G G' : gH} (h : mSt k n G G') (hw : gWf G) : gWf G' := h.1.2.2.2.2.1 hw
theorem mSq.st {k n : Nat} {G G' : gH} (h : mSq k n G G') : mSt k n G G' := by
  refine ⟨h.1.mono (fun q _ hq => ?_) (Nat.le_refl _) (Nat.le_refl _), h.2⟩
  obtain ⟨e, he, hk⟩ := hq
  refine ⟨e, he, ?_⟩
  rcases hk with ⟨c, fs, e1, e2⟩ | ⟨c, n, f, e1, e2⟩
  · exact Or.inl ⟨c, fs, e1, by omega⟩
  · exact Or.inr ⟨c, n, f, e1, by omega⟩
-- a thing comes into a row
theorem isAL.cell {w : Nat → Nat} {G G' : gH} {a e : Nat} {xs : List Nat} (h : isAL w G a e xs) (ha : G'.2.2 a = G.2.2 a) (he : G'.2.2 e = G.2.2 e) (hel : gKeep G G') : isAL w G' a e xs := by
  obtain ⟨m, κ, cap, f, h1, h2, h3, h4, h5, h6, h7⟩ := h
  exact ⟨m, κ, cap, f, by rw [ha]; exact h1, by rw [he]; exact h2, h3, h4, h5, h6, fun i hi y hy => hel y (h7 i hi y hy)⟩
theorem isAL.ne {w : Nat → Nat} {G : gH} {a e a' e' : Nat} {xs xs' : List Nat} (h : isAL w G a e xs) (h' : isAL w G a' e' xs') : a ≠ e' := by
  obtain ⟨m, κ, cap, f, h1, -⟩ := h
  obtain ⟨m', κ', cap', f', -, h2, -⟩ := h'
  rintro rfl
  rw [h1] at h2
  cases h2
def mRows (A : mS) (r : Nat) (ts : List (Nat × Nat × Nat)) : mS := (fun i => if i = r then ts else A.1 i, A.2)
def dRow (D : mD) (r e : Nat) : mD := (D.1, D.2.1, fun i => if i = r then e else D.2.2.1 i, D.2.2.2)
/-- only the list r of the model and its array have changed -/
theorem MRep.row {w : Nat → Nat} {G G' : gH} {o : Nat} {A : mS} {D : mD} (hw : gWf G) (h : MRep w G o A D) (hw0 : mW0 w G) {r e' : Nat} (hr : r < 2) {ts : List (Nat × Nat × Nat)}
    (hn : isAL w G' (D.2.1 r) e' (ts.map fun t => t.1)) (he' : (e' = D.2.2.1 r ∧ ∃ cap f, G.2.2 (D.2.2.1 r) = some (zQ 103 cap f)) ∨ e' = G.2.1)
    (hs : ∀ q, q < G.2.1 → ¬ (q = D.2.1 r ∨ (q = D.2.2.1 r ∧ e' = D.2.2.1 r)) → G'.2.2 q = G.2.2 q) (hel : gKeep G G') (hth : ∀ t, t ∈ ts → mTh G' t.1 t.2) (hlen : ts.length ≤ 31) :
    MRep w G' o (mRows A r ts) (dRow D r e') := by
  obtain ⟨k1, k2, k3, k4, k5, k6, k7, k8, k9, k10⟩ := h
  have hrow := k3 r hr
  have hal : ∃ fs, G.2.2 (D.2.1 r) = some (.inr (9, fs)) := by obtain ⟨m, κ, cap, f, h1, -⟩ := hrow; exact ⟨_, h1⟩
  obtain ⟨fs, hal⟩ := hal
  obtain ⟨f0, hw0⟩ := hw0
  -- cells that are neither the list nor its array stay
  have st : ∀ q z, G.2.2 q = some z → (∀ fs, z ≠ .inr (9, fs)) → (∀ n f, z ≠ zQ 103 n f) → G'.2.2 q = some z := by
    intro q z hq h9 hQ
    rw [hs q (hw _ _ hq), hq]
    rintro (rfl | ⟨rfl, e1⟩)
    · rw [hal] at hq; exact h9 _ (Option.some.inj hq).symm
    · rcases he' with ⟨-, cap, f, e2⟩ | e2
      · rw [e2] at hq; exact hQ _ _ (Option.some.inj hq).symm
      · have := hw _ _ hq; omega
  have stA : ∀ a e xs, isAL w G a e xs → a ≠ D.2.1 r → (e = D.2.2.1 r → e = w 0) → isAL w G' a e xs := by
    intro a e xs ha hne hee
    have hne' := hrow.ne ha
    have hne2 := ha.ne hrow
    obtain ⟨m, κ, cap, f, h1, h2, -⟩ := id ha
    refine ha.cell (hs a (hw _ _ h1) ?_) (hs e (hw _ _ h2) ?_) hel
    · rintro (q | ⟨q, -⟩)
      · exact hne q
      · exact hne2 q
    · rintro (q | ⟨q, q2⟩)
      · exact hne' q.symm
      · rcases he' with ⟨-, cap', f', e2⟩ | e2
        · have q3 := hee q
          rw [← q, q3, hw0] at e2
          have := (zQ_inj e2).1; omega
        · have := hw _ _ h2; omega
  have eW : D.2.2.1 r = w 0 → e' = G.2.1 := by
    intro q
    rcases he' with ⟨-, cap', f', e2⟩ | e2
    · rw [q, hw0] at e2
      have := (zQ_inj e2).1; omega
    · exact e2
  have hlt : ∀ i, i < 2 → D.2.2.1 i < G.2.1 := by
    intro i hi
    obtain ⟨m, κ, cap, f, -, h2, -⟩ := k3 i hi
    exact hw _ _ h2
  refine ⟨st _ _ k1 (fun _ q => by cases q) (fun _ _ q => by cases q), stA _ _ _ k2 (k9.2.1 r hr).1 (fun q => absurd q (k9.2.1 r hr).2), fun i hi => ?_,
    st _ _ k4 (fun _ q => by cases q) (fun _ _ q => by have := (zQ_inj (congrArg some q)).1; omega), st _ _ k5 (fun _ q => by cases q) (fun _ _ q => by have := (zQ_inj (congrArg some q)).1; omega), fun i hi t ht => ?_, fun p hp => ?_, fun c hc => ?_, ⟨k9.1, fun i hi => ⟨(k9.2.1 i hi).1, ?_⟩, ?_, k9.2.2.2.1, k9.2.2.2.2⟩, fun i hi => ?_⟩
  · show isAL w G' (D.2.1 i) (if i = r then e' else D.2.2.1 i) ((if i = r then ts else A.1 i).map _)
    by_cases hir : i = r
    · subst hir; rw [if_pos rfl, if_pos rfl]; exact hn
    · rw [if_neg hir, if_neg hir]
      have hx := k9.1
      have hy := k9.2.2.1
      rcases (by omega : (i = 0 ∧ r = 1) ∨ (i = 1 ∧ r = 0)) with ⟨rfl, rfl⟩ | ⟨rfl, rfl⟩
      · exact stA _ _ _ (k3 0 hi) hx hy
      · exact stA _ _ _ (k3 1 hi) hx.symm (fun q => q.trans (hy q.symm))
  · have ht' : t ∈ (if i = r then ts else A.1 i) := ht
    by_cases hir : i = r
    · rw [if_pos hir] at ht'; exact hth t ht'
    · rw [if_neg hir] at ht'
      exact (k6 i hi t ht').trs (N := fun z => (∀ fs, z ≠ .inr (9, fs)) ∧ ∀ n f, z ≠ zQ 103 n f) (fun g => ⟨fun _ q => (by cases q), fun _ _ q => (by cases q)⟩) (fun q z hq hz => st q z hq hz.1 hz.2)
  · exact (k7 p hp).tr (N := fun z => (∀ fs, z ≠ .inr (9, fs)) ∧ ∀ n f, z ≠ zQ 103 n f) (fun fs => ⟨fun _ q => (by cases q), fun _ _ q => (by cases q)⟩) (fun q z hq hz => st q z hq hz.1 hz.2)
  · exact (k8 c hc).tr (N := fun z => (∀ fs, z ≠ .inr (9, fs)) ∧ ∀ n f, z ≠ zQ 103 n f) (fun fs => ⟨fun _ q => (by cases q), fun _ _ q => (by cases q)⟩) (fun q z hq hz => st q z hq hz.1 hz.2)
  · show D.1.2.1 ≠ (if i = r then e' else D.2.2.1 i)
    by_cases hir : i = r
    · rw [if_pos hir]
      rcases he' with ⟨e1, -⟩ | e1
      · rw [e1]; exact (k9.2.1 r hr).2
      · obtain ⟨m, κ, cap, f, -, h2, -⟩ := k2
        have := hw _ _ h2; omega
    · rw [if_neg hir]; exact (k9.2.1 i hi).2
  · show (if 0 = r then e' else D.2.2.1 0) = (if 1 = r then e' else D.2.2.1 1) → (if 0 = r then e' else D.2.2.1 0) = w 0
    have l0 := hlt 0 (by omega)
    have l1 := hlt 1 (by omega)
    have hy := k9.2.2.1
    rcases (by omega : r = 0 ∨ r = 1) with rfl | rfl
    · rw [if_pos rfl, if_neg (by omega)]
      intro q
      rcases he' with ⟨e1, -⟩ | e1
      · have := eW (hy (e1.symm.trans q)); omega
      · omega
    · rw [if_neg (by omega), if_pos rfl]
      intro q
      rcases he' with ⟨e1, -⟩ | e1
      · exact hy (q.trans e1)
      · omega
  · show (if i = r then ts else A.1 i).length ≤ 31
    by_cases hir : i = r
    · rw [if_pos hir]; exact hlen
    · rw [if_neg hir]; exact k10 i hi
theorem ins_map {α β : Type} (f : α → β) (a : α) : ∀ (l : List α) (i : Nat), (l.insertIdx i a).map f = (l.map f).insertIdx i (f a)
  | l, 0 => by simp
  | [], i + 1 => by simp
  | x :: l, i + 1 => by simp [ins_map f a l i]
theorem ins_mem {α : Type} {a b : α} : ∀ (l : List α) (i : Nat), b ∈ l.insertIdx i a → b = a ∨ b ∈ l
  | l, 0, h => by simpa using h
  | [], i + 1, h => by simp at h
  | x :: l, i + 1, h => by
    rw [List.insertIdx_succ_cons] at h
    rcases List.mem_cons.mp h with q | q
    · exact Or.inr (List.mem_cons.mpr (Or.inl q))
    · exact (ins_mem l i q).imp_right (fun z => List.mem_cons.mpr (Or.inr z))
theorem m_come {w : Nat → Nat} {G : gH} {o p r b i : Nat} {A : mS} {D : mD} {t : Nat × Nat × Nat} (hw : gWf G) (h : MRep w G o A D) (hw0 : mW0 w G) (hp : p < 6) (k : mRw A.2.1 zDp p = some (r, b)) (hi : b + i ≤ (A.1 r).length) (hl : (A.1 r).length ≤ 30) (ht : mTh G t.1 t.2) :
    ∃ G' e', f_M_come w G o (nI p) (nI i) (t.1) = rV G' ∧ MRep w G' o (mRows A r ((A.1 r).insertIdx (b + i) t)) (dRow D r e') ∧ mSt 1 61 G G' ∧ ((e' = D.2.2.1 r ∧ ∃ cap f, G.2.2 (D.2.2.1 r) = some (zQ 103 cap f)) ∨ e' = G.2.1) ∧ gFr (fun q => q = D.2.1 r ∨ (q = D.2.2.1 r ∧ e' = D.2.2.1 r)) 1 61 G G' := by
  have hr := mRw_lt _ _ _ _ k
  have hrow := h.2.2.1 r hr
  obtain ⟨g, ht1, -⟩ := id ht
  obtain ⟨e', G', a1, a2, a3, a4, a5, a6⟩ := al_ins (i := b + i) (y := t.1) hw hrow (by rw [List.length_map]; omega) (by rw [List.length_map]; omega) (Or.inr ⟨_, _, ht1⟩) (hrow.ne hrow)
  obtain ⟨m, κ, cap, f, h1, h2, -⟩ := id hrow
  have hsame : ∀ q z, G.2.2 q = some z → (∀ fs, z ≠ .inr (9, fs)) → (∀ c n f, z ≠ zQ c n f) → G'.2.2 q = some z := by
    intro q z hq h9 hQ
    rw [a5.2.2.2.2.2 q (hw _ _ hq), hq]
    rintro (rfl | ⟨rfl, -⟩)
    · rw [h1] at hq; exact h9 _ (Option.some.inj hq).symm
    · rw [h2] at hq; exact hQ _ _ _ (Option.some.inj hq).symm
  refine ⟨G', e', ?_, h.row hw hw0 hr (by rw [ins_map]; exact a2) a4 (fun q hq hn => a5.2.2.2.2.2 q hq ?_) a6 (fun t' ht' => ?_) (by rw [List.length_insertIdx_of_le_length hi]; omega), ⟨a5.mono (fun q _ hq => ?_) (Nat.le_refl _) (Nat.le_refl _), a6⟩, a4, a5⟩
  · unfold f_M_come
    rw [gOb_of h.1 rfl, m_row h hp k]
    show gOb G o 6 _ = _
    rw [gOb_of h.1 rfl, m_base h _ _ _ _ hp k]
    show gOb G (D.2.1 r) 9 _ = _
    rw [gOb_of h1 rfl, nI_add, a1]
    rfl
  · exact hn
  · have ht2 : mTh G t'.1 t'.2 := by
      rcases ins_mem _ _ ht' with q | q
      · rw [q]; exact ht
      · exact h.2.2.2.2.2.1 r hr t' q
    obtain ⟨g', j1, j2⟩ := ht2
    exact ⟨g', hsame _ _ j1 (fun _ q => by cases q) (fun _ _ _ q => by cases q), j2⟩
  · rcases hq with rfl | ⟨rfl, he⟩
    · exact ⟨_, h1, Or.inl ⟨9, _, rfl, by omega⟩⟩
    · rcases a4 with ⟨-, cap', f', e2⟩ | e2
      · exact ⟨_, e2, Or.inr ⟨_, _, _, rfl, by decide⟩⟩
      · have := hw _ _ h2; omega
theorem er_map {α β : Type} (f : α → β) : ∀ (l : List α) (i : Nat), (l.eraseIdx i).map f = (l.map f).eraseIdx i
  | [], i => by simp
  | x :: l, 0 => by simp
  | x :: l, i + 1 => by simp [er_map f l i]
theorem er_mem {α : Type} {b : α} : ∀ (l : List α) (i : Nat), b ∈ l.eraseIdx i → b ∈ l
  | [], i, h => by simp at h
  | x :: l, 0, h => by simp at h; exact List.mem_cons.mpr (Or.inr h)
  | x :: l, i + 1, h => by
    rw [List.eraseIdx_cons_succ] at h
    rcases List.mem_cons.mp h with q | q
    · exact List.mem_cons.mpr (Or.inl q)
    · exact List.mem_cons.mpr (Or.inr (er_mem l i q))
theorem m_take {w : Nat → Nat} {G : gH} {o p r b i : Nat} {A : mS} {D : mD} {t : Nat × Nat × Nat} (hw : gWf G) (h : MRep w G o A D) (hw0 : mW0 w G) (hp : p < 6) (k : mRw A.2.1 zDp p = some (r, b)) (hi : (A.1 r)[b + i]? = some t) :
    ∃ G', f_M_take G o (nI p) (nI i) = rA (t.1) G' ∧ MRep w G' o (mRows A r ((A.1 r).eraseIdx (b + i))) (dRow D r (D.2.2.1 r)) ∧ mSt 0 0 G G' ∧ mTh G' t.1 t.2 ∧ gFr (fun q => q = D.2.1 r ∨ q = D.2.2.1 r) 0 0 G G' := by
  have hr := mRw_lt _ _ _ _ k
  have hrow := h.2.2.1 r hr
  have ht := h.2.2.2.2.2.1 r hr t (List.mem_of_getElem? hi)
  obtain ⟨G', a1, a2, a5, a6⟩ := al_remove (i := b + i) (x := t.1) hw hrow (by rw [List.getElem?_map, hi]; rfl) (hrow.ne hrow)
  obtain ⟨m, κ, cap, f, h1, h2, h3, h4, -⟩ := id hrow
  have hlt : b + i < (A.1 r).length := (List.getElem?_eq_some_iff.mp hi).1
  have hκ : ∃ cap f, G.2.2 (D.2.2.1 r) = some (zQ 103 cap f) := by
    rcases h3 with ⟨rfl, -⟩ | ⟨-, -, rfl⟩
    · exact ⟨cap, f, h2⟩
    · rw [List.length_map] at h4; omega
  have hsame : ∀ q z, G.2.2 q = some z → (∀ fs, z ≠ .inr (9, fs)) → (∀ c n f, z ≠ zQ c n f) → G'.2.2 q = some z := by
    intro q z hq h9 hQ
    rw [a5.2.2.2.2.2 q (hw _ _ hq), hq]
    rintro (rfl | rfl)
    · rw [h1] at hq; exact h9 _ (Option.some.inj hq).symm
    · rw [h2] at hq; exact hQ _ _ _ (Option.some.inj hq).symm
  have hmt : ∀ t', t' ∈ A.1 r → mTh G' t'.1 t'.2 := by
    intro t' ht'
    obtain ⟨g', j1, j2⟩ := h.2.2.2.2.2.1 r hr t' ht'
    exact ⟨g', hsame _ _ j1 (fun _ q => by cases q) (fun _ _ _ q => by cases q), j2⟩
  have htG := hmt t (List.mem_of_getElem? hi)
  refine ⟨G', ?_, h.row hw hw0 hr (by rw [er_map]; exact a2) (Or.inl ⟨rfl, hκ⟩) (fun q hq hn => a5.2.2.2.2.2 q hq (fun z => hn (z.imp_right (fun y => ⟨y, rfl⟩)))) a6 (fun t' ht' => hmt t' (er_mem _ _ ht')) (by
    have := h.2.2.2.2.2.2.2.2.2 r hr
    rw [List.length_eraseIdx_of_lt hlt]; omega), ⟨a5.mono (fun q _ hq => ?_) (Nat.le_refl _) (Nat.le_refl _), a6⟩, htG, a5⟩
  · obtain ⟨g, t1, -⟩ := htG
    unfold f_M_take
    rw [gOb_of h.1 rfl, m_row h hp k]
    show gOb G o 6 _ = _
    rw [gOb_of h.1 rfl, m_base h _ _ _ _ hp k]
    show gOb G (D.2.1 r) 9 _ = _
    rw [gOb_of h1 rfl, nI_add, a1]
    show gCaA G' _ 100 _ = _
    unfold gCaA gAr
    rw [t1]
    rfl
  · rcases hq with rfl | rfl
    · exact ⟨_, h1, Or.inl ⟨9, _, rfl, by omega⟩⟩
    · obtain ⟨cap', f', e2⟩ := hκ
      exact ⟨_, e2, Or.inr ⟨_, _, _, rfl, by decide⟩⟩
