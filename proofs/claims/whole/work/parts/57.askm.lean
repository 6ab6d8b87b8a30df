-- what is asked of the reference, key by key
section KMr
/-- the keys of a list, as the reference reads them -/
def kyM (G : gH) (o p : Nat) (ks : List Nat) : Prop := (∃ fs, ∀ K : List Value → gR, gOb G o 6 K = K fs) ∧ (∀ i k, ks[i]? = some k → ∃ a, f_M_at G o (nI p) (nI i) = rA a G ∧ ∀ K : Int32 → gR, gLd G a 100 (nI 0) K = K (nI k)) ∧ f_M_length G o (nI p) = rI (nI ks.length) G ∧ ks.length ≤ 31 ∧ ∀ k, k ∈ ks → k < 31
variable {G : gH} {o p q : Nat} {ks os : List Nat}
theorem kyM.k31 (h : kyM G o p ks) {i k : Nat} (hk : ks[i]? = some k) : k < 31 := h.2.2.2.2 k (List.mem_of_getElem? hk)
theorem m_firL (h : kyM G o p ks) {K1 : gH → Int32 → gR} {K2 : gH → gR} {k : Nat} (hk : k < 31) : ∀ (l : List Nat) (n j : Nat), ks.drop j = l → j ≤ ks.length → l.length < n →
    f_M_firstOf_L2 K1 K2 n G o (nI p) (nI k) (nI j) = match kFi k l j with
      | some i => K1 G (nI i)
      | none => K2 G
  | _, 0, _, _, _, h => absurd h (Nat.not_lt_zero _)
  | [], n + 1, j, hd, hj, _ => by
    obtain ⟨⟨fs, ob⟩, ha, hl, h31, hk31⟩ := h
    unfold f_M_firstOf_L2
    rw [ob, hl, bI_rI, if_pos (nI_le (dr_nil hd) (by omega))]; rfl
  | a :: l, n + 1, j, hd, hj, hn => by
    obtain ⟨e1, e2, e3⟩ := dr_cons hd
    have hka := h.k31 e1
    have ih := m_firL h (K1 := K1) (K2 := K2) hk l n (j + 1) e2 (by omega) (by simp at hn; omega)
    obtain ⟨⟨fs, ob⟩, ha, hl, h31, hk31⟩ := h
    obtain ⟨x, x1, x2⟩ := ha j a e1
    unfold f_M_firstOf_L2
    rw [ob, hl, bI_rI, if_neg (nI_ge e3 (by omega)), ob, x1, bA_rA, x2]
    unfold kFi
    by_cases e : a = k
    · rw [if_pos (by rw [e]), if_pos e]
    · rw [if_neg (fun q => e ((nI_eq (by omega) (by omega)).mp q)), if_neg e, nI_add, ih]
theorem m_fir (h : kyM G o p ks) {k : Nat} (hk : k < 31) : f_M_firstOf G o (nI p) (nI k) = rI (sNo (kFi k ks 0)) G := by
  unfold f_M_firstOf
  rw [m_firL h hk _ zFu 0 (List.drop_zero ..) (Nat.zero_le _) (by have := h.2.2.2.1; unfold zFu; omega)]
  cases kFi k ks 0 <;> rfl
theorem m_lasL (h : kyM G o p ks) {K1 : gH → Int32 → gR} {K2 : gH → gR} {k : Nat} (hk : k < 31) : ∀ (j n : Nat), j ≤ ks.length → j < n →
    f_M_lastOf_L8 K1 K2 n G o (nI p) (nI k) (nI j + (-1)) = match kLa k ks j with
      | some i => K1 G (nI i)
      | none => K2 G
  | _, 0, _, h => absurd h (Nat.not_lt_zero _)
  | 0, n + 1, hj, _ => by
    unfold f_M_lastOf_L8
    rw [if_pos (by decide)]; rfl
  | j + 1, n + 1, hj, hn => by
    have e1 := List.getElem?_eq_getElem (show j < ks.length by omega)
    generalize ks[j] = a at e1
    have hka := h.k31 e1
    have ih := m_lasL h (K1 := K1) (K2 := K2) hk j n (by omega) (by omega)
    obtain ⟨⟨fs, ob⟩, ha, hl, h31, hk31⟩ := h
    obtain ⟨x, x1, x2⟩ := ha j a e1
    unfold f_M_lastOf_L8
    rw [nI_m1, if_neg (nI_pos (by omega)), ob, x1, bA_rA, x2]
    unfold kLa
    rw [e1]
    by_cases e : a = k
    · rw [if_pos (by rw [e]), if_pos (show some a = some k by rw [e])]
    · rw [if_neg (fun q => e ((nI_eq (by omega) (by omega)).mp q)), if_neg (show ¬ some a = some k from fun q => e (Option.some.inj q)), ih]
theorem m_las (h : kyM G o p ks) {k : Nat} (hk : k < 31) : f_M_lastOf G o (nI p) (nI k) = rI (sNo (kLa k ks ks.length)) G := by
  have L := m_lasL h (K1 := fun G15 x14 => rI x14 G15) (K2 := fun G16 => rI (-1) G16) hk ks.length zFu (Nat.le_refl _) (by have := h.2.2.2.1; unfold zFu; omega)
  obtain ⟨⟨fs, ob⟩, ha, hl, h31, hk31⟩ := h
  unfold f_M_lastOf
  rw [ob, hl, bI_rI, nI_s1, L]
  cases kLa k ks ks.length <;> rfl
theorem m_one1 : f_M_one G (nI 1) = rI (nI 1) G := by unfold f_M_one; rw [if_neg (by decide)]
theorem m_one0 : f_M_one G (nI 0) = rI (nI 0) G := by unfold f_M_one; rw [if_pos (by decide)]
theorem m_manL (h : kyM G o p ks) {K : gH → Int32 → gR} {k : Nat} (hk : k < 31) : ∀ (l : List Nat) (n j c : Nat), ks.drop j = l → j ≤ ks.length → l.length < n →
    f_M_manyOf_L5 K n G o (nI p) (nI k) (nI c) (nI j) = K G (nI (c + kCt (fun x => decide (x = k)) l))
  | _, 0, _, _, _, _, h => absurd h (Nat.not_lt_zero _)
  | [], n + 1, j, c, hd, hj, _ => by
    obtain ⟨⟨fs, ob⟩, ha, hl, h31, hk31⟩ := h
    unfold f_M_manyOf_L5
    rw [ob, hl, bI_rI, if_pos (nI_le (dr_nil hd) (by omega))]; rfl
  | a :: l, n + 1, j, c, hd, hj, hn => by
    obtain ⟨e1, e2, e3⟩ := dr_cons hd
    have hka := h.k31 e1
    have ih := fun c => m_manL h (K := K) hk l n (j + 1) c e2 (by omega) (by simp at hn; omega)
    obtain ⟨⟨fs, ob⟩, ha, hl, h31, hk31⟩ := h
    obtain ⟨x, x1, x2⟩ := ha j a e1
    unfold f_M_manyOf_L5
    rw [ob, hl, bI_rI, if_neg (nI_ge e3 (by omega)), ob, x1, bA_rA, x2]
    unfold kCt
    by_cases e : a = k
    · rw [if_pos (by rw [e]), if_pos (decide_eq_true e), m_one1, bI_rI, nI_add, nI_add, ih (c + 1), Nat.add_assoc]
    · rw [if_neg (fun q => e ((nI_eq (by omega) (by omega)).mp q)), if_neg (by simp [e]), m_one0, bI_rI, nI_add, nI_add, ih, Nat.zero_add, Nat.add_zero]
theorem m_man (h : kyM G o p ks) {k : Nat} (hk : k < 31) : f_M_manyOf G o (nI p) (nI k) = rI (nI (kCt (fun x => decide (x = k)) ks)) G := by
  unfold f_M_manyOf
  rw [m_manL h hk _ zFu 0 0 (List.drop_zero ..) (Nat.zero_le _) (by have := h.2.2.2.1; unfold zFu; omega), Nat.zero_add]
theorem kFi_no {k : Nat} (hl : ks.length ≤ 31) : sNo (kFi k ks 0) = -1 ↔ k ∉ ks := by
  rw [← kFi_none ks 0]
  cases hx : kFi k ks 0 with
  | none => exact ⟨fun _ => rfl, fun _ => rfl⟩
  | some i =>
    have := kFi_lt ks 0 i hx
    exact ⟨fun q => absurd q (nI_ne1 (by omega)), fun q => by cases q⟩
theorem m_hasL (h : kyM G o p ks) (h' : kyM G o q os) {K1 K2 : gH → gR} : ∀ (l : List Nat) (n j : Nat), os.drop j = l → j ≤ os.length → l.length < n →
    f_M_hasEach_L2 K1 K2 n G o (nI p) (nI q) (nI j) = if (∀ k, k ∈ l → k ∈ ks) then K2 G else K1 G
  | _, 0, _, _, _, h => absurd h (Nat.not_lt_zero _)
  | [], n + 1, j, hd, hj, _ => by
    obtain ⟨⟨fs, ob⟩, ha, hl, h31, hk31⟩ := h'
    unfold f_M_hasEach_L2
    rw [ob, hl, bI_rI, if_pos (nI_le (dr_nil hd) (by omega)), if_pos (fun k hk => by cases hk)]
  | a :: l, n + 1, j, hd, hj, hn => by
    obtain ⟨e1, e2, e3⟩ := dr_cons hd
    have hka := h'.k31 e1
    have ih := m_hasL h h' (K1 := K1) (K2 := K2) l n (j + 1) e2 (by omega) (by simp at hn; omega)
    have hf := m_fir h hka
    have hn1 := kFi_no (k := a) h.2.2.2.1
    obtain ⟨⟨fs, ob⟩, ha, hl, h31, hk31⟩ := h'
    obtain ⟨x, x1, x2⟩ := ha j a e1
    unfold f_M_hasEach_L2
    rw [ob, hl, bI_rI, if_neg (nI_ge e3 (by omega)), ob, x1, bA_rA, x2, ob, hf, bI_rI]
    by_cases e : a ∈ ks
    · rw [if_neg (fun z => (hn1.mp z) e), nI_add, ih]
      by_cases e4 : ∀ k, k ∈ l → k ∈ ks
      · rw [if_pos e4, if_pos (fun k hk => by
          rcases List.mem_cons.mp hk with rfl | z
          · exact e
          · exact e4 k z)]
      · rw [if_neg e4, if_neg (fun z => e4 (fun k hk => z k (List.mem_cons_of_mem _ hk)))]
    · rw [if_pos (hn1.mpr e), if_neg (fun z => e (z a (List.mem_cons_self ..)))]
theorem m_has (h : kyM G o p ks) (h' : kyM G o q os) : f_M_hasEach G o (nI p) (nI q) = rI (mB (decide (∀ k, k ∈ os → k ∈ ks))) G := by
  unfold f_M_hasEach
  rw [m_hasL h h' _ zFu 0 (List.drop_zero ..) (Nat.zero_le _) (by have := h'.2.2.2.1; unfold zFu; omega)]
  by_cases e : ∀ k, k ∈ os → k ∈ ks
  · rw [if_pos e, decide_eq_true e]; exact rZ_1
  · rw [if_neg e, decide_eq_false e]; exact rZ_0
theorem m_nonL (h : kyM G o p ks) (h' : kyM G o q os) {K1 K2 : gH → gR} : ∀ (l : List Nat) (n j : Nat), os.drop j = l → j ≤ os.length → l.length < n →
    f_M_hasNoneOf_L2 K1 K2 n G o (nI p) (nI q) (nI j) = if (∀ k, k ∈ l → k ∉ ks) then K2 G else K1 G
  | _, 0, _, _, _, h => absurd h (Nat.not_lt_zero _)
  | [], n + 1, j, hd, hj, _ => by
    obtain ⟨⟨fs, ob⟩, ha, hl, h31, hk31⟩ := h'
    unfold f_M_hasNoneOf_L2
    rw [ob, hl, bI_rI, if_pos (nI_le (dr_nil hd) (by omega)), if_pos (fun k hk => by cases hk)]
  | a :: l, n + 1, j, hd, hj, hn => by
    obtain ⟨e1, e2, e3⟩ := dr_cons hd
    have hka := h'.k31 e1
    have ih := m_nonL h h' (K1 := K1) (K2 := K2) l n (j + 1) e2 (by omega) (by simp at hn; omega)
    have hf := m_fir h hka
    have hn1 := kFi_no (k := a) h.2.2.2.1
    obtain ⟨⟨fs, ob⟩, ha, hl, h31, hk31⟩ := h'
    obtain ⟨x, x1, x2⟩ := ha j a e1
    unfold f_M_hasNoneOf_L2
    rw [ob, hl, bI_rI, if_neg (nI_ge e3 (by omega)), ob, x1, bA_rA, x2, ob, hf, bI_rI]
    by_cases e : a ∈ ks
    · rw [if_neg (fun z => (hn1.mp z) e), if_neg (fun z => z a (List.mem_cons_self ..) e)]
    · rw [if_pos (hn1.mpr e), nI_add, ih]
      by_cases e4 : ∀ k, k ∈ l → k ∉ ks
      · rw [if_pos e4, if_pos (fun k hk => by
          rcases List.mem_cons.mp hk with rfl | z
          · exact e
          · exact e4 k z)]
      · rw [if_neg e4, if_neg (fun z => e4 (fun k hk => z k (List.mem_cons_of_mem _ hk)))]
theorem m_non (h : kyM G o p ks) (h' : kyM G o q os) : f_M_hasNoneOf G o (nI p) (nI q) = rI (mB (decide (∀ k, k ∈ os → k ∉ ks))) G := by
  unfold f_M_hasNoneOf
  rw [m_nonL h h' _ zFu 0 (List.drop_zero ..) (Nat.zero_le _) (by have := h'.2.2.2.1; unfold zFu; omega)]
  by_cases e : ∀ k, k ∈ os → k ∉ ks
  · rw [if_pos e, decide_eq_true e]; exact rZ_1
  · rw [if_neg e, decide_eq_false e]; exact rZ_0
theorem m_lieL (h : kyM G o p ks) (h' : kyM G o q os) {K1 K2 : gH → gR} {i : Nat} (hi : i + os.length ≤ ks.length) : ∀ (l : List Nat) (n j : Nat), os.drop j = l → j ≤ os.length → l.length < n →
    f_M_liesAt_L3 K1 K2 n G o (nI p) (nI i) (nI q) (nI j) = if kM ks (i + j) l = true then K2 G else K1 G
  | _, 0, _, _, _, h => absurd h (Nat.not_lt_zero _)
  | [], n + 1, j, hd, hj, _ => by
    obtain ⟨⟨fs, ob⟩, ha, hl, h31, hk31⟩ := h'
    unfold f_M_liesAt_L3
    rw [ob, hl, bI_rI, if_pos (nI_le (dr_nil hd) (by omega))]; rfl
  | a :: l, n + 1, j, hd, hj, hn => by
    obtain ⟨e1, e2, e3⟩ := dr_cons hd
    have hka := h'.k31 e1
    have g1 := List.getElem?_eq_getElem (show i + j < ks.length by omega)
    generalize ks[i + j] = c at g1
    have hc := h.k31 g1
    have ih := m_lieL h h' (K1 := K1) (K2 := K2) hi l n (j + 1) e2 (by omega) (by simp at hn; omega)
    obtain ⟨-, ha', -, h31', -⟩ := h
    obtain ⟨⟨fs, ob⟩, ha, hl, h31, hk31⟩ := h'
    obtain ⟨x, x1, x2⟩ := ha j a e1
    obtain ⟨y, y1, y2⟩ := ha' (i + j) c g1
    unfold f_M_liesAt_L3
    rw [ob, hl, bI_rI, if_neg (nI_ge e3 (by omega)), ob, nI_add, y1, bA_rA, y2, ob, x1, bA_rA, x2]
    unfold kM
    rw [g1]
    by_cases e : c = a
    · rw [if_pos (show nI c = nI a by rw [e]), if_pos (show some c = some a by rw [e]), nI_add, Nat.add_assoc, ih]
    · rw [if_neg (fun q => e ((nI_eq (by omega) (by omega)).mp q)), if_neg (show ¬ some c = some a from fun q => e (Option.some.inj q))]; rfl
theorem m_lie (h : kyM G o p ks) (h' : kyM G o q os) {i : Nat} (hi : i + os.length ≤ ks.length) : f_M_liesAt G o (nI p) (nI i) (nI q) = rI (mB (kM ks i os)) G := by
  unfold f_M_liesAt
  rw [m_lieL h h' hi _ zFu 0 (List.drop_zero ..) (Nat.zero_le _) (by have := h'.2.2.2.1; unfold zFu; omega), Nat.add_zero]
  cases kM ks i os
  · exact rZ_0
  · exact rZ_1
theorem m_sam (h : kyM G o p ks) (h' : kyM G o q os) : f_M_same G o (nI p) (nI q) = rI (mB (kSm ks os)) G := by
  have hL := fun hi => m_lie h h' (i := 0) hi
  obtain ⟨-, -, hl', h31', -⟩ := h'
  obtain ⟨⟨fs, ob⟩, -, hl, h31, -⟩ := h
  unfold f_M_same kSm
  rw [ob, hl, bI_rI, ob, hl', bI_rI]
  by_cases e : ks.length = os.length
  · rw [if_pos (by rw [e]), if_pos e, ob, hL (by omega), bI_rI]
    cases kM ks 0 os
    · rw [if_pos (by rfl)]; exact rZ_0
    · rw [if_neg (by decide)]; exact rZ_1
  · rw [if_neg (fun q => e ((nI_eq (by omega) (by omega)).mp q)), if_neg e]; exact rZ_0
theorem m_fouL (h : kyM G o p ks) (h' : kyM G o q os) {K1 : gH → Int32 → gR} {K2 : gH → gR} : ∀ (d n j : Nat), j + d = ks.length + 1 → d < n →
    f_M_found_L2 K1 K2 n G o (nI p) (nI q) (nI j) = match kF ks os d j with
      | some i => K1 G (nI i)
      | none => K2 G
  | _, 0, _, _, h => absurd h (Nat.not_lt_zero _)
  | 0, n + 1, j, hj, _ => by
    obtain ⟨-, -, hl', h31', -⟩ := h'
    obtain ⟨⟨fs, ob⟩, -, hl, h31, -⟩ := h
    unfold f_M_found_L2
    rw [ob, hl', bI_rI, ob, hl, bI_rI, nI_add, if_pos (nI_lt (by omega) (by omega))]; rfl
  | d + 1, n + 1, j, hj, hn => by
    have ih := m_fouL h h' (K1 := K1) (K2 := K2) d n (j + 1) (by omega) (by omega)
    have hL := fun hi => m_lie h h' (i := j) hi
    obtain ⟨-, -, hl', h31', -⟩ := h'
    obtain ⟨⟨fs, ob⟩, -, hl, h31, -⟩ := h
    unfold f_M_found_L2 kF
    rw [ob, hl', bI_rI, ob, hl, bI_rI, nI_add]
    by_cases e : ks.length < os.length + j
    · rw [if_pos (nI_lt (by omega) (by omega)), if_pos e]
    · rw [if_neg (nI_nlt (by omega) (by omega)), if_neg e, ob, hL (by omega), bI_rI, nI_add, ih]
      cases kM ks j os <;> rfl
theorem m_fou (h : kyM G o p ks) (h' : kyM G o q os) : f_M_found G o (nI p) (nI q) = rI (sNo (kF ks os (ks.length + 1) 0)) G := by
  unfold f_M_found
  rw [m_fouL h h' (ks.length + 1) zFu 0 (by omega) (by have := h.2.2.2.1; unfold zFu; omega)]
  cases kF ks os (ks.length + 1) 0 <;> rfl
theorem m_sdL (h : kyM G o p ks) {K1 K2 : gH → gR} : ∀ (l : List Nat) (n j a : Nat), ks[j]? = some a → ks.drop (j + 1) = l → l.length < n →
    f_M_isSorted_L2 K1 K2 n G o (nI p) (nI (j + 1)) = if kSo a l = true then K2 G else K1 G
  | _, 0, _, _, _, _, h => absurd h (Nat.not_lt_zero _)
  | [], n + 1, j, a, hj, hd, _ => by
    obtain ⟨⟨fs, ob⟩, ha, hl, h31, hk31⟩ := h
    have := (List.getElem?_eq_some_iff.mp hj).1
    unfold f_M_isSorted_L2
    rw [ob, hl, bI_rI, if_pos (nI_le (dr_nil hd) (by omega))]; rfl
  | c :: l, n + 1, j, a, hj, hd, hn => by
    obtain ⟨e1, e2, e3⟩ := dr_cons hd
    have hka := h.k31 hj
    have hkc := h.k31 e1
    have ih := m_sdL h (K1 := K1) (K2 := K2) l n (j + 1) c e1 e2 (by simp at hn; omega)
    obtain ⟨⟨fs, ob⟩, ha, hl, h31, hk31⟩ := h
    obtain ⟨x, x1, x2⟩ := ha (j + 1) c e1
    obtain ⟨y, y1, y2⟩ := ha j a hj
    unfold f_M_isSorted_L2
    rw [ob, hl, bI_rI, if_neg (nI_ge e3 (by omega)), ob, x1, bA_rA, x2, ob, show nI (j + 1) - nI 1 = nI j from nI_sub (by omega), y1, bA_rA, y2]
    unfold kSo
    by_cases e : a ≤ c
    · rw [if_pos (nI_le e (by omega)), if_pos e, nI_add, ih]
    · rw [if_neg (nI_ge (by omega) (by omega)), if_neg e]; rfl
theorem m_sd (h : kyM G o p ks) : f_M_isSorted G o (nI p) = rI (mB (kSd ks)) G := by
  unfold f_M_isSorted
  cases hk : ks with
  | nil =>
    obtain ⟨⟨fs, ob⟩, ha, hl, h31, hk31⟩ := h
    show f_M_isSorted_L2 _ _ (5999 + 1) _ _ _ (nI 1) = _
    unfold f_M_isSorted_L2
    rw [ob, hl, bI_rI, hk, if_pos (by decide)]; exact rZ_1
  | cons a l =>
    rw [show nI 1 = nI (0 + 1) from rfl, m_sdL h l zFu 0 a (by rw [hk]; rfl) (by rw [hk]; rfl) (by have := h.2.2.2.1; rw [hk] at this; simp at this; unfold zFu; omega)]
    rw [show kSd (a :: l) = kSo a l from rfl]
    cases kSo a l
    · exact rZ_0
    · exact rZ_1
theorem m_spoL (h : kyM G o p ks) {K : gH → Nat → Int32 → Int32 → Int32 → gR} {k : Nat} (hk : k < 31) : ∀ (l : List Nat) (n j : Nat), ks.drop j = l → j ≤ ks.length → l.length < n →
    f_M_spot_L51 K n G o (nI p) (nI k) (nI j) = K G o (nI p) (nI k) (nI (j + kPr k l))
  | _, 0, _, _, _, h => absurd h (Nat.not_lt_zero _)
  | [], n + 1, j, hd, hj, _ => by
    obtain ⟨⟨fs, ob⟩, ha, hl, h31, hk31⟩ := h
    unfold f_M_spot_L51
    rw [ob, hl, bI_rI, if_pos (nI_le (dr_nil hd) (by omega))]; rfl
  | a :: l, n + 1, j, hd, hj, hn => by
    obtain ⟨e1, e2, e3⟩ := dr_cons hd
    have hka := h.k31 e1
    have ih := m_spoL h (K := K) hk l n (j + 1) e2 (by omega) (by simp at hn; omega)
    obtain ⟨⟨fs, ob⟩, ha, hl, h31, hk31⟩ := h
    obtain ⟨x, x1, x2⟩ := ha j a e1
    unfold f_M_spot_L51
    rw [ob, hl, bI_rI, if_neg (nI_ge e3 (by omega)), ob, x1, bA_rA, x2]
    unfold kPr
    by_cases e : a < k
    · rw [if_neg (nI_ge e (by omega)), if_pos e, nI_add, ih, show j + 1 + kPr k l = j + (kPr k l + 1) by omega]
    · rw [if_pos (nI_le (by omega) (by omega)), if_neg e, Nat.add_zero]
theorem m_exL (h : kyM G o p ks) {K : gH → Int32 → gR} {z : Int32} : ∀ (l : List Nat) (n j : Nat) (x : Option Nat), ks.drop j = l → j ≤ ks.length → l.length < n → (∀ y, x = some y → y < 31) →
    f_M_extremeOf_L5 K n G o (nI p) z (sNo x) (nI j) = K G (sNo (kEx (!decide (z = 0)) x l))
  | _, 0, _, _, _, _, h, _ => absurd h (Nat.not_lt_zero _)
  | [], n + 1, j, x, hd, hj, _, _ => by
    obtain ⟨⟨fs, ob⟩, ha, hl, h31, hk31⟩ := h
    unfold f_M_extremeOf_L5
    rw [ob, hl, bI_rI, if_pos (nI_le (dr_nil hd) (by omega))]
    cases x <;> rfl
  | a :: l, n + 1, j, x, hd, hj, hn, hx => by
    obtain ⟨e1, e2, e3⟩ := dr_cons hd
    have hka := h.k31 e1
    have go : ∀ x', (∀ y, x' = some y → y < 31) → f_M_extremeOf_L5 K n G o (nI p) z (sNo x') (nI j + nI 1) = K G (sNo (kEx (!decide (z = 0)) x' l)) := fun x' hx' => by
      rw [nI_add]
      exact m_exL h l n (j + 1) x' e2 (by omega) (by simp at hn; omega) hx'
    have ga := go (some a) (fun y q => by cases q; exact hka)
    obtain ⟨⟨fs, ob⟩, ha, hl, h31, hk31⟩ := h
    obtain ⟨u, x1, x2⟩ := ha j a e1
    unfold f_M_extremeOf_L5
    rw [ob, hl, bI_rI, if_neg (nI_ge e3 (by omega)), ob, x1, bA_rA, x2]
    cases x with
    | none =>
      rw [if_pos (show sNo none = -1 from rfl)]
      exact ga
    | some y =>
      have hy := hx y rfl
      have gy := go (some y) hx
      rw [if_neg (show ¬ sNo (some y) = -1 from nI_ne1 (by omega))]
      unfold kEx
      by_cases hz : z = 0
      · rw [if_pos hz]
        by_cases e : y < a
        · rw [if_neg (show ¬ nI a ≤ sNo (some y) from nI_ge e (by omega)), if_pos (by simp [hz, e])]
          exact ga
        · rw [if_pos (show nI a ≤ sNo (some y) from nI_le (by omega) (by omega)), if_neg (by simp [hz]; omega)]
          exact gy
      · rw [if_neg hz]
        by_cases e : a < y
        · rw [if_neg (show ¬ sNo (some y) ≤ nI a from nI_ge e (by omega)), if_pos (by simp [hz, e])]
          exact ga
        · rw [if_pos (show sNo (some y) ≤ nI a from nI_le (by omega) (by omega)), if_neg (by simp [hz]; omega)]
          exact gy
theorem m_ex (h : kyM G o p ks) {z : Int32} : f_M_extremeOf G o (nI p) z = rI (sNo (kEx (!decide (z = 0)) none ks)) G := by
  unfold f_M_extremeOf
  rw [show (-1 : Int32) = sNo none from rfl, m_exL h _ zFu 0 none (List.drop_zero ..) (Nat.zero_le _) (by have := h.2.2.2.1; unfold zFu; omega) (fun y q => by cases q)]
theorem m_hasL4 (h : kyM G o p ks) {K : gH → Int32 → gR} : ∀ (l : List Nat) (n j : Nat) (x : Int32), ks.drop j = l → j ≤ ks.length → l.length < n →
    f_M_hashOf_L4 K n G o (nI p) x (nI j) = K G (kH x l)
  | _, 0, _, _, _, _, h => absurd h (Nat.not_lt_zero _)
  | [], n + 1, j, x, hd, hj, _ => by
    obtain ⟨⟨fs, ob⟩, ha, hl, h31, hk31⟩ := h
    unfold f_M_hashOf_L4
    rw [ob, hl, bI_rI, if_pos (nI_le (dr_nil hd) (by omega))]; rfl
  | a :: l, n + 1, j, x, hd, hj, hn => by
    obtain ⟨e1, e2, e3⟩ := dr_cons hd
    have ih := fun x => m_hasL4 h (K := K) l n (j + 1) x e2 (by omega) (by simp at hn; omega)
    obtain ⟨⟨fs, ob⟩, ha, hl, h31, hk31⟩ := h
    obtain ⟨u, x1, x2⟩ := ha j a e1
    unfold f_M_hashOf_L4
    rw [ob, hl, bI_rI, if_neg (nI_ge e3 (by omega)), ob, x1, bA_rA, x2, nI_add, ih]; rfl
theorem m_hsh (h : kyM G o p ks) : f_M_hashOf G o (nI p) = rI (kH (nI 1) ks) G := by
  unfold f_M_hashOf
  rw [m_hasL4 h _ zFu 0 _ (List.drop_zero ..) (Nat.zero_le _) (by have := h.2.2.2.1; unfold zFu; omega)]
end KMr
section KTie
variable {w : Nat → Nat} {b o m : Nat} {A : mS} {σ : cS} {H : gH} {p r s : Nat}
theorem kS_at {A : mS} {r s n i k : Nat} (h : (kS A r s n)[i]? = some k) : ∃ t, (A.1 r)[s + i]? = some t ∧ t.2.1 = k ∧ i < n := by
  unfold kS at h
  rw [List.getElem?_map] at h
  cases hx : (sSeg A r s n)[i]? with
  | none => rw [hx] at h; cases h
  | some t =>
    rw [hx] at h
    have hn : i < n := by
      have := (List.getElem?_eq_some_iff.mp hx).1
      have h2 : (sSeg A r s n).length ≤ n := by unfold sSeg; rw [List.length_take]; omega
      omega
    rw [sSeg_at hn] at hx
    exact ⟨t, hx, Option.some.inj h, hn⟩
theorem kS_len (hI : mInv m A) (hv : mV A p) (hr : mRw A.2.1 zDp p = some (r, s)) : (kS A r s (mLen A p)).length = mLen A p := by
  unfold kS
  rw [List.length_map, sSeg_len (hI.2.1.rw _ _ _ _ hr)]
theorem kS_31 (hI : mInv m A) (hr : mRw A.2.1 zDp p = some (r, s)) : ∀ k, k ∈ kS A r s (mLen A p) → k < 31 := by
  intro k hk
  obtain ⟨t, ht, e⟩ := List.mem_map.mp hk
  rw [← e]
  exact ((hI.2.2.1 r (mRw_lt _ _ _ _ hr)).2 t (sSeg_mem ht)).1
theorem kyC.of (hX : CRepx (-1) σ A) (hI : mInv m A) (hv : mV A p) (hr : mRw A.2.1 zDp p = some (r, s)) : kyC b σ H p (kS A r s (mLen A p)) := by
  have hW := hI.w p
  have hl := kS_len hI hv hr
  refine ⟨fun i k hk => ?_, ?_, by rw [hl]; exact hI.l31 hv, kS_31 hI hr⟩
  · have h31 := kS_31 hI hr k (List.mem_of_getElem? hk)
    obtain ⟨t, ht, rfl, -⟩ := kS_at hk
    exact x_keyAt hX hW hv hr ht (by omega)
  · rw [x_len hX hW.1 hv, hl]
theorem kyM.of {G : gH} {D : mD} (h : MS w o G A D) (hI : mInv m A) (hv : mV A p) (hr : mRw A.2.1 zDp p = some (r, s)) : kyM G o p (kS A r s (mLen A p)) := by
  have hl := kS_len hI hv hr
  refine ⟨⟨_, fun K => gOb_of h.2.2.1 rfl⟩, fun i k hk => ?_, ?_, by rw [hl]; exact hI.l31 hv, kS_31 hI hr⟩
  · obtain ⟨t, ht, rfl, -⟩ := kS_at hk
    exact ⟨t.1, s_at h hI.1 hv hr ht, fun K => (s_th h (mRw_lt _ _ _ _ hr) ht).key⟩
  · rw [s_len h hI.1 hv, hl]
end KTie
