-- what is asked: key by key
section KMath
def kLa (k : Nat) (ks : List Nat) : Nat → Option Nat
  | 0 => none
  | j + 1 => if ks[j]? = some k then some j else kLa k ks j
def kFi (k : Nat) : List Nat → Nat → Option Nat
  | [], _ => none
  | a :: l, j => if a = k then some j else kFi k l (j + 1)
def kCt (g : Nat → Bool) : List Nat → Nat
  | [] => 0
  | a :: l => (if g a = true then 1 else 0) + kCt g l
def kM (ks : List Nat) : Nat → List Nat → Bool
  | _, [] => true
  | i, a :: l => if ks[i]? = some a then kM ks (i + 1) l else false
def kF (ks os : List Nat) : Nat → Nat → Option Nat
  | 0, _ => none
  | d + 1, j => if ks.length < os.length + j then none else if kM ks j os = true then some j else kF ks os d (j + 1)
def kSo : Nat → List Nat → Bool
  | _, [] => true
  | a, k :: l => if a ≤ k then kSo k l else false
def kPr (k : Nat) : List Nat → Nat
  | [] => 0
  | a :: l => if a < k then kPr k l + 1 else 0
def kEx (z : Bool) : Option Nat → List Nat → Option Nat
  | x, [] => x
  | none, a :: l => kEx z (some a) l
  | some y, a :: l => if (if z = true then a < y else y < a) then kEx z (some a) l else kEx z (some y) l
def kH : Int32 → List Nat → Int32
  | h, [] => h
  | h, a :: l => kH (h * nI 31 + nI a) l
def kS (A : mS) (r s n : Nat) : List Nat := (sSeg A r s n).map fun t => t.2.1
theorem dr_cons {α : Type} {ks l : List α} {j : Nat} {k : α} (h : ks.drop j = k :: l) : ks[j]? = some k ∧ ks.drop (j + 1) = l ∧ j < ks.length := by
  have e : ks[j]? = some k := by
    have : (ks.drop j)[0]? = some k := by rw [h]; rfl
    rw [List.getElem?_drop] at this; exact this
  refine ⟨e, by rw [← List.drop_drop, h]; rfl, (List.getElem?_eq_some_iff.mp e).1⟩
theorem dr_nil {α : Type} {ks : List α} {j : Nat} (h : ks.drop j = []) : ks.length ≤ j := by
  have := congrArg List.length h
  rw [List.length_drop] at this
  simp at this; omega
theorem kFi_s {k : Nat} : ∀ (l : List (Nat × Nat × Nat)) (j : Nat), sFi k l j = kFi k (l.map fun t => t.2.1) j
  | [], _ => rfl
  | t :: ts, j => by
    show (if t.2.1 = k then some j else sFi k ts (j + 1)) = (if t.2.1 = k then some j else kFi k (ts.map fun t => t.2.1) (j + 1))
    rw [kFi_s ts (j + 1)]
theorem kFi_lt {k : Nat} : ∀ (l : List Nat) (j i : Nat), kFi k l j = some i → j ≤ i ∧ i < j + l.length
  | [], _, _, h => by cases h
  | a :: l, j, i, h => by
    unfold kFi at h
    by_cases e : a = k
    · rw [if_pos e] at h
      cases h
      simp
    · rw [if_neg e] at h
      have := kFi_lt l (j + 1) i h
      simp only [List.length_cons]
      omega
theorem kFi_none {k : Nat} : ∀ (l : List Nat) (j : Nat), kFi k l j = none ↔ k ∉ l
  | [], _ => by simp [kFi]
  | a :: l, j => by
    unfold kFi
    by_cases e : a = k
    · rw [if_pos e]; simp [e]
    · rw [if_neg e, kFi_none l (j + 1)]
      simp only [List.mem_cons, not_or]
      exact ⟨fun h => ⟨fun q => e q.symm, h⟩, fun h => h.2⟩
theorem kLa_lt {k : Nat} {ks : List Nat} : ∀ (j i : Nat), kLa k ks j = some i → i < j
  | 0, _, h => by cases h
  | j + 1, i, h => by
    unfold kLa at h
    by_cases e : ks[j]? = some k
    · rw [if_pos e] at h
      cases h
      omega
    · rw [if_neg e] at h
      have := kLa_lt j i h
      omega
theorem kCt_le {g : Nat → Bool} : ∀ (l : List Nat), kCt g l ≤ l.length
  | [] => Nat.le_refl _
  | a :: l => by
    have := kCt_le (g := g) l
    unfold kCt
    simp only [List.length_cons]
    split <;> omega
/-- below a key in a sorted row: as many as lie ahead -/
theorem kPr_so {k : Nat} : ∀ (l : List Nat) (a : Nat), kSo a l = true → (k ≤ a → kCt (fun x => decide (x < k)) l = 0) ∧ kCt (fun x => decide (x < k)) l = kPr k l
  | [], _, _ => ⟨fun _ => rfl, rfl⟩
  | c :: l, a, h => by
    unfold kSo at h
    by_cases e : a ≤ c
    · rw [if_pos e] at h
      obtain ⟨h1, h2⟩ := kPr_so (k := k) l c h
      unfold kCt kPr
      by_cases ec : c < k
      · rw [if_pos (decide_eq_true ec), if_pos ec]
        exact ⟨fun q => by omega, by omega⟩
      · rw [if_neg (by simp [ec]), if_neg ec]
        have := h1 (by omega)
        exact ⟨fun _ => by omega, by omega⟩
    · rw [if_neg e] at h; cases h
end KMath
section KC
/-- the keys of a list, as the class reads them -/
def kyC (b : Nat) (σ : cS) (H : gH) (p : Nat) (ks : List Nat) : Prop := (∀ i k, ks[i]? = some k → f_I_keyAt (cPut b σ H) (b + 1) (nI p) (nI i) = rI (nI k) (cPut b σ H)) ∧ f_I_lengthOf (cPut b σ H) (b + 1) (nI p) = rI (nI ks.length) (cPut b σ H) ∧ ks.length ≤ 31 ∧ ∀ k, k ∈ ks → k < 31
variable {b : Nat} {σ : cS} {H : gH} {p q : Nat} {ks os : List Nat}
theorem kyC.k31 (h : kyC b σ H p ks) {i k : Nat} (hk : ks[i]? = some k) : k < 31 := h.2.2.2 k (List.mem_of_getElem? hk)
theorem c_firstL (h : kyC b σ H p ks) {K1 : gH → Int32 → gR} {K2 : gH → gR} {k : Nat} (hk : k < 31) : ∀ (l : List Nat) (n j : Nat), ks.drop j = l → j ≤ ks.length → l.length < n →
    f_I_firstOf_L9 K1 K2 n (cPut b σ H) (b + 1) (nI p) (nI k) (nI ks.length) (nI j) = match kFi k l j with
      | some i => K1 (cPut b σ H) (nI i)
      | none => K2 (cPut b σ H)
  | _, 0, _, _, _, h => absurd h (Nat.not_lt_zero _)
  | [], n + 1, j, hd, hj, _ => by
    have h31 := h.2.2.1
    unfold f_I_firstOf_L9
    rw [if_pos (nI_le (dr_nil hd) (by omega))]; rfl
  | a :: l, n + 1, j, hd, hj, hn => by
    have h31 := h.2.2.1
    obtain ⟨e1, e2, e3⟩ := dr_cons hd
    have ha := h.k31 e1
    unfold f_I_firstOf_L9
    rw [if_neg (nI_ge e3 (by omega)), c_ob_1, h.1 j a e1, bI_rI]
    unfold kFi
    by_cases e : a = k
    · rw [if_pos (by rw [e]), if_pos e]
    · rw [if_neg (fun q => e ((nI_eq (by omega) (by omega)).mp q)), if_neg e, nI_add]
      exact c_firstL h hk l n (j + 1) e2 (by omega) (by simp at hn; omega)
theorem c_first (h : kyC b σ H p ks) {k : Nat} (hk : k < 31) : f_I_firstOf (cPut b σ H) (b + 1) (nI p) (nI k) = rI (sNo (kFi k ks 0)) (cPut b σ H) := by
  unfold f_I_firstOf
  rw [c_ob_1, h.2.1, bI_rI, c_firstL h hk _ zFu 0 (List.drop_zero ..) (Nat.zero_le _) (by have := h.2.2.1; unfold zFu; omega)]
  cases kFi k ks 0 <;> rfl
theorem c_lastL (h : kyC b σ H p ks) {K1 : gH → Int32 → gR} {K2 : gH → gR} {k : Nat} (hk : k < 31) : ∀ (j n : Nat), j ≤ ks.length → j < n →
    f_I_lastOf_L8 K1 K2 n (cPut b σ H) (b + 1) (nI p) (nI k) (nI j + (-1)) = match kLa k ks j with
      | some i => K1 (cPut b σ H) (nI i)
      | none => K2 (cPut b σ H)
  | _, 0, _, h => absurd h (Nat.not_lt_zero _)
  | 0, n + 1, hj, _ => by
    unfold f_I_lastOf_L8
    rw [if_pos (by decide)]; rfl
  | j + 1, n + 1, hj, hn => by
    have h31 := h.2.2.1
    have e1 := List.getElem?_eq_getElem (show j < ks.length by omega)
    generalize ks[j] = a at e1
    have ha := h.k31 e1
    unfold f_I_lastOf_L8
    rw [nI_m1, if_neg (nI_pos (by omega)), c_ob_1, h.1 j a e1, bI_rI]
    unfold kLa
    rw [e1]
    by_cases e : a = k
    · rw [if_pos (by rw [e]), if_pos (by rw [e])]
    · rw [if_neg (fun q => e ((nI_eq (by omega) (by omega)).mp q)), if_neg (fun q => e (Option.some.inj q))]
      exact c_lastL h hk j n (by omega) (by omega)
theorem c_last (h : kyC b σ H p ks) {k : Nat} (hk : k < 31) : f_I_lastOf (cPut b σ H) (b + 1) (nI p) (nI k) = rI (sNo (kLa k ks ks.length)) (cPut b σ H) := by
  unfold f_I_lastOf
  rw [c_ob_1, h.2.1, bI_rI, nI_s1, c_lastL h hk _ zFu (Nat.le_refl _) (by have := h.2.2.1; unfold zFu; omega)]
  cases kLa k ks ks.length <;> rfl
theorem c_countL (h : kyC b σ H p ks) {K : gH → Int32 → gR} {k : Nat} (hk : k < 31) : ∀ (l : List Nat) (n j c : Nat), ks.drop j = l → j ≤ ks.length → l.length < n →
    f_I_countOf_L12 K n (cPut b σ H) (b + 1) (nI p) (nI k) (nI ks.length) (nI c) (nI j) = K (cPut b σ H) (nI (c + kCt (fun x => decide (x = k)) l))
  | _, 0, _, _, _, _, h => absurd h (Nat.not_lt_zero _)
  | [], n + 1, j, c, hd, hj, _ => by
    have h31 := h.2.2.1
    unfold f_I_countOf_L12
    rw [if_pos (nI_le (dr_nil hd) (by omega))]; rfl
  | a :: l, n + 1, j, c, hd, hj, hn => by
    have h31 := h.2.2.1
    obtain ⟨e1, e2, e3⟩ := dr_cons hd
    have ha := h.k31 e1
    unfold f_I_countOf_L12
    rw [if_neg (nI_ge e3 (by omega)), c_ob_1, h.1 j a e1, bI_rI]
    unfold kCt
    by_cases e : a = k
    · rw [if_pos (by rw [e]), if_pos (decide_eq_true e), nI_add, nI_add, c_countL h hk l n (j + 1) (c + 1) e2 (by omega) (by simp at hn; omega), Nat.add_assoc]
    · rw [if_neg (fun q => e ((nI_eq (by omega) (by omega)).mp q)), if_neg (by simp [e]), nI_add, c_countL h hk l n (j + 1) c e2 (by omega) (by simp at hn; omega), Nat.zero_add]
theorem c_count (h : kyC b σ H p ks) {k : Nat} (hk : k < 31) : f_I_countOf (cPut b σ H) (b + 1) (nI p) (nI k) = rI (nI (kCt (fun x => decide (x = k)) ks)) (cPut b σ H) := by
  unfold f_I_countOf
  rw [c_ob_1, h.2.1, bI_rI, c_countL h hk _ zFu 0 0 (List.drop_zero ..) (Nat.zero_le _) (by have := h.2.2.1; unfold zFu; omega), Nat.zero_add]
theorem c_belowL (h : kyC b σ H p ks) {K : gH → Int32 → gR} {k : Nat} (hk : k < 31) : ∀ (l : List Nat) (n j c : Nat), ks.drop j = l → j ≤ ks.length → l.length < n →
    f_I_countBelow_L12 K n (cPut b σ H) (b + 1) (nI p) (nI k) (nI ks.length) (nI c) (nI j) = K (cPut b σ H) (nI (c + kCt (fun x => decide (x < k)) l))
  | _, 0, _, _, _, _, h => absurd h (Nat.not_lt_zero _)
  | [], n + 1, j, c, hd, hj, _ => by
    have h31 := h.2.2.1
    unfold f_I_countBelow_L12
    rw [if_pos (nI_le (dr_nil hd) (by omega))]; rfl
  | a :: l, n + 1, j, c, hd, hj, hn => by
    have h31 := h.2.2.1
    obtain ⟨e1, e2, e3⟩ := dr_cons hd
    have ha := h.k31 e1
    unfold f_I_countBelow_L12
    rw [if_neg (nI_ge e3 (by omega)), c_ob_1, h.1 j a e1, bI_rI]
    unfold kCt
    by_cases e : a < k
    · rw [if_neg (nI_ge e (by omega)), if_pos (decide_eq_true e), nI_add, nI_add, c_belowL h hk l n (j + 1) (c + 1) e2 (by omega) (by simp at hn; omega), Nat.add_assoc]
    · rw [if_pos (nI_le (by omega) (by omega)), if_neg (by simp [e]), nI_add, c_belowL h hk l n (j + 1) c e2 (by omega) (by simp at hn; omega), Nat.zero_add]
theorem c_below (h : kyC b σ H p ks) {k : Nat} (hk : k < 31) : f_I_countBelow (cPut b σ H) (b + 1) (nI p) (nI k) = rI (nI (kCt (fun x => decide (x < k)) ks)) (cPut b σ H) := by
  unfold f_I_countBelow
  rw [c_ob_1, h.2.1, bI_rI, c_belowL h hk _ zFu 0 0 (List.drop_zero ..) (Nat.zero_le _) (by have := h.2.2.1; unfold zFu; omega), Nat.zero_add]
theorem bit_1' : ∀ t : Nat, t < 31 → ∀ k : Nat, k < 32 → (nI 1 <<< (nI t &&& 31)).toBitVec.getLsbD k = decide (k = t) := by decide +kernel
theorem bit_0' : ∀ k : Nat, k < 32 → (nI 0).toBitVec.getLsbD k = false := by decide +kernel
theorem bit_m1' : ∀ k : Nat, k < 32 → (-1 : Int32).toBitVec.getLsbD k = true := by decide +kernel
theorem c_keysL (h : kyC b σ H p ks) {K : gH → Int32 → gR} : ∀ (l : List Nat) (n j : Nat) (v : Int32), ks.drop j = l → j ≤ ks.length → l.length < n →
    ∃ v', f_I_keysOf_L11 K n (cPut b σ H) (b + 1) (nI p) (nI ks.length) v (nI j) = K (cPut b σ H) v' ∧ ∀ k, k < 32 → v'.toBitVec.getLsbD k = (v.toBitVec.getLsbD k || decide (k ∈ l))
  | _, 0, _, _, _, _, h => absurd h (Nat.not_lt_zero _)
  | [], n + 1, j, v, hd, hj, _ => by
    have h31 := h.2.2.1
    refine ⟨v, ?_, fun k _ => by simp⟩
    unfold f_I_keysOf_L11
    rw [if_pos (nI_le (dr_nil hd) (by omega))]
  | a :: l, n + 1, j, v, hd, hj, hn => by
    have h31 := h.2.2.1
    obtain ⟨e1, e2, e3⟩ := dr_cons hd
    have ha := h.k31 e1
    obtain ⟨v', z1, z2⟩ := c_keysL h (K := K) l n (j + 1) (v ||| (nI 1 <<< (nI a &&& 31))) e2 (by omega) (by simp at hn; omega)
    refine ⟨v', ?_, fun k hk => ?_⟩
    · unfold f_I_keysOf_L11
      rw [if_neg (nI_ge e3 (by omega)), c_ob_1, h.1 j a e1, bI_rI, nI_add, z1]
    · rw [z2 k hk, bit_or, bit_1' _ ha k hk]
      by_cases e : k = a
      · simp [e]
      · simp [e]
theorem c_keys (h : kyC b σ H p ks) : ∃ v, f_I_keysOf (cPut b σ H) (b + 1) (nI p) = rI v (cPut b σ H) ∧ ∀ k, k < 32 → v.toBitVec.getLsbD k = decide (k ∈ ks) := by
  obtain ⟨v, z1, z2⟩ := c_keysL h (K := fun G13 x12 => rI x12 G13) _ zFu 0 (nI 0) (List.drop_zero ..) (Nat.zero_le _) (by have := h.2.2.1; unfold zFu; omega)
  refine ⟨v, ?_, fun k hk => ?_⟩
  · unfold f_I_keysOf
    rw [c_ob_1, h.2.1, bI_rI, z1]
  · rw [z2 k hk, bit_0' k hk, Bool.false_or]
theorem zero_bits {v : Int32} : v = 0 ↔ ∀ k, k < 32 → v.toBitVec.getLsbD k = false := by
  refine ⟨fun h k hk => by rw [h]; exact bit_0' k hk, fun h => ?_⟩
  apply Int32.toBitVec_inj.mp
  apply BitVec.eq_of_getLsbD_eq
  intro i hi
  rw [h i hi]
  exact (bit_0' i hi).symm
theorem bit_and {v u : Int32} {k : Nat} : (v &&& u).toBitVec.getLsbD k = (v.toBitVec.getLsbD k && u.toBitVec.getLsbD k) := by
  rw [Int32.toBitVec_and, BitVec.getLsbD_and]
theorem c_holds (h : kyC b σ H p ks) (h' : kyC b σ H q os) : f_I_holdsKeys (cPut b σ H) (b + 1) (nI p) (nI q) = rI (mB (decide (∀ k, k ∈ os → k ∈ ks))) (cPut b σ H) := by
  obtain ⟨v, z1, z2⟩ := c_keys h
  obtain ⟨u, u1, u2⟩ := c_keys h'
  have key : (u &&& (v ^^^ (-1))) = 0 ↔ ∀ k, k ∈ os → k ∈ ks := by
    rw [zero_bits]
    refine ⟨fun g k hk => ?_, fun g k hk => ?_⟩
    · have hk31 := h'.2.2.2 k hk
      have := g k (by omega)
      rw [bit_and, bit_xor, u2 k (by omega), z2 k (by omega), bit_m1' k (by omega)] at this
      simp [hk] at this
      exact this
    · rw [bit_and, bit_xor, u2 k hk, z2 k hk, bit_m1' k hk]
      by_cases e : k ∈ os
      · simp [g k e]
      · simp [e]
  unfold f_I_holdsKeys
  rw [c_ob_1, u1, bI_rI, c_ob_1, z1, bI_rI]
  by_cases e : ∀ k, k ∈ os → k ∈ ks
  · rw [if_pos (key.mpr e), decide_eq_true e, rZ_1]; rfl
  · rw [if_neg (fun q => e (key.mp q)), decide_eq_false e, rZ_0]; rfl
theorem c_share (h : kyC b σ H p ks) (h' : kyC b σ H q os) : f_I_shareNoKey (cPut b σ H) (b + 1) (nI p) (nI q) = rI (mB (decide (∀ k, k ∈ os → k ∉ ks))) (cPut b σ H) := by
  obtain ⟨v, z1, z2⟩ := c_keys h
  obtain ⟨u, u1, u2⟩ := c_keys h'
  have key : (v &&& u) = 0 ↔ ∀ k, k ∈ os → k ∉ ks := by
    rw [zero_bits]
    refine ⟨fun g k hk => ?_, fun g k hk => ?_⟩
    · have hk31 := h'.2.2.2 k hk
      have := g k (by omega)
      rw [bit_and, u2 k (by omega), z2 k (by omega)] at this
      simp [hk] at this
      exact this
    · rw [bit_and, u2 k hk, z2 k hk]
      by_cases e : k ∈ os
      · simp [g k e]
      · simp [e]
  unfold f_I_shareNoKey
  rw [c_ob_1, z1, bI_rI, c_ob_1, u1, bI_rI]
  by_cases e : ∀ k, k ∈ os → k ∉ ks
  · rw [if_pos (key.mpr e), decide_eq_true e, rZ_1]; rfl
  · rw [if_neg (fun q => e (key.mp q)), decide_eq_false e, rZ_0]; rfl
theorem c_matchL (h : kyC b σ H p ks) (h' : kyC b σ H q os) {K1 K2 : gH → gR} {i : Nat} (hi : i + os.length ≤ ks.length) : ∀ (l : List Nat) (n j : Nat), os.drop j = l → j ≤ os.length → l.length < n →
    f_I_matchFrom_L10 K1 K2 n (cPut b σ H) (b + 1) (nI p) (nI i) (nI q) (nI os.length) (nI j) = if kM ks (i + j) l = true then K2 (cPut b σ H) else K1 (cPut b σ H)
  | _, 0, _, _, _, h => absurd h (Nat.not_lt_zero _)
  | [], n + 1, j, hd, hj, _ => by
    have h31 := h'.2.2.1
    unfold f_I_matchFrom_L10
    rw [if_pos (nI_le (dr_nil hd) (by omega))]; rfl
  | a :: l, n + 1, j, hd, hj, hn => by
    have h31 := h'.2.2.1
    have h31' := h.2.2.1
    obtain ⟨e1, e2, e3⟩ := dr_cons hd
    have ha := h'.k31 e1
    have g1 := List.getElem?_eq_getElem (show i + j < ks.length by omega)
    generalize ks[i + j] = c at g1
    have hc := h.k31 g1
    unfold f_I_matchFrom_L10
    rw [if_neg (nI_ge e3 (by omega)), c_ob_1, nI_add, h.1 (i + j) c g1, bI_rI, c_ob_1, h'.1 j a e1, bI_rI]
    unfold kM
    rw [g1]
    by_cases e : c = a
    · rw [if_pos (show nI c = nI a by rw [e]), if_pos (show some c = some a by rw [e]), nI_add, Nat.add_assoc]
      exact c_matchL h h' hi l n (j + 1) e2 (by omega) (by simp at hn; omega)
    · rw [if_neg (fun q => e ((nI_eq (by omega) (by omega)).mp q)), if_neg (show ¬ some c = some a from fun q => e (Option.some.inj q))]; rfl
theorem c_match (h : kyC b σ H p ks) (h' : kyC b σ H q os) {i : Nat} (hi : i + os.length ≤ ks.length) : f_I_matchFrom (cPut b σ H) (b + 1) (nI p) (nI i) (nI q) = rI (mB (kM ks i os)) (cPut b σ H) := by
  unfold f_I_matchFrom
  rw [c_ob_1, h'.2.1, bI_rI, c_matchL h h' hi _ zFu 0 (List.drop_zero ..) (Nat.zero_le _) (by have := h'.2.2.1; unfold zFu; omega), Nat.add_zero]
  cases kM ks i os
  · exact rZ_0
  · exact rZ_1
def kSm (ks os : List Nat) : Bool := if ks.length = os.length then kM ks 0 os else false
theorem c_same (h : kyC b σ H p ks) (h' : kyC b σ H q os) : f_I_matchWholly (cPut b σ H) (b + 1) (nI p) (nI q) = rI (mB (kSm ks os)) (cPut b σ H) := by
  have h31 := h.2.2.1
  have h31' := h'.2.2.1
  unfold f_I_matchWholly kSm
  rw [c_ob_1, h.2.1, bI_rI, c_ob_1, h'.2.1, bI_rI]
  by_cases e : ks.length = os.length
  · rw [if_pos (by rw [e]), if_pos e, c_ob_1, c_match h h' (i := 0) (by omega), bI_rI]
    cases kM ks 0 os
    · rw [if_pos (by rfl)]; exact rZ_0
    · rw [if_neg (by decide)]; exact rZ_1
  · rw [if_neg (fun q => e ((nI_eq (by omega) (by omega)).mp q)), if_neg e]; exact rZ_0
theorem dif_lt {a c j : Nat} (ha : a < 2 ^ 20) (hc : c < 2 ^ 20) (hj : j < 2 ^ 20) : (nI a - nI c < nI j) ↔ a < c + j := by
  rw [nI_dif, Int32.lt_iff_toInt_lt, Int32.toInt_ofInt_of_le (by omega) (by omega), nI_toInt (by omega)]
  omega
theorem c_placeL (h : kyC b σ H p ks) (h' : kyC b σ H q os) {K1 : gH → Int32 → gR} {K2 : gH → gR} : ∀ (d n j : Nat), j + d = ks.length + 1 → d < n →
    f_I_placeOf_L15 K1 K2 n (cPut b σ H) (b + 1) (nI p) (nI q) (nI ks.length - nI os.length) (nI j) = match kF ks os d j with
      | some i => K1 (cPut b σ H) (nI i)
      | none => K2 (cPut b σ H)
  | _, 0, _, _, h => absurd h (Nat.not_lt_zero _)
  | 0, n + 1, j, hj, _ => by
    have h31 := h.2.2.1
    have h31' := h'.2.2.1
    unfold f_I_placeOf_L15
    rw [if_pos ((dif_lt (by omega) (by omega) (by omega)).mpr (by omega))]; rfl
  | d + 1, n + 1, j, hj, hn => by
    have h31 := h.2.2.1
    have h31' := h'.2.2.1
    unfold f_I_placeOf_L15 kF
    by_cases e : ks.length < os.length + j
    · rw [if_pos ((dif_lt (by omega) (by omega) (by omega)).mpr e), if_pos e]
    · rw [if_neg (fun q => e ((dif_lt (by omega) (by omega) (by omega)).mp q)), if_neg e, c_ob_1, c_match h h' (by omega), bI_rI, nI_add, c_placeL h h' d n (j + 1) (by omega) (by omega)]
      cases kM ks j os <;> rfl
theorem c_place (h : kyC b σ H p ks) (h' : kyC b σ H q os) : f_I_placeOf (cPut b σ H) (b + 1) (nI p) (nI q) = rI (sNo (kF ks os (ks.length + 1) 0)) (cPut b σ H) := by
  unfold f_I_placeOf
  rw [c_ob_1, h.2.1, bI_rI, c_ob_1, h'.2.1, bI_rI, c_placeL h h' (ks.length + 1) zFu 0 (by omega) (by have := h.2.2.1; unfold zFu; omega)]
  cases kF ks os (ks.length + 1) 0 <;> rfl
theorem c_sortL (h : kyC b σ H p ks) {K1 K2 : gH → gR} : ∀ (l : List Nat) (n j a : Nat), ks[j]? = some a → ks.drop (j + 1) = l → l.length < n →
    f_I_isSorted_L8 K1 K2 n (cPut b σ H) (b + 1) (nI p) (nI ks.length) (nI (j + 1)) = if kSo a l = true then K2 (cPut b σ H) else K1 (cPut b σ H)
  | _, 0, _, _, _, _, h => absurd h (Nat.not_lt_zero _)
  | [], n + 1, j, a, hj, hd, _ => by
    have h31 := h.2.2.1
    have := (List.getElem?_eq_some_iff.mp hj).1
    unfold f_I_isSorted_L8
    rw [if_pos (nI_le (dr_nil hd) (by omega))]; rfl
  | c :: l, n + 1, j, a, hj, hd, hn => by
    have h31 := h.2.2.1
    obtain ⟨e1, e2, e3⟩ := dr_cons hd
    have ha := h.k31 hj
    have hc := h.k31 e1
    unfold f_I_isSorted_L8
    rw [if_neg (nI_ge e3 (by omega)), c_ob_1, h.1 (j + 1) c e1, bI_rI, c_ob_1, show nI (j + 1) - nI 1 = nI j from nI_sub (by omega), h.1 j a hj, bI_rI]
    unfold kSo
    by_cases e : a ≤ c
    · rw [if_pos (nI_le e (by omega)), if_pos e, nI_add]
      exact c_sortL h l n (j + 1) c e1 e2 (by simp at hn; omega)
    · rw [if_neg (nI_ge (by omega) (by omega)), if_neg e]; rfl
def kSd (ks : List Nat) : Bool := match ks with
  | [] => true
  | a :: l => kSo a l
theorem c_sorted (h : kyC b σ H p ks) : f_I_isSorted (cPut b σ H) (b + 1) (nI p) = rI (mB (kSd ks)) (cPut b σ H) := by
  unfold f_I_isSorted
  rw [c_ob_1, h.2.1, bI_rI]
  cases hk : ks with
  | nil =>
    show f_I_isSorted_L8 _ _ (5999 + 1) _ _ _ (nI 0) (nI 1) = _
    unfold f_I_isSorted_L8
    rw [if_pos (by decide)]; exact rZ_1
  | cons a l =>
    rw [← hk, show nI 1 = nI (0 + 1) from rfl, c_sortL h l zFu 0 a (by rw [hk]; rfl) (by rw [hk]; rfl) (by have := h.2.2.1; rw [hk] at this; simp at this; unfold zFu; omega)]
    rw [show kSd ks = kSo a l by rw [hk]; rfl]
    cases kSo a l
    · exact rZ_0
    · exact rZ_1
theorem c_exL (h : kyC b σ H p ks) {K : gH → Int32 → gR} {z : Int32} : ∀ (l : List Nat) (n j : Nat) (x : Option Nat), ks.drop j = l → j ≤ ks.length → l.length < n → (∀ y, x = some y → y < 31) →
    f_I_extremeKey_L12 K n (cPut b σ H) (b + 1) (nI p) z (nI ks.length) (sNo x) (nI j) = K (cPut b σ H) (sNo (kEx (!decide (z = 0)) x l))
  | _, 0, _, _, _, _, h, _ => absurd h (Nat.not_lt_zero _)
  | [], n + 1, j, x, hd, hj, _, _ => by
    have h31 := h.2.2.1
    unfold f_I_extremeKey_L12
    rw [if_pos (nI_le (dr_nil hd) (by omega))]
    cases x <;> rfl
  | a :: l, n + 1, j, x, hd, hj, hn, hx => by
    have h31 := h.2.2.1
    obtain ⟨e1, e2, e3⟩ := dr_cons hd
    have ha := h.k31 e1
    have go : ∀ x', (∀ y, x' = some y → y < 31) → f_I_extremeKey_L12 K n (cPut b σ H) (b + 1) (nI p) z (nI ks.length) (sNo x') (nI j + nI 1) = K (cPut b σ H) (sNo (kEx (!decide (z = 0)) x' l)) := fun x' hx' => by
      rw [nI_add]
      exact c_exL h l n (j + 1) x' e2 (by omega) (by simp at hn; omega) hx'
    have ga := go (some a) (fun y q => by cases q; exact ha)
    unfold f_I_extremeKey_L12
    rw [if_neg (nI_ge e3 (by omega)), c_ob_1, h.1 j a e1, bI_rI]
    cases x with
    | none =>
      rw [if_pos (show sNo none = -1 from rfl)]
      exact ga
    | some y =>
      have hy := hx y rfl
      have gy := go (some y) hx
      rw [if_neg (show ¬ sNo (some y) = -1 from nI_ne1 (by omega))]
      unfold kEx
      by_cases hz : z = 0
      · rw [if_pos hz]
        by_cases e : y < a
        · rw [if_neg (show ¬ nI a ≤ sNo (some y) from nI_ge e (by omega)), if_pos (by simp [hz, e])]
          exact ga
        · rw [if_pos (show nI a ≤ sNo (some y) from nI_le (by omega) (by omega)), if_neg (by simp [hz]; omega)]
          exact gy
      · rw [if_neg hz]
        by_cases e : a < y
        · rw [if_neg (show ¬ sNo (some y) ≤ nI a from nI_ge e (by omega)), if_pos (by simp [hz, e])]
          exact ga
        · rw [if_pos (show sNo (some y) ≤ nI a from nI_le (by omega) (by omega)), if_neg (by simp [hz]; omega)]
          exact gy
theorem c_extreme (h : kyC b σ H p ks) {z : Int32} : f_I_extremeKey (cPut b σ H) (b + 1) (nI p) z = rI (sNo (kEx (!decide (z = 0)) none ks)) (cPut b σ H) := by
  unfold f_I_extremeKey
  rw [c_ob_1, h.2.1, bI_rI, show (-1 : Int32) = sNo none from rfl, c_exL h _ zFu 0 none (List.drop_zero ..) (Nat.zero_le _) (by have := h.2.2.1; unfold zFu; omega) (fun y q => by cases q)]
theorem c_hashL (h : kyC b σ H p ks) {K : gH → Int32 → gR} : ∀ (l : List Nat) (n j : Nat) (x : Int32), ks.drop j = l → j ≤ ks.length → l.length < n →
    f_I_hashOf_L11 K n (cPut b σ H) (b + 1) (nI p) (nI ks.length) x (nI j) = K (cPut b σ H) (kH x l)
  | _, 0, _, _, _, _, h => absurd h (Nat.not_lt_zero _)
  | [], n + 1, j, x, hd, hj, _ => by
    have h31 := h.2.2.1
    unfold f_I_hashOf_L11
    rw [if_pos (nI_le (dr_nil hd) (by omega))]; rfl
  | a :: l, n + 1, j, x, hd, hj, hn => by
    have h31 := h.2.2.1
    obtain ⟨e1, e2, e3⟩ := dr_cons hd
    unfold f_I_hashOf_L11
    rw [if_neg (nI_ge e3 (by omega)), c_ob_1, h.1 j a e1, bI_rI, nI_add, c_hashL h l n (j + 1) _ e2 (by omega) (by simp at hn; omega)]; rfl
theorem c_hash (h : kyC b σ H p ks) : f_I_hashOf (cPut b σ H) (b + 1) (nI p) = rI (kH (nI 1) ks) (cPut b σ H) := by
  unfold f_I_hashOf
  rw [c_ob_1, h.2.1, bI_rI, c_hashL h _ zFu 0 _ (List.drop_zero ..) (Nat.zero_le _) (by have := h.2.2.1; unfold zFu; omega)]
end KC
