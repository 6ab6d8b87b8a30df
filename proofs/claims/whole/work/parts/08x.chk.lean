/-! a code word, looked up and compared byte by byte -/
def lEqB : List UInt8 → List UInt8 → Bool
  | [], [] => true
  | a :: s, b :: t => Nat.beq a.toNat b.toNat && lEqB s t
  | _, _ => false
theorem lEqB_ok : ∀ (s t : List UInt8), lEqB s t = true → s = t
  | [], [], _ => rfl
  | a :: s, b :: t, h => by
    simp only [lEqB, Bool.and_eq_true] at h
    have h1 : a = b := UInt8.toNat_inj.mp (Nat.eq_of_beq_eq_true h.1)
    rw [h1, lEqB_ok s t h.2]
  | [], _ :: _, h => by cases h
  | _ :: _, [], h => by cases h
def bEqB (a b : ByteArray) : Bool := lEqB a.data.toList b.data.toList
theorem bEqB_ok {a b : ByteArray} (h : bEqB a b = true) : a = b := by
  cases a with
  | mk d =>
    cases b with
    | mk e =>
      cases d with
      | mk s =>
        cases e with
        | mk t =>
          have h1 : s = t := lEqB_ok s t h
          rw [h1]
def cChk (o : Option Cond) (n : MethodName) (b : ByteArray) (m : Nat) (r : Option FieldType) : Bool := match o with
  | some (.code n' b' m' r') => decide (n' = n) && bEqB b' b && decide (m' = m) && decide (r' = r)
  | _ => false
theorem cChk_ok {o : Option Cond} {n : MethodName} {b : ByteArray} {m : Nat} {r : Option FieldType} (h : cChk o n b m r = true) : o = some (.code n b m r) := by
  unfold cChk at h
  split at h
  · simp only [Bool.and_eq_true, decide_eq_true_eq] at h
    obtain ⟨⟨⟨h1, h2⟩, h3⟩, h4⟩ := h
    rw [h1, bEqB_ok h2, h3, h4]
  · cases h
def cChkW (o : Option Cond) (n : MethodName) (b : ByteArray) (m : Nat) (r : Option FieldType) (hh : List (Nat × Nat × Nat × Nat)) : Bool := match o with
  | some (.codeWith n' b' m' r' h') => decide (n' = n) && bEqB b' b && decide (m' = m) && decide (r' = r) && decide (h' = hh)
  | _ => false
theorem cChkW_ok {o : Option Cond} {n : MethodName} {b : ByteArray} {m : Nat} {r : Option FieldType} {hh : List (Nat × Nat × Nat × Nat)} (h : cChkW o n b m r hh = true) : o = some (.codeWith n b m r hh) := by
  unfold cChkW at h
  split at h
  · simp only [Bool.and_eq_true, decide_eq_true_eq] at h
    obtain ⟨⟨⟨⟨h1, h2⟩, h3⟩, h4⟩, h5⟩ := h
    rw [h1, bEqB_ok h2, h3, h4, h5]
  · cases h
/-! which words stay, constructor by constructor -/
theorem g_instanceMethod {x : MethodName} : zGood (.instanceMethod x) = true := rfl
theorem g_methodLink {a : String} {b : Nat} {x : MethodName} : zGood (.methodLink a b x) = true := rfl
theorem g_selects {a : String} {x y : MethodName} : zGood (.selects a x y) = true := rfl
theorem g_static {x : MethodName} : zGood (.static x) = true := rfl
theorem g_code {x : MethodName} {b : ByteArray} {m : Nat} {r : Option FieldType} : zGood (.code x b m r) = true := rfl
theorem g_codeWith {x : MethodName} {b : ByteArray} {m : Nat} {r : Option FieldType} {hh : List (Nat × Nat × Nat × Nat)} : zGood (.codeWith x b m r hh) = true := rfl
theorem g_initialized {a : String} : zGood (.initialized a) = true := rfl
theorem g_classLink {a : String} {b : Nat} {c : String} : zGood (.classLink a b c) = true := rfl
