-- texts: a StringBuilder, how long it is
section Dig
/-- how many digits -/
def dg (k : Nat) : Nat := if k < 10 then 1 else if k < 100 then 2 else 3
theorem dg_le (k : Nat) : dg k ≤ 3 ∧ 1 ≤ dg k := by
  unfold dg
  split
  · omega
  · split <;> omega
theorem neg_le {k c : Nat} (hk : k < 1000) (hc : c < 2000) : (-(nI k) ≤ -(nI c)) ↔ c ≤ k := by
  rw [neg_nI, neg_nI, Int32.le_iff_toInt_le, Int32.toInt_ofInt_of_le (by omega) (by omega), Int32.toInt_ofInt_of_le (by omega) (by omega)]
  omega
theorem m10 : (-10 : Int32) = -(nI 10) := by decide
theorem m100 : nI 10 * (-10) = -(nI 100) := by decide
theorem m1000 : nI 10 * -(nI 100) = -(nI 1000) := by decide
theorem s_size10 {G : gH} {k : Nat} (hk : k < 1000) : f_IN_stringSize G (nI k) = rI (nI (dg k)) G := by
  unfold f_IN_stringSize
  rw [if_neg (nI_pos (by omega))]
  show f_IN_stringSize_L16 _ _ (5996 + 1 + 1 + 1 + 1) G (-(nI k)) (nI 0) (-10) (nI 1) = _
  unfold f_IN_stringSize_L16
  rw [if_neg (by decide), m10]
  unfold dg
  by_cases h1 : k < 10
  · rw [if_neg (fun q => by have := (neg_le hk (by omega)).mp q; omega), if_pos h1]; rfl
  · rw [if_pos ((neg_le hk (by omega)).mpr (by omega)), if_neg h1, show nI 10 * -(nI 10) = -(nI 100) by decide]
    unfold f_IN_stringSize_L16
    rw [if_neg (by decide)]
    by_cases h2 : k < 100
    · rw [if_neg (fun q => by have := (neg_le hk (by omega)).mp q; omega), if_pos h2]; rfl
    · rw [if_pos ((neg_le hk (by omega)).mpr (by omega)), if_neg h2, m1000]
      unfold f_IN_stringSize_L16
      rw [if_neg (by decide), if_neg (fun q => by have := (neg_le hk (by omega)).mp q; omega)]; rfl
theorem x_digits {G : gH} {k : Nat} (hk : k < 1000) : f_X_countDigits G (nI k) = rI (nI (dg k)) G := by
  unfold f_X_countDigits
  rw [gDiv_of (by omega) (by omega) (by omega)]
  show f_X_countDigits_L9 _ (5996 + 1 + 1 + 1 + 1) G (nI 1) (nI (k / 10)) (nI 1) = _
  unfold f_X_countDigits_L9
  rw [if_neg (by decide)]
  unfold dg
  by_cases h1 : k < 10
  · rw [show k / 10 = 0 by omega, if_pos (by decide), if_pos h1]
  · rw [if_neg (show ¬ nI (k / 10) ≤ 0 from nI_ge (a := 0) (by omega) (by omega)), if_neg h1, gDiv_of (by omega) (by omega) (by omega), nI_add]
    unfold f_X_countDigits_L9
    rw [if_neg (by decide)]
    by_cases h2 : k < 100
    · rw [show k / 10 / 10 = 0 by omega, if_pos (by decide), if_pos h2]
    · rw [if_neg (show ¬ nI (k / 10 / 10) ≤ 0 from nI_ge (a := 0) (by omega) (by omega)), if_neg h2, gDiv_of (by omega) (by omega) (by omega), nI_add]
      unfold f_X_countDigits_L9
      rw [if_neg (by decide), show k / 10 / 10 / 10 = 0 by omega, if_pos (by decide)]
theorem fits_b (v : Int32) : fits .byte (.int (vp_nar .byte v)) = true := by
  rw [vp_nar_byte]
  have h1 := Int8.le_toInt v.toInt8
  have h2 := Int8.toInt_lt v.toInt8
  have e : v.toInt8.toInt32.toInt = v.toInt8.toInt := by simp
  have e1 : (-128 : Int32) ≤ v.toInt8.toInt32 := by
    rw [Int32.le_iff_toInt_le, e, show (-128 : Int32).toInt = -128 by decide]; omega
  have e2 : v.toInt8.toInt32 ≤ (127 : Int32) := by
    rw [Int32.le_iff_toInt_le, e, show (127 : Int32).toInt = 127 by decide]; omega
  show (decide (-128 ≤ v.toInt8.toInt32) && decide (v.toInt8.toInt32 ≤ 127)) = true
  simp [e1, e2]
end Dig
section Arr
variable {G : gH}
theorem sh0r (x : Int32) : x >>> (0 &&& 31) = x := by simp
theorem sh0l (x : Int32) : x <<< (0 &&& 31) = x := by simp
theorem gLenK_of {a ka c n : Nat} {f : Nat → Int32} {k : Int32 → gR} (h : G.2.2 a = some (zI c n f)) (hc : c % 1000 = ka) : gLen G a ka k = k (nI n) := by
  unfold gLen gAr
  rw [h]
  simp only [zI]
  rw [if_pos hc]
theorem gLdK_of {a ka c n i : Nat} {f : Nat → Int32} {k : Int32 → gR} (h : G.2.2 a = some (zI c n f)) (hc : c % 1000 = ka) (hi : i < n) (hn : n < 2 ^ 31) : gLd G a ka (nI i) k = k (f i) := by
  unfold gLd gAr
  rw [h]
  simp only [zI]
  rw [if_pos hc, if_pos (gIn_nI hi hn), nI_clamp (by omega)]
theorem gNewB_of {n : Nat} {k : Nat → gH → gR} (hn : n ≤ 60000000) : gNewA G 101 (nI n) k = k G.2.1 (gNew G n (zI 101 n (fun _ => 0))) := gNewA_of hn
theorem gBnd_nI {sp dp n n0 n1 : Nat} (h0 : sp + n ≤ n0) (h1 : dp + n ≤ n1) (l0 : n0 < 2 ^ 30) (l1 : n1 < 2 ^ 30) : gBnd (nI sp) (nI dp) (nI n) n0 n1 = true := by
  unfold gBnd
  rw [decide_eq_true (nI_pos (by omega)), decide_eq_true (nI_pos (by omega)), decide_eq_true (nI_pos (by omega)), nI_clamp (by omega), nI_clamp (by omega), nI_clamp (by omega), decide_eq_true h0, decide_eq_true h1]
  rfl
theorem gCpB_of {a0 a1 c n0 n1 sp dp n : Nat} {f g : Nat → Int32} {k : gH → gR} (h0 : G.2.2 a0 = some (zI c n0 f)) (hc : c % 1000 = 101) (h1 : G.2.2 a1 = some (zI 101 n1 g)) (b0 : sp + n ≤ n0) (b1 : dp + n ≤ n1) (l0 : n0 < 2 ^ 30) (l1 : n1 < 2 ^ 30) (hf : ∀ i, i < n → fits .byte (.int (f (sp + i))) = true) :
    gCpB G a0 (nI sp) a1 (nI dp) (nI n) k = k (gUp G a1 (zI 101 n1 (va_cpy f g sp dp n))) := by
  unfold gCpB gAr gArW
  rw [h0, h1]
  simp only [zI]
  rw [if_pos hc, if_pos trivial, nI_clamp (by omega), nI_clamp (by omega), nI_clamp (by omega), if_pos ⟨gBnd_nI b0 b1 l0 l1, List.all_eq_true.mpr (fun i hi => hf i (List.mem_range.mp hi))⟩]
theorem cpy_fits {f g : Nat → Int32} {sp dp n n1 : Nat} (hf : ∀ i, i < n → fits .byte (.int (f (sp + i))) = true) (hg : ∀ i, i < n1 → fits .byte (.int (g i)) = true) : ∀ i, i < n1 → fits .byte (.int (va_cpy f g sp dp n i)) = true := by
  intro i hi
  unfold va_cpy
  split
  · rename_i h
    have := hf (i - dp) (by omega)
    first | exact this | (rw [show sp + (i - dp) = i - dp + sp by omega] at this; exact this)
  · exact hg i hi
end Arr
