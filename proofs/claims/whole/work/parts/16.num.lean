-- numbers: shifts, masks, differences on small naturals
theorem nI_shl5 (a : Nat) : nI a <<< (nI 5 &&& 31) = nI (32 * a) := by
  apply Int32.toBitVec_inj.mp
  rw [Int32.toBitVec_shiftLeft]
  show (BitVec.ofNat 32 a) <<< ((nI 5 &&& 31).toBitVec.smod 32) = BitVec.ofNat 32 (32 * a)
  rw [show (nI 5 &&& 31).toBitVec.smod 32 = 5#32 by decide]
  apply BitVec.eq_of_toNat_eq
  rw [BitVec.shiftLeft_eq', BitVec.toNat_shiftLeft, BitVec.toNat_ofNat, BitVec.toNat_ofNat, Nat.shiftLeft_eq]
  show a % 2 ^ 32 * 2 ^ 5 % 2 ^ 32 = 32 * a % 2 ^ 32
  omega
theorem nI_shr5 {a : Nat} (h : a < 2 ^ 31) : nI a >>> (nI 5 &&& 31) = nI (a / 32) := by
  apply Int32.toBitVec_inj.mp
  rw [Int32.toBitVec_shiftRight]
  show BitVec.sshiftRight' (BitVec.ofNat 32 a) ((nI 5 &&& 31).toBitVec.smod 32) = BitVec.ofNat 32 (a / 32)
  rw [show (nI 5 &&& 31).toBitVec.smod 32 = 5#32 by decide]
  show (BitVec.ofNat 32 a).sshiftRight 5 = _
  have hm : (BitVec.ofNat 32 a).msb = false := by
    rw [BitVec.msb_eq_decide, BitVec.toNat_ofNat, decide_eq_false_iff_not]
    omega
  rw [BitVec.sshiftRight_eq_of_msb_false hm]
  apply BitVec.eq_of_toNat_eq
  rw [BitVec.toNat_ushiftRight, BitVec.toNat_ofNat, BitVec.toNat_ofNat, Nat.shiftRight_eq_div_pow]
  show a % 2 ^ 32 / 2 ^ 5 = a / 32 % 2 ^ 32
  omega
theorem nI_and31 (a : Nat) : nI a &&& nI 31 = nI (a % 32) := by
  show Int32.ofNat a &&& Int32.ofNat 31 = _
  apply Int32.toBitVec_inj.mp
  show BitVec.ofNat 32 a &&& BitVec.ofNat 32 31 = BitVec.ofNat 32 (a % 32)
  apply BitVec.eq_of_toNat_eq
  rw [BitVec.toNat_and, BitVec.toNat_ofNat, BitVec.toNat_ofNat, BitVec.toNat_ofNat]
  show a % 2 ^ 32 &&& (2 ^ 5 - 1) % 2 ^ 32 = a % 32 % 2 ^ 32
  rw [show (2 ^ 5 - 1) % 2 ^ 32 = 2 ^ 5 - 1 by decide, Nat.and_two_pow_sub_one_eq_mod]
  omega
theorem nI_or5 (a : Nat) {k : Nat} (hk : k < 32) : nI (32 * a) ||| nI k = nI (32 * a + k) := by
  apply Int32.toBitVec_inj.mp
  show BitVec.ofNat 32 (32 * a) ||| BitVec.ofNat 32 k = BitVec.ofNat 32 (32 * a + k)
  apply BitVec.eq_of_toNat_eq
  rw [BitVec.toNat_or, BitVec.toNat_ofNat, BitVec.toNat_ofNat, BitVec.toNat_ofNat]
  rw [show 32 * a % 2 ^ 32 = 2 ^ 5 * (a % 2 ^ 27) by omega, show k % 2 ^ 32 = k by omega, ← Nat.two_pow_add_eq_or_of_lt (show k < 2 ^ 5 from hk)]
  omega
theorem nI_sub {a b : Nat} (h : b ≤ a) : nI a - nI b = nI (a - b) := by
  have e : nI a = nI (a - b) + nI b := by rw [nI_add, Nat.sub_add_cancel h]
  rw [e, Int32.add_sub_cancel]
theorem nI_m1 (a : Nat) : nI (a + 1) + (-1) = nI a := by
  rw [← Int32.sub_eq_add_neg]
  exact nI_pred a
theorem nI_neg {z : Int32} (h : z < 0) {a : Nat} (ha : a < 2 ^ 31) : z ≠ nI a := fun e => nI_pos ha (by rw [← e]; exact h)
theorem nI_1m : (-1 : Int32) < 0 := by decide
theorem nI_ne1 {a : Nat} (ha : a < 2 ^ 31) : nI a ≠ -1 := fun e => nI_pos ha (by rw [e]; decide)
theorem nI_mul (a b : Nat) : nI a * nI b = nI (a * b) := (Int32.ofNat_mul a b).symm
theorem nI_divI {a b : Nat} (ha : a < 2 ^ 31) (hb : b < 2 ^ 31) : nI a / nI b = nI (a / b) := by
  apply Int32.toInt_inj.mp
  rw [Int32.toInt_div, nI_toInt ha, nI_toInt hb, nI_toInt (Nat.lt_of_le_of_lt (Nat.div_le_self _ _) ha)]
  rw [show (a : Int).tdiv b = ((a / b : Nat) : Int) from rfl]
  have h1 : a / b ≤ a := Nat.div_le_self _ _
  generalize a / b = q at h1
  rw [Int.bmod_eq_of_le] <;> omega
theorem nI_rem {a b : Nat} (ha : a < 2 ^ 31) (hb : b < 2 ^ 31) : nI a - nI a / nI b * nI b = nI (a % b) := by
  rw [nI_divI ha hb, nI_mul, nI_sub (Nat.div_mul_le_self a b)]
  congr 1
  have := Nat.div_add_mod a b
  rw [Nat.mul_comm] at this
  omega
theorem gRem_of {a b : Nat} {k : Int32 → gR} (ha : a < 2 ^ 31) (hb : b < 2 ^ 31) (h0 : 0 < b) : gRem (nI a) (nI b) k = k (nI (a % b)) := by
  unfold gRem
  rw [if_neg (nI_ne0 h0 hb), nI_rem ha hb]
theorem rd_nI {n i : Nat} {f : Nat → Int32} (h : i < n) (hn : n < 2 ^ 31) : rd n f (nI i) = f i := by
  unfold rd
  rw [if_neg (nI_pos (by omega)), if_neg (nI_ge h hn), nI_clamp (by omega)]
theorem rd_m1 {n : Nat} {f : Nat → Int32} : rd n f (-1) = -1 := if_pos (by decide)
theorem wr_nI {σ : cS} {k n i : Nat} {x : Int32} (h : i < n) (hn : n < 2 ^ 31) : wr σ k n (nI i) x = cSet σ k i x := by
  unfold wr
  rw [if_neg (nI_pos (by omega)), if_neg (nI_ge h hn), nI_clamp (by omega)]
theorem rd_out {n : Nat} {f : Nat → Int32} {x : Int32} (h : ¬ ∃ i, i < n ∧ x = nI i) (hn : n < 2 ^ 31) : rd n f x = -1 := by
  unfold rd
  by_cases h1 : x < 0
  · rw [if_pos h1]
  · rw [if_neg h1]
    obtain ⟨j, hj, rfl⟩ := nI_of h1
    rcases Nat.lt_or_ge j n with q | q
    · exact absurd ⟨j, q, rfl⟩ h
    · rw [if_pos (nI_le q hj)]
